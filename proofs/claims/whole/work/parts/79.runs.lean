/-! runs over the tape, by the class; the reference's descent: what is claimed of a rule -/
def runN (b : Nat → Nat) : Nat → Nat → TS → Option TS
  | 0, _, s => some s
  | k + 1, p, s => (takesN s (b p)).bind (runN b k (p + 1))
theorem run_s (b : Nat → Nat) (k p : Nat) (s : TS) : runN b (k + 1) p s = (takesN s (b p)).bind (runN b k (p + 1)) := rfl
theorem run_app (b : Nat → Nat) : ∀ (k l p : Nat) (s s1 : TS), runN b k p s = some s1 → runN b (k + l) p s = runN b l (p + k) s1
  | 0, l, p, s, s1, h => by
    have : s = s1 := Option.some.inj h
    rw [this, Nat.zero_add, Nat.add_zero]
  | k + 1, l, p, s, s1, h => by
    rw [run_s] at h
    rw [show k + 1 + l = (k + l) + 1 by omega, run_s]
    cases q : takesN s (b p) with
    | none => rw [q] at h; cases h
    | some s2 =>
      rw [q] at h
      rw [bind_s] at h ⊢
      rw [run_app b k l (p + 1) s2 s1 h, show p + 1 + k = p + (k + 1) by omega]
theorem run_1 {b : Nat → Nat} {p : Nat} {s s1 : TS} (h : takesN s (b p) = some s1) : runN b 1 p s = some s1 := by
  rw [run_s, h]; rfl
theorem run_to {b : Nat → Nat} {p q r : Nat} {s s1 s2 : TS} (h1 : runN b (q - p) p s = some s1) (h2 : runN b (r - q) q s1 = some s2) (hpq : p ≤ q) (hqr : q ≤ r) : runN b (r - p) p s = some s2 := by
  have := run_app b (q - p) (r - q) p s s1 h1
  rw [show q - p + (r - q) = r - p by omega, show p + (q - p) = q by omega] at this
  rw [this]; exact h2
def tpC (b : Nat → Nat) (Lb : Nat) (σ : St) : Prop := σ.1 3503 = nI Lb ∧ Lb ≤ 120 ∧ ∀ i, i < Lb → σ.2.1 36 i = nI (b i) ∧ b i < 256
theorem tpC_P {b : Nat → Nat} {Lb : Nat} {σ σ' : St} (h : frP σ σ') (ht : tpC b Lb σ) : tpC b Lb σ' := by
  unfold tpC at *
  rw [h.1 3503 (by omega), h.2.1 36 (by decide) (by decide)]; exact ht
theorem read_run {b : Nat → Nat} {Lb : Nat} : ∀ (k p : Nat) (s s' : TS) (σ : St), tpC b Lb σ → encT s σ → s.1.length + s.2.1.length ≤ p → p + k ≤ Lb → runN b k p s = some s' → ∃ σ', frP σ σ' ∧ encT s' σ' ∧ s'.1.length + s'.2.1.length ≤ p + k ∧ ∀ fuel, f_Tape_read_32 (fuel + k) σ (nI p) = f_Tape_read_32 fuel σ' (nI (p + k))
  | 0, p, s, s', σ, ht, he, hl, hp, h => by
    have : s = s' := Option.some.inj h
    subst this
    exact ⟨σ, frP_rf σ, he, hl, fun fuel => rfl⟩
  | k + 1, p, s, s', σ, ht, he, hl, hp, h => by
    rw [run_s] at h
    have hpb := ht.2.1
    obtain ⟨bp1, bp2⟩ := ht.2.2 p (by omega)
    cases q : takesN s (b p) with
    | none => rw [q] at h; cases h
    | some s2 =>
      rw [q, bind_s] at h
      obtain ⟨σ1, a1, a2, a3, a4⟩ := (takes_C bp2 he hl (by omega)).2 s2 q
      obtain ⟨σ2, c1, c2, c3, c4⟩ := read_run (b := b) (Lb := Lb) k (p + 1) s2 s' σ1 (tpC_P a2 ht) a3 a4 (by omega) h
      refine ⟨σ2, frP_tr a2 c1, c2, by omega, fun fuel => ?_⟩
      rw [show fuel + (k + 1) = (fuel + k) + 1 by omega]
      conv => lhs; unfold f_Tape_read_32
      rw [ht.1, if_neg (nI_ge (by omega) (by omega)), inb_nI (show p < 120 by omega) (by decide), cond_true, nIt (by omega), bp1, a1, bd2_s, if_neg i10, nI_1, c4 fuel, show p + 1 + k = p + (k + 1) by omega]
theorem read_no {b : Nat → Nat} {Lb p : Nat} {s : TS} {σ : St} (ht : tpC b Lb σ) (he : encT s σ) (hl : s.1.length + s.2.1.length ≤ p) (hp : p < Lb) (h : takesN s (b p) = none) (fuel : Nat) : ∃ σ', f_Tape_read_32 (fuel + 1) σ (nI p) = some (nI p, σ') ∧ frP σ σ' := by
  have hpb := ht.2.1
  obtain ⟨bp1, bp2⟩ := ht.2.2 p (by omega)
  obtain ⟨σ1, a1, a2⟩ := (takes_C bp2 he hl (by omega)).1 h
  refine ⟨σ1, ?_, a2⟩
  unfold f_Tape_read_32
  rw [ht.1, if_neg (nI_ge (by omega) (by omega)), inb_nI (show p < 120 by omega) (by decide), cond_true, nIt (by omega), bp1, a1, bd2_s, if_pos rfl]
theorem read_end {b : Nat → Nat} {Lb : Nat} {s : TS} {σ : St} (ht : tpC b Lb σ) (he : encT s σ) (hl : s.1.length + s.2.1.length ≤ Lb) (h : s.2.2.2.1 = true ∨ 0 < s.2.2.1) (fuel : Nat) : f_Tape_read_32 (fuel + 1) σ (nI Lb) = some (nI Lb, σ) := by
  obtain ⟨h1, h2, h3, h4, h5, h6, h7, h8, h9⟩ := he
  have hpb := ht.2.1
  have hob : s.2.2.1 ≤ 120 := by
    rw [← h3]
    have : ∀ W : List Int32, opW W ≤ W.length := by
      intro W
      induction W with
      | nil => exact Nat.le_refl _
      | cons x W ih => rw [opW_s, List.length_cons]; split <;> omega
    have := this s.2.1
    omega
  unfold f_Tape_read_32
  rw [ht.1, if_pos (nI_le (Nat.le_refl _) (by omega)), h4, h2]
  cases q : s.2.2.2.1
  · rw [q] at h
    have ho : 0 < s.2.2.1 := h.resolve_left (by decide)
    rw [b2_f, if_pos rfl, if_neg (nI_nle ho (by omega))]
  · rw [b2_t, if_neg i10]
theorem read_ok {b : Nat → Nat} {Lb : Nat} {w W : List Int32} {sec : Bool} {dg na : Nat} {σ : St} (ht : tpC b Lb σ) (he : encT (w, W, 0, false, sec, dg, na) σ) (hl : w.length + W.length ≤ Lb) (fuel : Nat) : ∃ σ', f_Tape_read_32 (fuel + 1) σ (nI Lb) = some (-1, σ') ∧ frP σ σ' ∧ encW ((relN 1 w W).1 ++ [if sec = true then -63 else -59]) (relN 1 w W).2 σ' := by
  obtain ⟨h1, h2, h3, h4, h5, h6, h7, h8, h9⟩ := he
  simp only at h1 h2 h3 h4 h5
  have hpb := ht.2.1
  obtain ⟨σ1, a1, a2, a3⟩ := releaseT (k := 1) h1 (by omega) (by omega) (by decide) (by decide)
  have a1' : f_Tape_release σ 1 = some σ1 := a1
  have rn := rel_len 1 W w
  obtain ⟨σ2, b1, b2', b3⟩ := writeT a2 (by omega) (if sec = true then -63 else -59)
  have e10 : σ1.1 3510 = b2 sec := by rw [a3.1 3510 (by decide) (by decide)]; exact h5
  have key : f_Tape_endLine σ = some (upI (upI σ2 3510 0) 3509 1) := by
    unfold f_Tape_endLine
    rw [a1', bind_s, e10]
    cases sec
    · rw [b2_f, if_pos rfl]
      rw [if_neg (by decide)] at b1
      rw [b1, bind_s]
    · rw [b2_t, if_neg i10]
      rw [if_pos rfl] at b1
      rw [b1, bind_s]
  refine ⟨upI (upI σ2 3510 0) 3509 1, ?_, frP_tr (frT_P a3) (frP_tr (frT_P b3) (frP_tr (frP_I (by omega)) (frP_I (by omega)))), encW_I (encW_I b2' (by decide) (by decide)) (by decide) (by decide)⟩
  unfold f_Tape_read_32
  rw [ht.1, if_pos (nI_le (Nat.le_refl _) (by omega)), h4, b2_f, if_pos rfl, h2, if_pos (show nI 0 ≤ 0 by decide), key, bind_s]
/-! the reference's side -/
def lookV (c : Nat) : Int32 := (nI c).toInt8.toInt32
def lkN (b : Nat → Nat) (Lb p : Nat) : Int32 := if p < Lb then lookV (b p) else -1
def tpM (b : Nat → Nat) (Lb : Nat) (τ : St) : Prop := τ.1 21 = nI Lb ∧ Lb ≤ 120 ∧ ∀ i, i < Lb → τ.2.1 13 i = lookV (b i) ∧ b i < 256
def frR (τ τ' : St) : Prop := (∀ k, k < 22 ∨ 25 < k → τ'.1 k = τ.1 k) ∧ (∀ a, a ≠ 14 → a ≠ 15 → τ'.2.1 a = τ.2.1 a) ∧ (∀ i, i < 130 → τ'.2.1 14 i = τ.2.1 14 i ∧ τ'.2.1 15 i = τ.2.1 15 i) ∧ τ'.2.2 = τ.2.2
theorem frR_rf (τ : St) : frR τ τ := ⟨fun _ _ => rfl, fun _ _ _ => rfl, fun _ _ => ⟨rfl, rfl⟩, rfl⟩
theorem frR_tr {a b c : St} (h1 : frR a b) (h2 : frR b c) : frR a c := ⟨fun k p => (h2.1 k p).trans (h1.1 k p), fun k p q => (h2.2.1 k p q).trans (h1.2.1 k p q), fun i hi => ⟨(h2.2.2.1 i hi).1.trans (h1.2.2.1 i hi).1, (h2.2.2.1 i hi).2.trans (h1.2.2.1 i hi).2⟩, h2.2.2.2.trans h1.2.2.2⟩
theorem frR_I {τ : St} {k : Nat} {v : Int32} (hk : 22 ≤ k ∧ k ≤ 25) : frR τ (upI τ k v) := ⟨fun j p => by rw [upI_1, if_neg (by omega)], fun _ _ _ => rfl, fun _ _ => ⟨rfl, rfl⟩, rfl⟩
theorem tpM_R {b : Nat → Nat} {Lb : Nat} {τ τ' : St} (h : frR τ τ') (ht : tpM b Lb τ) : tpM b Lb τ' := by
  unfold tpM at *
  rw [h.1 21 (by omega), h.2.1 13 (by decide) (by decide)]; exact ht
theorem look_M {b : Nat → Nat} {Lb p : Nat} {τ : St} (ht : tpM b Lb τ) (h : τ.1 22 = nI p) (hp : p ≤ Lb) : f_M_look τ = some (lkN b Lb p) := by
  have hpb := ht.2.1
  unfold f_M_look lkN
  rw [ht.1, h]
  by_cases q : p < Lb
  · rw [if_neg (nI_ge q (by omega)), inb_nI (show p < 120 by omega) (by decide), cond_true, nIt (by omega), (ht.2.2 p q).1, if_pos q]
  · rw [if_pos (nI_le (by omega) (by omega)), if_neg q]
def stM (m : List Int32) (τ : St) : Prop := τ.1 25 = nI m.length ∧ ∀ i, i < m.length → τ.2.1 14 (130 + i) = (stepM (m.getD i 0)).1 ∧ τ.2.1 15 (130 + i) = (stepM (m.getD i 0)).2
theorem stM_I {m : List Int32} {τ : St} {k : Nat} {v : Int32} (h : stM m τ) (hk : k ≠ 25) : stM m (upI τ k v) := ⟨by rw [upI_1, if_neg (Ne.symm hk)]; exact h.1, h.2⟩
theorem add_M {m : List Int32} {τ : St} {a1 a2 s : Int32} (h : stM m τ) (hl : m.length < 130) (hn : vp_nar .byte (a1.toInt8.toInt32) = a1) (hs : stepM s = (a1, a2)) : ∃ τ', f_M_addStep τ a1 a2 = some τ' ∧ stM (m ++ [s]) τ' ∧ frR τ τ' ∧ τ'.1 22 = τ.1 22 ∧ τ'.1 23 = τ.1 23 ∧ τ'.1 24 = τ.1 24 := by
  have e : (130 : Int32) + nI m.length = nI (130 + m.length) := nI_add 130 _
  unfold f_M_addStep
  rw [h.1, e, inb_nI (show 130 + m.length < 260 by omega) (by decide), nIt (by omega), hn, nI_1]
  simp only [cond_true]
  refine ⟨_, rfl, ⟨by rw [upI_1, if_pos rfl, List.length_append]; rfl, fun i hi => ?_⟩, ⟨fun k p => by rw [upI_1, if_neg (by omega)]; rfl, fun a p q => by rw [upI_2, upA_2, if_neg q, upA_2, if_neg p], fun i hi => ?_, rfl⟩, by rw [upI_1, if_neg (by decide)]; rfl, by rw [upI_1, if_neg (by decide)]; rfl, by rw [upI_1, if_neg (by decide)]; rfl⟩
  · rw [List.length_append] at hi
    have hi2 : i < m.length + 1 := hi
    rw [upI_2, upA_2, if_neg (by decide), upA_2, if_pos rfl, upA_2, if_pos rfl, upA_2, if_neg (by decide), getD_snoc m s i hi2]
    unfold upd
    by_cases q : i = m.length
    · subst q
      rw [if_pos rfl, if_pos rfl, if_pos rfl, hs]; exact ⟨rfl, rfl⟩
    · rw [if_neg q, if_neg (show ¬ 130 + i = 130 + m.length by omega), if_neg (show ¬ 130 + i = 130 + m.length by omega)]; exact h.2 i (by omega)
  · rw [upI_2, upA_2, if_neg (by decide), upA_2, if_pos rfl, upA_2, if_pos rfl, upA_2, if_neg (by decide)]
    unfold upd
    rw [if_neg (by omega), if_neg (by omega)]
    exact ⟨rfl, rfl⟩
theorem add_bad {τ : St} {l : Nat} {a1 a2 : Int32} (h : τ.1 25 = nI l) (hl : l < 130) : ∃ τ', f_M_addStep τ a1 a2 = some τ' ∧ τ'.1 25 = nI (l + 1) ∧ frR τ τ' ∧ τ'.1 22 = τ.1 22 ∧ τ'.1 23 = τ.1 23 := by
  have e : (130 : Int32) + nI l = nI (130 + l) := nI_add 130 _
  unfold f_M_addStep
  rw [h, e, inb_nI (show 130 + l < 260 by omega) (by decide), nIt (by omega), nI_1]
  simp only [cond_true]
  refine ⟨_, rfl, by rw [upI_1, if_pos rfl], ⟨fun k p => by rw [upI_1, if_neg (by omega)]; rfl, fun a p q => by rw [upI_2, upA_2, if_neg q, upA_2, if_neg p], fun i hi => ?_, rfl⟩, by rw [upI_1, if_neg (by decide)]; rfl, by rw [upI_1, if_neg (by decide)]; rfl⟩
  rw [upI_2, upA_2, if_neg (by decide), upA_2, if_pos rfl, upA_2, if_pos rfl, upA_2, if_neg (by decide)]
  unfold upd
  rw [if_neg (by omega), if_neg (by omega)]
  exact ⟨rfl, rfl⟩
def dpOK (S : List Int32) (c : Nat) : Prop := ∀ j, j + c ≤ 60 → dep S j = some (j + 1)
theorem dep_c (s : Int32) (r : List Int32) (k : Nat) : dep (s :: r) k = if -6 ≤ s then (if k < 60 then dep r (k+1) else none) else if s = -33 ∨ s = -126 then (if 1 ≤ k then dep r k else none) else if isOpS s = true ∧ 2 ≤ k then dep r (k-1) else none := rfl
theorem dep_app : ∀ (S1 S2 : List Int32) (j m : Nat), dep S1 j = some m → dep (S1 ++ S2) j = dep S2 m
  | [], S2, j, m, h => by
    have : j = m := Option.some.inj h
    rw [this]; rfl
  | s :: r, S2, j, m, h => by
    show dep (s :: (r ++ S2)) j = dep S2 m
    rw [dep_c] at h ⊢
    by_cases h6 : -6 ≤ s
    · rw [if_pos h6] at h ⊢
      by_cases hj : j < 60
      · rw [if_pos hj] at h ⊢
        exact dep_app r S2 _ m h
      · rw [if_neg hj] at h; cases h
    · rw [if_neg h6] at h ⊢
      by_cases hu : s = -33 ∨ s = -126
      · rw [if_pos hu] at h ⊢
        by_cases h1 : 1 ≤ j
        · rw [if_pos h1] at h ⊢
          exact dep_app r S2 _ m h
        · rw [if_neg h1] at h; cases h
      · rw [if_neg hu] at h ⊢
        by_cases h2 : isOpS s = true ∧ 2 ≤ j
        · rw [if_pos h2] at h ⊢
          exact dep_app r S2 _ m h
        · rw [if_neg h2] at h; cases h
/-- what stands behind an operand: the step written, the ! and - ahead of it, too -/
def okE (b : Nat → Nat) (Lb q k : Nat) (s : TS) : Prop := q < Lb → ((48 ≤ b q ∧ b q ≤ 57) ∨ k ≤ rkN (nI (b q))) → takesN s (b q) = none
def aftN (k : Nat) (w W : List Int32) (o : Nat) (sec : Bool) (s : TS) : Prop := if k = 6 then ∃ dg na, s = opnN w W o sec dg na else ∃ w' W' dg na, s = (w', W', o, false, sec, dg, na) ∧ relN k w' W' = (w, W)
def OkR (b : Nat → Nat) (Lb o k p : Nat) (m w W : List Int32) (sec : Bool) (s : TS) (τ' : St) : Prop := ∃ S q s', p < q ∧ q ≤ Lb ∧ S.length ≤ q - p ∧ τ'.1 22 = nI q ∧ τ'.1 23 = -1 ∧ τ'.1 24 = nI o ∧ stM (m ++ S) τ' ∧ runN b (q - p) p s = some s' ∧ aftN k (w ++ S) W o sec s' ∧ okE b Lb q k s' ∧ dpOK S (5 * (6 - o) + 1 + (6 - k))
def BadR (b : Nat → Nat) (Lb p : Nat) (m : List Int32) (s : TS) (τ' : St) : Prop := ∃ f h l s'', p ≤ f ∧ f ≤ Lb ∧ h ≤ Lb ∧ τ'.1 22 = nI h ∧ τ'.1 23 = nI f ∧ τ'.1 25 = nI l ∧ l ≤ m.length + (f - p) + 1 ∧ runN b (f - p) p s = some s'' ∧ ((f < Lb ∧ takesN s'' (b f) = none) ∨ (f = Lb ∧ (s''.2.2.2.1 = true ∨ 0 < s''.2.2.1)))
def Claim (b : Nat → Nat) (Lb o k : Nat) (f : St → Option St) : Prop := ∀ (p : Nat) (m w W : List Int32) (sec : Bool) (dg na : Nat) (τ : St), p ≤ Lb → m.length ≤ p → tpM b Lb τ → τ.1 22 = nI p → τ.1 23 = -1 → τ.1 24 = nI o → stM m τ → (k ≤ 5 → rkN (W.headD 0) < k ∧ W.headD 0 ≠ 33 ∧ W.headD 0 ≠ 126) → ∃ τ', f τ = some τ' ∧ frR τ τ' ∧ (OkR b Lb o k p m w W sec (w, W, o, true, sec, dg, na) τ' ∨ BadR b Lb p m (w, W, o, true, sec, dg, na) τ')
theorem rel_stop {k : Nat} {w W : List Int32} (h : rkN (W.headD 0) < k) : relN k w W = (w, W) := by
  cases W with
  | nil => rfl
  | cons c W =>
    have h2 : rkN c < k := h
    unfold relN
    rw [if_neg (by omega)]
theorem pop_stop {w W : List Int32} {o : Nat} (h1 : W.headD 0 ≠ 33) (h2 : W.headD 0 ≠ 126) : popN w W o = (w, W, o) := by
  cases W with
  | nil => rfl
  | cons c W =>
    have a1 : c ≠ 33 := h1
    have a2 : c ≠ 126 := h2
    unfold popN
    rw [if_neg (by rintro (z | z); exact a1 z; exact a2 z)]
theorem relN_c (k : Nat) (w W : List Int32) (c : Int32) : relN k w (c :: W) = if k ≤ rkN c then relN k (w ++ [-c]) W else (w, c :: W) := rfl
theorem rel_rel {k k' : Nat} (h : k ≤ k') : ∀ (W w : List Int32), relN k (relN k' w W).1 (relN k' w W).2 = relN k w W
  | [], w => rfl
  | c :: W, w => by
    rw [relN_c k' w W c]
    by_cases q : k' ≤ rkN c
    · rw [if_pos q, relN_c k w W c, if_pos (show k ≤ rkN c by omega)]
      exact rel_rel h W _
    · rw [if_neg q]
/-- an operand's end is as any rule's, where nothing of a sign waits ahead of it -/
theorem aft_5 {k : Nat} {w W : List Int32} {o : Nat} {sec : Bool} {s : TS} (hk : 1 ≤ k ∧ k ≤ 6) (h : aftN k w W o sec s) (h1 : W.headD 0 ≠ 33) (h2 : W.headD 0 ≠ 126) : ∃ w' W' dg na, s = (w', W', o, false, sec, dg, na) ∧ relN k w' W' = (w, W) := by
  unfold aftN at h
  by_cases q : k = 6
  · rw [if_pos q] at h
    obtain ⟨dg, na, e⟩ := h
    refine ⟨w, W, dg, na, ?_, rel_stop (by have := rk_le (W.headD 0); omega)⟩
    rw [e]
    unfold opnN
    rw [pop_stop h1 h2]
  · rw [if_neg q] at h; exact h
