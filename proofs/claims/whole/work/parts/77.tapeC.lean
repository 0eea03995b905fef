/-! the tape read by the class, byte by byte, over lists -/
def rkN (c : Int32) : Nat := if c = 37 then 5 else if c = 38 then 2 else if c = 42 then 5 else if c = 43 then 4 else if c = 45 then 4 else if c = 47 then 5 else if c = 60 then 3 else if c = 61 then 3 else if c = 62 then 3 else if c = 124 then 1 else 0
theorem rank_C (c : Int32) : f_Tape_rank c = some (nI (rkN c)) := by
  unfold f_Tape_rank rkN
  repeat' split
  all_goals rfl
theorem rk_le (c : Int32) : rkN c ≤ 5 := by
  unfold rkN
  repeat' split
  all_goals decide
def relN (k : Nat) : List Int32 → List Int32 → List Int32 × List Int32
  | w, [] => (w, [])
  | w, c :: W => if k ≤ rkN c then relN k (w ++ [-c]) W else (w, c :: W)
def popN : List Int32 → List Int32 → Nat → List Int32 × List Int32 × Nat
  | w, [], o => (w, [], o)
  | w, c :: W, o => if c = 33 ∨ c = 126 then popN (w ++ [-c]) W (o - 1) else (w, c :: W, o)
def encW (w W : List Int32) (σ : St) : Prop := σ.1 3504 = nI w.length ∧ (∀ i, i < w.length → σ.2.1 37 i = w.getD i 0) ∧ σ.1 3505 = nI W.length ∧ stk (σ.2.1 38) W
def frT (σ σ' : St) : Prop := (∀ k, k ≠ 3504 → k ≠ 3505 → σ'.1 k = σ.1 k) ∧ (∀ a, a ≠ 37 → a ≠ 38 → σ'.2.1 a = σ.2.1 a) ∧ σ'.2.2 = σ.2.2
theorem frT_rf (σ : St) : frT σ σ := ⟨fun _ _ _ => rfl, fun _ _ _ => rfl, rfl⟩
theorem frT_tr {a b c : St} (h1 : frT a b) (h2 : frT b c) : frT a c := ⟨fun k p q => (h2.1 k p q).trans (h1.1 k p q), fun k p q => (h2.2.1 k p q).trans (h1.2.1 k p q), h2.2.2.trans h1.2.2⟩
theorem getD_snoc (w : List Int32) (s : Int32) (i : Nat) (hi : i < w.length + 1) : (w ++ [s]).getD i 0 = if i = w.length then s else w.getD i 0 := by
  by_cases q : i = w.length
  · have := getD_app_r (a := w) (b := [s]) (q := 0)
    rw [Nat.add_zero] at this
    rw [if_pos q, q, this]; rfl
  · rw [if_neg q, getD_app_l (by omega)]
theorem writeT {w W : List Int32} {σ : St} (h : encW w W σ) (hl : w.length ≤ 120) (s : Int32) : ∃ σ', f_Tape_writeStep σ s = some σ' ∧ encW (w ++ [s]) W σ' ∧ frT σ σ' := by
  obtain ⟨h1, h2, h3, h4⟩ := h
  unfold f_Tape_writeStep
  rw [h1, if_neg (show ¬ (121 : Int32) ≤ nI w.length from nI_ge (b := 121) (by omega) (by decide)), inb_nI (show w.length < 121 by omega) (by decide), cond_true, nIt (by omega), nI_1]
  refine ⟨_, rfl, ⟨by rw [upI_1, if_pos rfl, List.length_append]; rfl, fun i hi => ?_, by rw [upI_1, if_neg (by decide), upA_1]; exact h3, by rw [upI_2, upA_2, if_neg (by decide)]; exact h4⟩, fun k k1 k2 => by rw [upI_1, if_neg k1, upA_1], fun a a1 a2 => by rw [upI_2, upA_2, if_neg a1], rfl⟩
  rw [List.length_append] at hi
  have hi2 : i < w.length + 1 := hi
  rw [upI_2, upA_2, if_pos rfl, getD_snoc w s i hi2]
  unfold upd
  by_cases q : i = w.length
  · rw [if_pos q, if_pos q]
  · rw [if_neg q, if_neg q]; exact h2 i (by omega)
theorem lastT {w W : List Int32} {σ : St} (h : encW w W σ) (hl : W.length ≤ 120) : f_Tape_lastWaiting σ = some (W.headD 0) := by
  obtain ⟨h1, h2, h3, h4⟩ := h
  unfold f_Tape_lastWaiting
  rw [h3]
  cases W with
  | nil => rw [if_pos (by decide)]; rfl
  | cons c W =>
    rw [List.length_cons] at hl
    rw [List.length_cons, if_neg (nI_nle (by omega) (by omega)), if_neg (show ¬ (120 : Int32) < nI (W.length + 1) from nI_nlt (a := 120) (by omega) (by decide)), nI_pred, inb_nI (show W.length < 120 by omega) (by decide), cond_true, nIt (by omega), (stk_pop h4).1]
    rfl
theorem popT {w W : List Int32} {c : Int32} {σ : St} (h : encW w (c :: W) σ) : encW w W (upI σ 3505 (σ.1 3505 - 1)) := by
  obtain ⟨h1, h2, h3, h4⟩ := h
  refine ⟨by rw [upI_1, if_neg (by decide)]; exact h1, h2, ?_, (stk_pop h4).2⟩
  rw [upI_1, if_pos rfl, h3, List.length_cons, nI_pred]
theorem pushT {w W : List Int32} {σ : St} (h : encW w W σ) (hl : W.length < 120) (c : Int32) : ∃ σ', f_Tape_pushWaiting σ c = some σ' ∧ encW w (c :: W) σ' ∧ frT σ σ' := by
  obtain ⟨h1, h2, h3, h4⟩ := h
  unfold f_Tape_pushWaiting
  rw [h3, if_neg (show ¬ (120 : Int32) ≤ nI W.length from nI_ge (b := 120) hl (by decide)), inb_nI hl (by decide), cond_true, nIt (by omega), nI_1]
  refine ⟨_, rfl, ⟨by rw [upI_1, if_neg (by decide), upA_1]; exact h1, fun i hi => by rw [upI_2, upA_2, if_neg (by decide)]; exact h2 i hi, by rw [upI_1, if_pos rfl]; rfl, ?_⟩, fun k k1 k2 => by rw [upI_1, if_neg k2, upA_1], fun a a1 a2 => by rw [upI_2, upA_2, if_neg a2], rfl⟩
  rw [upI_2, upA_2, if_pos rfl]
  exact stk_push h4 c
theorem relT_l : ∀ (W w : List Int32) (k : Nat) (σ : St), encW w W σ → w.length + W.length ≤ 121 → W.length ≤ 120 → 1 ≤ k → k ≤ 5 → ∀ fuel, W.length < fuel → ∃ σ', f_Tape_release_0 fuel σ (nI k) = some σ' ∧ encW (relN k w W).1 (relN k w W).2 σ' ∧ frT σ σ' := by
  intro W
  induction W with
  | nil =>
    intro w k σ h hl hl2 k1 k5 fuel hf
    obtain ⟨f, rfl⟩ : ∃ f, fuel = f + 1 := ⟨fuel - 1, by omega⟩
    unfold f_Tape_release_0
    rw [h.2.2.1, if_pos (by decide)]
    exact ⟨σ, rfl, h, frT_rf σ⟩
  | cons c W ih =>
    intro w k σ h hl hl2 k1 k5 fuel hf
    obtain ⟨f, rfl⟩ : ∃ f, fuel = f + 1 := ⟨fuel - 1, by omega⟩
    have hlast := lastT h hl2
    rw [List.length_cons] at hl hl2 hf
    unfold f_Tape_release_0
    rw [h.2.2.1, List.length_cons, if_neg (nI_nle (by omega) (by omega)), hlast, bind_s, rank_C, bind_s]
    have rl := rk_le c
    unfold relN
    by_cases q : k ≤ rkN c
    · obtain ⟨σ1, w1, w2, w3⟩ := writeT h (by omega) (-c)
      rw [if_neg (show ¬ nI (rkN (List.headD (c :: W) 0)) < nI k from nI_nlt q (by show rkN c < _; omega)), if_pos q, bind_s, show -(List.headD (c :: W) 0) = -c from rfl, w1, bind_s]
      obtain ⟨σ2, z1, z2, z3⟩ := ih (w ++ [-c]) k _ (popT w2) (by rw [List.length_append]; show w.length + 1 + W.length ≤ 121; omega) (by omega) k1 k5 f (by omega)
      rw [z1]
      exact ⟨σ2, rfl, z2, frT_tr w3 (frT_tr (b := upI σ1 3505 (σ1.1 3505 - 1)) ⟨fun j j1 j2 => by rw [upI_1, if_neg j2], fun _ _ _ => rfl, rfl⟩ z3)⟩
    · rw [if_pos (show nI (rkN (List.headD (c :: W) 0)) < nI k from nI_lt (by show rkN c < k; omega) (by omega)), if_neg q]
      exact ⟨σ, rfl, h, frT_rf σ⟩
theorem releaseT {w W : List Int32} {k : Nat} {σ : St} (h : encW w W σ) (hl : w.length + W.length ≤ 121) (hl2 : W.length ≤ 120) (k1 : 1 ≤ k) (k5 : k ≤ 5) : ∃ σ', f_Tape_release σ (nI k) = some σ' ∧ encW (relN k w W).1 (relN k w W).2 σ' ∧ frT σ σ' := relT_l W w k σ h hl hl2 k1 k5 FU (by show _ < 1000; omega)
theorem rel_len (k : Nat) : ∀ (W w : List Int32), (relN k w W).1.length + (relN k w W).2.length = w.length + W.length ∧ (relN k w W).2.length ≤ W.length
  | [], w => ⟨rfl, Nat.le_refl _⟩
  | c :: W, w => by
    unfold relN
    split
    · have := rel_len k W (w ++ [-c])
      rw [List.length_append] at this
      have e1 : [-c].length = 1 := rfl
      rw [e1] at this
      rw [List.length_cons]; omega
    · exact ⟨rfl, Nat.le_refl _⟩
theorem pop_len : ∀ (W w : List Int32) (o : Nat), (popN w W o).1.length + (popN w W o).2.1.length = w.length + W.length ∧ (popN w W o).2.1.length ≤ W.length
  | [], w, o => ⟨rfl, Nat.le_refl _⟩
  | c :: W, w, o => by
    unfold popN
    split
    · have := pop_len W (w ++ [-c]) (o - 1)
      rw [List.length_append] at this
      have e1 : [-c].length = 1 := rfl
      rw [e1] at this
      rw [List.length_cons]; omega
    · exact ⟨rfl, Nat.le_refl _⟩
/-- the open ones that wait -/
def opW : List Int32 → Nat
  | [] => 0
  | c :: W => (if c = 33 ∨ c = 126 ∨ c = 40 then 1 else 0) + opW W
theorem opW_s (c : Int32) (W : List Int32) : opW (c :: W) = (if c = 33 ∨ c = 126 ∨ c = 40 then 1 else 0) + opW W := rfl
def frE (σ σ' : St) : Prop := (∀ k, k ≠ 3504 → k ≠ 3505 → k ≠ 3506 → k ≠ 3509 → σ'.1 k = σ.1 k) ∧ (∀ a, a ≠ 37 → a ≠ 38 → σ'.2.1 a = σ.2.1 a) ∧ σ'.2.2 = σ.2.2
theorem frE_tr {a b c : St} (h1 : frE a b) (h2 : frE b c) : frE a c := ⟨fun k p q r s => (h2.1 k p q r s).trans (h1.1 k p q r s), fun k p q => (h2.2.1 k p q).trans (h1.2.1 k p q), h2.2.2.trans h1.2.2⟩
theorem frT_E {σ σ' : St} (h : frT σ σ') : frE σ σ' := ⟨fun k p q _ _ => h.1 k p q, h.2.1, h.2.2⟩
theorem popT_l : ∀ (W w : List Int32) (o : Nat) (σ : St), encW w W σ → σ.1 3506 = nI o → opW W = o → σ.1 3509 = 0 → w.length + W.length ≤ 121 → W.length ≤ 120 → ∀ fuel, W.length < fuel → ∃ σ', f_Tape_endOperand_5 fuel σ = some σ' ∧ encW (popN w W o).1 (popN w W o).2.1 σ' ∧ σ'.1 3506 = nI (popN w W o).2.2 ∧ opW (popN w W o).2.1 = (popN w W o).2.2 ∧ σ'.1 3509 = 0 ∧ frE σ σ' := by
  intro W
  induction W with
  | nil =>
    intro w o σ h ho hop h9 hl hl2 fuel hf
    obtain ⟨f, rfl⟩ : ∃ f, fuel = f + 1 := ⟨fuel - 1, by omega⟩
    unfold f_Tape_endOperand_5
    rw [h.2.2.1, if_pos (by decide)]
    exact ⟨σ, rfl, h, ho, hop, h9, ⟨fun _ _ _ _ _ => rfl, fun _ _ _ => rfl, rfl⟩⟩
  | cons c W ih =>
    intro w o σ h ho hop h9 hl hl2 fuel hf
    obtain ⟨f, rfl⟩ : ∃ f, fuel = f + 1 := ⟨fuel - 1, by omega⟩
    have hlast := lastT h hl2
    have hlast' : f_Tape_lastWaiting σ = some c := hlast
    rw [List.length_cons] at hl hl2 hf
    unfold popN
    by_cases q : c = 33 ∨ c = 126
    · obtain ⟨σ1, w1, w2, w3⟩ := writeT h (by omega) (-c)
      have hop2 : o = opW W + 1 := by
        rw [← hop]
        rw [opW_s, if_pos (by rcases q with q | q; exact Or.inl q; exact Or.inr (Or.inl q))]; omega
      have e6 : σ1.1 3506 - 1 = nI (o - 1) := by rw [w3.1 3506 (by decide) (by decide), ho, hop2, nI_pred]; rfl
      obtain ⟨σ2, z1, z2, z3, z4, z5, z6⟩ := ih (w ++ [-c]) (o - 1) (upI (upI σ1 3505 (σ1.1 3505 - 1)) 3506 (σ1.1 3506 - 1)) (by
          have := popT w2
          exact ⟨by rw [upI_1, if_neg (by decide)]; exact this.1, this.2.1, by rw [upI_1, if_neg (by decide)]; exact this.2.2.1, this.2.2.2⟩) (by rw [upI_1, if_pos rfl]; exact e6) (by omega) (by rw [upI_1, if_neg (by decide), upI_1, if_neg (by decide), w3.1 3509 (by decide) (by decide)]; exact h9) (by rw [List.length_append]; show w.length + 1 + W.length ≤ 121; omega) (by omega) f (by omega)
      have key : f_Tape_endOperand_30 (f_Tape_endOperand_5 f) σ = some σ2 := by
        unfold f_Tape_endOperand_30
        rw [hlast', bind_s, w1, bind_s]
        exact z1
      unfold f_Tape_endOperand_5
      rw [h.2.2.1, List.length_cons, if_neg (nI_nle (by omega) (by omega)), hlast', bind_s, bind_s, if_pos q]
      refine ⟨σ2, ?_, z2, z3, z4, z5, frE_tr (frT_E w3) (frE_tr (b := upI (upI σ1 3505 (σ1.1 3505 - 1)) 3506 (σ1.1 3506 - 1)) ⟨fun j j1 j2 j3 j4 => by rw [upI_1, if_neg j3, upI_1, if_neg j2], fun _ _ _ => rfl, rfl⟩ z6)⟩
      by_cases q1 : c = 33
      · rw [if_pos q1]; exact key
      · rw [if_neg q1, if_pos (q.resolve_left q1)]; exact key
    · unfold f_Tape_endOperand_5
      rw [h.2.2.1, List.length_cons, if_neg (nI_nle (by omega) (by omega)), hlast', bind_s, bind_s, if_neg q, if_neg (fun z => q (Or.inl z)), if_neg (fun z => q (Or.inr z))]
      exact ⟨σ, rfl, h, ho, hop, h9, ⟨fun _ _ _ _ _ => rfl, fun _ _ _ => rfl, rfl⟩⟩
theorem endOpT {w W : List Int32} {o : Nat} {σ : St} (h : encW w W σ) (ho : σ.1 3506 = nI o) (hop : opW W = o) (hl : w.length + W.length ≤ 121) (hl2 : W.length ≤ 120) : ∃ σ', f_Tape_endOperand σ = some σ' ∧ encW (popN w W o).1 (popN w W o).2.1 σ' ∧ σ'.1 3506 = nI (popN w W o).2.2 ∧ opW (popN w W o).2.1 = (popN w W o).2.2 ∧ σ'.1 3509 = 0 ∧ frE σ σ' := by
  obtain ⟨σ', z1, z2, z3, z4, z5, z6⟩ := popT_l W w o (upI σ 3509 0) (by obtain ⟨h1, h2, h3, h4⟩ := h; exact ⟨by rw [upI_1, if_neg (by decide)]; exact h1, h2, by rw [upI_1, if_neg (by decide)]; exact h3, h4⟩) (by rw [upI_1, if_neg (by decide)]; exact ho) hop rfl hl hl2 FU (by show _ < 1000; omega)
  exact ⟨σ', z1, z2, z3, z4, z5, frE_tr (b := upI σ 3509 0) ⟨fun j j1 j2 j3 j4 => by rw [upI_1, if_neg j4], fun _ _ _ => rfl, rfl⟩ z6⟩
theorem rel_op (k : Nat) (hk : 1 ≤ k) : ∀ (W w : List Int32), opW (relN k w W).2 = opW W
  | [], w => rfl
  | c :: W, w => by
    unfold relN
    by_cases q : k ≤ rkN c
    · rw [if_pos q, rel_op k hk W (w ++ [-c])]
      have n0 : ¬ (c = 33 ∨ c = 126 ∨ c = 40) := by
        rintro (rfl | rfl | rfl)
        · exact absurd q (by have : rkN 33 = 0 := rfl; omega)
        · exact absurd q (by have : rkN 126 = 0 := rfl; omega)
        · exact absurd q (by have : rkN 40 = 0 := rfl; omega)
      show opW W = (if c = 33 ∨ c = 126 ∨ c = 40 then 1 else 0) + opW W
      rw [if_neg n0]; omega
    · rw [if_neg q]
