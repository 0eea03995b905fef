/-! mend, undo, redo -/
def chI (n : Nat) (σ τ : St) (i : Nat) : Prop := chOK n (σ.2.1 6 i) (τ.2.1 9 i) (τ.2.1 10 i) (σ.2.1 7 i) (σ.2.1 8 i) (τ.2.1 11 i) (τ.2.1 12 i)
def shP (τ : St) (m : Nat) (τm : St) : Prop := τm.1 = τ.1 ∧ τm.2.2 = τ.2.2 ∧ (∀ b, (b < 9 ∨ 12 < b) → τm.2.1 b = τ.2.1 b) ∧ ∀ b, 9 ≤ b → b ≤ 12 → ∀ i, τm.2.1 b i = if i < m then τ.2.1 b (i + 1) else τ.2.1 b i
theorem shift_M (τ : St) (x1 x2 x3 x4 : Int32) : ∀ (k m : Nat) (τm : St), m + k = 39 → shP τ m τm → ∀ fuel, k < fuel → ∃ τe, shP τ 39 τe ∧ f_M_changes_34 fuel τm x1 x2 x3 x4 (nI (m + 1)) = f_M_changes_121 (upI τe 14 ((τe.1 14) - 1)) x1 x2 x3 x4 := by
  intro k
  induction k with
  | zero =>
    intro m τm hm hp fuel hf
    obtain rfl : m = 39 := by omega
    obtain ⟨f, rfl⟩ : ∃ f, fuel = f + 1 := ⟨fuel - 1, by omega⟩
    refine ⟨τm, hp, ?_⟩
    unfold f_M_changes_34
    rw [if_pos (show (40 : Int32) ≤ nI (39 + 1) by decide)]
  | succ k ih =>
    intro m τm hm hp fuel hf
    obtain ⟨f, rfl⟩ : ∃ f, fuel = f + 1 := ⟨fuel - 1, by omega⟩
    unfold f_M_changes_34
    rw [if_neg (show ¬ (40 : Int32) ≤ nI (m + 1) from nI_ge (b := 40) (by omega) (by decide))]
    have e1 : inb (nI (m + 1)) 40 = true := inb_nI (by omega) (by decide)
    have e2 : nI (m + 1) - 1 = nI m := nI_pred m
    have e3 : inb (nI m) 40 = true := inb_nI (by omega) (by decide)
    simp only [e1, e2, e3, cond_true, nIt (show m < 2 ^ 31 by omega), nIt (show m + 1 < 2 ^ 31 by omega), nI_1]
    refine ih (m + 1) _ (by omega) ?_ f (by omega)
    obtain ⟨p1, p2, p3, p4⟩ := hp
    refine ⟨p1, p2, fun b hb => ?_, fun b hb1 hb2 i => ?_⟩
    · rw [upA_2, if_neg (by omega), upA_2, if_neg (by omega), upA_2, if_neg (by omega), upA_2, if_neg (by omega)]
      exact p3 b hb
    · have q : ∀ b, 9 ≤ b → b ≤ 12 → (if i = m then τm.2.1 b (m + 1) else τm.2.1 b i) = if i < m + 1 then τ.2.1 b (i + 1) else τ.2.1 b i := by
        intro b hb1 hb2
        rw [p4 b hb1 hb2, p4 b hb1 hb2]
        by_cases h1 : i = m
        · subst h1
          rw [if_pos rfl, if_neg (by omega), if_pos (by omega)]
        · rw [if_neg h1]
          by_cases h2 : i < m
          · rw [if_pos h2, if_pos (by omega)]
          · rw [if_neg h2, if_neg (by omega)]
      have := q b hb1 hb2
      rw [← this]
      rcases (show b = 9 ∨ b = 10 ∨ b = 11 ∨ b = 12 by omega) with rfl | rfl | rfl | rfl <;> rfl
theorem relCh_add {n : Nat} {σ τ : St} {d k a : Nat} {was v : Int32} (hd : d < 40) (hv : vld n k a) (ho : okV k v) (hw : okV k was) (h : ∀ i, i < d → chI n σ τ i) (s1 : σ.1 503 = nI d) (t1 : τ.1 14 = nI d) (ht : τ.1 15 = 0) :
    relCh n (upI (upI (upA (upA (upA σ 6 d (nI (slotN k a))) 7 d was) 8 d v) 503 (nI d + 1)) 504 0) (upI (upA (upA (upA (upA τ 9 d (nI k)) 10 d (nI a)) 11 d was) 12 d v) 14 (nI d + 1)) := by
  refine ⟨d + 1, 0, by omega, nI_1 d, nI_1 d, rfl, ht, fun i hi => ?_⟩
  show chOK n (upd (σ.2.1 6) d _ i) (upd (τ.2.1 9) d _ i) (upd (τ.2.1 10) d _ i) (upd (σ.2.1 7) d _ i) (upd (σ.2.1 8) d _ i) (upd (τ.2.1 11) d _ i) (upd (τ.2.1 12) d _ i)
  by_cases e : i = d
  · subst e
    simp only [upd, if_true]
    refine ⟨k, a, rfl, rfl, ?_, rfl, rfl, hw, ho⟩
    rcases hv with ⟨q1, q2⟩ | ⟨q1, q2, q3⟩
    · left; exact ⟨q1, q2, by rw [slotN, if_pos q1]⟩
    · right; exact ⟨q1, q2, q3, by rw [slotN, if_neg (by omega)]⟩
  · simp only [upd, e, if_false]
    exact h i (by omega)
theorem chI_congr {n : Nat} {σ τ σ' τ' : St} {i j : Nat} (h : chI n σ τ j) (a6 : σ'.2.1 6 i = σ.2.1 6 j) (a7 : σ'.2.1 7 i = σ.2.1 7 j) (a8 : σ'.2.1 8 i = σ.2.1 8 j) (b9 : τ'.2.1 9 i = τ.2.1 9 j) (b10 : τ'.2.1 10 i = τ.2.1 10 j) (b11 : τ'.2.1 11 i = τ.2.1 11 j) (b12 : τ'.2.1 12 i = τ.2.1 12 j) : chI n σ' τ' i := by
  unfold chI
  rw [a6, a7, a8, b9, b10, b11, b12]
  exact h
/-- the class's part of a change -/
theorem add_C (σ : St) {d : Nat} (hd : d ≤ 40) (s1 : σ.1 503 = nI d) (x1 x2 x3 : Int32) : ∃ σ2 e, e < 40 ∧ ((d < 40 ∧ e = d ∧ σ2 = σ) ∨ (d = 40 ∧ e = 39 ∧ σ2.2.2 = σ.2.2 ∧ (∀ k, k ≠ 503 → σ2.1 k = σ.1 k) ∧ σ2.1 503 = nI 39 ∧ (∀ b, (b < 6 ∨ 8 < b) → σ2.2.1 b = σ.2.1 b) ∧ ∀ i, i < 39 → σ2.2.1 6 i = σ.2.1 6 (i + 1) ∧ σ2.2.1 7 i = σ.2.1 7 (i + 1) ∧ σ2.2.1 8 i = σ.2.1 8 (i + 1))) ∧
    f_Changes_add σ x1 x2 x3 = some (upI (upI (upA (upA (upA σ2 6 e x1) 7 e x2) 8 e x3) 503 (nI e + 1)) 504 0) := by
  unfold f_Changes_add
  rw [s1]
  by_cases h : d < 40
  · rw [if_pos (show nI d < (40 : Int32) from nI_lt (b := 40) h (by decide))]
    refine ⟨σ, d, h, Or.inl ⟨h, rfl, rfl⟩, ?_⟩
    unfold f_Changes_add_13
    rw [s1, inb_nI h (by decide), nIt (by omega)]
    rfl
  · obtain rfl : d = 40 := by omega
    rw [if_neg (show ¬ nI 40 < (40 : Int32) by decide)]
    unfold f_Changes_forgetFirst
    have hc : cpok 1 0 39 40 40 = true := by decide
    simp only [hc, cond_true, bind_s]
    refine ⟨upI (stA (stA (stA σ 6 (va_cpy (σ.2.1 6) (σ.2.1 6) 1 0 39)) 7 (va_cpy (σ.2.1 7) (σ.2.1 7) 1 0 39)) 8 (va_cpy (σ.2.1 8) (σ.2.1 8) 1 0 39)) 503 39, 39, by omega, Or.inr ⟨by trivial, by trivial, rfl, fun k hk => ?_, rfl, fun b hb => ?_, fun i hi => ?_⟩, rfl⟩
    · rw [upI_1, if_neg hk]; rfl
    · rw [upI_2, stA_2, if_neg (by omega), stA_2, if_neg (by omega), stA_2, if_neg (by omega)]
    · have q : ∀ f : Nat → Int32, va_cpy f f 1 0 39 i = f (i + 1) := fun f => by
        unfold va_cpy
        rw [if_pos (by omega)]
        congr 1
        omega
      exact ⟨q _, q _, q _⟩
theorem setM_cong {τ T : St} {k a : Nat} {v : Int32} (hb : ∀ b, b ≤ 8 → T.2.1 b = τ.2.1 b) (hj : ∀ j, 10 ≤ j → j ≤ 13 → T.1 j = τ.1 j) : eqT (setM τ k a v) (setM T k a v) := by
  have A : ∀ b, b ≤ 8 → (setM T k a v).2.1 b = (setM τ k a v).2.1 b := by
    intro b h
    unfold setM
    split
    · rw [upA_2, upA_2]
      by_cases e : b = k + 1
      · rw [if_pos e, if_pos e, hb (k + 1) (by omega)]
      · rw [if_neg e, if_neg e, hb b h]
    · exact hb b h
  have B : ∀ j, 10 ≤ j → j ≤ 13 → (setM T k a v).1 j = (setM τ k a v).1 j := by
    intro j h1 h2
    unfold setM
    split
    · exact hj j h1 h2
    · rw [upI_1, upI_1, hj j h1 h2]
  exact ⟨A 1 (by decide), A 2 (by decide), A 3 (by decide), A 4 (by decide), A 5 (by decide), A 6 (by decide), A 7 (by decide), A 8 (by decide), B 10 (by decide) (by decide), B 11 (by decide) (by decide), B 12 (by decide) (by decide), B 13 (by decide) (by decide)⟩
theorem e_mend {σ τ : St} (h : Rel σ τ) (x w v : Int32) : ∃ r σ' τ', f_Top_mend σ x w v = some (r, σ') ∧ f_M_mend τ x w v = some (r, τ') ∧ Rel σ' τ' := by
  obtain ⟨n, bn, h1, h2, h3, h4, h5, h6, h7, h8⟩ := id h
  have hn := h1.1
  unfold f_Top_mend f_M_mend
  rcases slot_2 h1 x w with ⟨g1, g2⟩ | ⟨k, a, hv, rfl, rfl, g1, g2⟩
  · rw [g1, g2]; exact ⟨_, _, _, rfl, rfl, h⟩
  · have hk := vld_k hv
    have ha := vld_a hn hv
    have hs := vld_s hn hv
    rw [g1, g2]
    simp only [bind_s, i10, if_false, if_neg (nI_pos (show slotN k a < 2 ^ 31 by omega)), mayBe_C hk, mayBe_M hk]
    by_cases ho : tb_LEAST k ≤ v ∧ v ≤ tb_MOST k
    · simp only [decide_eq_true ho, b2_t, i10, if_false, numberAt_C σ hs, bind_s]
      unfold f_M_changes
      obtain ⟨q1, q2⟩ := relT_get h1 hv
      simp only [valueAt_M τ hk ha, bind_s, q1]
      by_cases hw : getM τ k a = v
      · simp only [hw, if_true, bd2_s]
        exact ⟨_, _, _, rfl, rfl, h⟩
      · simp only [hw, if_false, write_C σ hs, bind_s]
        obtain ⟨dn, un, hdu, s1, t1, s2, t2, hc⟩ := h3
        obtain ⟨σ2, e, he, hcase, hadd⟩ := add_C (upA σ 2 (slotN k a) v) (d := dn) (by omega) s1 (nI (slotN k a)) (getM τ k a) v
        rw [hadd]
        -- the reference
        have hM : ∃ τ2, ((dn < 40 ∧ τ2 = upI τ 15 0) ∨ (dn = 40 ∧ ∃ τe, shP (upI τ 15 0) 39 τe ∧ τ2 = upI τe 14 (nI 39))) ∧ (if τ.1 14 = (40 : Int32) then (f_M_changes_34 FU (upI τ 15 (0 : Int32)) (nI k) (nI a) v (getM τ k a) (1 : Int32)) else (f_M_changes_121 (upI τ 15 (0 : Int32)) (nI k) (nI a) v (getM τ k a))) = f_M_changes_121 τ2 (nI k) (nI a) v (getM τ k a) := by
          rw [t1]
          by_cases h40 : dn = 40
          · subst h40
            rw [if_pos (show nI 40 = (40 : Int32) from rfl)]
            obtain ⟨τe, p, q⟩ := shift_M (upI τ 15 0) (nI k) (nI a) v (getM τ k a) 39 0 (upI τ 15 0) rfl ⟨rfl, rfl, fun _ _ => rfl, fun _ _ _ i => by simp⟩ FU (by decide)
            refine ⟨_, Or.inr ⟨rfl, τe, p, rfl⟩, ?_⟩
            have e14 : τe.1 14 - 1 = nI 39 := by
              rw [p.1]
              show τ.1 14 - 1 = _
              rw [t1]; rfl
            rw [← e14]
            exact q
          · rw [if_neg (show ¬ nI dn = (40 : Int32) from fun q => h40 ((nI_eq (b := 40) (by omega) (by decide)).mp q))]
            exact ⟨_, Or.inl ⟨by omega, rfl⟩, rfl⟩
        obtain ⟨τ2, hτ, hM⟩ := hM
        rw [hM]
        unfold f_M_changes_121
        have t14 : τ2.1 14 = nI e := by
          rcases hτ with ⟨p1, rfl⟩ | ⟨p1, τe, p2, rfl⟩
          · rcases hcase with ⟨c1, c2, c3⟩ | ⟨c1, c2, c3⟩
            · rw [c2]; exact t1
            · omega
          · rcases hcase with ⟨c1, c2, c3⟩ | ⟨c1, c2, c3⟩
            · omega
            · rw [c2]; rfl
        rw [t14, inb_nI he (by decide), nIt (by omega), lays_M _ hk ha]
        simp only [cond_true, bind_s, bd2_s]
        refine ⟨_, _, _, rfl, rfl, n, bn, ?_⟩
        -- what holds of σ2, τ2
        have F1 : σ2.1 503 = nI e ∧ (∀ j, j ≠ 503 → σ2.1 j = σ.1 j) ∧ σ2.2.2 = σ.2.2 ∧ (∀ b, (b < 6 ∨ 8 < b) → σ2.2.1 b = (upA σ 2 (slotN k a) v).2.1 b) := by
          rcases hcase with ⟨c1, c2, c3⟩ | ⟨c1, c2, c3, c4, c5, c6, c7⟩
          · subst c3; subst c2; exact ⟨s1, fun _ _ => rfl, rfl, fun _ _ => rfl⟩
          · exact ⟨by rw [c5, c2], c4, c3, c6⟩
        obtain ⟨f1, f2, f3, f4⟩ := F1
        have F2 : τ2.1 15 = 0 ∧ (∀ j, j ≠ 14 → j ≠ 15 → τ2.1 j = τ.1 j) ∧ τ2.2.2 = τ.2.2 ∧ (∀ b, (b < 9 ∨ 12 < b) → τ2.2.1 b = τ.2.1 b) := by
          rcases hτ with ⟨p1, rfl⟩ | ⟨p1, τe, p2, rfl⟩
          · exact ⟨rfl, fun j _ h9 => by rw [upI_1, if_neg h9], rfl, fun _ _ => rfl⟩
          · obtain ⟨r1, r2, r3, r4⟩ := p2
            refine ⟨?_, fun j h8 h9 => ?_, ?_, fun b hb => ?_⟩
            · rw [upI_1, if_neg (by decide), r1]; rfl
            · rw [upI_1, if_neg h8, r1, upI_1, if_neg h9]
            · rw [upI_2, r2]; rfl
            · rw [upI_2, r3 b hb]; rfl
        obtain ⟨m1, m2, m3, m4⟩ := F2
        have hC2 : ∀ i, i < e → chI n σ2 τ2 i := by
          intro i hi
          rcases hcase with ⟨c1, c2, c3⟩ | ⟨c1, c2, c3, c4, c5, c6, c7⟩
          · rcases hτ with ⟨p1, rfl⟩ | ⟨p1, _⟩
            · subst c3
              exact chI_congr (hc i (by omega)) rfl rfl rfl rfl rfl rfl rfl
            · omega
          · rcases hτ with ⟨p1, rfl⟩ | ⟨p1, τe, p2, rfl⟩
            · omega
            · obtain ⟨z6, z7, z8⟩ := c7 i (by omega)
              have z := fun b h1 h2 => (p2.2.2.2 b h1 h2 i).trans (if_pos (show i < 39 by omega))
              exact chI_congr (hc (i + 1) (by omega)) z6 z7 z8 (z 9 (by omega) (by omega)) (z 10 (by omega) (by omega)) (z 11 (by omega) (by omega)) (z 12 (by omega) (by omega))
        have hch := relCh_add he hv ho q2 hC2 f1 t14 m1
        have hT := relT_set h1 hv ho
        obtain ⟨r2, r4, r5, r6, r7, r8⟩ := rel_rest (σ' := upI (upI (upA (upA (upA σ2 6 e (nI (slotN k a))) 7 e (getM τ k a)) 8 e v) 503 (nI e + 1)) 504 0) (τ' := setM (upI (upA (upA (upA (upA τ2 9 e (nI k)) 10 e (nI a)) 11 e (getM τ k a)) 12 e v) 14 (nI e + 1)) k a v) h2 h4 h5 h6 h7 h8
          (fun j j1 j2 => by rw [upI_1, if_neg j2, upI_1, if_neg j1]; exact f2 j j1) f3
          (fun b b1 b2 => by rw [upI_2, upI_2, upA_2, if_neg (by omega), upA_2, if_neg (by omega), upA_2, if_neg (by omega), f4 b b2, upA_2, if_neg b1])
          (fun j j1 j2 j3 => by rw [setM_i _ hk j3, upI_1, if_neg j1]; exact m2 j j1 j2) (by rw [setM_l]; exact m3)
          (fun b b1 => by rw [setM_a _ (by omega), upI_2, upA_2, if_neg (by omega), upA_2, if_neg (by omega), upA_2, if_neg (by omega), upA_2, if_neg (by omega)]; exact m4 b (by omega))
        refine ⟨?_, r2, ?_, r4, r5, r6, r7, r8⟩
        · refine relT_c hT (f2 103 (by decide)) (f4 2 (by decide)) ?_ ?_
          · rw [setM_i _ hk (by decide), setM_i _ hk (by decide)]; exact m2 1 (by decide) (by decide)
          · exact setM_cong (fun b hb => by rw [upI_2, upA_2, if_neg (by omega), upA_2, if_neg (by omega), upA_2, if_neg (by omega), upA_2, if_neg (by omega)]; exact m4 b (by omega)) (fun j j1 j2 => by rw [upI_1, if_neg (by omega)]; exact m2 j (by omega) (by omega))
        · refine relCh_c hch rfl rfl rfl rfl rfl ?_ ?_ ?_ ?_ ?_ ?_
          · exact setM_i _ hk (by decide)
          · exact setM_i _ hk (by decide)
          · exact setM_a _ (by decide)
          · exact setM_a _ (by decide)
          · exact setM_a _ (by decide)
          · exact setM_a _ (by decide)
    · simp only [decide_eq_false ho, b2_f, if_true]
      exact ⟨_, _, _, rfl, rfl, h⟩

theorem setM_rel {n bn : Nat} {σ τ S T : St} (h : Rel σ τ) (hr : relT n σ τ ∧ relG n σ τ ∧ relTp σ τ ∧ relL σ τ ∧ relD n σ τ ∧ relS bn σ τ ∧ relSh bn σ τ) {k a : Nat} {v : Int32} (hv : vld n k a) (ho : okV k v)
    (hch : relCh n S T) (si : ∀ j, j ≠ 503 → j ≠ 504 → S.1 j = σ.1 j) (s2 : S.2 = σ.2) (ti : ∀ j, j ≠ 14 → j ≠ 15 → T.1 j = τ.1 j) (t2 : T.2 = τ.2) : Rel (upA S 2 (slotN k a) v) (setM T k a v) := by
  obtain ⟨h1, h2, h4, h5, h6, h7, h8⟩ := hr
  have hk := vld_k hv
  have hT := relT_set h1 hv ho
  obtain ⟨r2, r4, r5, r6, r7, r8⟩ := rel_rest (σ' := upA S 2 (slotN k a) v) (τ' := setM T k a v) h2 h4 h5 h6 h7 h8
    (fun j j1 j2 => si j j1 j2) (by rw [upA_3, s2]) (fun b b1 _ => by rw [upA_2, if_neg b1, s2])
    (fun j j1 j2 j3 => by rw [setM_i _ hk j3]; exact ti j j1 j2) (by rw [setM_l, t2]) (fun b b1 => by rw [setM_a _ (by omega), t2])
  refine ⟨n, bn, ?_, r2, ?_, r4, r5, r6, r7, r8⟩
  · refine relT_c hT (si 103 (by decide) (by decide)) (by rw [upA_2, upA_2, if_pos rfl, if_pos rfl, s2]) ?_ ?_
    · rw [setM_i _ hk (by decide), setM_i _ hk (by decide)]; exact ti 1 (by decide) (by decide)
    · exact setM_cong (fun b _ => by rw [t2]) (fun j j1 j2 => ti j (by omega) (by omega))
  · exact relCh_c hch rfl rfl rfl rfl rfl (setM_i _ hk (by decide)) (setM_i _ hk (by decide)) (setM_a _ (by decide)) (setM_a _ (by decide)) (setM_a _ (by decide)) (setM_a _ (by decide))
theorem chOK_vld {n : Nat} {s k9 k10 v7 v8 v11 v12 : Int32} (h : chOK n s k9 k10 v7 v8 v11 v12) : ∃ k a, vld n k a ∧ k9 = nI k ∧ k10 = nI a ∧ s = nI (slotN k a) ∧ v7 = v11 ∧ v8 = v12 ∧ okV k v11 ∧ okV k v12 := by
  obtain ⟨k, a, e1, e2, e3, e4, e5, e6, e7⟩ := h
  rcases e3 with ⟨q1, q2, q3⟩ | ⟨q1, q2, q3, q4⟩
  · exact ⟨k, a, Or.inl ⟨q1, q2⟩, e1, e2, by rw [slotN, if_pos q1]; exact q3, e4, e5, e6, e7⟩
  · exact ⟨k, a, Or.inr ⟨q1, q2, q3⟩, e1, e2, by rw [slotN, if_neg (by omega)]; exact q4, e4, e5, e6, e7⟩
theorem e_undo {σ τ : St} (h : Rel σ τ) : ∃ r σ' τ', f_Top_undo σ = some (r, σ') ∧ f_M_undo τ = some (r, τ') ∧ Rel σ' τ' := by
  obtain ⟨n, bn, h1, h2, ⟨dn, un, hdu, s1, t1, s2, t2, hc⟩, h4, h5, h6, h7, h8⟩ := id h
  have hn := h1.1
  unfold f_Top_undo f_M_undo f_Changes_takeBack
  rw [s1, t1, s2, t2]
  by_cases h0 : dn = 0
  · subst h0
    rw [if_pos (show nI 0 = (0 : Int32) from rfl), if_pos (show nI 0 = (0 : Int32) from rfl)]
    exact ⟨_, _, _, rfl, rfl, h⟩
  · obtain ⟨d, rfl⟩ : ∃ d, dn = d + 1 := ⟨dn - 1, by omega⟩
    obtain ⟨k, a, hv, e9, e10, e6, e7, e8, o1, o2⟩ := chOK_vld (hc d (by omega))
    have hz : ¬ nI (d + 1) = (0 : Int32) := nI_ne0 (by omega) (by omega)
    have hz2 : ¬ nI (d + 1) ≤ (0 : Int32) := nI_nle (by omega) (by omega)
    simp only [hz, hz2, if_false, nI_pred, inb_nI (show d < 40 by omega) (by decide), cond_true, nIt (show d < 2 ^ 31 by omega), e6, e7, e9, e10, write_C _ (vld_s hn hv), lays_M _ (vld_k hv) (vld_a hn hv), bind_s]
    refine ⟨nI d, _, _, rfl, ?_, setM_rel h ⟨h1, h2, h4, h5, h6, h7, h8⟩ hv o1 (S := upI (upI σ 503 (nI d)) 504 (nI un + 1)) (T := upI (upI τ 14 (nI d)) 15 (nI un + 1)) ?_ (fun j j1 j2 => by rw [upI_1, if_neg j2, upI_1, if_neg j1]) rfl (fun j j1 j2 => by rw [upI_1, if_neg j2, upI_1, if_neg j1]) rfl⟩
    · rw [setM_i _ (vld_k hv) (by decide)]; rfl
    · exact ⟨d, un + 1, by omega, rfl, rfl, nI_1 un, nI_1 un, fun i hi => hc i (by omega)⟩
theorem e_redo {σ τ : St} (h : Rel σ τ) : ∃ r σ' τ', f_Top_redo σ = some (r, σ') ∧ f_M_redo τ = some (r, τ') ∧ Rel σ' τ' := by
  obtain ⟨n, bn, h1, h2, ⟨dn, un, hdu, s1, t1, s2, t2, hc⟩, h4, h5, h6, h7, h8⟩ := id h
  have hn := h1.1
  unfold f_Top_redo f_M_redo f_Changes_doAgain
  rw [s1, t1, s2, t2]
  by_cases h0 : un = 0
  · subst h0
    rw [if_pos (show nI 0 = (0 : Int32) from rfl), if_pos (show nI 0 = (0 : Int32) from rfl)]
    exact ⟨_, _, _, rfl, rfl, h⟩
  · obtain ⟨u, rfl⟩ : ∃ u, un = u + 1 := ⟨un - 1, by omega⟩
    obtain ⟨k, a, hv, e9, e10, e6, e7, e8, o1, o2⟩ := chOK_vld (hc dn (by omega))
    have hz : ¬ nI (u + 1) = (0 : Int32) := nI_ne0 (by omega) (by omega)
    have hz2 : ¬ nI (u + 1) ≤ (0 : Int32) := nI_nle (by omega) (by omega)
    have hz3 : ¬ (40 : Int32) ≤ nI dn := nI_ge (b := 40) (by omega) (by decide)
    have m14 : (setM τ k a (τ.2.1 12 dn)).1 14 = nI dn := by rw [setM_i _ (vld_k hv) (by decide), t1]
    have m15 : (setM τ k a (τ.2.1 12 dn)).1 15 = nI (u + 1) := by rw [setM_i _ (vld_k hv) (by decide), t2]
    simp only [hz, hz2, hz3, if_false, inb_nI (show dn < 40 by omega) (by decide), cond_true, nIt (show dn < 2 ^ 31 by omega), e6, e8, e9, e10, write_C _ (vld_s hn hv), lays_M _ (vld_k hv) (vld_a hn hv), bind_s, m14, m15, upA_1, s1, s2, nI_pred]
    have e := setM_rel h ⟨h1, h2, h4, h5, h6, h7, h8⟩ hv o2 (S := upI (upI σ 503 (nI dn + 1)) 504 (nI u)) (T := upI (upI τ 14 (nI dn + 1)) 15 (nI u)) ⟨dn + 1, u, by omega, nI_1 dn, nI_1 dn, rfl, rfl, fun i hi => hc i (by omega)⟩ (fun j j1 j2 => by rw [upI_1, if_neg j2, upI_1, if_neg j1]) rfl (fun j j1 j2 => by rw [upI_1, if_neg j2, upI_1, if_neg j1]) rfl
    refine ⟨nI u, _, _, rfl, rfl, ?_⟩
    have q : upI (upI (setM τ k a (τ.2.1 12 dn)) 14 (nI dn + 1)) 15 (nI u) = setM (upI (upI τ 14 (nI dn + 1)) 15 (nI u)) k a (τ.2.1 12 dn) := by
      unfold setM
      have hk := vld_k hv
      split
      · rfl
      · refine Prod.ext ?_ rfl
        funext j
        show upd (upd (upd τ.1 (k + 2) _) 14 _) 15 _ j = upd (upd (upd τ.1 14 _) 15 _) (k + 2) _ j
        unfold upd
        by_cases j1 : j = 15
        · rw [if_pos j1, if_neg (by omega), if_pos j1]
        · by_cases j2 : j = 14
          · rw [if_neg j1, if_pos j2, if_neg (by omega), if_neg j1, if_pos j2]
          · rw [if_neg j1, if_neg j2, if_neg j1, if_neg j2]
    rw [q]
    exact e
