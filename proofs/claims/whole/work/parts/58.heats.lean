/-! together, heat, cloths, alone, test -/
theorem e_together {σ τ : St} (h : Rel σ τ) (x y : Int32) : ∃ r σ' τ', f_Top_together σ x y = some (r, σ') ∧ f_M_together τ x y = some (r, τ') ∧ Rel σ' τ' := by
  obtain ⟨e, hB, hC, hM⟩ := rel_ew h
  have hn := hB.1
  unfold f_Top_together f_M_together
  rcases thing_2 hB hC hM x with ⟨g1, g2⟩ | ⟨u, hu, rfl, g1, g2⟩
  · rw [g1, g2]; exact ⟨_, _, _, rfl, rfl, h⟩
  · rw [g1, g2]
    rcases heatTint_2 y with ⟨k1, k2⟩ | ⟨w, m, w3, w9, m1, k1, k2, k3, k4⟩
    · rw [k1, k2]; exact ⟨_, _, _, rfl, rfl, h⟩
    · obtain ⟨σ1, w1, wk, wh, wg⟩ := warm_C hB hC w9
      rw [k1, k2]
      simp only [bind_s, i10, if_false, k3, w1]
      have hg := fun t (ht : t < e.1) => gN_le hB w9 ht
      have main := loopF (n := e.1) (P := fun t fuel => ∀ (acc : Int32) σ2 τ2, kC σ2 = kC σ → kM τ2 = kM τ → σ2.1 3903 = nI w → (∀ v, v < e.1 → σ2.2.1 40 v = nI (gN e w v)) → ∃ r σ' τ', f_Top_together_36 fuel σ2 (nI u) y acc (nI t) = some (r, σ') ∧ f_M_together_22 fuel τ2 (nI u) y acc (nI t) = some (r, τ') ∧ kC σ' = kC σ ∧ kM τ' = kM τ) (fun f acc σ2 τ2 a1 a2 a3 a4 => by
          unfold f_Top_together_36 f_M_together_22
          rw [(ewC_k a1 hC).1, (ewM_k a2 hM).1, if_pos (nI_le (Nat.le_refl _) (by omega)), if_pos (nI_le (Nat.le_refl _) (by omega))]
          exact ⟨_, _, _, rfl, rfl, a1, a2⟩) (fun t f ht ih acc σ2 τ2 a1 a2 a3 a4 => by
          have hC2 := ewC_k a1 hC
          have hM2 := ewM_k a2 hM
          have pw : (2 : Nat) ^ e.1 ≤ 2 ^ 10 := Nat.pow_le_pow_right (by decide) hn
          have pu : (2 : Nat) ^ u < 2 ^ e.1 := Nat.pow_lt_pow_right (by decide) hu
          have pt : (2 : Nat) ^ t < 2 ^ e.1 := Nat.pow_lt_pow_right (by decide) ht
          have hset : ((1 : Int32) <<< (nI u &&& 31)) ||| ((1 : Int32) <<< (nI t &&& 31)) = nI (2 ^ u ||| 2 ^ t) := by
            rw [shl1_nI (by omega), shl1_nI (by omega), or_nI (by omega) (by omega)]
          have hlt : 2 ^ u ||| 2 ^ t < 2 ^ e.1 := Nat.or_lt_two_pow pu pt
          obtain ⟨σ3, f1, f2, f3⟩ := fill_V hB hC2 (h := w) a4 a3 hg hlt (off := 0) (by omega)
          have f1' : f_Tub_fill σ2 (nI (2 ^ u ||| 2 ^ t)) 0 = some σ3 := f1
          unfold f_Top_together_36 f_M_together_22
          rw [hC2.1, hM2.1, if_neg (nI_ge ht (by omega)), if_neg (nI_ge ht (by omega)), hset, f1', bind_s, nI_1]
          by_cases q : t = u
          · subst q
            rw [if_pos rfl, if_pos rfl]
            exact ih acc σ3 τ2 (f2.trans a1) a2 f3.2.2.1 f3.2.1
          · have q2 : ¬ nI t = nI u := fun r => q ((nI_eq (by omega) (by omega)).mp r)
            obtain ⟨τ3, s1, s2⟩ := isSafe_M hB hM2 hlt w9 (off := 0) (by omega) m1
            have s1' : f_M_isSafe τ2 (nI (2 ^ u ||| 2 ^ t)) (nI w) 0 (nI m) = _ := s1
            have hls := lsN_le hB hg (2 ^ u ||| 2 ^ t) 0
            rw [if_neg q2, if_neg q2, k4, k3, s1', isSafe_C hB f3 hg hlt (by omega) w9 m1, bind_s, bd2_s]
            cases sfN e (gN e w) w (2 ^ u ||| 2 ^ t) (lsN e (gN e w) (2 ^ u ||| 2 ^ t) 0) m
            · rw [b2_f, if_pos rfl, if_pos rfl]
              exact ih acc σ3 τ3 (f2.trans a1) (s2.trans a2) f3.2.2.1 f3.2.1
            · rw [b2_t, if_neg i10, if_neg i10]
              exact ih _ σ3 τ3 (f2.trans a1) (s2.trans a2) f3.2.2.1 f3.2.1)
        0 (Nat.zero_le _) FU (by show _ < 1000; omega) 0 σ1 τ wk rfl wh wg
      obtain ⟨r, σ', τ', z1, z2, z3, z4⟩ := main
      exact ⟨r, σ', τ', z1, z2, rel_k h z3 z4⟩
theorem e_heat {σ τ : St} (h : Rel σ τ) (x y : Int32) : ∃ r σ' τ', f_Top_heat σ x y = some (r, σ') ∧ f_M_heat τ x y = some (r, τ') ∧ Rel σ' τ' := by
  obtain ⟨e, hB, hC, hM⟩ := rel_ew h
  have hn := hB.1
  unfold f_Top_heat f_M_heat
  rcases isSet_2 hB hC hM x with ⟨g1, g2⟩ | ⟨b, hb, rfl, g1, g2⟩
  · rw [g1, g2]; exact ⟨_, _, _, rfl, rfl, h⟩
  · rw [g1, g2]
    rcases upto99_2 y with ⟨j1, j2⟩ | ⟨m, hm, rfl, j1, j2⟩
    · rw [j1, j2]; exact ⟨_, _, _, rfl, rfl, h⟩
    · rw [j1, j2]
      simp only [bind_s, i10, if_false]
      -- k: heats tried so far
      have main := loopF (n := 7) (P := fun k fuel => ∀ σ2 τ2, kC σ2 = kC σ → kM τ2 = kM τ → ∃ r σ' τ', f_Top_heat_23 fuel σ2 (nI b) (nI m) (nI (9 - k)) = some (r, σ') ∧ f_M_heat_23 fuel τ2 (nI b) (nI m) (nI (9 - k)) = some (r, τ') ∧ kC σ' = kC σ ∧ kM τ' = kM τ) (fun f σ2 τ2 a1 a2 => by
          unfold f_Top_heat_23 f_M_heat_23
          exact ⟨_, _, _, rfl, rfl, a1, a2⟩) (fun k f hk ih σ2 τ2 a1 a2 => by
          have hC2 := ewC_k a1 hC
          have hM2 := ewM_k a2 hM
          have w9 : 9 - k ≤ 9 := by omega
          have hg := fun t (ht : t < e.1) => gN_le hB w9 ht
          obtain ⟨σ1, w1, wk, wh, wg⟩ := warm_C hB hC2 w9
          obtain ⟨σ3, f1, f2, f3⟩ := fill_V hB (ewC_k wk hC2) (h := 9 - k) wg wh hg hb (off := 0) (by omega)
          have f1' : f_Tub_fill σ1 (nI b) 0 = some σ3 := f1
          obtain ⟨τ3, s1, s2⟩ := isSafe_M hB hM2 hb w9 (off := 0) (by omega) hm
          have s1' : f_M_isSafe τ2 (nI b) (nI (9 - k)) 0 (nI m) = _ := s1
          have hls := lsN_le hB hg b 0
          unfold f_Top_heat_23 f_M_heat_23
          have c3 : ¬ nI (9 - k) < 3 := nI_nlt (b := 3) (by omega) (by omega)
          have cm : nI (9 - k) + (-1 : Int32) = nI (9 - (k + 1)) := by
            rw [show 9 - k = (9 - (k + 1)) + 1 by omega]; exact pk_m1 _
          rw [if_neg c3, if_neg c3, w1, bind_s, f1', bind_s, isSafe_C hB f3 hg hb (by omega) w9 hm, bind_s, s1', bd2_s, cm]
          cases sfN e (gN e (9 - k)) (9 - k) b (lsN e (gN e (9 - k)) b 0) m
          · rw [b2_f, if_pos rfl, if_pos rfl]
            exact ih σ3 τ3 (f2.trans (wk.trans a1)) (s2.trans a2)
          · rw [b2_t, if_neg i10, if_neg i10]
            exact ⟨_, _, _, rfl, rfl, f2.trans (wk.trans a1), s2.trans a2⟩)
        0 (Nat.zero_le _) FU (by show _ < 1000; omega) σ τ rfl rfl
      obtain ⟨r, σ', τ', z1, z2, z3, z4⟩ := main
      exact ⟨r, σ', τ', z1, z2, rel_k h z3 z4⟩
theorem e_cloths {σ τ : St} (h : Rel σ τ) (x y : Int32) : ∃ r σ' τ', f_Top_cloths σ x y = some (r, σ') ∧ f_M_cloths τ x y = some (r, τ') ∧ Rel σ' τ' := by
  obtain ⟨e, hB, hC, hM⟩ := rel_ew h
  have hn := hB.1
  unfold f_Top_cloths f_M_cloths
  rcases isSet_2 hB hC hM x with ⟨g1, g2⟩ | ⟨b, hb, rfl, g1, g2⟩
  · rw [g1, g2]; exact ⟨_, _, _, rfl, rfl, h⟩
  · rw [g1, g2]
    rcases heatTint_2 y with ⟨k1, k2⟩ | ⟨w, m, w3, w9, hm, k1, k2, k3, k4⟩
    · rw [k1, k2]; exact ⟨_, _, _, rfl, rfl, h⟩
    · obtain ⟨σ1, w1, wk, wh, wg⟩ := warm_C hB hC w9
      have hg := fun t (ht : t < e.1) => gN_le hB w9 ht
      rw [k1, k2]
      simp only [bind_s, i10, if_false, k3, w1]
      have main := loopF (n := 10) (P := fun k fuel => ∀ σ2 τ2, kC σ2 = kC σ → kM τ2 = kM τ → σ2.1 3903 = nI w → (∀ v, v < e.1 → σ2.2.1 40 v = nI (gN e w v)) → ∃ r σ' τ', f_Top_cloths_30 fuel σ2 (nI b) y (nI k) = some (r, σ') ∧ f_M_cloths_19 fuel τ2 (nI b) y (nI k) = some (r, τ') ∧ kC σ' = kC σ ∧ kM τ' = kM τ) (fun f σ2 τ2 a1 a2 a3 a4 => by
          unfold f_Top_cloths_30 f_M_cloths_19
          exact ⟨_, _, _, rfl, rfl, a1, a2⟩) (fun k f hk ih σ2 τ2 a1 a2 a3 a4 => by
          have hC2 := ewC_k a1 hC
          have hM2 := ewM_k a2 hM
          have ho := cl_le hB (c := k) (by omega)
          obtain ⟨σ3, f1, f2, f3⟩ := fill_V hB hC2 (h := w) a4 a3 hg hb ho
          obtain ⟨τ3, s1, s2⟩ := isSafe_M hB hM2 hb w9 ho hm
          have hls := lsN_le hB hg b (k * e.2.2.1 1)
          have q : τ2.1 11 = nI (e.2.2.1 1) := hM2.2.2.1 1 (by decide)
          unfold f_Top_cloths_30 f_M_cloths_19
          have c3 : ¬ (9 : Int32) < nI k := nI_nlt (a := 9) (by omega) (by decide)
          rw [if_neg c3, if_neg c3, caught_C hC2, bind_s, f1, bind_s, k4, k3, isSafe_C hB f3 hg hb (by omega) w9 hm, bind_s, q, pk_mul, s1, bd2_s, nI_1]
          cases sfN e (gN e w) w b (lsN e (gN e w) b (k * e.2.2.1 1)) m
          · rw [b2_f, if_pos rfl, if_pos rfl]
            exact ih σ3 τ3 (f2.trans a1) (s2.trans a2) f3.2.2.1 f3.2.1
          · rw [b2_t, if_neg i10, if_neg i10]
            exact ⟨_, _, _, rfl, rfl, f2.trans a1, s2.trans a2⟩)
        0 (Nat.zero_le _) FU (by show _ < 1000; omega) σ1 τ wk rfl wh wg
      obtain ⟨r, σ', τ', z1, z2, z3, z4⟩ := main
      exact ⟨r, σ', τ', z1, z2, rel_k h z3 z4⟩
theorem e_test {σ τ : St} (h : Rel σ τ) (x y : Int32) : ∃ r σ' τ', f_Top_test σ x y = some (r, σ') ∧ f_M_test τ x y = some (r, τ') ∧ Rel σ' τ' := by
  obtain ⟨e, hB, hC, hM⟩ := rel_ew h
  have hn := hB.1
  unfold f_Top_test f_M_test
  rcases isSet_2 hB hC hM x with ⟨g1, g2⟩ | ⟨b, hb, rfl, g1, g2⟩
  · rw [g1, g2]; exact ⟨_, _, _, rfl, rfl, h⟩
  · rw [g1, g2]
    rcases heatTint_2 y with ⟨k1, k2⟩ | ⟨w, m, w3, w9, hm, k1, k2, k3, k4⟩
    · rw [k1, k2]; exact ⟨_, _, _, rfl, rfl, h⟩
    · rw [k1, k2]
      simp only [bind_s, i10, if_false]
      by_cases q0 : irem y 100 = 0
      · rw [if_pos q0, if_pos q0]; exact ⟨_, _, _, rfl, rfl, h⟩
      · rw [if_neg q0, if_neg q0]
        have dC : ∀ (σ2 : St) (t v : Nat), kC σ2 = kC σ → t < e.1 → v ≤ 9 → ∃ σ3, f_Tub_dyeOf σ2 (nI t) (nI v) = some (nI (gN e v t), σ3) ∧ kC σ3 = kC σ := fun σ2 t v a1 ht hv => by
          have hC2 := ewC_k a1 hC
          have q1 : f_Basket_told σ2 (nI t) 1 = _ := told_e hB hC2 (k := 1) ht (by decide)
          have q2 : f_Basket_told σ2 (nI t) 2 = _ := told_e hB hC2 (k := 2) ht (by decide)
          obtain ⟨σ3, d1, d2⟩ := dyeIf_C hB hC2 (t := t) (v := e.2.1 t 1) (w := e.2.1 t 2) (h := v) ht (hB.2.1 t 1 ht (by decide)).2 (by have := (hB.2.1 t 2 ht (by decide)).2; have e2 : hiN 2 = 99 := rfl; omega) hv
          refine ⟨σ3, ?_, (samD_kC d2).trans a1⟩
          unfold f_Tub_dyeOf
          rw [q1, bind_s, q2, bind_s, d1]; rfl
        have main := loopF (n := e.1) (P := fun t fuel => ∀ (acc : Int32) σ2 τ2, kC σ2 = kC σ → kM τ2 = kM τ → ∃ r σ' τ', f_Top_test_29 fuel σ2 (nI b) y acc (nI t) = some (r, σ') ∧ f_M_test_29 fuel τ2 (nI b) y acc (nI t) = some (r, τ') ∧ kC σ' = kC σ ∧ kM τ' = kM τ) (fun f acc σ2 τ2 a1 a2 => by
            unfold f_Top_test_29 f_M_test_29
            rw [(ewC_k a1 hC).1, (ewM_k a2 hM).1, if_pos (nI_le (Nat.le_refl _) (by omega)), if_pos (nI_le (Nat.le_refl _) (by omega))]
            exact ⟨_, _, _, rfl, rfl, a1, a2⟩) (fun t f ht ih acc σ2 τ2 a1 a2 => by
            have hC2 := ewC_k a1 hC
            have hM2 := ewM_k a2 hM
            unfold f_Top_test_29 f_M_test_29
            rw [hC2.1, hM2.1, if_neg (nI_ge ht (by omega)), if_neg (nI_ge ht (by omega)), bt_isOf hn hb ht, bt_M hn hb ht, bind_s, nI_1]
            by_cases q : bt b t = true
            · obtain ⟨σ3, d1, d2⟩ := dC σ2 t 3 a1 ht (by decide)
              obtain ⟨τ3, m1, m2⟩ := dyeOf_M hB hM2 (h := 3) ht (by decide)
              have d1' : f_Tub_dyeOf σ2 (nI t) 3 = _ := d1
              have m1' : f_M_dyeOf τ2 (nI t) 3 = _ := m1
              have m2' := (samG_kM m2).trans a2
              rw [b2_nt q, if_neg i10, if_pos rfl, d1', m1', bd2_s, bd2_s]
              by_cases r : irem y 100 ≤ nI (gN e 3 t)
              · rw [if_pos r, if_pos r]; exact ih acc σ3 τ3 d2 m2'
              · obtain ⟨σ4, d3, d4⟩ := dC σ3 t w d2 ht w9
                obtain ⟨τ4, m3, m4⟩ := dyeOf_M hB (ewM_k m2' hM) (h := w) ht w9
                have m4' := (samG_kM m4).trans m2'
                rw [if_neg r, if_neg r, k3, d3, m3, bd2_s, bd2_s]
                by_cases r2 : nI (gN e w t) ≤ 0
                · rw [if_pos r2, if_pos r2]; exact ih acc σ4 τ4 d4 m4'
                · rw [if_neg r2, if_neg r2]; exact ih _ σ4 τ4 d4 m4'
            · rw [b2_nf (bt_f q), if_pos rfl, if_neg i01]
              exact ih acc σ2 τ2 a1 a2)
          0 (Nat.zero_le _) FU (by show _ < 1000; omega) 0 σ τ rfl rfl
        obtain ⟨r, σ', τ', z1, z2, z3, z4⟩ := main
        exact ⟨r, σ', τ', z1, z2, rel_k h z3 z4⟩
theorem e_alone {σ τ : St} (h : Rel σ τ) (x y : Int32) : ∃ r σ' τ', f_Top_alone σ x y = some (r, σ') ∧ f_M_alone τ x y = some (r, τ') ∧ Rel σ' τ' := by
  obtain ⟨e, hB, hC, hM⟩ := rel_ew h
  have hn := hB.1
  unfold f_Top_alone f_M_alone
  rcases thing_2 hB hC hM x with ⟨g1, g2⟩ | ⟨t, ht, rfl, g1, g2⟩
  · rw [g1, g2]; exact ⟨_, _, _, rfl, rfl, h⟩
  · rw [g1, g2]
    rcases isHeat_2 y with ⟨k1, k2⟩ | ⟨w, w3, w9, rfl, k1, k2⟩
    · rw [k1, k2]; exact ⟨_, _, _, rfl, rfl, h⟩
    · have q1 : f_Basket_told σ (nI t) 1 = _ := told_e hB hC (k := 1) ht (by decide)
      have q2 : f_Basket_told σ (nI t) 2 = _ := told_e hB hC (k := 2) ht (by decide)
      rw [k1, k2]
      simp only [bind_s, i10, if_false, q1, q2]
      have hw99 := (hB.2.1 t 2 ht (by decide)).2
      have e99 : hiN 2 = 99 := rfl
      have h9 := (hB.2.1 t 1 ht (by decide)).2
      have main := loopF (n := 100) (P := fun k fuel => ∀ σ2 τ2, kC σ2 = kC σ → kM τ2 = kM τ → ∃ r σ' τ', f_Top_alone_45 fuel σ2 (nI t) (nI w) (nI (e.2.1 t 1)) (nI (e.2.1 t 2)) (nI (100 - k)) = some (r, σ') ∧ f_M_alone_20 fuel τ2 (nI t) (nI w) (nI (100 - k)) = some (r, τ') ∧ kC σ' = kC σ ∧ kM τ' = kM τ) (fun f σ2 τ2 a1 a2 => by
          have hM2 := ewM_k a2 hM
          have qq : τ2.2.1 3 t = nI (e.2.1 t 2) := hM2.2.1 t 2 ht (by decide)
          unfold f_Top_alone_45 f_M_alone_20 f_M_alone_48
          have c1 : nI (100 - 100) ≤ nI (e.2.1 t 2) := nI_le (by omega) (by omega)
          rw [in_t (by omega), ct_t (by omega), qq, if_pos c1, if_pos c1, if_pos (show nI (100 - 100) ≤ 99 by decide), if_pos (show nI (100 - 100) ≤ 99 by decide)]
          exact ⟨_, _, _, rfl, rfl, a1, a2⟩) (fun k f hk ih σ2 τ2 a1 a2 => by
          have hC2 := ewC_k a1 hC
          have hM2 := ewM_k a2 hM
          have qq : ∀ τ3, kM τ3 = kM τ → τ3.2.1 3 t = nI (e.2.1 t 2) := fun τ3 a => (ewM_k a hM).2.1 t 2 ht (by decide)
          unfold f_Top_alone_45 f_M_alone_20 f_M_alone_48
          rw [in_t (by omega), ct_t (by omega), qq τ2 a2]
          simp only [cond_true]
          by_cases c1 : nI (100 - k) ≤ nI (e.2.1 t 2)
          · rw [if_pos c1, if_pos c1]
            by_cases c2 : nI (100 - k) ≤ 99
            · rw [if_pos c2, if_pos c2]; exact ⟨_, _, _, rfl, rfl, a1, a2⟩
            · rw [if_neg c2, if_neg c2]; exact ⟨_, _, _, rfl, rfl, a1, a2⟩
          · rw [if_neg c1, if_neg c1]
            have cm : nI (100 - k) - 1 = nI (100 - (k + 1)) := by rw [show 100 - k = (100 - (k + 1)) + 1 by omega, nI_pred]
            have cm2 : nI (100 - k) + (-1 : Int32) = nI (100 - (k + 1)) := by rw [show 100 - k = (100 - (k + 1)) + 1 by omega]; exact pk_m1 _
            obtain ⟨σ3, d1, d2⟩ := dyeIf_C hB hC2 (t := t) (v := e.2.1 t 1) (w := 100 - (k + 1)) (h := w) ht h9 (by omega) w9
            obtain ⟨τ3, m1, m2⟩ := givesBy_M hB hM2 (t := t) (w := 100 - (k + 1)) (h := w) ht (by omega) w9
            have d2' := (samD_kC d2).trans a1
            have m2' := (samG_kM m2).trans a2
            rw [cm, cm2, d1, m1, bd2_s, bd2_s]
            by_cases r : nI (dN e t (e.2.1 t 1) (100 - (k + 1)) w) = 0
            · rw [if_pos r, if_pos r]; exact ih σ3 τ3 d2' m2'
            · rw [if_neg r, if_neg r, qq τ3 m2']
              by_cases c2 : nI (100 - k) ≤ 99
              · rw [if_pos c2, if_pos c2]; exact ⟨_, _, _, rfl, rfl, d2', m2'⟩
              · rw [if_neg c2, if_neg c2]; exact ⟨_, _, _, rfl, rfl, d2', m2'⟩)
        0 (Nat.zero_le _) FU (by decide) σ τ rfl rfl
      obtain ⟨r, σ', τ', z1, z2, z3, z4⟩ := main
      exact ⟨r, σ', τ', z1, z2, rel_k h z3 z4⟩
