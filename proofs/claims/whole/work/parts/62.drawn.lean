/-! drawn -/
def zN (zz : Int32) : Int32 := (zz * (1103515245 : Int32)) + (12345 : Int32)
def zD (zz : Int32) : Int32 := irem (iushr ((zz * (1103515245 : Int32)) + (12345 : Int32)) (8 : Int32)) (12 : Int32)
theorem zN_eq (zz : Int32) : (zz * (1103515245 : Int32)) + (12345 : Int32) = zN zz := rfl
theorem zD_eq (zz : Int32) : irem (iushr (zN zz) (8 : Int32)) (12 : Int32) = zD zz := rfl
/-- a week's draw, by both -/
theorem e_drawn {σ τ : St} (h : Rel σ τ) (x y z : Int32) : ∃ r σ' τ', f_Top_drawn σ x y z = some (r, σ') ∧ f_M_drawn τ x y z = some (r, τ') ∧ Rel σ' τ' := by
  obtain ⟨e, hB, hC, hM⟩ := rel_ew h
  have hn := hB.1
  unfold f_Top_drawn f_M_drawn
  rw [isHeat_C, isHeat_M, within_eq, in_eq, within_eq, in_eq]
  by_cases y0 : y < 0
  · rw [if_pos y0, decide_eq_false (show ¬ ((1 : Int32) ≤ y / 10 ∧ y / 10 ≤ 30) from fun ⟨q, _⟩ => by
      have := neg_div y0 (d := 10) (by decide)
      rw [il] at q
      have z1 : (1 : Int32).toInt = 1 := rfl
      have z2 : y / nI 10 = y / 10 := rfl
      rw [z2] at this
      omega)]
    exact ⟨_, _, _, rfl, rfl, h⟩
  · rw [if_neg y0]
    obtain ⟨m, hm, rfl⟩ := nI_of y0
    have ed : nI m / 10 = nI (m / 10) := pk_div (d := 10) hm (by decide) (by decide)
    have er : irem (nI m) 10 = nI (m % 10) := pk_rem (d := 10) hm (by decide) (by decide)
    rw [ed, er]
    simp only [bind_s]
    by_cases h1 : (1 : Int32) ≤ nI (m / 10) ∧ nI (m / 10) ≤ 30
    · rw [decide_eq_true h1, b2_t, if_neg i10, if_neg i10]
      by_cases h2 : (3 : Int32) ≤ nI (m % 10) ∧ nI (m % 10) ≤ 9
      · rw [decide_eq_true h2, b2_t, if_neg i10, if_neg i10]
        by_cases h3 : (0 : Int32) ≤ z ∧ z ≤ 1
        · rw [decide_eq_true h3, b2_t, if_neg i10, if_neg i10]
          have w30 : m / 10 ≤ 30 := ((btw (a := 1) (b := 30) (by omega) (by decide) (by decide)).mp h1).2
          have w9 : m % 10 ≤ 9 := by omega
          generalize hw : m % 10 = w at w9 er
          generalize hN : m / 10 = N at w30 ed
          have hg := fun t (ht : t < e.1) => gN_le hB w9 ht
          obtain ⟨σ1, w1, wk, wh, wg⟩ := warm_C hB hC w9
          rw [w1, bind_s]
          -- the draws of a week
          have inner := fun σ2 (a1 : kC σ2 = kC σ) τ2 (a2 : kM τ2 = kM τ) (k50 : St → Int32 → Int32 → Int32 → Int32 → Int32 → Int32 → Option (Int32 × St)) (s1 s2 s3 : Int32) =>
            loopF (n := e.1) (P := fun t fuel => ∀ (zz : Int32) (b : Nat), b < 2 ^ e.1 → ∃ (zz' : Int32) (b' : Nat), b' < 2 ^ e.1 ∧ f_Tub_draw_7 fuel σ2 zz (nI b) (nI t) = f_Tub_draw_7 1 σ2 zz' (nI b') (nI e.1) ∧ f_M_drawn_65 k50 fuel τ2 (nI m) z zz s1 s2 s3 (nI b) (nI t) = f_M_drawn_65 k50 1 τ2 (nI m) z zz' s1 s2 s3 (nI b') (nI e.1)) (fun f zz b hb => by
              refine ⟨zz, b, hb, ?_, ?_⟩
              · unfold f_Tub_draw_7
                rw [(ewC_k a1 hC).1, if_pos (nI_le (Nat.le_refl _) (by omega)), if_pos (nI_le (Nat.le_refl _) (by omega))]
              · unfold f_M_drawn_65
                rw [(ewM_k a2 hM).1, if_pos (nI_le (Nat.le_refl _) (by omega)), if_pos (nI_le (Nat.le_refl _) (by omega))]) (fun t f ht ih zz b hb => by
              have hC2 := ewC_k a1 hC
              have hM2 := ewM_k a2 hM
              have pt : (2 : Nat) ^ t < 2 ^ e.1 := Nat.pow_lt_pow_right (by decide) ht
              have hlt : b ||| 2 ^ t < 2 ^ e.1 := Nat.or_lt_two_pow hb pt
              have hb10 := p10 hn hb
              have hp10 := p10 hn pt
              have hset : nI b ||| ((1 : Int32) <<< (nI t &&& 31)) = nI (b ||| 2 ^ t) := by rw [shl1_nI (by omega), or_nI (by omega) (by omega)]
              have eC : f_Tub_draw_7 (f + 1) σ2 zz (nI b) (nI t) = if (6 : Int32) ≤ (zD zz) then f_Tub_draw_7 f σ2 (zN zz) (nI b) (nI (t + 1)) else (if b2 (goN e (b ||| 2 ^ t)) = 0 then f_Tub_draw_7 f σ2 (zN zz) (nI b) (nI (t + 1)) else f_Tub_draw_7 f σ2 (zN zz) (nI (b ||| 2 ^ t)) (nI (t + 1))) := by
                conv => lhs; unfold f_Tub_draw_7
                rw [zN_eq, zD_eq, hC2.1, if_neg (nI_ge ht (by omega)), hset, mayGo_C hB hC2 hlt, bind_s, nI_1]
              have eM : f_M_drawn_65 k50 (f + 1) τ2 (nI m) z zz s1 s2 s3 (nI b) (nI t) = if (6 : Int32) ≤ (zD zz) then f_M_drawn_65 k50 f τ2 (nI m) z (zN zz) s1 s2 s3 (nI b) (nI (t + 1)) else (if b2 (goN e (b ||| 2 ^ t)) = 0 then f_M_drawn_65 k50 f τ2 (nI m) z (zN zz) s1 s2 s3 (nI b) (nI (t + 1)) else f_M_drawn_65 k50 f τ2 (nI m) z (zN zz) s1 s2 s3 (nI (b ||| 2 ^ t)) (nI (t + 1))) := by
                conv => lhs; unfold f_M_drawn_65
                rw [zN_eq, zD_eq, hM2.1, if_neg (nI_ge ht (by omega)), hset, goesSo_M hB hM2 hlt, bind_s, nI_1]
              rw [eC, eM]
              by_cases q6 : (6 : Int32) ≤ (zD zz)
              · rw [if_pos q6, if_pos q6]; exact ih _ b hb
              · rw [if_neg q6, if_neg q6]
                by_cases qg : b2 (goN e (b ||| 2 ^ t)) = 0
                · rw [if_pos qg, if_pos qg]; exact ih _ b hb
                · rw [if_neg qg, if_neg qg]; exact ih _ _ hlt)
            0 (Nat.zero_le _) FU (by show _ < 1000; omega)
          have main := loopF (n := N) (P := fun k fuel => ∀ (zz s1 s2 : Int32) σ2 τ2, kC σ2 = kC σ → kM τ2 = kM τ → σ2.1 3903 = nI w → (∀ v, v < e.1 → σ2.2.1 40 v = nI (gN e w v)) → ∃ r σ' τ', f_Top_drawn_57 fuel σ2 (nI m) z zz s1 s2 (nI k) = some (r, σ') ∧ f_M_drawn_50 fuel τ2 (nI m) z zz s1 s2 (nI k) = some (r, τ') ∧ kC σ' = kC σ ∧ kM τ' = kM τ) (fun f zz s1 s2 σ2 τ2 a1 a2 a3 a4 => by
              unfold f_Top_drawn_57 f_M_drawn_50
              rw [ed, if_pos (nI_le (Nat.le_refl _) (by omega)), if_pos (nI_le (Nat.le_refl _) (by omega))]
              by_cases z0 : z = 0
              · rw [if_pos z0, if_pos z0]; exact ⟨_, _, _, rfl, rfl, a1, a2⟩
              · rw [if_neg z0, if_neg z0]; exact ⟨_, _, _, rfl, rfl, a1, a2⟩) (fun k f hk ih zz s1 s2 σ2 τ2 a1 a2 a3 a4 => by
              have hC2 := ewC_k a1 hC
              have hM2 := ewM_k a2 hM
              obtain ⟨zz', b', hb', i1, i2⟩ := inner σ2 a1 τ2 a2 (f_M_drawn_50 f) s1 s2 (nI k) zz 0 (Nat.two_pow_pos _)
              obtain ⟨σ3, f1, f2, f3⟩ := fill_V hB hC2 (h := w) a4 a3 hg hb' (off := 0) (by omega)
              have f1' : f_Tub_fill σ2 (nI b') 0 = some σ3 := f1
              have hls := lsN_le hB hg b' 0
              have tC := allTints_C hB f3 hg hb' (by omega)
              have sC := spoilt_C hB f3.1 f3.2.2.1 f3.2.2.2.1 hb' w9
              obtain ⟨τ3, m1, m2⟩ := tints_M hB hM2 hb' w9 (off := 0) (by omega)
              have m1' : f_M_tints τ2 (nI b') (nI w) 0 = _ := m1
              have sM := spoilt_M hB (ewM_k m2 hM2) hb' w9
              have eC : f_Tub_draw σ2 zz = some (zz', σ3) := by
                unfold f_Tub_draw
                rw [show f_Tub_draw_7 FU σ2 zz 0 0 = f_Tub_draw_7 1 σ2 zz' (nI b') (nI e.1) from i1]
                unfold f_Tub_draw_7
                rw [hC2.1, if_pos (nI_le (Nat.le_refl _) (by omega)), f1']
                rfl
              have eM : f_M_drawn_65 (f_M_drawn_50 f) FU τ2 (nI m) z zz s1 s2 (nI k) 0 0 = (if spN e w b' = 0 then f_M_drawn_50 f τ3 (nI m) z zz' (s1 + nI (alN e (gN e w) b' (lsN e (gN e w) b' 0))) s2 (nI (k + 1)) else f_M_drawn_50 f τ3 (nI m) z zz' (s1 + nI (alN e (gN e w) b' (lsN e (gN e w) b' 0))) (s2 + 1) (nI (k + 1))) := by
                rw [show f_M_drawn_65 (f_M_drawn_50 f) FU τ2 (nI m) z zz s1 s2 (nI k) 0 0 = f_M_drawn_65 (f_M_drawn_50 f) 1 τ2 (nI m) z zz' s1 s2 (nI k) (nI b') (nI e.1) from i2]
                unfold f_M_drawn_65
                rw [hM2.1, if_pos (nI_le (Nat.le_refl _) (by omega)), er, m1', bd2_s, sM, bind_s, nI_1]
              unfold f_Top_drawn_57 f_M_drawn_50
              rw [ed, if_neg (nI_ge hk (by omega)), if_neg (nI_ge hk (by omega)), eC, bd2_s, tC, bind_s, sC, bind_s, nI_1, eM]
              by_cases qs : spN e w b' = 0
              · rw [if_pos qs, if_pos qs, Int32.add_zero]
                exact ih _ _ _ σ3 τ3 (f2.trans a1) (m2.trans a2) f3.2.2.1 f3.2.1
              · rw [if_neg qs, if_neg qs]
                exact ih _ _ _ σ3 τ3 (f2.trans a1) (m2.trans a2) f3.2.2.1 f3.2.1)
            0 (Nat.zero_le _) FU (by show _ < 1000; omega) x 0 0 σ1 τ wk rfl wh wg
          obtain ⟨r, σ', τ', z1, z2, z3, z4⟩ := main
          exact ⟨r, σ', τ', z1, z2, rel_k h z3 z4⟩
        · rw [decide_eq_false h3]; exact ⟨_, _, _, rfl, rfl, h⟩
      · rw [decide_eq_false h2]; exact ⟨_, _, _, rfl, rfl, h⟩
    · rw [decide_eq_false h1]; exact ⟨_, _, _, rfl, rfl, h⟩
