/-! shift -/
theorem shift_M2 {o j n : Nat} (ho : o < 6) (hn : j + n ≤ 60) {τ0 : St} {F : Nat → Int64} : ∀ (k m : Nat) (τ : St), m + k = n → (τ.1 = τ0.1 ∧ τ.2.1 = τ0.2.1 ∧ (∀ i, i < n → τ.2.2 40 i = F i) ∧ ∀ q, τ.2.2 39 q = if 60 * o + j ≤ q ∧ q < 60 * o + j + m then F (q - (60 * o + j)) else τ0.2.2 39 q) → ∀ fuel, k < fuel →
    ∃ τe, f_M_shift_150 fuel τ (nI o) (nI j) (nI n) (nI m) = some (nI n, τe) ∧ τe.1 = τ0.1 ∧ τe.2.1 = τ0.2.1 ∧ ∀ q, τe.2.2 39 q = if 60 * o + j ≤ q ∧ q < 60 * o + j + n then F (q - (60 * o + j)) else τ0.2.2 39 q := by
  intro k
  induction k with
  | zero =>
    intro m τ hm hp fuel hf
    obtain rfl : m = n := by omega
    obtain ⟨f, rfl⟩ : ∃ f, fuel = f + 1 := ⟨fuel - 1, by omega⟩
    unfold f_M_shift_150
    rw [if_pos (nI_le (Nat.le_refl m) (by omega))]
    exact ⟨τ, rfl, hp.1, hp.2.1, hp.2.2.2⟩
  | succ k ih =>
    intro m τ hm hp fuel hf
    obtain ⟨f, rfl⟩ : ∃ f, fuel = f + 1 := ⟨fuel - 1, by omega⟩
    obtain ⟨p1, p2, p3, p4⟩ := hp
    have e : (60 : Int32) * nI o + nI j + nI m = nI (60 * o + j + m) := by
      show nI 60 * nI o + nI j + nI m = _
      rw [pk_mul, nI_add, nI_add]
    unfold f_M_shift_150
    rw [if_neg (nI_ge (by omega) (by omega)), e, inb_nI (show m < 60 by omega) (by decide), inb_nI (show 60 * o + j + m < 360 by omega) (by decide), nIt (by omega), nIt (by omega)]
    simp only [cond_true, nI_1]
    refine ih (m + 1) _ (by omega) ?_ f (by omega)
    refine ⟨p1, p2, fun i hi => ?_, fun q => ?_⟩
    · rw [upL_3, if_neg (by decide)]; exact p3 i hi
    · rw [upL_3, if_pos rfl]
      unfold vp_updL
      by_cases eq : q = 60 * o + j + m
      · rw [if_pos eq, if_pos (by omega), p3 m (by omega)]
        congr 1
        omega
      · rw [if_neg eq, p4 q]
        by_cases c : 60 * o + j ≤ q ∧ q < 60 * o + j + m
        · rw [if_pos c, if_pos (by omega)]
        · rw [if_neg c, if_neg (by omega)]
theorem shift_M1 {s i o j n : Nat} (hs : s < 6) (hi : i + n ≤ 60) (ho : o < 6) (hn : j + n ≤ 60) {τ0 : St} : ∀ (k m : Nat) (τ : St), m + k = n → (τ.1 = τ0.1 ∧ τ.2.1 = τ0.2.1 ∧ τ.2.2 39 = τ0.2.2 39 ∧ ∀ u, u < m → τ.2.2 40 u = τ0.2.2 39 (60 * s + i + u)) → ∀ fuel, k < fuel →
    ∃ τe, f_M_shift_113 fuel τ (nI s) (nI i) (nI o) (nI j) (nI n) (nI m) = some (nI n, τe) ∧ τe.1 = τ0.1 ∧ τe.2.1 = τ0.2.1 ∧ ∀ q, τe.2.2 39 q = if 60 * o + j ≤ q ∧ q < 60 * o + j + n then τ0.2.2 39 (60 * s + i + (q - (60 * o + j))) else τ0.2.2 39 q := by
  intro k
  induction k with
  | zero =>
    intro m τ hm hp fuel hf
    obtain rfl : m = n := by omega
    obtain ⟨f, rfl⟩ : ∃ f, fuel = f + 1 := ⟨fuel - 1, by omega⟩
    unfold f_M_shift_113
    rw [if_pos (nI_le (Nat.le_refl m) (by omega))]
    obtain ⟨p1, p2, p3, p4⟩ := hp
    exact shift_M2 ho hn (F := fun u => τ0.2.2 39 (60 * s + i + u)) m 0 τ (by omega) ⟨p1, p2, p4, fun q => by rw [if_neg (by omega), p3]⟩ FU (by show m < 1000; omega)
  | succ k ih =>
    intro m τ hm hp fuel hf
    obtain ⟨f, rfl⟩ : ∃ f, fuel = f + 1 := ⟨fuel - 1, by omega⟩
    obtain ⟨p1, p2, p3, p4⟩ := hp
    have e : (60 : Int32) * nI s + nI i + nI m = nI (60 * s + i + m) := by
      show nI 60 * nI s + nI i + nI m = _
      rw [pk_mul, nI_add, nI_add]
    unfold f_M_shift_113
    rw [if_neg (nI_ge (by omega) (by omega)), e, inb_nI (show m < 60 by omega) (by decide), inb_nI (show 60 * s + i + m < 360 by omega) (by decide), nIt (by omega), nIt (by omega)]
    simp only [cond_true, nI_1]
    refine ih (m + 1) _ (by omega) ?_ f (by omega)
    refine ⟨p1, p2, ?_, fun u hu => ?_⟩
    · rw [upL_3, if_neg (by decide)]; exact p3
    · rw [upL_3, if_pos rfl]
      unfold vp_updL
      by_cases eu : u = m
      · rw [if_pos eu, p3, eu]
      · rw [if_neg eu]; exact p4 u (by omega)
theorem sub_toInt {L : Nat} (hL : L ≤ 60) {n : Int32} (hn : ¬ n < 0) : (nI L - n).toInt = (L : Int) - n.toInt := by
  obtain ⟨k, hk, rfl⟩ := nI_of hn
  rw [Int32.toInt_sub, nI_toInt (by omega), nI_toInt hk]
  rw [Int.bmod_def]
  split <;> omega
theorem hasPlaces_C {σ : St} {j s L : Nat} (hs : s < 5) (hL : L ≤ 60) (h1 : σ.1 (4201 + 200 * j) = nI s) (h2 : σ.1 (4203 + 200 * j) = nI L) (i n : Int32) : f_Shelf_hasPlaces σ j i n = some (b2 (decide (0 ≤ i ∧ 0 ≤ n ∧ i.toInt + n.toInt ≤ L))) := by
  unfold f_Shelf_hasPlaces
  rw [isRow_C, h1, h2, bind_s, decide_eq_true (nI_pos' (by omega)), b2_t, if_neg i10]
  have z0 : (0 : Int32).toInt = 0 := rfl
  by_cases c1 : i < 0
  · rw [if_pos c1, decide_eq_false (fun q => by have := q.1; rw [il] at this; rw [it] at c1; omega)]; rfl
  · rw [if_neg c1]
    by_cases c2 : n < 0
    · rw [if_pos c2, decide_eq_false (fun q => by have := q.2.1; rw [il] at this; rw [it] at c2; omega)]; rfl
    · rw [if_neg c2]
      have e := sub_toInt hL c2
      have p1 : 0 ≤ i := by rw [il]; rw [it] at c1; omega
      have p2 : 0 ≤ n := by rw [il]; rw [it] at c2; omega
      by_cases c3 : nI L < n
      · rw [if_pos c3, decide_eq_false (fun q => by have := q.2.2; have p1' := (il _ _).mp p1; rw [it, nI_toInt (by omega)] at c3; omega)]; rfl
      · rw [if_neg c3]
        by_cases c4 : nI L - n < i
        · rw [if_pos c4, decide_eq_false (fun q => by have := q.2.2; rw [it, e] at c4; omega)]; rfl
        · rw [if_neg c4, decide_eq_true ⟨p1, p2, by rw [it, e] at c4; omega⟩]; rfl
theorem e_shift {σ τ : St} (h : Rel σ τ) (x i y j n : Int32) : ∃ r σ' τ', f_Top_shift σ x i y j n = some (r, σ') ∧ f_M_shift τ x i y j n = some (r, τ') ∧ Rel σ' τ' := by
  obtain ⟨N, bn, h1, h2, h3, h4, h5, h6, h7, h8⟩ := id h
  have hb := h7.1
  have z0 : (0 : Int32).toInt = 0 := rfl
  unfold f_Top_shift f_M_shift
  rcases isShelf_2 x with ⟨g1, g2⟩ | ⟨a, ha, rfl, g1, g2⟩
  · rw [g1, g2]; exact ⟨_, _, _, rfl, rfl, h⟩
  · rw [g1, g2]
    simp only [bind_s, i10, if_false]
    rcases isShelf_2 y with ⟨g1, g2⟩ | ⟨o, ho, rfl, g1, g2⟩
    · rw [g1, g2]; exact ⟨_, _, _, rfl, rfl, h⟩
    · rw [g1, g2]
      simp only [bind_s, i10, if_false, inb_nI ha (by decide), inb_nI ho (by decide), cond_true, nIt (show a < 2 ^ 31 by omega), nIt (show o < 2 ^ 31 by omega)]
      rcases h8 a ha with ⟨q1, q2⟩ | ⟨q1, b, hb2, q2, q3⟩ | ⟨s, hs, q1, q2, L, hL, q3, q4, q5⟩
      · rw [q1, q2]; exact ⟨_, _, _, rfl, rfl, h⟩
      · have c1 : ¬ (-1 : Int32) = -2 := by decide
        have c2 : ¬ nI b = (-1 : Int32) := m1_ne (by omega)
        have c3 : (0 : Int32) ≤ nI b := nI_pos' (by omega)
        rw [isRow_C, q1, q3]
        simp only [c1, c2, c3, if_false, if_true]
        rcases h8 o ho with ⟨w1, w2⟩ | ⟨w1, b', hb2', w2, w3⟩ | ⟨s', hs', w1, w2, -⟩
        · rw [w1, w2]; exact ⟨_, _, _, rfl, rfl, h⟩
        · rw [w1, w3, if_neg c1, if_neg (m1_ne (by omega))]; exact ⟨_, _, _, rfl, rfl, h⟩
        · rw [w1, w2, if_neg (m2_ne (by omega)), if_neg (hold_neg hs').1]; exact ⟨_, _, _, rfl, rfl, h⟩
      · obtain ⟨c1, c2, c3, c4⟩ := hold_neg hs
        have c5 : ¬ nI s = (-2 : Int32) := m2_ne (by omega)
        rw [isRow_C, hasPlaces_C hs hL q1 q3, q1, q2, decide_eq_true (nI_pos' (show s < 2 ^ 31 by omega))]
        simp only [c1, c3, c5, if_false, bind_s, b2_t, i10]
        rcases h8 o ho with ⟨w1, w2⟩ | ⟨w1, b', hb2', w2, w3⟩ | ⟨s', hs', w1, w2, L', hL', w3, w4, w5⟩
        · rw [w1, w2]; exact ⟨_, _, _, rfl, rfl, h⟩
        · rw [w1, w3, if_neg (show ¬ (-1 : Int32) = -2 by decide), if_neg (m1_ne (show s < 2 ^ 31 by omega)), if_neg (m1_ne (show b' < 2 ^ 31 by omega)), if_neg (show ¬ -2 - nI s = nI b' from fun q => by
            have := c2; rw [q] at this; exact nI_pos (by omega) this)]
          exact ⟨_, _, _, rfl, rfl, h⟩
        · rw [w1, w2, if_neg (m2_ne (show s' < 2 ^ 31 by omega)), if_neg (hold_neg hs').1]
          by_cases es : s = s'
          · subst es
            rw [if_pos rfl, if_pos rfl, hasPlaces_C hs hL' w1 w3, q4, w4]
            simp only [bind_s]
            by_cases n0 : n < 0
            · rw [if_pos n0, decide_eq_false (fun q => by have := q.2.1; rw [il] at this; rw [it] at n0; omega)]
              exact ⟨_, _, _, rfl, rfl, h⟩
            · rw [if_neg n0]
              have eL := sub_toInt hL n0
              have eL' := sub_toInt hL' n0
              by_cases i0 : i < 0
              · rw [if_pos i0, decide_eq_false (fun q => by have := q.1; rw [il] at this; rw [it] at i0; omega)]
                exact ⟨_, _, _, rfl, rfl, h⟩
              · rw [if_neg i0]
                have pi : 0 ≤ i := by rw [il]; rw [it] at i0; omega
                have pn : 0 ≤ n := by rw [il]; rw [it] at n0; omega
                by_cases d1 : nI L - n < i
                · rw [decide_eq_false (fun q => by have := q.2.2; rw [it, eL] at d1; omega)]
                  refine ⟨_, _, _, rfl, ?_, h⟩
                  by_cases j0 : j < 0
                  · rw [if_pos j0]
                  · rw [if_neg j0, if_pos d1]
                · have D1 : 0 ≤ i ∧ 0 ≤ n ∧ i.toInt + n.toInt ≤ L := ⟨pi, pn, by rw [it, eL] at d1; omega⟩
                  rw [decide_eq_true D1]
                  simp only [b2_t, i10, if_false]
                  by_cases j0 : j < 0
                  · rw [if_pos j0, decide_eq_false (fun q => by have := q.1; rw [il] at this; rw [it] at j0; omega)]
                    exact ⟨_, _, _, rfl, rfl, h⟩
                  · rw [if_neg j0, if_neg d1]
                    have pj : 0 ≤ j := by rw [il]; rw [it] at j0; omega
                    by_cases d2 : j ≤ nI L' - n
                    · have D2 : 0 ≤ j ∧ 0 ≤ n ∧ j.toInt + n.toInt ≤ L' := ⟨pj, pn, by rw [il, eL'] at d2; omega⟩
                      rw [if_pos d2, decide_eq_true D2]
                      obtain ⟨i', hi', rfl⟩ := nI_of i0
                      obtain ⟨j', hj', rfl⟩ := nI_of j0
                      obtain ⟨n', hn', rfl⟩ := nI_of n0
                      have D1' := D1.2.2
                      have D2' := D2.2.2
                      rw [nI_toInt hi', nI_toInt hn'] at D1'
                      rw [nI_toInt hj', nI_toInt hn'] at D2'
                      have cp : cpok (nI i') (nI j') (nI n') 60 60 = true := by
                        apply decide_eq_true
                        rw [nIt hi', nIt hj', nIt hn']
                        exact ⟨i0, j0, n0, by omega, by omega⟩
                      obtain ⟨τe, k1, k2, k3, k4⟩ := shift_M1 (s := a) (i := i') (o := o) (j := j') (n := n') ha (by omega) ho (by omega) (τ0 := τ) n' 0 τ (by omega) ⟨rfl, rfl, rfl, fun u hu => by omega⟩ FU (by show n' < 1000; omega)
                      have k1' : f_M_shift_113 FU τ (nI a) (nI i') (nI o) (nI j') (nI n') (0 : Int32) = some (nI n', τe) := k1
                      rw [k1', cp]
                      simp only [b2_t, i10, if_false, cond_true, nIt hi', nIt hj', nIt hn']
                      refine ⟨_, _, τe, rfl, rfl, N, bn, relT_c h1 rfl rfl (by rw [k2]) ?_, relG_c h2 rfl rfl (by rw [k3]) (by rw [k3]), relCh_c h3 rfl rfl rfl rfl rfl (by rw [k2]) (by rw [k2]) (by rw [k3]) (by rw [k3]) (by rw [k3]) (by rw [k3]), relTp_c h4 rfl rfl (by rw [k2]) (by rw [k3]), relL_c h5 rfl rfl (by rw [k2]) (by rw [k3]) (by rw [k3]) (by rw [k3]) (by rw [k3]) (by rw [k3]), relD_c h6 rfl rfl rfl rfl rfl rfl (by rw [k2]) (by rw [k2]) (by rw [k3]) (by rw [k3]) (by rw [k3]) (by rw [k3]) (by rw [k3]) (by rw [k3]), relS_c h7 rfl rfl rfl rfl (by rw [k2]) (by rw [k2]) (by rw [k3]) (by rw [k3]), relSh_at (j0 := o) h8 ?_ (fun b b1 b2 => ⟨rfl, rfl, rfl, ?_, by rw [k3], by rw [k3], fun u hu => ?_⟩)⟩
                      · rw [eqT, k2, k3]
                        exact ⟨rfl, rfl, rfl, rfl, rfl, rfl, rfl, rfl, rfl, rfl, rfl, rfl⟩
                      · refine Or.inr (Or.inr ⟨s, hs, w1, by rw [k3]; exact w2, L', hL', w3, by rw [k3]; exact w4, fun u hu => ?_⟩)
                        show (stL σ (43 + 2 * o) (va_cpy (σ.2.2 (43 + 2 * a)) (σ.2.2 (43 + 2 * o)) i' j' n')).2.2 (43 + 2 * o) u = τe.2.2 39 (60 * o + u) ∧ (s ≤ 1 → ∃ x : Int32, (stL σ (43 + 2 * o) (va_cpy (σ.2.2 (43 + 2 * a)) (σ.2.2 (43 + 2 * o)) i' j' n')).2.2 (43 + 2 * o) u = x.toInt64)
                        rw [stL_3, if_pos rfl, k4]
                        unfold va_cpy
                        by_cases cu : j' ≤ u ∧ u < j' + n'
                        · rw [if_pos cu, if_pos (by omega), show 60 * a + i' + (60 * o + u - (60 * o + j')) = 60 * a + (i' + (u - j')) by omega]
                          exact q5 (i' + (u - j')) (by omega)
                        · rw [if_neg cu, if_neg (by omega)]
                          exact w5 u hu
                      · rw [stL_3, if_neg (by omega)]
                      · rw [k4, if_neg (by omega)]
                    · rw [if_neg d2, decide_eq_false (fun q => d2 (by rw [il, eL']; have := q.2.2; omega))]
                      exact ⟨_, _, _, rfl, rfl, h⟩
          · rw [if_neg (fun q => es ((nI_eq (by omega) (by omega)).mp q)), if_neg (fun q => es (by
              have := congrArg (fun z => (-2 : Int32) - z) q
              simp only [c4, (hold_neg hs').2.2.2] at this
              exact (nI_eq (by omega) (by omega)).mp this))]
            exact ⟨_, _, _, rfl, rfl, h⟩
