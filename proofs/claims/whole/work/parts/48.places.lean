/-! put, element, shift, taken -/
theorem isRow_C {σ : St} {j : Nat} : f_Shelf_isRow σ j = some (b2 (decide (0 ≤ σ.1 (4201 + 200 * j)))) := by
  unfold f_Shelf_isRow
  by_cases h : σ.1 (4201 + 200 * j) < 0
  · rw [if_pos h, decide_eq_false (by rw [il]; rw [it] at h; omega)]; rfl
  · rw [if_neg h, decide_eq_true (by rw [il]; rw [it] at h; omega)]; rfl
theorem hasPlace_C {σ : St} {j s L : Nat} (hs : s < 5) (h1 : σ.1 (4201 + 200 * j) = nI s) (h2 : σ.1 (4203 + 200 * j) = nI L) (i : Int32) : f_Shelf_hasPlace σ j i = some (b2 (decide (0 ≤ i ∧ i ≤ nI L - 1))) := by
  unfold f_Shelf_hasPlace
  rw [isRow_C, h1, h2, within_eq, bind_s, decide_eq_true (nI_pos' (by omega)), b2_t, if_neg i10, bind_s]
  cases decide (0 ≤ i ∧ i ≤ nI L - 1) <;> rfl
theorem hold_neg {s : Nat} (hs : s < 5) : ¬ (-2 - nI s = (-1 : Int32)) ∧ (-2 - nI s) < (0 : Int32) ∧ ¬ (0 : Int32) ≤ -2 - nI s ∧ (-2 : Int32) - (-2 - nI s) = nI s := by
  match s, hs with
  | 0, _ => decide
  | 1, _ => decide
  | 2, _ => decide
  | 3, _ => decide
  | 4, _ => decide
theorem place_2 {bn : Nat} {σ τ : St} (hb : bn ≤ 50) (h8 : relSh bn σ τ) (x i : Int32) : (∃ r : Int32, ¬ r = 0 ∧ ¬ 0 ≤ r ∧ f_Top_placeRefusal σ x i = some r ∧ f_M_whyNoPlace τ x i = some r) ∨
    ∃ j k s L : Nat, j < 6 ∧ x = nI j ∧ i = nI k ∧ k < L ∧ L ≤ 60 ∧ s < 5 ∧ σ.1 (4201 + 200 * j) = nI s ∧ τ.2.1 37 j = -2 - nI s ∧ σ.1 (4203 + 200 * j) = nI L ∧ τ.2.1 38 j = nI L ∧ (∀ i, i < L → σ.2.2 (43 + 2 * j) i = τ.2.2 39 (60 * j + i) ∧ (s ≤ 1 → ∃ y : Int32, σ.2.2 (43 + 2 * j) i = y.toInt64)) ∧ f_Top_placeRefusal σ x i = some 0 ∧ f_M_whyNoPlace τ x i = some 0 := by
  unfold f_Top_placeRefusal f_M_whyNoPlace
  rcases isShelf_2 x with ⟨g1, g2⟩ | ⟨j, hj, rfl, g1, g2⟩
  · rw [g1, g2]; exact Or.inl ⟨-1, by decide, by decide, rfl, rfl⟩
  · rw [g1, g2]
    simp only [bind_s, i10, if_false, inb_nI hj (by decide), cond_true, nIt (show j < 2 ^ 31 by omega)]
    rcases h8 j hj with ⟨q1, q2⟩ | ⟨q1, b, hb2, q2, q3⟩ | ⟨s, hs, q1, q2, L, hL, q3, q4, q5⟩
    · rw [q1, q2]; exact Or.inl ⟨-11, by decide, by decide, rfl, rfl⟩
    · have c1 : ¬ (-1 : Int32) = -2 := by decide
      have c2 : ¬ nI b = (-1 : Int32) := m1_ne (by omega)
      have c3 : ¬ nI b < (0 : Int32) := nI_pos (by omega)
      rw [isRow_C, q1, q3]
      simp only [c1, c2, c3, if_false]
      exact Or.inl ⟨-12, by decide, by decide, rfl, rfl⟩
    · obtain ⟨c1, c2, c3, c4⟩ := hold_neg hs
      have c5 : ¬ nI s = (-2 : Int32) := m2_ne (by omega)
      rw [hasPlace_C hs q1 q3, isRow_C, q1, q2, q4, in_eq, decide_eq_true (nI_pos' (show s < 2 ^ 31 by omega))]
      simp only [c1, c2, c5, if_false, if_true, bind_s, b2_t, i10]
      by_cases hv : (0 : Int32) ≤ i ∧ i ≤ nI L - 1
      · obtain ⟨k, hk, rfl⟩ := (isT (by omega) i).mp hv
        simp only [decide_eq_true hv, b2_t, i10, if_false]
        exact Or.inr ⟨j, k, s, L, hj, rfl, rfl, hk, hL, hs, q1, q2, q3, q4, q5, by trivial, by trivial⟩
      · simp only [decide_eq_false hv, b2_f, if_true]
        exact Or.inl ⟨-13, by decide, by decide, rfl, rfl⟩
theorem e_element {σ τ : St} (h : Rel σ τ) (x i : Int32) : ∃ r, f_Top_element σ x i = some r ∧ f_M_element τ x i = some r := by
  obtain ⟨n, bn, h1, h2, h3, h4, h5, h6, h7, h8⟩ := id h
  unfold f_Top_element f_M_element
  rcases place_2 h7.1 h8 x i with ⟨r, r1, r2, g1, g2⟩ | ⟨j, k, s, L, hj, rfl, rfl, hk, hL, hs, q1, q2, q3, q4, q5, g1, g2⟩
  · rw [g1, g2]
    simp only [bind_s, r1, r2, if_false]
    exact ⟨_, rfl, rfl⟩
  · rw [g1, g2]
    have e : (60 : Int32) * nI j + nI k = nI (60 * j + k) := by show nI 60 * nI j + nI k = _; rw [pk_mul, nI_add]
    simp only [bind_s, if_true, show (0 : Int32) ≤ 0 by decide, e, inb_nI hj (by decide), inb_nI (show k < 60 by omega) (by decide), inb_nI (show 60 * j + k < 360 by omega) (by decide), cond_true, nIt (show j < 2 ^ 31 by omega), nIt (show k < 2 ^ 31 by omega), nIt (show 60 * j + k < 2 ^ 31 by omega)]
    exact ⟨_, rfl, by rw [(q5 k hk).1]⟩
theorem e_put {σ τ : St} (h : Rel σ τ) (x i : Int32) (v : Int64) : ∃ r σ' τ', f_Top_put σ x i v = some (r, σ') ∧ f_M_put τ x i v = some (r, τ') ∧ Rel σ' τ' := by
  obtain ⟨n, bn, h1, h2, h3, h4, h5, h6, h7, h8⟩ := id h
  unfold f_Top_put f_M_put
  rcases place_2 h7.1 h8 x i with ⟨r, r1, r2, g1, g2⟩ | ⟨j, k, s, L, hj, rfl, rfl, hk, hL, hs, q1, q2, q3, q4, q5, g1, g2⟩
  · rw [g1, g2]
    simp only [bind_s, r1, r2, if_false]
    exact ⟨_, _, _, rfl, rfl, h⟩
  · rw [g1, g2]
    obtain ⟨-, -, -, c4⟩ := hold_neg hs
    have e : (60 : Int32) * nI j + nI k = nI (60 * j + k) := by show nI 60 * nI j + nI k = _; rw [pk_mul, nI_add]
    have hpl : (0 : Int32) ≤ nI k ∧ nI k ≤ nI L - 1 := (isT (by omega) _).mpr ⟨k, hk, rfl⟩
    unfold f_Shelf_write
    simp only [bind_s, if_true, show (0 : Int32) ≤ 0 by decide, e, inb_nI hj (by decide), inb_nI (show k < 60 by omega) (by decide), inb_nI (show 60 * j + k < 360 by omega) (by decide), cond_true, nIt (show j < 2 ^ 31 by omega), nIt (show k < 2 ^ 31 by omega), nIt (show 60 * j + k < 2 ^ 31 by omega), q2, c4, hasPlace_C hs q1 q3, decide_eq_true hpl, b2_t, i10, if_false]
    have fin : ∀ w : Int64, (s ≤ 1 → ∃ y : Int32, w = y.toInt64) → Rel (upL σ (43 + 2 * j) k w) (upL τ 39 (60 * j + k) w) := by
      intro w hw
      refine ⟨n, bn, relT_c h1, relG_c h2, relCh_c h3, relTp_c h4, relL_c h5, relD_c h6, relS_c h7, relSh_at (j0 := j) h8 ?_ (fun b b1 b2 => ⟨rfl, rfl, rfl, ?_, rfl, rfl, fun i hi => ?_⟩)⟩
      · refine Or.inr (Or.inr ⟨s, hs, q1, q2, L, hL, q3, q4, fun i hi => ?_⟩)
        show (upL σ (43 + 2 * j) k w).2.2 (43 + 2 * j) i = (upL τ 39 (60 * j + k) w).2.2 39 (60 * j + i) ∧ _
        rw [upL_3, upL_3, if_pos rfl, if_pos rfl]
        unfold vp_updL
        by_cases ei : i = k
        · rw [if_pos ei, if_pos (by omega)]
          exact ⟨rfl, hw⟩
        · rw [if_neg ei, if_neg (by omega)]
          exact q5 i hi
      · rw [upL_3, if_neg (by omega)]
      · rw [upL_3, if_pos rfl]
        unfold vp_updL
        rw [if_neg (by omega)]
    unfold f_Shelf_lowest
    rw [q1]
    rcases (show s = 0 ∨ s = 1 ∨ s = 2 ∨ s = 3 ∨ s = 4 by omega) with rfl | rfl | rfl | rfl | rfl
    · rw [if_pos (show nI 0 = (0 : Int32) from rfl), if_pos (show nI 0 = (0 : Int32) from rfl)]
      exact ⟨_, _, _, rfl, rfl, fin _ (fun _ => ⟨_, rfl⟩)⟩
    · rw [if_neg (show ¬ nI 1 = (0 : Int32) by decide), if_neg (show ¬ nI 1 = (0 : Int32) by decide), if_pos (show nI 1 = (1 : Int32) from rfl), if_pos (show nI 1 = (1 : Int32) from rfl)]
      exact ⟨_, _, _, rfl, rfl, fin _ (fun _ => ⟨_, rfl⟩)⟩
    · rw [if_neg (show ¬ nI 2 = (0 : Int32) by decide), if_neg (show ¬ nI 2 = (0 : Int32) by decide), if_neg (show ¬ nI 2 = (1 : Int32) by decide), if_neg (show ¬ nI 2 = (1 : Int32) by decide), if_pos (show nI 2 = (2 : Int32) from rfl), if_pos (show nI 2 = (2 : Int32) from rfl)]
      exact ⟨_, _, _, rfl, rfl, fin _ (fun q => by omega)⟩
    · rw [if_neg (show ¬ nI 3 = (0 : Int32) by decide), if_neg (show ¬ nI 3 = (0 : Int32) by decide), if_neg (show ¬ nI 3 = (1 : Int32) by decide), if_neg (show ¬ nI 3 = (1 : Int32) by decide), if_neg (show ¬ nI 3 = (2 : Int32) by decide), if_neg (show ¬ nI 3 = (2 : Int32) by decide), if_pos (show nI 3 = (3 : Int32) from rfl), if_pos (show nI 3 = (3 : Int32) from rfl)]
      exact ⟨_, _, _, rfl, rfl, fin _ (fun q => by omega)⟩
    · rw [if_neg (show ¬ nI 4 = (0 : Int32) by decide), if_neg (show ¬ nI 4 = (0 : Int32) by decide), if_neg (show ¬ nI 4 = (1 : Int32) by decide), if_neg (show ¬ nI 4 = (1 : Int32) by decide), if_neg (show ¬ nI 4 = (2 : Int32) by decide), if_neg (show ¬ nI 4 = (2 : Int32) by decide), if_neg (show ¬ nI 4 = (3 : Int32) by decide), if_neg (show ¬ nI 4 = (3 : Int32) by decide), if_pos (show nI 4 = (4 : Int32) from rfl)]
      by_cases hc : lg_cmp v 0 = 0
      · rw [if_pos hc, if_pos hc]
        exact ⟨_, _, _, rfl, rfl, fin _ (fun q => by omega)⟩
      · rw [if_neg hc, if_neg hc]
        exact ⟨_, _, _, rfl, rfl, fin _ (fun q => by omega)⟩
theorem under_eq : ∀ k t : Fin 8, f_Socks_isUnder (nI k.1) (nI t.1) = f_M_isUnder (nI k.1) (nI t.1) ∧ (f_M_isUnder (nI k.1) (nI t.1)).isSome = true := by decide +kernel
theorem e_taken {σ τ : St} (h : Rel σ τ) (x y : Int32) : ∃ r, f_Top_taken σ x y = some r ∧ f_M_taken τ x y = some r := by
  obtain ⟨n, bn, h1, h2, h3, h4, h5, h6, h7, h8⟩ := id h
  have hb := h7.1
  unfold f_Top_taken f_M_taken
  rcases isShelf_2 x with ⟨g1, g2⟩ | ⟨j, hj, rfl, g1, g2⟩
  · rw [g1, g2]; exact ⟨_, rfl, rfl⟩
  · rw [g1, g2, within_eq, in_eq]
    simp only [bind_s, i10, if_false, inb_nI hj (by decide), cond_true, nIt (show j < 2 ^ 31 by omega)]
    by_cases hv : (0 : Int32) ≤ y ∧ y ≤ 7
    · obtain ⟨t, ht, rfl⟩ := (isT (n := 8) (by decide) y).mp hv
      simp only [decide_eq_true hv, b2_t, i10, if_false]
      rcases h8 j hj with ⟨q1, q2⟩ | ⟨q1, b, hb2, q2, q3⟩ | ⟨s, hs, q1, q2, -⟩
      · rw [q1, q2]; exact ⟨_, rfl, rfl⟩
      · have c1 : ¬ (-1 : Int32) = -2 := by decide
        have c2 : ¬ nI b = (-1 : Int32) := m1_ne (by omega)
        have c3 : ¬ nI b < (0 : Int32) := nI_pos (by omega)
        obtain ⟨-, -, -, h74, -⟩ := id h7
        obtain ⟨e1, k, hk, e2⟩ := h74 b hb2
        have e3 : f_Socks_isBody σ (nI b) = some 1 := by
          rcases isBody_2 h7 (nI b) with ⟨p1, -⟩ | ⟨c, -, -, p1, -⟩
          · unfold f_Socks_isBody at p1
            rw [h7.2.1, within_eq, bind_s, bif_t (zb_b2 _), decide_eq_true ((isT (by omega) _).mpr ⟨b, hb2, rfl⟩)] at p1
            exact absurd p1 (by decide)
          · exact p1
        simp only [q1, q2, q3, c1, c2, c3, if_false, if_true, e3, bind_s, i10, inb_nI (show b < 50 by omega) (by decide), cond_true, nIt (show b < 2 ^ 31 by omega), e1, e2]
        obtain ⟨u1, u2⟩ := under_eq ⟨k, hk⟩ ⟨t, ht⟩
        simp only at u1 u2
        rw [u1]
        obtain ⟨r, hr⟩ := Option.isSome_iff_exists.mp u2
        rw [hr]
        exact (fun ⟨r, hr⟩ => ⟨r, hr, hr⟩ : (∃ r', (if r = 0 then some (-12 : Int32) else some (nI k)) = some r') → _) (by split <;> exact ⟨_, rfl⟩)
      · obtain ⟨c1, c2, c3, c4⟩ := hold_neg hs
        have c5 : ¬ nI s = (-2 : Int32) := m2_ne (by omega)
        have c6 : ¬ nI s = (-1 : Int32) := m1_ne (by omega)
        rw [q1, q2]
        simp only [c1, c2, c5, c6, if_false, if_true]
        exact ⟨_, rfl, rfl⟩
    · simp only [decide_eq_false hv, b2_f, if_true]
      exact ⟨_, rfl, rfl⟩
