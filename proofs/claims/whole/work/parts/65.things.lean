/-! things from a row -/
theorem lN_t {n : Nat} (h : n < 2 ^ 40) : (lN n).toInt = (n : Int) := Int64.toInt_ofNat_of_lt (by omega)
theorem lg_neg (n : Nat) (h : n < 2 ^ 40) : ¬ lg_cmp (lN n) 0 < 0 := fun q => by
  have := (lg_cmp_lt _ _).mp q
  rw [Int64.lt_iff_toInt_lt, lN_t h] at this
  have z0 : (0 : Int64).toInt = 0 := rfl
  omega
theorem lg_geN {a b : Nat} (ha : a < 2 ^ 40) (hb : b < 2 ^ 40) : 0 ≤ lg_cmp (lN a) (lN b) ↔ b ≤ a := by
  rw [lg_cmp_ge, Int64.le_iff_toInt_le, lN_t ha, lN_t hb]
  omega
theorem places_C {σ : St} {j s L : Nat} (hs : s < 5) (hL : L ≤ 60) (h1 : σ.1 (4201 + 200 * j) = nI s) (h2 : σ.1 (4203 + 200 * j) = nI L) {p : Nat} (hp : p < 2 ^ 31) : f_Shelf_hasPlaces σ j (nI p) 3 = some (b2 (decide (p + 3 ≤ L))) := by
  unfold f_Shelf_hasPlaces
  rw [isRow_C, h1, h2, bind_s, decide_eq_true (nI_pos' (by omega)), b2_t, if_neg i10, if_neg (nI_pos hp), if_neg (by decide)]
  by_cases q : L < 3
  · rw [if_pos (show nI L < (3 : Int32) from nI_lt (b := 3) q (by decide)), decide_eq_false (by omega)]; rfl
  · rw [if_neg (show ¬ nI L < (3 : Int32) from nI_nlt (b := 3) (by omega) (by omega)), show nI L - 3 = nI (L - 3) from pk_sub (b := 3) (by omega)]
    by_cases q2 : L - 3 < p
    · rw [if_pos (nI_lt q2 hp), decide_eq_false (by omega)]; rfl
    · rw [if_neg (nI_nlt (by omega) (by omega)), decide_eq_true (by omega)]; rfl
theorem rel8 {n bn : Nat} {σ τ : St} (hr : relT n σ τ ∧ relG n σ τ ∧ relCh n σ τ ∧ relTp σ τ ∧ relL σ τ ∧ relD n σ τ ∧ relS bn σ τ ∧ relSh bn σ τ) : Rel σ τ := ⟨n, bn, hr⟩
/-- what stays on the shelf while things are added -/
def shK (j L : Nat) (σ τ : St) : Prop := σ.1 (4201 + 200 * j) = nI 0 ∧ σ.1 (4203 + 200 * j) = nI L ∧ τ.2.1 38 j = nI L ∧ ∀ i, i < L → σ.2.2 (43 + 2 * j) i = τ.2.2 39 (60 * j + i)
theorem addL_2 {bn j L i0 m : Nat} (hj : j < 6) (hL : L ≤ 60) (hi : i0 < 2 ^ 31) (hm : m ≤ 10) : ∀ k, k ≤ m → ∀ fuel, m - k < fuel → ∀ (σ τ : St) (n : Nat), (relT n σ τ ∧ relG n σ τ ∧ relCh n σ τ ∧ relTp σ τ ∧ relL σ τ ∧ relD n σ τ ∧ relS bn σ τ ∧ relSh bn σ τ) → shK j L σ τ → (k = 0 ∨ i0 + 3 * k ≤ 60) → ∃ r σ' τ', f_Top_addFrom_6 fuel σ j (nI m) (nI k) (nI (i0 + 3 * k)) = some (r, σ') ∧ f_M_things_58 fuel τ (nI j) (nI i0) (nI m) (nI k) = some (r, τ') ∧ Rel σ' τ' := by
  refine loopF (n := m) (P := fun k fuel => ∀ (σ τ : St) (n : Nat), (relT n σ τ ∧ relG n σ τ ∧ relCh n σ τ ∧ relTp σ τ ∧ relL σ τ ∧ relD n σ τ ∧ relS bn σ τ ∧ relSh bn σ τ) → shK j L σ τ → (k = 0 ∨ i0 + 3 * k ≤ 60) → ∃ r σ' τ', f_Top_addFrom_6 fuel σ j (nI m) (nI k) (nI (i0 + 3 * k)) = some (r, σ') ∧ f_M_things_58 fuel τ (nI j) (nI i0) (nI m) (nI k) = some (r, τ') ∧ Rel σ' τ') (fun f σ τ n hr hk h0 => ?_) (fun k f hkm ih σ τ n hr hk h0 => ?_)
  · unfold f_Top_addFrom_6 f_M_things_58
    rw [if_pos (nI_le (Nat.le_refl _) (by omega)), if_pos (nI_le (Nat.le_refl _) (by omega))]
    exact ⟨_, _, _, rfl, rfl, rel8 hr⟩
  · obtain ⟨k1, k2, k3, k4⟩ := hk
    have h1 := hr.1
    have hn := h1.1
    have hp : i0 + 3 * k < 2 ^ 31 := by rcases h0 with q | q <;> omega
    have e3 : (3 : Int32) * nI k = nI (3 * k) := by show nI 3 * nI k = _; rw [pk_mul]
    have el : (nI i0).toInt64 + ((3 : Int32) * nI k).toInt64 = lN (i0 + 3 * k) := by rw [e3, nI_l hi, nI_l (by omega), lN_add]
    have el2 : lN (i0 + 3 * k) + 2 = lN (i0 + 3 * k + 2) := lN_add _ 2
    unfold f_Top_addFrom_6 f_M_things_58
    rw [if_neg (nI_ge hkm (by omega)), if_neg (nI_ge hkm (by omega)), places_C (s := 0) (by decide) hL k1 k2 hp, bind_s, el, if_neg (lg_neg _ (by omega)), inb_nI hj (by decide), cond_true, nIt (show j < 2 ^ 31 by omega), k3, nI_l (show L < 2 ^ 31 by omega), el2, lN_i]
    by_cases hq : i0 + 3 * k + 3 ≤ L
    · rw [decide_eq_true hq, b2_t, if_neg i10, if_neg (fun z => by have := (lg_geN (by omega) (by omega)).mp z; omega)]
      unfold f_Basket_isFull
      rw [h1.2.1, h1.2.2.1]
      by_cases hf : n = 10
      · subst hf
        rw [if_neg (show ¬ nI 10 < (10 : Int32) by decide), if_pos (show nI 10 = (10 : Int32) from rfl), bind_s, if_neg i10]
        exact ⟨_, _, _, rfl, rfl, rel8 hr⟩
      · have e60 : (60 : Int32) * nI j + nI (i0 + 3 * k) = nI (60 * j + (i0 + 3 * k)) := by show nI 60 * nI j + _ = _; rw [pk_mul, nI_add]
        have p1 : nI (i0 + 3 * k) + 1 = nI (i0 + 3 * k + 1) := nI_1 _
        have p2 : nI (i0 + 3 * k) + 2 = nI (i0 + 3 * k + 2) := nI_add _ 2
        have q1 : nI (60 * j + (i0 + 3 * k)) + 1 = nI (60 * j + (i0 + 3 * k + 1)) := nI_1 _
        have q2 : nI (60 * j + (i0 + 3 * k)) + 2 = nI (60 * j + (i0 + 3 * k + 2)) := nI_add _ 2
        have m0 : ∀ v, f_Basket_mayBe (0 : Int32) v = some (b2 (decide ((0 : Int32) ≤ v ∧ v ≤ 3))) := fun v => mayBe_C (k := 0) (by decide) v
        have m1 : ∀ v, f_Basket_mayBe (1 : Int32) v = some (b2 (decide ((0 : Int32) ≤ v ∧ v ≤ 9))) := fun v => mayBe_C (k := 1) (by decide) v
        have m4 : ∀ v, f_Basket_mayBe (4 : Int32) v = some (b2 (decide ((1 : Int32) ≤ v ∧ v ≤ 9))) := fun v => mayBe_C (k := 4) (by decide) v
        rw [if_pos (show nI n < (10 : Int32) from nI_lt (b := 10) (by omega) (by decide)), if_neg (show ¬ nI n = (10 : Int32) from fun q => hf ((nI_eq (b := 10) (by omega) (by decide)).mp q))]
        simp only [bind_s, if_true, e60, p1, p2, q1, q2, inb_nI (show i0 + 3 * k < 60 by omega) (show 60 < 2 ^ 31 by decide), inb_nI (show i0 + 3 * k + 1 < 60 by omega) (show 60 < 2 ^ 31 by decide), inb_nI (show i0 + 3 * k + 2 < 60 by omega) (show 60 < 2 ^ 31 by decide), inb_nI (show 60 * j + (i0 + 3 * k) < 360 by omega) (show 360 < 2 ^ 31 by decide), inb_nI (show 60 * j + (i0 + 3 * k + 1) < 360 by omega) (show 360 < 2 ^ 31 by decide), inb_nI (show 60 * j + (i0 + 3 * k + 2) < 360 by omega) (show 360 < 2 ^ 31 by decide), cond_true, nIt (show i0 + 3 * k < 2 ^ 31 by omega), nIt (show i0 + 3 * k + 1 < 2 ^ 31 by omega), nIt (show i0 + 3 * k + 2 < 2 ^ 31 by omega), nIt (show 60 * j + (i0 + 3 * k) < 2 ^ 31 by omega), nIt (show 60 * j + (i0 + 3 * k + 1) < 2 ^ 31 by omega), nIt (show 60 * j + (i0 + 3 * k + 2) < 2 ^ 31 by omega), m0, m1, m4, in_eq, k4 (i0 + 3 * k) (by omega), k4 (i0 + 3 * k + 1) (by omega), k4 (i0 + 3 * k + 2) (by omega)]
        generalize (τ.2.2 39 (60 * j + (i0 + 3 * k))).toInt32 = v0
        generalize (τ.2.2 39 (60 * j + (i0 + 3 * k + 1))).toInt32 = v1
        generalize (τ.2.2 39 (60 * j + (i0 + 3 * k + 2))).toInt32 = v2
        by_cases c0 : (0 : Int32) ≤ v0 ∧ v0 ≤ 3
        · rw [decide_eq_true c0, b2_t, if_neg i10, if_neg i10]
          by_cases c1 : (0 : Int32) ≤ v1 ∧ v1 ≤ 9
          · rw [decide_eq_true c1, b2_t, if_neg i10, if_neg i10]
            by_cases c2 : (1 : Int32) ≤ v2 ∧ v2 ≤ 9
            · rw [decide_eq_true c2, b2_t, if_neg i10, if_neg i10]
              obtain ⟨σ', τ', g1, g2, g3, g4, g5, g6, g7, g8, g9⟩ := add_2 hr (by omega) (c := v0) (d := v1) (s := v2) c0 c1 c2
              rw [g1, g2, bd2_s, bd2_s, nI_1, show nI (i0 + 3 * k) + 3 = nI (i0 + 3 * (k + 1)) from by rw [show i0 + 3 * (k + 1) = i0 + 3 * k + 3 by omega]; exact nI_add _ 3]
              refine ih σ' τ' (n + 1) g3 ⟨by rw [g5 _ (by omega)]; exact k1, by rw [g5 _ (by omega)]; exact k2, by rw [g9]; exact k3, by rw [g4, g6]; exact k4⟩ (Or.inr (by omega))
            · rw [decide_eq_false c2]
              exact ⟨_, _, _, rfl, rfl, rel8 hr⟩
          · rw [decide_eq_false c1]
            exact ⟨_, _, _, rfl, rfl, rel8 hr⟩
        · rw [decide_eq_false c0]
          exact ⟨_, _, _, rfl, rfl, rel8 hr⟩
    · rw [decide_eq_false hq, b2_f, if_pos rfl, if_pos ((lg_geN (by omega) (by omega)).mpr (by omega))]
      exact ⟨_, _, _, rfl, rfl, rel8 hr⟩
theorem e_things {σ τ : St} (h : Rel σ τ) (x i m : Int32) : ∃ r σ' τ', f_Top_things σ x i m = some (r, σ') ∧ f_M_things τ x i m = some (r, τ') ∧ Rel σ' τ' := by
  obtain ⟨n, bn, hr⟩ := id h
  have hb := hr.2.2.2.2.2.2.1.1
  have h8 := hr.2.2.2.2.2.2.2
  unfold f_Top_things f_M_things
  rcases isShelf_2 x with ⟨g1, g2⟩ | ⟨j, hj, rfl, g1, g2⟩
  · rw [g1, g2]; exact ⟨_, _, _, rfl, rfl, h⟩
  · have ij : inb (nI j) 6 = true := inb_nI hj (by decide)
    have cj : (nI j).toNatClampNeg = j := nIt (by omega)
    rw [g1, g2, within_eq, in_eq]
    simp only [bind_s, i10, if_false]
    by_cases hm : (1 : Int32) ≤ m ∧ m ≤ 10
    · have hm2 : (0 : Int32) ≤ m ∧ m ≤ nI 11 - 1 := ⟨by
        have := hm.1
        rw [il] at *
        have z1 : (1 : Int32).toInt = 1 := rfl
        have z0 : (0 : Int32).toInt = 0 := rfl
        omega, hm.2⟩
      obtain ⟨m', hm3, rfl⟩ := (isT (n := 11) (by decide) m).mp hm2
      rw [decide_eq_true hm, b2_t, if_neg i10, if_neg i10]
      unfold f_Top_rowRefusal
      rw [g1, bind_s, if_neg i10, ij, cj, cond_true, cond_true]
      rcases h8 j hj with ⟨q1, q2⟩ | ⟨q1, b, hb2, q2, q3⟩ | ⟨s, hs, q1, q2, L, hL, q3, q4, q5⟩
      · rw [q1, q2]; exact ⟨_, _, _, rfl, rfl, h⟩
      · have c2 : ¬ nI b = (-1 : Int32) := m1_ne (by omega)
        have c3 : ¬ nI b = (-2 : Int32) := m2_ne (by omega)
        rw [q1, q3]
        simp only [c2, c3, if_false]
        exact ⟨_, _, _, rfl, rfl, h⟩
      · obtain ⟨c1, c2, c3, c4⟩ := hold_neg hs
        have c5 : ¬ nI s = (-2 : Int32) := m2_ne (by omega)
        rw [q1, q2]
        simp only [c1, c5, if_false]
        by_cases s0 : s = 0
        · subst s0
          simp only [show (nI 0 = 0) = True from eq_true rfl, show (-2 - nI 0 = (-2 : Int32)) = True from eq_true (by decide), if_true, bind_s, show ¬ (0 : Int32) = -11 by decide, if_false, cond_true]
          unfold f_Top_addFrom
          by_cases iz : i < 0
          · have hC : f_Top_addFrom_6 FU σ j (nI m') 0 i = some (0, σ) := by
              have : FU = 999 + 1 := rfl
              rw [this]
              unfold f_Top_addFrom_6
              rw [if_neg (show ¬ nI m' ≤ 0 from fun z => by
                have z2 := hm.1
                rw [il] at z z2
                have z1 : (1 : Int32).toInt = 1 := rfl
                have z0 : (0 : Int32).toInt = 0 := rfl
                omega)]
              unfold f_Shelf_hasPlaces
              rw [isRow_C, q1, bind_s, decide_eq_true (nI_pos' (by decide)), b2_t, if_neg i10, if_pos iz, bind_s, if_pos rfl]
            have hM : f_M_things_58 FU τ (nI j) i (nI m') 0 = some (0, τ) := by
              have : FU = 999 + 1 := rfl
              rw [this]
              unfold f_M_things_58
              rw [if_neg (show ¬ nI m' ≤ 0 from fun z => by
                have z2 := hm.1
                rw [il] at z z2
                have z1 : (1 : Int32).toInt = 1 := rfl
                have z0 : (0 : Int32).toInt = 0 := rfl
                omega), if_pos (by
                rw [show ((3 : Int32) * 0).toInt64 = 0 by decide, Int64.add_zero, show (0 : Int64) = (0 : Int32).toInt64 from rfl]
                exact i64lt.mpr iz)]
            rw [hC, hM]
            exact ⟨_, _, _, rfl, rfl, h⟩
          · obtain ⟨i0, hi0, rfl⟩ := nI_of iz
            obtain ⟨r, σ', τ', z1, z2, z3⟩ := addL_2 (bn := bn) (i0 := i0) (m := m') hj hL hi0 (by omega) 0 (Nat.zero_le _) FU (by show _ < 1000; omega) σ τ n hr ⟨q1, q3, q4, fun i hi => (q5 i hi).1⟩ (Or.inl rfl)
            have z1' : f_Top_addFrom_6 FU σ j (nI m') 0 (nI i0) = some (r, σ') := z1
            have z2' : f_M_things_58 FU τ (nI j) (nI i0) (nI m') 0 = some (r, τ') := z2
            rw [z1', z2']
            exact ⟨_, _, _, rfl, rfl, z3⟩
        · have d1 : ¬ nI s = 0 := fun q => s0 ((nI_eq (b := 0) (by omega) (by decide)).mp q)
          have d2 : ¬ -2 - nI s = (-2 : Int32) := fun q => d1 (by rw [← c4, q]; decide)
          simp only [d1, d2, if_false]
          exact ⟨_, _, _, rfl, rfl, h⟩
    · rw [decide_eq_false hm]
      exact ⟨_, _, _, rfl, rfl, h⟩
