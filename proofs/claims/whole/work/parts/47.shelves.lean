/-! shelves -/
theorem isShelf_2 (x : Int32) : (f_Top_isShelf x = some 0 ∧ f_M_isShelf x = some 0) ∨ ∃ j, j < 6 ∧ x = nI j ∧ f_Top_isShelf x = some 1 ∧ f_M_isShelf x = some 1 := by
  unfold f_Top_isShelf f_M_isShelf
  rw [within_eq, in_eq, bind_s, bif_t (zb_b2 _)]
  by_cases hv : (0 : Int32) ≤ x ∧ x ≤ 5
  · obtain ⟨j, hj, rfl⟩ := (isT (n := 6) (by decide) x).mp hv
    rw [decide_eq_true hv]
    exact Or.inr ⟨j, hj, rfl, rfl, rfl⟩
  · rw [decide_eq_false hv]
    exact Or.inl ⟨rfl, rfl⟩
theorem relSh_at {bn j0 : Nat} {σ τ σ' τ' : St} (h : relSh bn σ τ) (h0 : shOK bn (σ'.1 (4201 + 200 * j0)) (σ'.1 (4202 + 200 * j0)) (σ'.1 (4203 + 200 * j0)) (τ'.2.1 37 j0) (τ'.2.1 38 j0) (σ'.2.2 (43 + 2 * j0)) (fun i => τ'.2.2 39 (60 * j0 + i)))
    (hi : ∀ j, j ≠ j0 → j < 6 → σ'.1 (4201 + 200 * j) = σ.1 (4201 + 200 * j) ∧ σ'.1 (4202 + 200 * j) = σ.1 (4202 + 200 * j) ∧ σ'.1 (4203 + 200 * j) = σ.1 (4203 + 200 * j) ∧ σ'.2.2 (43 + 2 * j) = σ.2.2 (43 + 2 * j) ∧ τ'.2.1 37 j = τ.2.1 37 j ∧ τ'.2.1 38 j = τ.2.1 38 j ∧ ∀ i, i < 60 → τ'.2.2 39 (60 * j + i) = τ.2.2 39 (60 * j + i)) : relSh bn σ' τ' := by
  intro j hj
  by_cases e : j = j0
  · subst e; exact h0
  · obtain ⟨a1, a2, a3, a4, a5, a6, a7⟩ := hi j e hj
    rw [a1, a2, a3, a4, a5, a6]
    rcases h j hj with q | q | ⟨s, q1, q2, q3, L, q4, q5, q6, q7⟩
    · exact Or.inl q
    · exact Or.inr (Or.inl q)
    · refine Or.inr (Or.inr ⟨s, q1, q2, q3, L, q4, q5, q6, fun i hi => ?_⟩)
      show _ = τ'.2.2 39 (60 * j + i) ∧ _
      rw [a7 i (by omega)]
      exact q7 i hi
theorem isBody_2 {bn : Nat} {σ τ : St} (h : relS bn σ τ) (x : Int32) : (f_Socks_isBody σ x = some 0 ∧ f_M_isBody τ x = some 0) ∨ ∃ b, b < bn ∧ x = nI b ∧ f_Socks_isBody σ x = some 1 ∧ f_M_isBody τ x = some 1 := by
  have hb := h.1
  unfold f_Socks_isBody f_M_isBody
  rw [h.2.1, h.2.2.1, within_eq, in_eq, bind_s, bif_t (zb_b2 _)]
  by_cases hv : (0 : Int32) ≤ x ∧ x ≤ nI bn - 1
  · obtain ⟨j, hj, rfl⟩ := (isT (by omega) x).mp hv
    rw [decide_eq_true hv]
    exact Or.inr ⟨j, hj, rfl, rfl, rfl⟩
  · rw [decide_eq_false hv]
    exact Or.inl ⟨rfl, rfl⟩
theorem nI_neg {b : Nat} (hb : b < 2 ^ 31) {k : Nat} (hk : 0 < k) (hk2 : k < 2 ^ 31) : ¬ nI b = -(nI k) := fun q => by
  have := (ie _ _).mp q
  rw [nI_toInt hb, Int32.toInt_neg, nI_toInt hk2] at this
  rw [Int.bmod_def] at this
  split at this <;> omega
theorem m1_ne {b : Nat} (hb : b < 2 ^ 31) : ¬ nI b = (-1 : Int32) := nI_neg hb (k := 1) (by decide) (by decide)
theorem m2_ne {b : Nat} (hb : b < 2 ^ 31) : ¬ nI b = (-2 : Int32) := nI_neg hb (k := 2) (by decide) (by decide)
theorem e_keep {σ τ : St} (h : Rel σ τ) (x y : Int32) : ∃ r σ' τ', f_Top_keep σ x y = some (r, σ') ∧ f_M_keep τ x y = some (r, τ') ∧ Rel σ' τ' := by
  obtain ⟨n, bn, h1, h2, h3, h4, h5, h6, h7, h8⟩ := id h
  unfold f_Top_keep f_M_keep
  rcases isShelf_2 x with ⟨g1, g2⟩ | ⟨j, hj, rfl, g1, g2⟩
  · rw [g1, g2]; exact ⟨_, _, _, rfl, rfl, h⟩
  · rw [g1, g2]
    simp only [bind_s, i10, if_false, inb_nI hj (by decide), cond_true, nIt (show j < 2 ^ 31 by omega)]
    have fin : ∀ (s b : Int32), ((s = -2 ∧ b = -1) ∨ (s = -1 ∧ ∃ c, c < bn ∧ b = nI c)) → Rel (upI (upI (upI σ (4201 + 200 * j) s) (4202 + 200 * j) b) (4203 + 200 * j) 0) (upA τ 37 j b) := by
      intro s b hs
      have I : ∀ k, k ≠ 4201 + 200 * j → k ≠ 4202 + 200 * j → k ≠ 4203 + 200 * j → (upI (upI (upI σ (4201 + 200 * j) s) (4202 + 200 * j) b) (4203 + 200 * j) 0).1 k = σ.1 k := fun k k1 k2 k3 => by
        rw [upI_1, if_neg k3, upI_1, if_neg k2, upI_1, if_neg k1]
      have I' : ∀ k, k < 4200 → (upI (upI (upI σ (4201 + 200 * j) s) (4202 + 200 * j) b) (4203 + 200 * j) 0).1 k = σ.1 k := fun k hk => I k (by omega) (by omega) (by omega)
      refine ⟨n, bn, relT_c h1 (I' 103 (by decide)), relG_c h2, relCh_c h3 (I' 503 (by decide)) (I' 504 (by decide)), relTp_c h4 (I' 3503 (by decide)), relL_c h5 (I' 2103 (by decide)), relD_c h6 (I' 906 (by decide)), relS_c h7 (I' 3202 (by decide)) (I' 3203 (by decide)), relSh_at (j0 := j) h8 ?_ (fun k k1 k2 => ⟨I _ (by omega) (by omega) (by omega), I _ (by omega) (by omega) (by omega), I _ (by omega) (by omega) (by omega), rfl, ?_, rfl, fun i hi => rfl⟩)⟩
      · have a1 : (upI (upI (upI σ (4201 + 200 * j) s) (4202 + 200 * j) b) (4203 + 200 * j) 0).1 (4201 + 200 * j) = s := by rw [upI_1, if_neg (by omega), upI_1, if_neg (by omega), upI_1, if_pos rfl]
        have a2 : (upI (upI (upI σ (4201 + 200 * j) s) (4202 + 200 * j) b) (4203 + 200 * j) 0).1 (4202 + 200 * j) = b := by rw [upI_1, if_neg (by omega), upI_1, if_pos rfl]
        have a3 : (upA τ 37 j b).2.1 37 j = b := by show upd (τ.2.1 37) j b j = b; unfold upd; rw [if_pos rfl]
        rw [a1, a2, a3]
        rcases hs with ⟨e1, e2⟩ | ⟨e1, c, hc, e2⟩
        · exact Or.inl ⟨e1, e2⟩
        · exact Or.inr (Or.inl ⟨e1, c, hc, e2, e2⟩)
      · show upd (τ.2.1 37) j b k = τ.2.1 37 k
        unfold upd; rw [if_neg k1]
    by_cases hy : y = -1
    · unfold f_Shelf_hold
      simp only [hy, if_true, bind_s]
      exact ⟨_, _, _, rfl, rfl, fin _ _ (Or.inl ⟨rfl, rfl⟩)⟩
    · simp only [hy, if_false]
      rcases isBody_2 h7 y with ⟨g1, g2⟩ | ⟨b, hb, rfl, g1, g2⟩
      · rw [g1, g2]; exact ⟨_, _, _, rfl, rfl, h⟩
      · rw [g1, g2]
        unfold f_Shelf_hold
        simp only [bind_s, i10, if_false, hy]
        exact ⟨_, _, _, rfl, rfl, fin _ _ (Or.inr ⟨rfl, b, hb, rfl⟩)⟩
theorem holdRow_l {j L : Nat} (hL : L ≤ 60) {σ0 : St} (h0 : σ0.1 (4203 + 200 * j) = nI L) : ∀ (k t : Nat) (σ : St), t + k = L → (σ.1 = σ0.1 ∧ σ.2.1 = σ0.2.1 ∧ (∀ b, b ≠ 43 + 2 * j → σ.2.2 b = σ0.2.2 b) ∧ ∀ i, i < t → σ.2.2 (43 + 2 * j) i = 0) → ∀ fuel, k < fuel → ∃ σe, f_Shelf_holdRow_26 fuel σ j (nI t) = some σe ∧ (σe.1 = σ0.1 ∧ σe.2.1 = σ0.2.1 ∧ (∀ b, b ≠ 43 + 2 * j → σe.2.2 b = σ0.2.2 b) ∧ ∀ i, i < L → σe.2.2 (43 + 2 * j) i = 0) := by
  intro k
  induction k with
  | zero =>
    intro t σ ht hp fuel hf
    obtain rfl : t = L := by omega
    obtain ⟨f, rfl⟩ : ∃ f, fuel = f + 1 := ⟨fuel - 1, by omega⟩
    unfold f_Shelf_holdRow_26
    rw [hp.1, h0, if_pos (nI_le (Nat.le_refl t) (by omega))]
    exact ⟨σ, rfl, hp⟩
  | succ k ih =>
    intro t σ ht hp fuel hf
    obtain ⟨f, rfl⟩ : ∃ f, fuel = f + 1 := ⟨fuel - 1, by omega⟩
    obtain ⟨p1, p2, p3, p4⟩ := hp
    unfold f_Shelf_holdRow_26
    rw [p1, h0, if_neg (nI_ge (by omega) (by omega)), inb_nI (show t < 60 by omega) (by decide), nIt (by omega)]
    simp only [cond_true, nI_1]
    refine ih (t + 1) _ (by omega) ?_ f (by omega)
    refine ⟨p1, p2, fun b hb => ?_, fun i hi => ?_⟩
    · rw [upL_3, if_neg hb]; exact p3 b hb
    · rw [upL_3, if_pos rfl]
      unfold vp_updL
      by_cases e : i = t
      · rw [if_pos e]
      · rw [if_neg e]; exact p4 i (by omega)
theorem row_l {j : Nat} (hj : j < 6) {τ0 : St} : ∀ (k t : Nat) (τ : St), t + k = 60 → (τ.1 = τ0.1 ∧ τ.2.1 = τ0.2.1 ∧ (∀ b, b ≠ 39 → τ.2.2 b = τ0.2.2 b) ∧ (∀ i, i < t → τ.2.2 39 (60 * j + i) = 0) ∧ ∀ q, (q < 60 * j ∨ 60 * j + 60 ≤ q) → τ.2.2 39 q = τ0.2.2 39 q) → ∀ fuel, k < fuel → ∃ τe, f_M_row_54 fuel τ (nI j) (nI (60 * j + t)) = some (1, τe) ∧ (τe.1 = τ0.1 ∧ τe.2.1 = τ0.2.1 ∧ (∀ b, b ≠ 39 → τe.2.2 b = τ0.2.2 b) ∧ (∀ i, i < 60 → τe.2.2 39 (60 * j + i) = 0) ∧ ∀ q, (q < 60 * j ∨ 60 * j + 60 ≤ q) → τe.2.2 39 q = τ0.2.2 39 q) := by
  have e60 : (60 : Int32) * nI j + 60 = nI (60 * j + 60) := by
    show nI 60 * nI j + nI 60 = _
    rw [pk_mul, nI_add]
  intro k
  induction k with
  | zero =>
    intro t τ ht hp fuel hf
    obtain rfl : t = 60 := by omega
    obtain ⟨f, rfl⟩ : ∃ f, fuel = f + 1 := ⟨fuel - 1, by omega⟩
    unfold f_M_row_54
    rw [e60, if_pos (nI_le (Nat.le_refl _) (by omega))]
    exact ⟨τ, rfl, hp⟩
  | succ k ih =>
    intro t τ ht hp fuel hf
    obtain ⟨f, rfl⟩ : ∃ f, fuel = f + 1 := ⟨fuel - 1, by omega⟩
    obtain ⟨p1, p2, p3, p4, p5⟩ := hp
    unfold f_M_row_54
    rw [e60, if_neg (nI_ge (by omega) (by omega)), inb_nI (show 60 * j + t < 360 by omega) (by decide), nIt (by omega)]
    simp only [cond_true, nI_1]
    refine ih (t + 1) _ (by omega) ?_ f (by omega)
    refine ⟨p1, p2, fun b hb => ?_, fun i hi => ?_, fun q hq => ?_⟩
    · rw [upL_3, if_neg hb]; exact p3 b hb
    · rw [upL_3, if_pos rfl]
      unfold vp_updL
      by_cases e : i = t
      · rw [if_pos (by omega)]
      · rw [if_neg (by omega)]; exact p4 i (by omega)
    · rw [upL_3, if_pos rfl]
      unfold vp_updL
      rw [if_neg (by omega)]; exact p5 q hq
theorem e_row {σ τ : St} (h : Rel σ τ) (x y z : Int32) : ∃ r σ' τ', f_Top_row σ x y z = some (r, σ') ∧ f_M_row τ x y z = some (r, τ') ∧ Rel σ' τ' := by
  obtain ⟨n, bn, h1, h2, h3, h4, h5, h6, h7, h8⟩ := id h
  unfold f_Top_row f_M_row
  rcases isShelf_2 x with ⟨g1, g2⟩ | ⟨j, hj, rfl, g1, g2⟩
  · rw [g1, g2]; exact ⟨_, _, _, rfl, rfl, h⟩
  · rw [g1, g2, within_eq, in_eq]
    simp only [bind_s, i10, if_false]
    by_cases hv : (0 : Int32) ≤ y ∧ y ≤ 4
    · obtain ⟨s, hs, rfl⟩ := (isT (n := 5) (by decide) y).mp hv
      simp only [decide_eq_true hv, b2_t, i10, if_false]
      by_cases hz : z ≤ 60
      · by_cases hz0 : 0 ≤ z
        · obtain ⟨L, hL, rfl⟩ := (isT (n := 61) (by decide) z).mp ⟨hz0, hz⟩
          simp only [hz, hz0, if_true, inb_nI hj (by decide), cond_true, nIt (show j < 2 ^ 31 by omega)]
          have em : imax 0 (imin (nI L) 60) = nI L := by
            unfold imin imax
            rw [if_neg (show ¬ (60 : Int32) < nI L from nI_nlt (b := L) (a := 60) (by omega) (by decide) |> fun q => by
              intro q2
              rw [it] at q2
              rw [il] at hz
              omega)]
            by_cases e0 : L = 0
            · subst e0; rfl
            · rw [if_pos (show (0 : Int32) < nI L from nI_lt (a := 0) (by omega) (by omega))]
          unfold f_Shelf_holdRow
          rw [em]
          obtain ⟨σe, q1, p1, p2, p3, p4⟩ := holdRow_l (j := j) (L := L) (by omega) (σ0 := upI (upI (upI σ (4201 + 200 * j) (nI s)) (4202 + 200 * j) (-1)) (4203 + 200 * j) (nI L)) (by rw [upI_1, if_pos rfl]) L 0 _ (by omega) ⟨rfl, rfl, fun _ _ => rfl, fun i hi => by omega⟩ FU (by show L < 1000; omega)
          obtain ⟨τe, q2, r1, r2, r3, r4, r5⟩ := row_l hj (τ0 := upA (upA τ 37 j (-2 - nI s)) 38 j (nI L)) 60 0 _ (by omega) ⟨rfl, rfl, fun _ _ => rfl, fun i hi => by omega, fun _ _ => rfl⟩ FU (by decide)
          have e1 : f_Shelf_holdRow_26 FU (upI (upI (upI σ (4201 + 200 * j) (nI s)) (4202 + 200 * j) (-1)) (4203 + 200 * j) (nI L)) j (0 : Int32) = some σe := q1
          have e2 : f_M_row_54 FU (upA (upA τ 37 j (-2 - nI s)) 38 j (nI L)) (nI j) ((60 : Int32) * nI j) = some (1, τe) := by
            rw [← q2]
            show _ = f_M_row_54 FU _ (nI j) (nI (60 * j + 0))
            rw [show (60 : Int32) * nI j = nI (60 * j) from pk_mul 60 j, Nat.add_zero]
          rw [e1, e2]
          simp only [bind_s]
          have I : ∀ k, k ≠ 4201 + 200 * j → k ≠ 4202 + 200 * j → k ≠ 4203 + 200 * j → σe.1 k = σ.1 k := fun k k1 k2 k3 => by
            rw [p1, upI_1, if_neg k3, upI_1, if_neg k2, upI_1, if_neg k1]
          have I' : ∀ k, k < 4200 → σe.1 k = σ.1 k := fun k hk => I k (by omega) (by omega) (by omega)
          have B : ∀ b, σe.2.1 b = σ.2.1 b := fun b => by rw [p2]; rfl
          have T : ∀ b, b ≠ 37 → b ≠ 38 → τe.2.1 b = τ.2.1 b := fun b b1 b2 => by rw [r2, upA_2, if_neg b2, upA_2, if_neg b1]
          have J : ∀ k, τe.1 k = τ.1 k := fun k => by rw [r1]; rfl
          refine ⟨_, σe, τe, rfl, rfl, n, bn, relT_c h1 (I' 103 (by decide)) (B 2) (J 1) ⟨T 1 (by decide) (by decide), T 2 (by decide) (by decide), T 3 (by decide) (by decide), T 4 (by decide) (by decide), T 5 (by decide) (by decide), T 6 (by decide) (by decide), T 7 (by decide) (by decide), T 8 (by decide) (by decide), J 10, J 11, J 12, J 13⟩, relG_c h2 (B 3) (B 4) (T 28 (by decide) (by decide)) (T 29 (by decide) (by decide)), relCh_c h3 (I' 503 (by decide)) (I' 504 (by decide)) (B 6) (B 7) (B 8) (J 14) (J 15) (T 9 (by decide) (by decide)) (T 10 (by decide) (by decide)) (T 11 (by decide) (by decide)) (T 12 (by decide) (by decide)), relTp_c h4 (I' 3503 (by decide)) (B 36) (J 21) (T 13 (by decide) (by decide)), relL_c h5 (I' 2103 (by decide)) (B 22) (J 33) (T 14 (by decide) (by decide)) (T 15 (by decide) (by decide)) (T 16 (by decide) (by decide)) (T 17 (by decide) (by decide)) (T 18 (by decide) (by decide)), relD_c h6 (I' 906 (by decide)) (B 10) (B 11) (B 12) (B 13) (B 14) (J 48) (J 49) (T 29 (by decide) (by decide)) (T 30 (by decide) (by decide)) (T 31 (by decide) (by decide)) (T 32 (by decide) (by decide)) (T 33 (by decide) (by decide)) (T 34 (by decide) (by decide)), relS_c h7 (I' 3202 (by decide)) (I' 3203 (by decide)) (B 33) (B 34) (J 54) (J 56) (T 35 (by decide) (by decide)) (T 36 (by decide) (by decide)), relSh_at (j0 := j) h8 ?_ (fun k k1 k2 => ⟨I _ (by omega) (by omega) (by omega), I _ (by omega) (by omega) (by omega), I _ (by omega) (by omega) (by omega), ?_, ?_, ?_, fun i hi => ?_⟩)⟩
          · refine Or.inr (Or.inr ⟨s, hs, ?_, ?_, L, by omega, ?_, ?_, fun i hi => ⟨?_, fun _ => ⟨0, ?_⟩⟩⟩)
            · rw [p1, upI_1, if_neg (by omega), upI_1, if_neg (by omega), upI_1, if_pos rfl]
            · rw [r2]; show upd (τ.2.1 37) j _ j = _; unfold upd; rw [if_pos rfl]
            · rw [p1, upI_1, if_pos rfl]
            · rw [r2]; show upd (τ.2.1 38) j _ j = _; unfold upd; rw [if_pos rfl]
            · rw [p4 i hi]; exact (r4 i (by omega)).symm
            · rw [p4 i hi]; rfl
          · rw [p3 _ (by omega)]; rfl
          · rw [r2]; show upd (τ.2.1 37) j _ k = _; unfold upd; rw [if_neg k1]
          · rw [r2]; show upd (τ.2.1 38) j _ k = _; unfold upd; rw [if_neg k1]
          · rw [r5 _ (by omega)]; rfl
        · simp only [hz, hz0, if_true, if_false]
          exact ⟨_, _, _, rfl, rfl, h⟩
      · simp only [hz, if_false]
        exact ⟨_, _, _, rfl, rfl, h⟩
    · simp only [decide_eq_false hv, b2_f, if_true]
      exact ⟨_, _, _, rfl, rfl, h⟩
