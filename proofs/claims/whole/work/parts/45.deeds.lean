/-! thing, bleach, throwAway, led, count, image, back -/
theorem cnt_congr {f g : Nat → Int32} : ∀ {n : Nat}, (∀ t, t < n → f t = g t) → cnt f n = cnt g n
  | 0, _ => rfl
  | n + 1, h => by unfold cnt; rw [cnt_congr (fun t ht => h t (by omega)), h n (by omega)]
theorem cnt_le (f : Nat → Int32) : ∀ n, cnt f n ≤ n
  | 0 => Nat.le_refl 0
  | n + 1 => by unfold cnt; have := cnt_le f n; split <;> omega
theorem told_C (σ : St) {t k : Nat} (ht : t < 10) (hk : k < 8) : f_Basket_told σ (nI t) (nI k) = some (σ.2.1 2 (8 * t + k)) := by
  unfold f_Basket_told
  have e : nI t * (8 : Int32) + nI k = nI (8 * t + k) := by
    show nI t * nI 8 + nI k = _
    rw [pk_mul, nI_add, Nat.mul_comm]
  rw [e, if_neg (nI_pos (by omega)), if_neg (show ¬ (80 : Int32) ≤ nI (8 * t + k) from nI_ge (b := 80) (by omega) (by decide)), inb_nI (show 8 * t + k < 84 by omega) (by decide), nIt (by omega)]
  rfl
theorem house_C (σ : St) {k : Nat} (hk : k < 4) : f_Basket_toldOfHouse σ (nI (8 + k)) = some (σ.2.1 2 (80 + k)) := by
  unfold f_Basket_toldOfHouse
  have e : (80 : Int32) + nI (8 + k) - 8 = nI (80 + k) := by
    show nI 80 + nI (8 + k) - nI 8 = _
    rw [nI_add, pk_sub (by omega)]
    congr 1
    omega
  rw [e, if_neg (show ¬ nI (80 + k) < (80 : Int32) from nI_nlt (b := 80) (by omega) (by omega)), if_neg (show ¬ (84 : Int32) ≤ nI (80 + k) from nI_ge (b := 84) (by omega) (by decide)), inb_nI (show 80 + k < 84 by omega) (by decide), nIt (by omega)]
  rfl
theorem goneOnes_l {n : Nat} (hn : n ≤ 10) {σ : St} (h : σ.1 103 = nI n) (hz : ∀ t, t < n → σ.2.1 4 t = 0 ∨ σ.2.1 4 t = 1) : ∀ (k t : Nat), t + k = n → ∀ fuel, k < fuel → f_Basket_goneOnes_4 fuel σ (nI (cnt (σ.2.1 4) t)) (nI t) = some (nI (cnt (σ.2.1 4) n)) := by
  intro k
  induction k with
  | zero =>
    intro t ht fuel hf
    obtain rfl : t = n := by omega
    obtain ⟨f, rfl⟩ : ∃ f, fuel = f + 1 := ⟨fuel - 1, by omega⟩
    unfold f_Basket_goneOnes_4
    rw [h, if_pos (nI_le (Nat.le_refl t) (by omega))]
  | succ k ih =>
    intro t ht fuel hf
    obtain ⟨f, rfl⟩ : ∃ f, fuel = f + 1 := ⟨fuel - 1, by omega⟩
    unfold f_Basket_goneOnes_4
    rw [h, if_neg (nI_ge (by omega) (by omega)), inb_nI (show t < 10 by omega) (by decide), nIt (by omega)]
    have e : cnt (σ.2.1 4) (t + 1) = cnt (σ.2.1 4) t + (if σ.2.1 4 t = 1 then 1 else 0) := rfl
    have := ih (t + 1) (by omega) f (by omega)
    rw [e] at this
    rcases hz t (by omega) with q | q
    · simp only [q, if_true, cond_true, nI_1]
      rw [q, if_neg (by decide)] at this
      rw [show nI (cnt (σ.2.1 4) t) + (0 : Int32) = nI (cnt (σ.2.1 4) t + 0) from nI_add _ 0]
      exact this
    · simp only [q, i10, if_false, cond_true, nI_1]
      rw [q, if_pos rfl] at this
      exact this
theorem goneOnes_C {n : Nat} {σ τ : St} (h1 : relT n σ τ) (h2 : relG n σ τ) : f_Basket_goneOnes σ = some (nI (cnt (τ.2.1 29) n)) := by
  have := goneOnes_l h1.1 h1.2.1 (fun t ht => by rw [(h2.1 t ht).2.1]; exact (h2.1 t ht).2.2) n 0 (by omega) FU (by have := h1.1; show n < 1000; omega)
  unfold f_Basket_goneOnes
  rw [← cnt_congr (fun t ht => (h2.1 t ht).2.1)]
  exact this
theorem leftMany_l {n : Nat} (hn : n ≤ 10) {τ : St} (h : τ.1 1 = nI n) (hz : ∀ t, t < n → τ.2.1 29 t = 0 ∨ τ.2.1 29 t = 1) : ∀ (k t : Nat), t + k = n → ∀ fuel, k < fuel → f_M_leftMany_4 fuel τ (nI (t - cnt (τ.2.1 29) t)) (nI t) = some (nI (n - cnt (τ.2.1 29) n)) := by
  intro k
  induction k with
  | zero =>
    intro t ht fuel hf
    obtain rfl : t = n := by omega
    obtain ⟨f, rfl⟩ : ∃ f, fuel = f + 1 := ⟨fuel - 1, by omega⟩
    unfold f_M_leftMany_4
    rw [h, if_pos (nI_le (Nat.le_refl t) (by omega))]
  | succ k ih =>
    intro t ht fuel hf
    obtain ⟨f, rfl⟩ : ∃ f, fuel = f + 1 := ⟨fuel - 1, by omega⟩
    unfold f_M_leftMany_4
    rw [h, if_neg (nI_ge (by omega) (by omega)), inb_nI (show t < 10 by omega) (by decide), nIt (by omega)]
    have e : cnt (τ.2.1 29) (t + 1) = cnt (τ.2.1 29) t + (if τ.2.1 29 t = 1 then 1 else 0) := rfl
    have hc := cnt_le (τ.2.1 29) t
    have := ih (t + 1) (by omega) f (by omega)
    rw [e] at this
    rcases hz t (by omega) with q | q
    · simp only [q, if_true, cond_true, nI_1]
      rw [q, if_neg (by decide), show t + 1 - (cnt (τ.2.1 29) t + 0) = t - cnt (τ.2.1 29) t + 1 by omega] at this
      exact this
    · simp only [q, i10, if_false, cond_true, nI_1]
      rw [q, if_pos rfl, show t + 1 - (cnt (τ.2.1 29) t + 1) = t - cnt (τ.2.1 29) t by omega] at this
      exact this
theorem leftMany_M {n : Nat} {σ τ : St} (h1 : relT n σ τ) (h2 : relG n σ τ) : f_M_leftMany τ = some (nI (n - cnt (τ.2.1 29) n)) :=
  leftMany_l h1.1 h1.2.2.1 (fun t ht => (h2.1 t ht).2.2) n 0 (by omega) FU (by have := h1.1; show n < 1000; omega)
theorem e_count {σ τ : St} (h : Rel σ τ) (a : Int32) : ∃ r, f_Top_count σ a = some r ∧ f_M_count τ a = some r := by
  obtain ⟨n, bn, h1, h2, ⟨dn, un, hdu, c1, c2, -⟩, ⟨L, hL, l1, l2, -⟩, h5, h6, ⟨hb, b1, b2, -, rn, hrn, r1, r2, -⟩, h8⟩ := id h
  unfold f_Top_count f_M_count
  rw [goneOnes_C h1 h2, leftMany_M h1 h2, h1.2.1, h1.2.2.1, c1, c2, l1, l2, b1, b2, r1, r2]
  simp only [bind_s, pk_sub (cnt_le (τ.2.1 29) n)]
  refine (fun ⟨r, hr⟩ => ⟨r, hr, hr⟩ : (∃ r, _ = some r) → _) ?_
  repeat' split
  all_goals exact ⟨_, rfl⟩
theorem e_led {σ τ : St} (h : Rel σ τ) (a : Int32) : ∃ r, f_Top_led σ a = some r ∧ f_M_led τ a = some r := by
  obtain ⟨n, bn, h1, h2, h3, h4, h5, ⟨g1, g2, -⟩, h7, h8⟩ := id h
  unfold f_Top_led f_M_led
  rw [goneOnes_C h1 h2, in_eq, within_eq]
  simp only [bind_s]
  by_cases hv : (0 : Int32) ≤ a ∧ a ≤ 4
  · obtain ⟨k, hk, rfl⟩ := (isT (n := 5) (by decide) a).mp hv
    simp only [decide_eq_true hv, b2_t, i10, if_false, inb_nI hk (by decide), cond_true, nIt (show k < 2 ^ 31 by omega)]
    by_cases h4 : k = 4
    · subst h4
      rw [if_pos (show nI 4 = (4 : Int32) from rfl), g2]
      exact ⟨_, rfl, rfl⟩
    · have c1 : ¬ nI k = (4 : Int32) := fun q => h4 ((nI_eq (b := 4) (by omega) (by decide)).mp q)
      have c2 : (0 : Int32) ≤ nI k ∧ nI k ≤ 3 := (isT (n := 4) (by decide) _).mpr ⟨k, by omega, rfl⟩
      simp only [c1, if_false, decide_eq_true c2, b2_t, i10, inb_nI (show k < 4 by omega) (by decide), cond_true]
      exact ⟨_, rfl, by rw [g1 k (by omega)]⟩
  · have c1 : ¬ a = 4 := fun q => hv (by rw [q]; decide)
    have c2 : ¬ ((0 : Int32) ≤ a ∧ a ≤ 3) := fun ⟨q1, q2⟩ => hv ⟨q1, by
      rw [il] at *
      have e3 : (3 : Int32).toInt = 3 := rfl
      have e4 : (4 : Int32).toInt = 4 := rfl
      omega⟩
    simp only [decide_eq_false hv, decide_eq_false c2, b2_f, c1, if_false, if_true]
    exact ⟨_, rfl, rfl⟩
theorem e_bleach {σ τ : St} (h : Rel σ τ) (a : Int32) : ∃ r σ' τ', f_Top_bleach σ a = some (r, σ') ∧ f_M_bleach τ a = some (r, τ') ∧ Rel σ' τ' := by
  obtain ⟨n, bn, h1, h2, h3, h4, h5, h6, h7, h8⟩ := id h
  have hn := h1.1
  unfold f_Top_bleach f_M_bleach
  rcases isThing_2 h1 a with ⟨g1, g2⟩ | ⟨t, ht, rfl, g1, g2⟩
  · rw [g1, g2]; exact ⟨_, _, _, rfl, rfl, h⟩
  · rw [g1, g2]
    simp only [bind_s, i10, if_false, inb_nI (show t < 10 by omega) (by decide), cond_true, nIt (show t < 2 ^ 31 by omega), (h2.1 t ht).1]
    refine ⟨_, _, _, rfl, rfl, n, bn, relT_c h1, ⟨fun u hu => ?_, fun u hu hu2 => ?_⟩, h3, h4, h5, h6, h7, relSh_c h8⟩
    · show upd (σ.2.1 3) t 0 u = upd (τ.2.1 28) t 0 u ∧ _
      obtain ⟨q1, q2⟩ := h2.1 u hu
      refine ⟨?_, q2⟩
      unfold upd
      rw [q1]
    · show upd (σ.2.1 3) t 0 u = 0 ∧ _
      obtain ⟨q1, q2⟩ := h2.2 u hu hu2
      refine ⟨?_, q2⟩
      unfold upd
      rw [q1]; split <;> rfl
theorem nar0 : vp_nar .boolean 0 = 0 := by decide +kernel
theorem nar1 : vp_nar .boolean 1 = 1 := by decide +kernel
theorem cnt_upd {f : Nat → Int32} {t : Nat} (h0 : f t = 0) : ∀ {n : Nat}, t < n → cnt (upd f t 1) n = cnt f n + 1
  | 0, h => by omega
  | n + 1, h => by
    unfold cnt
    by_cases e : t = n
    · subst e
      have q : cnt (upd f t 1) t = cnt f t := cnt_congr (fun u hu => by unfold upd; rw [if_neg (by omega)])
      have q2 : upd f t 1 t = 1 := by unfold upd; rw [if_pos rfl]
      rw [q, q2, h0, if_pos rfl, if_neg (by decide)]
    · have q2 : upd f t 1 n = f n := by unfold upd; rw [if_neg (by omega)]
      rw [cnt_upd h0 (by omega), q2]; omega
theorem e_throwAway {σ τ : St} (h : Rel σ τ) (a : Int32) : ∃ r σ' τ', f_Top_throwAway σ a = some (r, σ') ∧ f_M_throwAway τ a = some (r, τ') ∧ Rel σ' τ' := by
  obtain ⟨n, bn, h1, h2, h3, h4, h5, h6, h7, h8⟩ := id h
  have hn := h1.1
  unfold f_Top_throwAway f_M_throwAway
  rcases isThing_2 h1 a with ⟨g1, g2⟩ | ⟨t, ht, rfl, g1, g2⟩
  · rw [g1, g2]; exact ⟨_, _, _, rfl, rfl, h⟩
  · rw [g1, g2]
    simp only [bind_s, i10, if_false, inb_nI (show t < 10 by omega) (by decide), cond_true, nIt (show t < 2 ^ 31 by omega), (h2.1 t ht).2.1, nar1]
    by_cases h0 : τ.2.1 29 t = 0
    · simp only [h0, if_true]
      have T1 : relT n (upA σ 4 t 1) (upA (upA τ 29 t 1) 30 4 (τ.2.1 30 4 + 1)) := relT_c h1
      have G1 : relG n (upA σ 4 t 1) (upA (upA τ 29 t 1) 30 4 (τ.2.1 30 4 + 1)) := by
        refine ⟨fun u hu => ?_, fun u hu hu2 => ?_⟩
        · obtain ⟨q1, q2, q3⟩ := h2.1 u hu
          refine ⟨q1, ?_, ?_⟩
          · show upd (σ.2.1 4) t 1 u = upd (τ.2.1 29) t 1 u
            unfold upd; rw [q2]
          · show upd (τ.2.1 29) t 1 u = 0 ∨ upd (τ.2.1 29) t 1 u = 1
            unfold upd
            split
            · right; rfl
            · exact q3
        · obtain ⟨q1, q2⟩ := h2.2 u hu hu2
          refine ⟨q1, ?_⟩
          show upd (σ.2.1 4) t 1 u = 0
          unfold upd
          rw [if_neg (by omega), q2]
      have C : f_Basket_goneOnes (upA σ 4 t 1) = some (nI (cnt (upd (τ.2.1 29) t 1) n)) := goneOnes_C T1 G1
      have M : f_M_leftMany (upA (upA τ 29 t 1) 30 4 (τ.2.1 30 4 + 1)) = some (nI (n - cnt (upd (τ.2.1 29) t 1) n)) := leftMany_M T1 G1
      have e4 : (4 : Int32).toNatClampNeg = 4 := rfl
      rw [C, e4, M]
      simp only [bind_s, h1.2.1, pk_sub (cnt_le (upd (τ.2.1 29) t 1) n)]
      refine ⟨_, _, _, rfl, rfl, n, bn, T1, G1, h3, h4, h5, ?_, h7, relSh_c h8⟩
      obtain ⟨d1, d2, d3⟩ := h6
      refine ⟨fun k hk => ?_, ?_, d3⟩
      · show σ.2.1 10 k = upd (τ.2.1 30) 4 _ k
        unfold upd
        rw [if_neg (by omega)]
        exact d1 k hk
      · show upd (τ.2.1 30) 4 (τ.2.1 30 4 + 1) 4 = nI (cnt (upd (τ.2.1 29) t 1) n)
        unfold upd
        rw [if_pos rfl, d2, nI_1]
        congr 1
        exact (cnt_upd h0 ht).symm
    · simp only [h0, if_false]
      exact ⟨_, _, _, rfl, rfl, h⟩
theorem chOK_m {n m : Nat} (hm : n ≤ m) {s k9 k10 v7 v8 v11 v12 : Int32} (h : chOK n s k9 k10 v7 v8 v11 v12) : chOK m s k9 k10 v7 v8 v11 v12 := by
  obtain ⟨k, a, e1, e2, e3, e4⟩ := h
  refine ⟨k, a, e1, e2, ?_, e4⟩
  rcases e3 with ⟨q1, q2, q3⟩ | q
  · exact Or.inl ⟨q1, by omega, q3⟩
  · exact Or.inr q
/-- one more thing, by both -/
theorem add_2 {n bn : Nat} {σ τ : St} (hr : relT n σ τ ∧ relG n σ τ ∧ relCh n σ τ ∧ relTp σ τ ∧ relL σ τ ∧ relD n σ τ ∧ relS bn σ τ ∧ relSh bn σ τ) (hn : n < 10) {c d s : Int32} (hc : okV 0 c) (hd : okV 1 d) (hs : okV 4 s) :
    ∃ σ' τ', f_Basket_add σ c d s = some (nI n, σ') ∧ f_M_addThing τ c d s = some (nI n, τ') ∧ (relT (n + 1) σ' τ' ∧ relG (n + 1) σ' τ' ∧ relCh (n + 1) σ' τ' ∧ relTp σ' τ' ∧ relL σ' τ' ∧ relD (n + 1) σ' τ' ∧ relS bn σ' τ' ∧ relSh bn σ' τ') ∧ σ'.2.2 = σ.2.2 ∧ (∀ k, k ≠ 103 → σ'.1 k = σ.1 k) ∧ τ'.2.2 = τ.2.2 ∧ (∀ k, k ≠ 1 → τ'.1 k = τ.1 k) ∧ τ'.2.1 37 = τ.2.1 37 ∧ τ'.2.1 38 = τ.2.1 38 := by
  obtain ⟨h1, h2, h3, h4, h5, h6, h7, h8⟩ := hr
  unfold f_Basket_add f_M_addThing f_Basket_isFull
  have e0 : nI n * (8 : Int32) = nI (8 * n) := by show nI n * nI 8 = _; rw [pk_mul, Nat.mul_comm]
  have e1 : nI (8 * n) + (0 : Int32) = nI (8 * n) := nI_add _ 0
  have e2 : nI (8 * n) + (1 : Int32) = nI (8 * n + 1) := nI_1 _
  have e3 : nI (8 * n) + (4 : Int32) = nI (8 * n + 4) := nI_add _ 4
  have e4 : cpok 0 (nI (8 * n)) 8 12 84 = true := by
    apply decide_eq_true
    refine ⟨by decide, nI_pos (by omega), by decide, by decide, ?_⟩
    rw [nIt (by omega)]
    show 8 * n + 8 ≤ 84
    omega
  have e5 : nI n + 1 - 1 = nI n := by rw [nI_1, nI_pred]
  simp only [h1.2.1, h1.2.2.1, if_pos (show nI n < (10 : Int32) from nI_lt (b := 10) hn (by decide)), bind_s, if_true, e0, e1, e2, e3, e4, inb_nI (show 8 * n < 84 by omega) (by decide), inb_nI (show 8 * n + 1 < 84 by omega) (by decide), inb_nI (show 8 * n + 4 < 84 by omega) (by decide), inb_nI hn (by decide), cond_true, nIt (show n < 2 ^ 31 by omega), nIt (show 8 * n < 2 ^ 31 by omega), nIt (show 8 * n + 1 < 2 ^ 31 by omega), nIt (show 8 * n + 4 < 2 ^ 31 by omega), e5, nar0]
  refine ⟨_, _, rfl, rfl, ⟨⟨by omega, nI_1 n, nI_1 n, fun t k ht hk => ?_, fun k hk => ?_⟩, ⟨fun t ht => ?_, fun t ht ht2 => ?_⟩, ?_, relTp_c h4, relL_c h5, ?_, relS_c h7, relSh_c h8⟩, rfl, fun k hk => ?_, rfl, fun k hk => ?_, rfl, rfl⟩
  · show upd (upd (upd (va_cpy tb_FIRST (σ.2.1 2) 0 (8 * n) 8) (8 * n) c) (8 * n + 1) d) (8 * n + 4) s (8 * t + k) = _ ∧ _
    by_cases e : t = n
    · subst e
      have q : ∀ j, j < 8 → va_cpy tb_FIRST (σ.2.1 2) 0 (8 * t) 8 (8 * t + j) = tb_FIRST j := fun j hj => by
        unfold va_cpy; rw [if_pos (by omega)]; congr 1; omega
      match k, hk with
      | 0, _ => exact ⟨by simp [upd, upA, upI, va_up], by simp [upd, upA, upI, va_up]; exact hc⟩
      | 1, _ => exact ⟨by simp [upd, upA, upI, va_up], by simp [upd, upA, upI, va_up]; exact hd⟩
      | 2, _ => exact ⟨by simp [upd, upA, upI, va_up, q]; rfl, by simp [upd, upA, upI, va_up]; unfold okV; decide⟩
      | 3, _ => exact ⟨by simp [upd, upA, upI, va_up, q]; rfl, by simp [upd, upA, upI, va_up]; unfold okV; decide⟩
      | 4, _ => exact ⟨by simp [upd, upA, upI, va_up], by simp [upd, upA, upI, va_up]; exact hs⟩
      | 5, _ => exact ⟨by simp [upd, upA, upI, va_up, q]; rfl, by simp [upd, upA, upI, va_up]; unfold okV; decide⟩
      | 6, _ => exact ⟨by simp [upd, upA, upI, va_up, q]; rfl, by simp [upd, upA, upI, va_up]; unfold okV; decide⟩
      | 7, _ => exact ⟨by simp [upd, upA, upI, va_up, q]; rfl, by simp [upd, upA, upI, va_up]; unfold okV; decide⟩
    · have q : upd (upd (upd (va_cpy tb_FIRST (σ.2.1 2) 0 (8 * n) 8) (8 * n) c) (8 * n + 1) d) (8 * n + 4) s (8 * t + k) = σ.2.1 2 (8 * t + k) := by
        unfold upd va_cpy
        rw [if_neg (by omega), if_neg (by omega), if_neg (by omega), if_neg (by omega)]
      rw [q]
      have g := h1.2.2.2.1 t k (by omega) hk
      have z : ∀ j v, upd (τ.2.1 j) n v t = τ.2.1 j t := fun j v => by unfold upd; rw [if_neg e]
      match k, hk with
      | 0, _ => simp only [upA_2, upI_2]; simp [z]; exact g
      | 1, _ => simp only [upA_2, upI_2]; simp [z]; exact g
      | 2, _ => simp only [upA_2, upI_2]; simp [z]; exact g
      | 3, _ => simp only [upA_2, upI_2]; simp [z]; exact g
      | 4, _ => simp only [upA_2, upI_2]; simp [z]; exact g
      | 5, _ => simp only [upA_2, upI_2]; simp [z]; exact g
      | 6, _ => simp only [upA_2, upI_2]; simp [z]; exact g
      | 7, _ => simp only [upA_2, upI_2]; simp [z]; exact g
  · have q : upd (upd (upd (va_cpy tb_FIRST (σ.2.1 2) 0 (8 * n) 8) (8 * n) c) (8 * n + 1) d) (8 * n + 4) s (80 + k) = σ.2.1 2 (80 + k) := by
      unfold upd va_cpy
      rw [if_neg (by omega), if_neg (by omega), if_neg (by omega), if_neg (by omega)]
    show upd (upd (upd (va_cpy tb_FIRST (σ.2.1 2) 0 (8 * n) 8) (8 * n) c) (8 * n + 1) d) (8 * n + 4) s (80 + k) = _ ∧ _
    rw [q, upI_1, if_neg (by omega)]
    exact h1.2.2.2.2 k hk
  · show σ.2.1 3 t = upd (τ.2.1 28) n 0 t ∧ σ.2.1 4 t = upd (τ.2.1 29) n 0 t ∧ (upd (τ.2.1 29) n 0 t = 0 ∨ upd (τ.2.1 29) n 0 t = 1)
    unfold upd
    by_cases e : t = n
    · subst e
      obtain ⟨q1, q2⟩ := h2.2 t (by omega) hn
      rw [if_pos rfl, q1, q2, if_pos rfl]
      exact ⟨rfl, rfl, Or.inl rfl⟩
    · rw [if_neg e, if_neg e]
      exact h2.1 t (by omega)
  · exact h2.2 t (by omega) ht2
  · obtain ⟨dn, un, q1, q2, q3, q4, q5, q6⟩ := h3
    exact ⟨dn, un, q1, q2, q3, q4, q5, fun i hi => chOK_m (by omega) (q6 i hi)⟩
  · obtain ⟨d1, d2, d3⟩ := h6
    refine ⟨d1, ?_, ?_⟩
    · show τ.2.1 30 4 = nI (cnt (upd (τ.2.1 29) n 0) (n + 1))
      rw [d2]
      congr 1
      have e : cnt (upd (τ.2.1 29) n 0) (n + 1) = cnt (upd (τ.2.1 29) n 0) n + (if upd (τ.2.1 29) n 0 n = 1 then 1 else 0) := rfl
      have q2 : upd (τ.2.1 29) n 0 n = 0 := by unfold upd; rw [if_pos rfl]
      rw [e, cnt_congr (f := upd (τ.2.1 29) n 0) (g := τ.2.1 29) (fun u hu => by unfold upd; rw [if_neg (by omega)]), q2, if_neg (by decide)]; rfl
    · rcases d3 with d3 | ⟨d3, kn, d4, d5⟩
      · exact Or.inl d3
      · exact Or.inr ⟨d3, kn, by omega, d5⟩
  · rw [upI_1, if_neg hk]; rfl
  · rw [upI_1, if_neg hk]; rfl
theorem e_thing {σ τ : St} (h : Rel σ τ) (a b : Int32) : ∃ r σ' τ', f_Top_thing σ a b = some (r, σ') ∧ f_M_thing τ a b = some (r, τ') ∧ Rel σ' τ' := by
  obtain ⟨n, bn, hr⟩ := id h
  have h1 := hr.1
  have hn := h1.1
  unfold f_Top_thing f_M_thing
  have m0 : ∀ v, f_Basket_mayBe (0 : Int32) v = some (b2 (decide ((0 : Int32) ≤ v ∧ v ≤ 3))) := fun v => mayBe_C (k := 0) (by decide) v
  have m4 : ∀ v, f_Basket_mayBe (4 : Int32) v = some (b2 (decide ((1 : Int32) ≤ v ∧ v ≤ 9))) := fun v => mayBe_C (k := 4) (by decide) v
  rw [m0, m4, in_eq, in_eq]
  simp only [bind_s]
  by_cases ha : (0 : Int32) ≤ a ∧ a ≤ 3
  · by_cases hb : (1 : Int32) ≤ b ∧ b ≤ 9
    · simp only [decide_eq_true ha, decide_eq_true hb, b2_t, i10, if_false, f_Basket_isFull, h1.2.1, h1.2.2.1]
      by_cases hf : n = 10
      · subst hf
        rw [if_neg (show ¬ nI 10 < (10 : Int32) by decide), if_pos (show nI 10 = (10 : Int32) from rfl)]
        exact ⟨_, _, _, rfl, rfl, h⟩
      · obtain ⟨σ', τ', g1, g2, g3, -⟩ := add_2 hr (by omega) (c := a) (d := 0) (s := b) ha (by unfold okV; decide) hb
        rw [if_pos (show nI n < (10 : Int32) from nI_lt (b := 10) (by omega) (by decide)), if_neg (show ¬ nI n = (10 : Int32) from fun q => hf ((nI_eq (b := 10) (by omega) (by decide)).mp q)), g1, g2]
        exact ⟨_, _, _, rfl, rfl, n + 1, bn, g3⟩
    · simp only [decide_eq_true ha, decide_eq_false hb, b2_t, b2_f, i10, if_false, if_true]
      exact ⟨_, _, _, rfl, rfl, h⟩
  · simp only [decide_eq_false ha, b2_f, if_true]
    exact ⟨_, _, _, rfl, rfl, h⟩
