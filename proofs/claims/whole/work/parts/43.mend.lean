/-! numbers of things and of the household: slot and place -/
def vld (n k a : Nat) : Prop := (k < 8 ∧ a < n) ∨ (8 ≤ k ∧ k < 12 ∧ a = 0)
def slotN (k a : Nat) : Nat := if k < 8 then 8 * a + k else 72 + k
def getM (τ : St) (k a : Nat) : Int32 := if k < 8 then τ.2.1 (k + 1) a else τ.1 (k + 2)
def setM (τ : St) (k a : Nat) (v : Int32) : St := if k < 8 then upA τ (k + 1) a v else upI τ (k + 2) v
theorem vld_k {n k a : Nat} (h : vld n k a) : k < 12 := by rcases h with h | h <;> omega
theorem vld_a {n k a : Nat} (hn : n ≤ 10) (h : vld n k a) : a < 10 := by rcases h with h | h <;> omega
theorem vld_s {n k a : Nat} (hn : n ≤ 10) (h : vld n k a) : slotN k a < 84 := by
  unfold slotN
  rcases h with h | h
  · rw [if_pos h.1]; omega
  · rw [if_neg (by omega)]; omega
theorem isThing_C {n : Nat} {σ τ : St} (h : relT n σ τ) (x : Int32) : f_Basket_isThing σ x = some (b2 (decide (0 ≤ x ∧ x ≤ nI n - 1))) := by
  unfold f_Basket_isThing
  rw [h.2.1, within_eq, bind_s, bif_t (zb_b2 _)]
theorem isThing_M {n : Nat} {σ τ : St} (h : relT n σ τ) (x : Int32) : f_M_isThing τ x = some (b2 (decide (0 ≤ x ∧ x ≤ nI n - 1))) := by
  unfold f_M_isThing
  rw [h.2.2.1, in_eq, bind_s, bif_t (zb_b2 _)]
theorem isThing_Ct {n : Nat} {σ τ : St} (h : relT n σ τ) {t : Nat} (ht : t < n) : f_Basket_isThing σ (nI t) = some 1 := by
  rw [isThing_C h, decide_eq_true ((isT (by have := h.1; omega) _).mpr ⟨t, ht, rfl⟩)]; rfl
theorem isThing_Mt {n : Nat} {σ τ : St} (h : relT n σ τ) {t : Nat} (ht : t < n) : f_M_isThing τ (nI t) = some 1 := by
  rw [isThing_M h, decide_eq_true ((isT (by have := h.1; omega) _).mpr ⟨t, ht, rfl⟩)]; rfl
theorem isThing_2 {n : Nat} {σ τ : St} (h : relT n σ τ) (x : Int32) : (f_Basket_isThing σ x = some 0 ∧ f_M_isThing τ x = some 0) ∨ ∃ t, t < n ∧ x = nI t ∧ f_Basket_isThing σ x = some 1 ∧ f_M_isThing τ x = some 1 := by
  by_cases hv : 0 ≤ x ∧ x ≤ nI n - 1
  · obtain ⟨t, ht, rfl⟩ := (isT (by have := h.1; omega) _).mp hv
    exact Or.inr ⟨t, ht, rfl, isThing_Ct h ht, isThing_Mt h ht⟩
  · left
    rw [isThing_C h, isThing_M h, decide_eq_false hv]
    exact ⟨rfl, rfl⟩
theorem valueAt_M (τ : St) {k a : Nat} (hk : k < 12) (ha : a < 10) : f_M_valueAt τ (nI k) (nI a) = some (getM τ k a) := by
  have hi : inb (nI a) 10 = true := inb_nI ha (by decide)
  have hc : (nI a).toNatClampNeg = a := nIt (by omega)
  unfold f_M_valueAt
  rw [hi, hc]
  match k, hk with
  | 0, _ => rfl
  | 1, _ => rfl
  | 2, _ => rfl
  | 3, _ => rfl
  | 4, _ => rfl
  | 5, _ => rfl
  | 6, _ => rfl
  | 7, _ => rfl
  | 8, _ => rfl
  | 9, _ => rfl
  | 10, _ => rfl
  | 11, _ => rfl
theorem lays_M (τ : St) {k a : Nat} (hk : k < 12) (ha : a < 10) (v : Int32) : f_M_lays τ (nI k) (nI a) v = some (setM τ k a v) := by
  have hi : inb (nI a) 10 = true := inb_nI ha (by decide)
  have hc : (nI a).toNatClampNeg = a := nIt (by omega)
  unfold f_M_lays
  rw [hi, hc]
  match k, hk with
  | 0, _ => rfl
  | 1, _ => rfl
  | 2, _ => rfl
  | 3, _ => rfl
  | 4, _ => rfl
  | 5, _ => rfl
  | 6, _ => rfl
  | 7, _ => rfl
  | 8, _ => rfl
  | 9, _ => rfl
  | 10, _ => rfl
  | 11, _ => rfl
theorem numberAt_C (σ : St) {s : Nat} (hs : s < 84) : f_Basket_numberAt σ (nI s) = some (σ.2.1 2 s) := by
  unfold f_Basket_numberAt
  rw [if_neg (nI_pos (by omega)), if_neg (show ¬ (84 : Int32) ≤ nI s from nI_ge (b := 84) hs (by decide)), inb_nI hs (by decide), nIt (by omega)]; rfl
theorem write_C (σ : St) {s : Nat} (hs : s < 84) (v : Int32) : f_Basket_write σ (nI s) v = some (upA σ 2 s v) := by
  unfold f_Basket_write
  rw [if_neg (nI_pos (by omega)), if_neg (show ¬ (84 : Int32) ≤ nI s from nI_ge (b := 84) hs (by decide)), inb_nI hs (by decide), nIt (by omega)]; rfl
theorem mayBe_C {k : Nat} (hk : k < 12) (v : Int32) : f_Basket_mayBe (nI k) v = some (b2 (decide (tb_LEAST k ≤ v ∧ v ≤ tb_MOST k))) := by
  unfold f_Basket_mayBe
  have h : (0 : Int32) ≤ nI k ∧ nI k ≤ 11 := (isT (n := 12) (by decide) _).mpr ⟨k, hk, rfl⟩
  rw [within_eq, bind_s, decide_eq_true h, inb_nI hk (by decide), within_eq, nIt (by omega)]
  simp only [b2_t, i10, if_false, cond_true, bind_s]
  cases decide (tb_LEAST k ≤ v ∧ v ≤ tb_MOST k) <;> rfl
theorem mayBe_M {k : Nat} (hk : k < 12) (v : Int32) : f_M_mayBe (nI k) v = some (b2 (decide (tb_LEAST k ≤ v ∧ v ≤ tb_MOST k))) := by
  unfold f_M_mayBe
  simp only [in_eq, bind_s, bif_t (zb_b2 _)]
  match k, hk with
  | 0, _ => rfl
  | 1, _ => rfl
  | 2, _ => rfl
  | 3, _ => rfl
  | 4, _ => rfl
  | 5, _ => rfl
  | 6, _ => rfl
  | 7, _ => rfl
  | 8, _ => rfl
  | 9, _ => rfl
  | 10, _ => rfl
  | 11, _ => rfl
/-- which number is meant, by both -/
theorem slot_2 {n : Nat} {σ τ : St} (h : relT n σ τ) (x w : Int32) : (f_Basket_slot σ x w = some (-1) ∧ f_M_isOne τ x w = some 0) ∨ ∃ k a, vld n k a ∧ w = nI k ∧ x = nI a ∧ f_Basket_slot σ x w = some (nI (slotN k a)) ∧ f_M_isOne τ x w = some 1 := by
  have hn := h.1
  unfold f_Basket_slot f_M_isOne
  simp only [within_eq, in_eq, bind_s]
  by_cases h1 : (0 : Int32) ≤ w ∧ w ≤ 7
  · obtain ⟨k, hk, rfl⟩ := (isT (n := 8) (by decide) w).mp h1
    simp only [decide_eq_true h1, b2_t, i10, if_false]
    rcases isThing_2 h x with ⟨g1, g2⟩ | ⟨t, ht, rfl, g1, g2⟩
    · left; rw [g1, g2]; exact ⟨rfl, rfl⟩
    · right
      refine ⟨k, t, Or.inl ⟨hk, ht⟩, rfl, rfl, ?_, ?_⟩
      · rw [g1, bind_s, if_neg i10]
        show some (nI t * nI 8 + nI k) = _
        rw [pk_mul, nI_add, slotN, if_pos hk, Nat.mul_comm]
      · rw [g2]; rfl
  · simp only [decide_eq_false h1, b2_f, if_true]
    by_cases h2 : (8 : Int32) ≤ w ∧ w ≤ 11
    · obtain ⟨k, hk, rfl⟩ := (isT (n := 12) (by decide) w).mp ⟨by
        have := h2.1; rw [il] at *; have e0 : (0 : Int32).toInt = 0 := rfl; have e8 : (8 : Int32).toInt = 8 := rfl; omega, h2.2⟩
      have hk8 : 8 ≤ k := (nI_leI (a := 8) (by decide) (by omega)).mp h2.1
      simp only [decide_eq_true h2, b2_t, i10, if_false]
      by_cases hx : x = 0
      · right
        refine ⟨k, 0, Or.inr ⟨hk8, hk, rfl⟩, rfl, hx, ?_, ?_⟩
        · rw [if_pos hx]
          show some (nI 80 + nI k - nI 8) = _
          rw [nI_add, pk_sub (by omega), slotN, if_neg (by omega)]
          congr 2
          omega
        · rw [if_pos hx]
      · left
        rw [if_neg hx, if_neg hx]
        exact ⟨rfl, rfl⟩
    · left
      simp only [decide_eq_false h2, b2_f, if_true]
      exact ⟨trivial, trivial⟩
theorem relT_get {n : Nat} {σ τ : St} (h : relT n σ τ) {k a : Nat} (hv : vld n k a) : σ.2.1 2 (slotN k a) = getM τ k a ∧ okV k (getM τ k a) := by
  obtain ⟨g1, g2, g3, g4, g5⟩ := h
  unfold slotN getM
  rcases hv with ⟨h1, h2⟩ | ⟨h1, h2, h3⟩
  · rw [if_pos h1, if_pos h1]; exact g4 a k h2 h1
  · rw [if_neg (by omega), if_neg (by omega)]
    have := g5 (k - 8) (by omega)
    rw [show 80 + (k - 8) = 72 + k by omega, show 10 + (k - 8) = k + 2 by omega, show 8 + (k - 8) = k by omega] at this
    exact this
theorem relT_set {n : Nat} {σ τ : St} (h : relT n σ τ) {k a : Nat} (hv : vld n k a) {v : Int32} (hk : okV k v) : relT n (upA σ 2 (slotN k a) v) (setM τ k a v) := by
  obtain ⟨g1, g2, g3, g4, g5⟩ := h
  rcases hv with ⟨h1, h2⟩ | ⟨h1, h2, h3⟩
  · unfold slotN setM
    rw [if_pos h1, if_pos h1]
    refine ⟨g1, g2, g3, fun t j ht hj => ?_, fun j hj => ?_⟩
    · rw [upA_2, if_pos rfl, upA_2]
      by_cases e : j = k
      · subst e
        rw [if_pos rfl]
        by_cases e2 : t = a
        · subst e2
          simp only [upd, if_true]; exact ⟨trivial, hk⟩
        · have : ¬ 8 * t + j = 8 * a + j := by omega
          simp only [upd, this, e2, if_false]
          exact g4 t j ht hj
      · have : ¬ 8 * t + j = 8 * a + k := by omega
        have e3 : ¬ j + 1 = k + 1 := by omega
        simp only [upd, this, e3, if_false]
        exact g4 t j ht hj
    · rw [upA_2, if_pos rfl, upA_1]
      have : ¬ 80 + j = 8 * a + k := by omega
      simp only [upd, this, if_false]
      exact g5 j hj
  · unfold slotN setM
    rw [if_neg (by omega), if_neg (by omega)]
    refine ⟨g1, g2, ?_, fun t j ht hj => ?_, fun j hj => ?_⟩
    · rw [upI_1, if_neg (by omega)]; exact g3
    · rw [upA_2, if_pos rfl, upI_2]
      have : ¬ 8 * t + j = 72 + k := by omega
      simp only [upd, this, if_false]
      exact g4 t j ht hj
    · rw [upA_2, if_pos rfl, upI_1]
      by_cases e : 10 + j = k + 2
      · have e2 : 80 + j = 72 + k := by omega
        simp only [upd, e, e2, if_true]
        rw [show 8 + j = k by omega]
        exact ⟨trivial, hk⟩
      · have e2 : ¬ 80 + j = 72 + k := by omega
        simp only [upd, e, e2, if_false]
        exact g5 j hj
theorem setM_i (τ : St) {k a j : Nat} {v : Int32} (hk : k < 12) (hj : j < 10 ∨ 13 < j) : (setM τ k a v).1 j = τ.1 j := by
  unfold setM
  split
  · rfl
  · rw [upI_1, if_neg (by omega)]
theorem setM_a (τ : St) {k a b : Nat} {v : Int32} (hb : 8 < b) : (setM τ k a v).2.1 b = τ.2.1 b := by
  unfold setM
  split
  · rw [upA_2, if_neg (by omega)]
  · rfl
theorem setM_l (τ : St) {k a : Nat} {v : Int32} : (setM τ k a v).2.2 = τ.2.2 := by
  unfold setM
  split <;> rfl
theorem e_of {σ τ : St} (h : Rel σ τ) (x w : Int32) : ∃ r, f_Top_of σ x w = some r ∧ f_M_of τ x w = some r := by
  obtain ⟨n, bn, h1, h2, h3, h4, h5, h6, h7, h8⟩ := id h
  have hn := h1.1
  unfold f_Top_of f_M_of f_Top_of_12
  rw [in_eq, bind_s]
  by_cases hw : w = 12 ∨ w = 13
  · have hd : (12 : Int32) ≤ w ∧ w ≤ 13 := by rcases hw with rfl | rfl <;> decide
    simp only [decide_eq_true hd, b2_t, i10, if_false]
    have key : ∃ r, ((f_Basket_isThing σ x).bind fun r17_1 => (if r17_1 = 0 then (some (-1 : Int32)) else ((f_Basket_stateOf σ x w).bind fun r29_2 => (some r29_2)))) = some r ∧ ((f_M_isThing τ x).bind fun r13_4 => (if r13_4 = 0 then (some (-1 : Int32)) else (if w = (12 : Int32) then (bif inb x 10 then (some (τ.2.1 28 x.toNatClampNeg)) else none) else (bif inb x 10 then (if (τ.2.1 29 x.toNatClampNeg) = 0 then (some (0 : Int32)) else (some (1 : Int32))) else none)))) = some r := by
      rcases isThing_2 h1 x with ⟨g1, g2⟩ | ⟨t, ht, rfl, g1, g2⟩
      · rw [g1, g2]; exact ⟨_, rfl, rfl⟩
      · obtain ⟨q1, q2, q3⟩ := h2.1 t ht
        unfold f_Basket_stateOf
        rw [g1, g2]
        simp only [bind_s, i10, if_false, inb_nI (show t < 10 by omega) (by decide), cond_true, nIt (show t < 2 ^ 31 by omega), q1, q2]
        by_cases h12 : w = 12
        · simp only [h12, if_true]; exact ⟨_, rfl, rfl⟩
        · simp only [h12, if_false]
          by_cases h0 : τ.2.1 29 t = 0
          · simp only [h0, if_true]; exact ⟨_, rfl, rfl⟩
          · simp only [h0, if_false]; exact ⟨_, rfl, rfl⟩
    obtain ⟨r, k1, k2⟩ := key
    refine ⟨r, ?_, k2⟩
    by_cases h12 : w = 12
    · rw [if_pos h12]; exact k1
    · rw [if_neg h12, if_pos (hw.resolve_left h12)]; exact k1
  · have w1 : ¬ w = 12 := fun e => hw (Or.inl e)
    have w2 : ¬ w = 13 := fun e => hw (Or.inr e)
    have hd : ¬ ((12 : Int32) ≤ w ∧ w ≤ 13) := fun ⟨q1, q2⟩ => by
      rw [il] at q1 q2
      have e1 : (12 : Int32).toInt = 12 := rfl
      have e2 : (13 : Int32).toInt = 13 := rfl
      rcases (show w.toInt = 12 ∨ w.toInt = 13 by omega) with e | e
      · exact w1 ((ie _ _).mpr (by rw [e, e1]))
      · exact w2 ((ie _ _).mpr (by rw [e, e2]))
    simp only [decide_eq_false hd, b2_f, w1, w2, if_true, if_false]
    rcases slot_2 h1 x w with ⟨g1, g2⟩ | ⟨k, a, hv, rfl, rfl, g1, g2⟩
    · rw [g1, g2]; exact ⟨_, rfl, rfl⟩
    · rw [g1, g2]
      simp only [bind_s, i10, if_false, if_pos (nI_pos' (show slotN k a < 2 ^ 31 by have := vld_s hn hv; omega)), numberAt_C σ (vld_s hn hv), valueAt_M τ (vld_k hv) (vld_a hn hv)]
      exact ⟨_, rfl, by rw [(relT_get h1 hv).1]⟩
