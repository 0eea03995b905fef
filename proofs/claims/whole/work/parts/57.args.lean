/-! arguments, by both; calls on a run in thought -/
theorem rel_k {σ τ σ' τ' : St} (h : Rel σ τ) (h1 : kC σ' = kC σ) (h2 : kM τ' = kM τ) : Rel σ' τ' := Rel_M h2 (Rel_C h1 h)
theorem neg_div {x : Int32} (hx : x < 0) {d : Nat} (hd : d < 2 ^ 31) : (x / nI d).toInt ≤ 0 := by
  rw [Int32.toInt_div, nI_toInt hd]
  have h1 : x.toInt < 0 := by rw [it] at hx; exact hx
  have h2 : -2 ^ 31 ≤ x.toInt := Int32.le_toInt x
  obtain ⟨m, hm⟩ : ∃ m : Nat, x.toInt = -(m : Int) := ⟨x.toInt.natAbs, by omega⟩
  rw [hm, Int.neg_tdiv, Int.tdiv_eq_ediv_of_nonneg (by omega)]
  have h3 : (m : Int) / (d : Int) ≤ m := Int.ediv_le_self _ (by omega)
  have h4 : 0 ≤ (m : Int) / (d : Int) := Int.ediv_nonneg (by omega) (by omega)
  generalize (m : Int) / (d : Int) = q at *
  rw [Int.bmod_def]
  split <;> omega
theorem isHeat_C (x : Int32) : f_Top_isHeat x = some (b2 (decide (3 ≤ x ∧ x ≤ 9))) := by
  unfold f_Top_isHeat
  rw [within_eq, bind_s, bif_t (zb_b2 _)]
theorem isHeat_M (x : Int32) : f_M_isHeat x = some (b2 (decide (3 ≤ x ∧ x ≤ 9))) := by
  unfold f_M_isHeat
  rw [in_eq, bind_s, bif_t (zb_b2 _)]
theorem btw {m a b : Nat} (hm : m < 2 ^ 31) (ha : a < 2 ^ 31) (hb : b < 2 ^ 31) : (nI a ≤ nI m ∧ nI m ≤ nI b) ↔ (a ≤ m ∧ m ≤ b) := by
  rw [nI_leI ha hm, nI_leI hm hb]
theorem heat_N {m : Nat} (hm : m < 2 ^ 31) : ((3 : Int32) ≤ nI m ∧ nI m ≤ 9) ↔ (3 ≤ m ∧ m ≤ 9) := btw (a := 3) (b := 9) hm (by decide) (by decide)
theorem isHeat_2 (x : Int32) : (f_Top_isHeat x = some 0 ∧ f_M_isHeat x = some 0) ∨ ∃ h, 3 ≤ h ∧ h ≤ 9 ∧ x = nI h ∧ f_Top_isHeat x = some 1 ∧ f_M_isHeat x = some 1 := by
  rw [isHeat_C, isHeat_M]
  by_cases hv : (3 : Int32) ≤ x ∧ x ≤ 9
  · right
    obtain ⟨h, hh, rfl⟩ := nI_of (x := x) (fun q => by rw [it] at q; rw [il] at hv; have z0 : (0 : Int32).toInt = 0 := rfl; have z3 : (3 : Int32).toInt = 3 := rfl; omega)
    have := (heat_N hh).mp hv
    rw [decide_eq_true hv]
    exact ⟨h, this.1, this.2, rfl, rfl, rfl⟩
  · left
    rw [decide_eq_false hv]
    exact ⟨rfl, rfl⟩
theorem isSet_2 {e : Ew} {σ τ : St} (hB : ewB e) (hC : ewC e σ) (hM : ewM e τ) (x : Int32) : (f_Top_isSet σ x = some 0 ∧ f_M_areThings τ x = some 0) ∨ ∃ b, b < 2 ^ e.1 ∧ x = nI b ∧ f_Top_isSet σ x = some 1 ∧ f_M_areThings τ x = some 1 := by
  have hn := hB.1
  have e1 := isSet_eq hn x
  have e2 := areThings_eq hn x
  unfold f_Top_isSet f_M_areThings
  rw [hC.1, hM.1, in_eq, bind_s, bif_t (zb_b2 _)]
  by_cases hv : ∃ b, b < 2 ^ e.1 ∧ x = nI b
  · right
    rw [if_pos (e1.mpr hv), decide_eq_true (e2.mpr hv)]
    obtain ⟨b, hb, rfl⟩ := hv
    exact ⟨b, hb, rfl, rfl, rfl⟩
  · left
    rw [if_neg (fun q => hv (e1.mp q)), decide_eq_false (fun q => hv (e2.mp q))]
    exact ⟨rfl, rfl⟩
theorem no_heat {x : Int32} (h0 : x < 0) {d : Nat} (hd : d < 2 ^ 31) : ¬ ((3 : Int32) ≤ x / nI d ∧ x / nI d ≤ 9) := fun ⟨q, _⟩ => by
  have := neg_div h0 hd
  rw [il] at q
  have z3 : (3 : Int32).toInt = 3 := rfl
  omega
theorem heatCloth_2 (x : Int32) : (f_Top_isHeatAndCloth x = some 0 ∧ f_M_areHeat x = some 0) ∨ ∃ h c, 3 ≤ h ∧ h ≤ 9 ∧ c ≤ 1 ∧ f_Top_isHeatAndCloth x = some 1 ∧ f_M_areHeat x = some 1 ∧ x / 10 = nI h ∧ irem x 10 = nI c := by
  unfold f_Top_isHeatAndCloth f_M_areHeat
  rw [isHeat_C, isHeat_M, within_eq]
  by_cases h0 : x < 0
  · left
    rw [if_pos h0, decide_eq_false (show ¬ ((3 : Int32) ≤ x / 10 ∧ x / 10 ≤ 9) from no_heat h0 (d := 10) (by decide))]
    exact ⟨rfl, rfl⟩
  · rw [if_neg h0]
    obtain ⟨m, hm, rfl⟩ := nI_of h0
    have ed : nI m / 10 = nI (m / 10) := pk_div (d := 10) hm (by decide) (by decide)
    have er : irem (nI m) 10 = nI (m % 10) := pk_rem (d := 10) hm (by decide) (by decide)
    rw [ed, er]
    have hh := heat_N (m := m / 10) (by omega)
    have hr : ((0 : Int32) ≤ nI (m % 10) ∧ nI (m % 10) ≤ 1) ↔ (0 ≤ m % 10 ∧ m % 10 ≤ 1) := btw (a := 0) (b := 1) (by omega) (by decide) (by decide)
    by_cases h1 : (3 : Int32) ≤ nI (m / 10) ∧ nI (m / 10) ≤ 9
    · rw [decide_eq_true h1, b2_t]
      simp only [bind_s, i10, if_false]
      by_cases h2 : (0 : Int32) ≤ nI (m % 10) ∧ nI (m % 10) ≤ 1
      · right
        rw [decide_eq_true h2, b2_t, if_neg (show ¬ (1 : Int32) < nI (m % 10) from nI_nlt (a := 1) (hr.mp h2).2 (by decide))]
        exact ⟨m / 10, m % 10, (hh.mp h1).1, (hh.mp h1).2, (hr.mp h2).2, rfl, rfl, rfl, rfl⟩
      · left
        rw [decide_eq_false h2, if_pos (show (1 : Int32) < nI (m % 10) from nI_lt (a := 1) (by have := mt hr.mpr h2; omega) (by omega))]
        exact ⟨rfl, rfl⟩
    · left
      rw [decide_eq_false h1]
      exact ⟨rfl, rfl⟩
theorem heatTint_2 (x : Int32) : (f_Top_isHeatAndTint x = some 0 ∧ f_M_areMost x = some 0) ∨ ∃ h m, 3 ≤ h ∧ h ≤ 9 ∧ m ≤ 99 ∧ f_Top_isHeatAndTint x = some 1 ∧ f_M_areMost x = some 1 ∧ x / 100 = nI h ∧ irem x 100 = nI m := by
  unfold f_Top_isHeatAndTint f_M_areMost
  rw [isHeat_C, isHeat_M, bind_s, bif_t (zb_b2 _)]
  by_cases h0 : x < 0
  · left
    rw [if_pos h0, decide_eq_false (show ¬ ((3 : Int32) ≤ x / 100 ∧ x / 100 ≤ 9) from no_heat h0 (d := 100) (by decide))]
    exact ⟨rfl, rfl⟩
  · rw [if_neg h0]
    obtain ⟨m, hm, rfl⟩ := nI_of h0
    have ed : nI m / 100 = nI (m / 100) := pk_div (d := 100) hm (by decide) (by decide)
    have er : irem (nI m) 100 = nI (m % 100) := pk_rem (d := 100) hm (by decide) (by decide)
    rw [ed, er]
    have hh := heat_N (m := m / 100) (by omega)
    by_cases h1 : (3 : Int32) ≤ nI (m / 100) ∧ nI (m / 100) ≤ 9
    · right
      rw [decide_eq_true h1, b2_t]
      exact ⟨m / 100, m % 100, (hh.mp h1).1, (hh.mp h1).2, by omega, rfl, rfl, rfl, rfl⟩
    · left
      rw [decide_eq_false h1]
      exact ⟨rfl, rfl⟩
theorem thing_2 {e : Ew} {σ τ : St} (hB : ewB e) (hC : ewC e σ) (hM : ewM e τ) (x : Int32) : (f_Basket_isThing σ x = some 0 ∧ f_M_isThing τ x = some 0) ∨ ∃ t, t < e.1 ∧ x = nI t ∧ f_Basket_isThing σ x = some 1 ∧ f_M_isThing τ x = some 1 := by
  have hn := hB.1
  unfold f_Basket_isThing f_M_isThing
  rw [hC.1, hM.1, within_eq, in_eq, bind_s, bif_t (zb_b2 _)]
  by_cases hv : 0 ≤ x ∧ x ≤ nI e.1 - 1
  · obtain ⟨t, ht, rfl⟩ := (isT (by omega) _).mp hv
    rw [decide_eq_true hv]
    exact Or.inr ⟨t, ht, rfl, rfl, rfl⟩
  · rw [decide_eq_false hv]
    exact Or.inl ⟨rfl, rfl⟩
/-- a number from 0 to 99 -/
theorem upto99_2 (x : Int32) : (f_Top_within x 0 99 = some 0 ∧ f_M_in x 0 99 = some 0) ∨ ∃ m, m ≤ 99 ∧ x = nI m ∧ f_Top_within x 0 99 = some 1 ∧ f_M_in x 0 99 = some 1 := by
  rw [within_eq, in_eq]
  by_cases hv : (0 : Int32) ≤ x ∧ x ≤ 99
  · obtain ⟨m, hm, rfl⟩ := (isT (n := 100) (by decide) x).mp hv
    rw [decide_eq_true hv]
    exact Or.inr ⟨m, by omega, rfl, rfl, rfl⟩
  · rw [decide_eq_false hv]
    exact Or.inl ⟨rfl, rfl⟩
theorem fill_V {e : Ew} {σ : St} (hB : ewB e) (hC : ewC e σ) {gv : Nat → Nat} {h : Nat} (hg : ∀ t, t < e.1 → σ.2.1 40 t = nI (gv t)) (h3 : σ.1 3903 = nI h) (hg2 : ∀ t, t < e.1 → gv t ≤ 99) {b off : Nat} (hb : b < 2 ^ e.1) (ho : off ≤ 1000) : ∃ σ', f_Tub_fill σ (nI b) (nI off) = some σ' ∧ kC σ' = kC σ ∧ tubV e gv h b (lsN e gv b off) σ' := by
  have hk : kC (upI (upI σ 3904 (nI b)) 3905 (nI (lsN e gv b off))) = kC σ := by rw [kC_upI (by rfl), kC_upI (by rfl)]
  exact ⟨_, fill_C hB hC hg hg2 hb ho, hk, ewC_k hk hC, hg, h3, rfl, rfl⟩
theorem cl_le {e : Ew} (hB : ewB e) {c : Nat} (hc : c ≤ 9) : c * e.2.2.1 1 ≤ 1000 := by
  have h99 := (hB.2.2.1 1 (by decide)).2
  have e99 : hiN (8 + 1) = 99 := rfl
  have : c * e.2.2.1 1 ≤ 9 * 99 := Nat.mul_le_mul hc (by omega)
  omega
theorem load_V {e : Ew} {σ : St} (hB : ewB e) (hC : ewC e σ) {x : Int32} {h c b : Nat} (hh : h ≤ 9) (hc : c ≤ 9) (hd : x / 10 = nI h) (hr : irem x 10 = nI c) (hb : b < 2 ^ e.1) : ∃ σ', f_Tub_load σ (nI b) x = some σ' ∧ kC σ' = kC σ ∧ tubV e (gN e h) h b (lsN e (gN e h) b (c * e.2.2.1 1)) σ' := by
  obtain ⟨σ1, w1, w2, w3, w4⟩ := warm_C hB hC hh
  have hC1 := ewC_k w2 hC
  obtain ⟨σ2, f1, f2, f3⟩ := fill_V hB hC1 w4 w3 (fun t ht => gN_le hB hh ht) hb (cl_le hB hc)
  refine ⟨σ2, ?_, f2.trans w2, f3⟩
  unfold f_Tub_load
  rw [hd, w1, bind_s, hr, caught_C hC1, bind_s, f1]
  rfl
theorem offBy_M {e : Ew} {τ : St} (hM : ewM e τ) {x : Int32} {c : Nat} (hc : c ≤ 1) (hr : irem x 10 = nI c) : f_M_offBy τ x = some (nI (c * e.2.2.1 1)) := by
  unfold f_M_offBy
  have q : τ.1 11 = nI (e.2.2.1 1) := hM.2.2.1 1 (by decide)
  rw [hr, q]
  match c, hc with
  | 0, _ => rw [if_neg (by decide), Nat.zero_mul]; rfl
  | 1, _ => rw [if_pos (show nI 1 = 1 from rfl), Nat.one_mul]
theorem isThM {e : Ew} {τ : St} (hM : ewM e τ) (x : Int32) : f_M_isThing τ x = some (b2 (decide (0 ≤ x ∧ x ≤ nI e.1 - 1))) := by
  unfold f_M_isThing
  rw [hM.1, in_eq, bind_s, bif_t (zb_b2 _)]
theorem bt_hi {n b t : Nat} (hb : b < 2 ^ n) (ht : n ≤ t) : bt b t = false := by
  unfold bt
  rw [Nat.div_eq_of_lt (Nat.lt_of_lt_of_le hb (Nat.pow_le_pow_right (by decide) ht))]
  rfl
theorem of_2 {e : Ew} {τ : St} {b : Nat} (hB : ewB e) (hM : ewM e τ) (hb : b < 2 ^ e.1) (x : Int32) : (f_Top_isOf (nI b) x = some 0 ∧ f_M_isThing τ x = some 0) ∨ ∃ t, t < e.1 ∧ x = nI t ∧ f_Top_isOf (nI b) x = some (b2 (bt b t)) ∧ f_M_isThing τ x = some 1 := by
  have hn := hB.1
  have hb10 := p10 hn hb
  rw [isThM hM]
  by_cases hv : (0 : Int32) ≤ x ∧ x ≤ 9
  · obtain ⟨t, ht, rfl⟩ := (isT (n := 10) (by decide) x).mp hv
    by_cases hq : t < e.1
    · right
      refine ⟨t, hq, rfl, isOf_eq (by omega) ht, ?_⟩
      rw [decide_eq_true ((isT (by omega) _).mpr ⟨t, hq, rfl⟩)]; rfl
    · left
      rw [isOf_eq (by omega) ht, bt_hi hb (by omega), decide_eq_false (fun q => by
        obtain ⟨u, hu, e1⟩ := (isT (by omega) _).mp q
        have := (nI_eq (by omega) (by omega)).mp e1
        omega)]
      exact ⟨rfl, rfl⟩
  · left
    rw [decide_eq_false (fun q => by
        obtain ⟨u, hu, e1⟩ := (isT (by omega) _).mp q
        exact hv ((isT (n := 10) (by decide) x).mpr ⟨u, by omega, e1⟩))]
    refine ⟨?_, rfl⟩
    unfold f_Top_isOf
    rw [within_eq, decide_eq_false hv]
    rfl
theorem e_gives {σ τ : St} (h : Rel σ τ) (x y : Int32) : ∃ r σ' τ', f_Top_gives σ x y = some (r, σ') ∧ f_M_gives τ x y = some (r, τ') ∧ Rel σ' τ' := by
  obtain ⟨e, hB, hC, hM⟩ := rel_ew h
  unfold f_Top_gives f_M_gives
  rcases thing_2 hB hC hM x with ⟨g1, g2⟩ | ⟨t, ht, rfl, g1, g2⟩
  · rw [g1, g2]; exact ⟨_, _, _, rfl, rfl, h⟩
  · rw [g1, g2]
    rcases isHeat_2 y with ⟨k1, k2⟩ | ⟨w, w3, w9, rfl, k1, k2⟩
    · rw [k1, k2]; exact ⟨_, _, _, rfl, rfl, h⟩
    · rw [k1, k2]
      have q1 : f_Basket_told σ (nI t) 1 = _ := told_e hB hC (k := 1) ht (by decide)
      have q2 : f_Basket_told σ (nI t) 2 = _ := told_e hB hC (k := 2) ht (by decide)
      obtain ⟨σ', d1, d2⟩ := dyeIf_C hB hC (t := t) (v := e.2.1 t 1) (w := e.2.1 t 2) (h := w) ht (hB.2.1 t 1 ht (by decide)).2 (by have := (hB.2.1 t 2 ht (by decide)).2; have e2 : hiN 2 = 99 := rfl; omega) w9
      obtain ⟨τ', m1, m2⟩ := dyeOf_M hB hM ht w9
      unfold f_Tub_dyeOf
      simp only [bind_s, i10, if_false, q1, q2, d1, bd2_s, m1]
      exact ⟨_, _, _, rfl, rfl, rel_k h (samD_kC d2) (samG_kM m2)⟩
theorem e_run {σ τ : St} (h : Rel σ τ) (x y z : Int32) : ∃ r σ' τ', f_Top_run σ x y z = some (r, σ') ∧ f_M_run τ x y z = some (r, τ') ∧ Rel σ' τ' := by
  obtain ⟨e, hB, hC, hM⟩ := rel_ew h
  unfold f_Top_run f_M_run
  rcases isSet_2 hB hC hM x with ⟨g1, g2⟩ | ⟨b, hb, rfl, g1, g2⟩
  · rw [g1, g2]; exact ⟨_, _, _, rfl, rfl, h⟩
  · rw [g1, g2]
    rcases heatCloth_2 y with ⟨k1, k2⟩ | ⟨w, c, w3, w9, c1, k1, k2, k3, k4⟩
    · rw [k1, k2]; exact ⟨_, _, _, rfl, rfl, h⟩
    · obtain ⟨σ', l1, l2, l3⟩ := load_V hB hC w9 (by omega) k3 k4 hb
      have hg := fun t (ht : t < e.1) => gN_le hB w9 ht
      have hls := lsN_le hB hg b (c * e.2.2.1 1)
      rw [k1, k2, in_eq, l1, k3, offBy_M hM c1 k4]
      simp only [bind_s, i10, if_false]
      by_cases hv : (0 : Int32) ≤ z ∧ z ≤ 3
      · rw [decide_eq_true hv, b2_t, if_neg i10]
        obtain ⟨k, hk, rfl⟩ := (isT (n := 4) (by decide) z).mp hv
        match k, hk with
        | 0, _ =>
          obtain ⟨τ', m1, m2⟩ := loose_M hB hM hb w9 (cl_le hB (c := c) (by omega))
          rw [if_pos (show nI 0 = 0 from rfl), if_pos (show nI 0 = 0 from rfl), m1, l3.2.2.2.2]
          exact ⟨_, _, _, rfl, rfl, rel_k h l2 m2⟩
        | 1, _ =>
          obtain ⟨τ', m1, m2⟩ := tints_M hB hM hb w9 (cl_le hB (c := c) (by omega))
          rw [if_neg (show ¬ nI 1 = 0 from i10), if_pos (show nI 1 = 1 from rfl), if_neg (show ¬ nI 1 = 0 from i10), if_pos (show nI 1 = 1 from rfl), m1, allTints_C hB l3 hg hb (by omega)]
          exact ⟨_, _, _, rfl, rfl, rel_k h l2 m2⟩
        | 2, _ =>
          rw [if_neg (show ¬ nI 2 = 0 by decide), if_neg (show ¬ nI 2 = 1 by decide), if_pos (show nI 2 = 2 from rfl), if_neg (show ¬ nI 2 = 0 by decide), if_neg (show ¬ nI 2 = 1 by decide), if_pos (show nI 2 = 2 from rfl), spoilt_C hB l3.1 l3.2.2.1 l3.2.2.2.1 hb w9, spoilt_M hB hM hb w9]
          exact ⟨_, _, _, rfl, rfl, rel_k h l2 rfl⟩
        | 3, _ =>
          rw [if_neg (show ¬ nI 3 = 0 by decide), if_neg (show ¬ nI 3 = 1 by decide), if_neg (show ¬ nI 3 = 2 by decide), if_pos (show nI 3 = 3 from rfl), if_neg (show ¬ nI 3 = 0 by decide), if_neg (show ¬ nI 3 = 1 by decide), if_neg (show ¬ nI 3 = 2 by decide), goes_C hB l3.1 l3.2.2.2.1 hb, goesSo_M hB hM hb]
          simp only [bind_s]
          cases goN e b
          · exact ⟨_, _, _, rfl, rfl, rel_k h l2 rfl⟩
          · exact ⟨_, _, _, rfl, rfl, rel_k h l2 rfl⟩
      · rw [decide_eq_false hv, b2_f, if_pos rfl]
        have n0 : ¬ z = 0 := fun q => hv (by rw [q]; decide)
        have n1 : ¬ z = 1 := fun q => hv (by rw [q]; decide)
        have n2 : ¬ z = 2 := fun q => hv (by rw [q]; decide)
        have n3 : ¬ z = 3 := fun q => hv (by rw [q]; decide)
        rw [if_neg n0, if_neg n1, if_neg n2, if_neg n3]
        exact ⟨_, _, _, rfl, rfl, rel_k h l2 rfl⟩
theorem e_tint {σ τ : St} (h : Rel σ τ) (x y z : Int32) : ∃ r σ' τ', f_Top_tint σ x y z = some (r, σ') ∧ f_M_tint τ x y z = some (r, τ') ∧ Rel σ' τ' := by
  obtain ⟨e, hB, hC, hM⟩ := rel_ew h
  have hn := hB.1
  unfold f_Top_tint f_M_tint
  rcases isSet_2 hB hC hM x with ⟨g1, g2⟩ | ⟨b, hb, rfl, g1, g2⟩
  · rw [g1, g2]; exact ⟨_, _, _, rfl, rfl, h⟩
  · rw [g1, g2]
    rcases heatCloth_2 y with ⟨k1, k2⟩ | ⟨w, c, w3, w9, c1, k1, k2, k3, k4⟩
    · rw [k1, k2]; exact ⟨_, _, _, rfl, rfl, h⟩
    · obtain ⟨σ', l1, l2, l3⟩ := load_V hB hC w9 (by omega) k3 k4 hb
      have hg := fun t (ht : t < e.1) => gN_le hB w9 ht
      have hls := lsN_le hB hg b (c * e.2.2.1 1)
      rw [k1, k2, l1, k3, offBy_M hM c1 k4]
      simp only [bind_s, i10, if_false]
      rcases of_2 hB hM hb z with ⟨j1, j2⟩ | ⟨t, ht, rfl, j1, j2⟩
      · rw [j1, j2]
        exact ⟨_, _, _, rfl, rfl, h⟩
      · rw [j2, j1, bt_M hn hb ht]
        simp only [bind_s, i10, if_false]
        by_cases q : bt b t = true
        · obtain ⟨τ1, m1, m2⟩ := loose_M hB hM hb w9 (cl_le hB (c := c) (by omega))
          obtain ⟨τ2, m3, m4, -⟩ := tinted_M hB (ewM_k m2 hM) (l := lsN e (gN e w) b (c * e.2.2.1 1)) ht w9 (by omega)
          rw [b2_nt q]
          simp only [i10, if_false, m1, bd2_s, m3, tintOf_C hB l3.1 l3.2.1 l3.2.2.2.2 hg (show lsN e (gN e w) b (c * e.2.2.1 1) ≤ 1000 by omega) ht, bind_s]
          exact ⟨_, _, _, rfl, rfl, rel_k h l2 (m4.trans m2)⟩
        · rw [b2_nf (bt_f q)]
          exact ⟨_, _, _, rfl, rfl, h⟩
theorem e_safe {σ τ : St} (h : Rel σ τ) (x y z : Int32) : ∃ r σ' τ', f_Top_safe σ x y z = some (r, σ') ∧ f_M_safe τ x y z = some (r, τ') ∧ Rel σ' τ' := by
  obtain ⟨e, hB, hC, hM⟩ := rel_ew h
  unfold f_Top_safe f_M_safe
  rcases isSet_2 hB hC hM x with ⟨g1, g2⟩ | ⟨b, hb, rfl, g1, g2⟩
  · rw [g1, g2]; exact ⟨_, _, _, rfl, rfl, h⟩
  · rw [g1, g2]
    rcases heatCloth_2 y with ⟨k1, k2⟩ | ⟨w, c, w3, w9, c1, k1, k2, k3, k4⟩
    · rw [k1, k2]; exact ⟨_, _, _, rfl, rfl, h⟩
    · rw [k1, k2]
      rcases upto99_2 z with ⟨j1, j2⟩ | ⟨m, hm, rfl, j1, j2⟩
      · rw [j1, j2]; exact ⟨_, _, _, rfl, rfl, h⟩
      · obtain ⟨σ', l1, l2, l3⟩ := load_V hB hC w9 (by omega) k3 k4 hb
        have hg := fun t (ht : t < e.1) => gN_le hB w9 ht
        have hls := lsN_le hB hg b (c * e.2.2.1 1)
        obtain ⟨τ', m1, m2⟩ := isSafe_M hB hM hb w9 (cl_le hB (c := c) (by omega)) hm
        rw [j1, j2, l1, k3, offBy_M hM c1 k4]
        simp only [bind_s, i10, if_false, isSafe_C hB l3 hg hb (show _ ≤ 1000 by omega) w9 hm, m1, bd2_s]
        cases sfN e (gN e w) w b (lsN e (gN e w) b (c * e.2.2.1 1)) m
        · exact ⟨_, _, _, rfl, rfl, rel_k h l2 m2⟩
        · exact ⟨_, _, _, rfl, rfl, rel_k h l2 m2⟩
