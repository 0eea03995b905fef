/-! days: late, soon, swap -/
def RN (Ln : Nat) (v : Nat → Int32) (t : Nat) : Nat := if t < Ln ∧ ((0 : Int32) ≤ v t ∧ v t ≤ 19) then (v t).toNatClampNeg else 99
def rI (k : Nat) : Int32 := if k < 20 then nI k else -1
def exN (k a b : Nat) : Nat := if k = a then b else if k = b then a else k
theorem RN_yes {Ln : Nat} {v : Nat → Int32} {t : Nat} (h1 : t < Ln) (h2 : (0 : Int32) ≤ v t ∧ v t ≤ 19) : RN Ln v t < 20 ∧ v t = nI (RN Ln v t) := by
  obtain ⟨k, hk, e⟩ := (isT (n := 20) (by decide) (v t)).mp h2
  unfold RN
  rw [if_pos ⟨h1, h2⟩, e, nIt (by omega)]
  exact ⟨hk, rfl⟩
theorem RN_no {Ln : Nat} {v : Nat → Int32} {t : Nat} (h : ¬ (t < Ln ∧ ((0 : Int32) ≤ v t ∧ v t ≤ 19))) : RN Ln v t = 99 := by
  unfold RN
  rw [if_neg h]
theorem i64lt {x y : Int32} : lg_cmp x.toInt64 y.toInt64 < 0 ↔ x < y := by
  rw [lg_cmp_lt, Int64.lt_iff_toInt_lt, Int32.toInt_toInt64, Int32.toInt_toInt64, it]
theorem i64ge {x y : Int32} : 0 ≤ lg_cmp x.toInt64 y.toInt64 ↔ y ≤ x := by
  rw [lg_cmp_ge, Int64.le_iff_toInt_le, Int32.toInt_toInt64, Int32.toInt_toInt64, il]
theorem place_n {L t : Nat} (hL : L ≤ 60) (ht : t < 60) : decide ((0 : Int32) ≤ nI t ∧ nI t ≤ nI L - 1) = decide (t < L) := by
  by_cases h : t < L
  · rw [decide_eq_true h, decide_eq_true ((isT (by omega) _).mpr ⟨t, h, rfl⟩)]
  · rw [decide_eq_false h, decide_eq_false (fun z => by
      obtain ⟨u, hu, z1⟩ := (isT (by omega) _).mp z
      have := (nI_eq (by omega) (by omega)).mp z1
      omega)]
theorem read_V {e : Ew} {σ : St} (hB : ewB e) (hC : ewC e σ) {j Ln : Nat} {v : Nat → Int32} (hL : Ln ≤ 60) (rc : rwC j 0 Ln v σ) (hj : j < 6) : ∃ σ', f_Plan_read σ j = some σ' ∧ kC σ' = kC σ ∧ ∀ t, t < e.1 → σ'.2.1 26 t = rI (RN Ln v t) := by
  have hn := hB.1
  unfold f_Plan_read
  exact loopF (n := e.1) (P := fun t fuel => ∀ σ1, kC σ1 = kC σ → (∀ u, u < t → σ1.2.1 26 u = rI (RN Ln v u)) → ∃ σ', f_Plan_read_2 fuel σ1 j (nI t) = some σ' ∧ kC σ' = kC σ ∧ ∀ u, u < e.1 → σ'.2.1 26 u = rI (RN Ln v u)) (fun f σ1 k1 k2 => by
      unfold f_Plan_read_2
      rw [(ewC_k k1 hC).1, if_pos (nI_le (Nat.le_refl _) (by omega))]
      exact ⟨σ1, rfl, k1, k2⟩) (fun t f ht ih σ1 k1 k2 => by
      have hC1 := ewC_k k1 hC
      have rc1 := rwC_k k1 rc
      have step := ih (upA σ1 26 t (rI (RN Ln v t))) (by rw [kC_upA (by rfl), k1]) (fun u hu => by
        rw [upA_2, if_pos rfl]
        by_cases q : u = t
        · subst q; simp [upd]
        · simp only [upd, if_neg q]; exact k2 u (by omega))
      unfold f_Plan_read_2
      rw [hC1.1, if_neg (nI_ge ht (by omega)), hasPlace_C (s := 0) (by decide) rc1.1 rc1.2.1, bind_s, place_n hL (by omega)]
      by_cases hp : t < Ln
      · rw [decide_eq_true hp, b2_t, if_neg i10, inb_nI (show t < 60 by omega) (by decide), cond_true, nIt (show t < 2 ^ 31 by omega), rc1.2.2 t hp]
        unfold f_Plan_read_33
        rw [in_t (t := t) (by omega), ct_t (t := t) (by omega), nI_1, Int32.toInt32_toInt64]
        have e0 : (0 : Int64) = (0 : Int32).toInt64 := rfl
        have e20 : (20 : Int64) = (20 : Int32).toInt64 := rfl
        simp only [cond_true]
        by_cases q1 : v t < 0
        · have hno := RN_no (Ln := Ln) (v := v) (t := t) (fun z => by have := z.2.1; rw [il] at this; rw [it] at q1; omega)
          rw [if_pos (by rw [e0]; exact i64lt.mpr q1)]
          rw [hno] at step
          exact step
        · rw [if_neg (by rw [e0]; exact fun z => q1 (i64lt.mp z))]
          by_cases q2 : (20 : Int32) ≤ v t
          · have hno := RN_no (Ln := Ln) (v := v) (t := t) (fun z => by
              have := z.2.2
              rw [il] at this q2
              have z19 : (19 : Int32).toInt = 19 := rfl
              have z20 : (20 : Int32).toInt = 20 := rfl
              omega)
            rw [if_pos (by rw [e20]; exact i64ge.mpr q2)]
            rw [hno] at step
            exact step
          · rw [if_neg (by rw [e20]; exact fun z => q2 (i64ge.mp z))]
            obtain ⟨y1, y2⟩ := RN_yes (Ln := Ln) (v := v) (t := t) hp (by
              rw [il, il]
              rw [it] at q1
              rw [il] at q2
              have z0 : (0 : Int32).toInt = 0 := rfl
              have z19 : (19 : Int32).toInt = 19 := rfl
              have z20 : (20 : Int32).toInt = 20 := rfl
              omega)
            rw [y2]
            unfold rI at step
            rw [if_pos y1] at step
            exact step
      · rw [decide_eq_false hp, b2_f, if_pos rfl]
        unfold f_Plan_read_33
        rw [in_t (t := t) (by omega), ct_t (t := t) (by omega), nI_1]
        have hno := RN_no (Ln := Ln) (v := v) (t := t) (fun z => hp z.1)
        rw [hno] at step
        exact step)
    0 (Nat.zero_le _) FU (by show _ < 1000; omega) σ rfl (fun u hu => absurd hu (Nat.not_lt_zero u))
theorem day_b {e : Ew} (hB : ewB e) : 1 ≤ e.2.2.1 2 ∧ e.2.2.1 2 ≤ 9 := hB.2.2.1 2 (by decide)
theorem dayOf_C {e : Ew} {σ : St} (hB : ewB e) (hC : ewC e σ) {m : Nat} (hm : m < 1000) : f_Plan_dayOf σ (nI m) = some (nI (m / e.2.2.1 2)) := by
  obtain ⟨d1, d2⟩ := day_b hB
  unfold f_Plan_dayOf
  have q : f_Basket_toldOfHouse σ 10 = some (nI (e.2.2.1 2)) := house_e hC (k := 2) (by decide)
  have hz : nz (nI (e.2.2.1 2)) = true := decide_eq_true (nI_ne0 (by omega) (by omega))
  rw [q, bind_s, if_neg (nI_nle (by omega) (by omega)), hz, cond_true, pk_div (by omega) (by omega) (by omega)]
theorem exch_C {k a b : Nat} (hk : k < 1000) (ha : a < 1000) (hb : b < 1000) : f_Plan_exchanged (nI k) (nI a) (nI b) = some (nI (exN k a b)) := by
  unfold f_Plan_exchanged exN
  by_cases q : k = a
  · rw [if_pos (by rw [q]), if_pos q]
  · rw [if_neg (fun z => q ((nI_eq (by omega) (by omega)).mp z)), if_neg q]
    by_cases q2 : k = b
    · rw [if_pos (by rw [q2]), if_pos q2]
    · rw [if_neg (fun z => q2 ((nI_eq (by omega) (by omega)).mp z)), if_neg q2]
theorem exN_lt {k a b : Nat} (hk : k < 20) (ha : a < 20) (hb : b < 20) : exN k a b < 20 := by
  unfold exN
  split
  · exact hb
  · split
    · exact ha
    · exact hk
theorem dayOf_M {e : Ew} {τ : St} (hB : ewB e) (hM : ewM e τ) {j Ln : Nat} {v : Nat → Int32} (hL : Ln ≤ 60) (rm : rwM j Ln v τ) (hj : j < 6) {t a b : Nat} (ht : t < 10) (ha : a < 20) (hb : b < 20) : f_M_dayOf τ (nI j) (nI t) (nI a) (nI b) = some (if RN Ln v t < 20 then nI (exN (RN Ln v t) a b / e.2.2.1 2) else -1) := by
  obtain ⟨d1, d2⟩ := day_b hB
  unfold f_M_dayOf f_M_at
  have e60 : (60 : Int32) * nI j + nI t = nI (60 * j + t) := by show nI 60 * nI j + nI t = _; rw [pk_mul, nI_add]
  have q12 : τ.1 12 = nI (e.2.2.1 2) := hM.2.2.1 2 (by decide)
  have hz : nz (nI (e.2.2.1 2)) = true := decide_eq_true (nI_ne0 (by omega) (by omega))
  rw [inb_nI hj (by decide), cond_true, nIt (show j < 2 ^ 31 by omega), rm.1, e60, inb_nI (show 60 * j + t < 360 by omega) (by decide), nIt (show 60 * j + t < 2 ^ 31 by omega), q12, hz]
  simp only [cond_true, bind_s]
  by_cases hp : t < Ln
  · rw [if_neg (nI_ge hp (by omega)), rm.2 t hp, Int32.toInt32_toInt64, in_eq, bind_s]
    by_cases hv : (0 : Int32) ≤ v t ∧ v t ≤ 19
    · obtain ⟨y1, y2⟩ := RN_yes (Ln := Ln) hp hv
      rw [decide_eq_true hv, b2_t, if_neg i10, if_pos y1, y2]
      generalize RN Ln v t = k at y1
      unfold exN
      by_cases q : k = a
      · rw [if_pos (by rw [q]), if_pos q, pk_div (by omega) (by omega) (by omega)]
      · rw [if_neg (fun z => q ((nI_eq (by omega) (by omega)).mp z)), if_neg q]
        by_cases q2 : k = b
        · rw [if_pos (by rw [q2]), if_pos q2, pk_div (by omega) (by omega) (by omega)]
        · rw [if_neg (fun z => q2 ((nI_eq (by omega) (by omega)).mp z)), if_neg q2, pk_div (by omega) (by omega) (by omega)]
    · rw [decide_eq_false hv, b2_f, if_pos rfl, RN_no (fun z => hv z.2), if_neg (by decide)]
  · rw [if_pos (nI_le (by omega) (by omega)), RN_no (fun z => hp z.1), if_neg (by decide)]
def dlN (e : Ew) (R : Nat → Nat) (a b : Nat) : Nat → Nat
  | 0 => 0
  | t + 1 => dlN e R a b t + (if R t < 20 then exN (R t) a b / e.2.2.1 2 - e.2.1 t 7 else 0)
theorem dlN_s (e : Ew) (R : Nat → Nat) (a b t : Nat) : dlN e R a b (t + 1) = dlN e R a b t + (if R t < 20 then exN (R t) a b / e.2.2.1 2 - e.2.1 t 7 else 0) := rfl
theorem dl_le {e : Ew} {R : Nat → Nat} {a b : Nat} (ha : a < 20) (hb : b < 20) : ∀ t, dlN e R a b t ≤ 20 * t
  | 0 => Nat.le_refl _
  | t + 1 => by
    unfold dlN
    have := dl_le (e := e) (R := R) ha hb t
    split
    · rename_i h
      have := exN_lt h ha hb
      have h2 : exN (R t) a b / e.2.2.1 2 ≤ exN (R t) a b := Nat.div_le_self _ _
      omega
    · omega
theorem rI_no {k : Nat} (h : ¬ k < 20) : rI k = -1 := by unfold rI; rw [if_neg h]
theorem rI_yes {k : Nat} (h : k < 20) : rI k = nI k := by unfold rI; rw [if_pos h]
theorem daysLate_C {e : Ew} {σ : St} (hB : ewB e) (hC : ewC e σ) {R : Nat → Nat} (hR : ∀ t, t < e.1 → σ.2.1 26 t = rI (R t)) {a b : Nat} (ha : a < 20) (hb : b < 20) : f_Plan_daysLate σ (nI a) (nI b) = some (nI (dlN e R a b e.1)) := by
  have hn := hB.1
  unfold f_Plan_daysLate
  refine loopF (n := e.1) (P := fun t fuel => f_Plan_daysLate_5 fuel σ (nI a) (nI b) (nI (dlN e R a b t)) (nI t) = some (nI (dlN e R a b e.1))) (fun f => ?_) (fun t f ht ih => ?_) 0 (Nat.zero_le _) FU (by show _ < 1000; omega)
  · unfold f_Plan_daysLate_5
    rw [hC.1, if_pos (nI_le (Nat.le_refl _) (by omega))]
  · unfold f_Plan_daysLate_5
    have q7 : f_Basket_told σ (nI t) 7 = some (nI (e.2.1 t 7)) := told_e hB hC (k := 7) ht (by decide)
    have h30 := (hB.2.1 t 7 ht (by decide)).2
    have e30 : hiN 7 = 30 := rfl
    rw [hC.1, if_neg (nI_ge ht (by omega)), in_t (by omega), ct_t (t := t) (by omega), hR t ht, nI_1, cond_true]
    rw [dlN_s] at ih
    by_cases hr : R t < 20
    · have hx := exN_lt hr ha hb
      have h2 : exN (R t) a b / e.2.2.1 2 ≤ exN (R t) a b := Nat.div_le_self _ _
      rw [rI_yes hr, if_neg (m1_ne (by omega)), exch_C (by omega) (by omega) (by omega), cond_true, bind_s, dayOf_C hB hC (by omega), bind_s, q7, bind_s, imax_sub (by omega) (by omega), nI_add]
      rw [if_pos hr] at ih
      exact ih
    · rw [rI_no hr, if_pos rfl]
      rw [if_neg hr] at ih
      exact ih
theorem daysLate_M {e : Ew} {τ : St} (hB : ewB e) (hM : ewM e τ) {j Ln : Nat} {v : Nat → Int32} (hL : Ln ≤ 60) (rm : rwM j Ln v τ) (hj : j < 6) {a b : Nat} (ha : a < 20) (hb : b < 20) : f_M_daysLate τ (nI j) (nI a) (nI b) = some (nI (dlN e (RN Ln v) a b e.1)) := by
  have hn := hB.1
  unfold f_M_daysLate
  refine loopF (n := e.1) (P := fun t fuel => f_M_daysLate_6 fuel τ (nI j) (nI a) (nI b) (nI (dlN e (RN Ln v) a b t)) (nI t) = some (nI (dlN e (RN Ln v) a b e.1))) (fun f => ?_) (fun t f ht ih => ?_) 0 (Nat.zero_le _) FU (by show _ < 1000; omega)
  · unfold f_M_daysLate_6
    rw [hM.1, if_pos (nI_le (Nat.le_refl _) (by omega))]
  · unfold f_M_daysLate_6
    have q7 : τ.2.1 8 t = nI (e.2.1 t 7) := hM.2.1 t 7 ht (by decide)
    have h30 := (hB.2.1 t 7 ht (by decide)).2
    have e30 : hiN 7 = 30 := rfl
    rw [hM.1, if_neg (nI_ge ht (by omega)), dayOf_M hB hM hL rm hj (by omega) ha hb, bind_s, in_t (by omega), ct_t (t := t) (by omega), q7, nI_1, cond_true, cond_true]
    rw [dlN_s] at ih
    by_cases hr : RN Ln v t < 20
    · have hx := exN_lt hr ha hb
      have h2 : exN (RN Ln v t) a b / e.2.2.1 2 ≤ exN (RN Ln v t) a b := Nat.div_le_self _ _
      rw [if_pos hr]
      rw [if_pos hr] at ih
      by_cases q : exN (RN Ln v t) a b / e.2.2.1 2 ≤ e.2.1 t 7
      · rw [if_pos (nI_le q (by omega))]
        rw [show exN (RN Ln v t) a b / e.2.2.1 2 - e.2.1 t 7 = 0 by omega] at ih
        exact ih
      · rw [if_neg (nI_ge (by omega) (by omega)), pk_sub (by omega), nI_add]
        exact ih
    · rw [if_neg hr, if_pos (by rw [il, nI_toInt (by omega)]; have z1 : (-1 : Int32).toInt = -1 := rfl; omega)]
      rw [if_neg hr] at ih
      exact ih
theorem e_late {σ τ : St} (h : Rel σ τ) (x y : Int32) : ∃ r σ', f_Top_late σ x y = some (r, σ') ∧ f_M_late τ x y = some r ∧ Rel σ' τ := by
  obtain ⟨e, hB, hC, hM⟩ := rel_ew h
  obtain ⟨bn, hbn, h8⟩ := rel_sh h
  have hn := hB.1
  unfold f_Top_late f_M_late
  rcases row_2 hbn h8 x (s := 0) (by decide) with ⟨r1, r2⟩ | ⟨r, z0, zm, zn, r1, r2, r3⟩ | ⟨j, Ln, v, hj, hL, rfl, r1, r2, r3, rc, rm⟩
  · have r1' : f_Top_rowRefusal σ x 0 = _ := r1
    rw [r1', r2]; exact ⟨_, _, rfl, rfl, h⟩
  · have r1' : f_Top_rowRefusal σ x 0 = _ := r1
    have r3' : f_M_rowFault τ x 0 = _ := r3
    rw [r1', r2, within_eq, in_eq]
    simp only [bind_s, zm, i10, if_false]
    by_cases hu : (0 : Int32) ≤ y ∧ y ≤ 1
    · rw [decide_eq_true hu, b2_t, if_neg i10, if_neg i10, r3', bind_s, if_neg z0, if_neg zn]
      exact ⟨_, _, rfl, rfl, h⟩
    · rw [decide_eq_false hu]
      exact ⟨_, _, rfl, rfl, h⟩
  · have r1' : f_Top_rowRefusal σ (nI j) 0 = _ := r1
    have r3' : f_M_rowFault τ (nI j) 0 = _ := r3
    rw [r1', r2, within_eq, in_eq]
    simp only [bind_s, i10, if_false, show ¬ (0 : Int32) = -1 by decide]
    by_cases hu : (0 : Int32) ≤ y ∧ y ≤ 1
    · obtain ⟨σ1, w1, wk, wg⟩ := read_V hB hC hL rc hj
      have hC1 := ewC_k wk hC
      have dC : f_Plan_daysLate σ1 0 0 = _ := daysLate_C hB hC1 wg (a := 0) (b := 0) (by decide) (by decide)
      have dM : f_M_daysLate τ (nI j) 0 0 = _ := daysLate_M hB hM hL rm hj (a := 0) (b := 0) (by decide) (by decide)
      have main := loopF (n := e.1) (P := fun t fuel => ∀ (acc : Int32), ∃ r, f_Plan_lateThings_4 fuel σ1 acc (nI t) = some r ∧ f_M_late_50 fuel τ (nI j) acc (nI t) = some r) (fun f acc => by
          unfold f_Plan_lateThings_4 f_M_late_50
          rw [hC1.1, hM.1, if_pos (nI_le (Nat.le_refl _) (by omega)), if_pos (nI_le (Nat.le_refl _) (by omega))]
          exact ⟨_, rfl, rfl⟩) (fun t f ht ih acc => by
          have q7 : f_Basket_told σ1 (nI t) 7 = some (nI (e.2.1 t 7)) := told_e hB hC1 (k := 7) ht (by decide)
          have q8 : τ.2.1 8 t = nI (e.2.1 t 7) := hM.2.1 t 7 ht (by decide)
          have h30 := (hB.2.1 t 7 ht (by decide)).2
          have e30 : hiN 7 = 30 := rfl
          have dM : f_M_dayOf τ (nI j) (nI t) 0 0 = _ := dayOf_M hB hM hL rm hj (t := t) (a := 0) (b := 0) (by omega) (by decide) (by decide)
          unfold f_Plan_lateThings_4 f_M_late_50
          rw [hC1.1, hM.1, if_neg (nI_ge ht (by omega)), if_neg (nI_ge ht (by omega)), in_t (t := t) (by omega), ct_t (t := t) (by omega), wg t ht, nI_1, cond_true, dM, bind_s, q8, q7, cond_true]
          by_cases hr : RN Ln v t < 20
          · have h2 : RN Ln v t / e.2.2.1 2 ≤ RN Ln v t := Nat.div_le_self _ _
            have ex0 : exN (RN Ln v t) 0 0 = RN Ln v t := by unfold exN; split; · rename_i q; exact q.symm
                                                             · rfl
            rw [rI_yes hr, if_neg (m1_ne (by omega)), if_pos hr, ex0, dayOf_C hB hC1 (by omega), cond_true, bind_s, bind_s, if_neg (nI_pos (by omega))]
            by_cases q : nI (RN Ln v t / e.2.2.1 2) ≤ nI (e.2.1 t 7)
            · rw [if_pos q, if_pos q]; exact ih acc
            · rw [if_neg q, if_neg q]; exact ih _
          · rw [rI_no hr, if_pos rfl, if_neg hr, if_pos (by decide)]
            exact ih _)
        0 (Nat.zero_le _) FU (by show _ < 1000; omega) 0
      obtain ⟨rl, m1, m2⟩ := main
      have m1' : f_Plan_lateThings σ1 = some rl := m1
      have m2' : f_M_late_50 FU τ (nI j) 0 0 = some rl := m2
      rw [decide_eq_true hu, b2_t, if_neg i10, if_pos trivial, if_neg i10, r3', bind_s, if_pos (by decide), inb_nI hj (by decide), cond_true, nIt (show j < 2 ^ 31 by omega), w1, bind_s, dC, dM, m1', m2']
      obtain ⟨k, hk, rfl⟩ := (isT (n := 2) (by decide) y).mp hu
      match k, hk with
      | 0, _ => exact ⟨_, _, rfl, rfl, Rel_C wk h⟩
      | 1, _ => exact ⟨_, _, rfl, rfl, Rel_C wk h⟩
    · rw [decide_eq_false hu]
      exact ⟨_, _, rfl, rfl, h⟩
theorem e_soon {σ τ : St} (h : Rel σ τ) (x y : Int32) : ∃ r σ', f_Top_soon σ x y = some (r, σ') ∧ f_M_soon τ x y = some r ∧ Rel σ' τ := by
  obtain ⟨e, hB, hC, hM⟩ := rel_ew h
  obtain ⟨bn, hbn, h8⟩ := rel_sh h
  have hn := hB.1
  have mb : f_Basket_mayBe 6 y = some (b2 (decide ((0 : Int32) ≤ y ∧ y ≤ 8))) := mayBe_C (k := 6) (by decide) y
  unfold f_Top_soon f_M_soon
  rw [mb]
  rcases row_2 hbn h8 x (s := 0) (by decide) with ⟨r1, r2⟩ | ⟨r, z0, zm, zn, r1, r2, r3⟩ | ⟨j, Ln, v, hj, hL, rfl, r1, r2, r3, rc, rm⟩
  · have r1' : f_Top_rowRefusal σ x 0 = _ := r1
    rw [r1', r2]; exact ⟨_, _, rfl, rfl, h⟩
  · have r1' : f_Top_rowRefusal σ x 0 = _ := r1
    have r3' : f_M_rowFault τ x 0 = _ := r3
    rw [r1', r2, in_eq]
    simp only [bind_s, zm, i10, if_false]
    by_cases hu : (0 : Int32) ≤ y ∧ y ≤ 8
    · rw [decide_eq_true hu, b2_t, if_neg i10, if_neg i10, r3', bind_s, if_neg z0, if_neg zn]
      exact ⟨_, _, rfl, rfl, h⟩
    · rw [decide_eq_false hu]
      exact ⟨_, _, rfl, rfl, h⟩
  · have r1' : f_Top_rowRefusal σ (nI j) 0 = _ := r1
    have r3' : f_M_rowFault τ (nI j) 0 = _ := r3
    rw [r1', r2, in_eq]
    simp only [bind_s, i10, if_false, show ¬ (0 : Int32) = -1 by decide]
    by_cases hu : (0 : Int32) ≤ y ∧ y ≤ 8
    · obtain ⟨σ1, w1, wk, wg⟩ := read_V hB hC hL rc hj
      have hC1 := ewC_k wk hC
      have main := loopF (n := e.1) (P := fun t fuel => ∀ (acc : Int32), ∃ r, f_Plan_dayFor_5 fuel σ1 y acc (nI t) = some r ∧ f_M_soon_39 fuel τ (nI j) y acc (nI t) = some r) (fun f acc => by
          unfold f_Plan_dayFor_5 f_M_soon_39
          rw [hC1.1, hM.1, if_pos (nI_le (Nat.le_refl _) (by omega)), if_pos (nI_le (Nat.le_refl _) (by omega))]
          exact ⟨_, rfl, rfl⟩) (fun t f ht ih acc => by
          have q6 : f_Basket_told σ1 (nI t) 6 = some (nI (e.2.1 t 6)) := told_e hB hC1 (k := 6) ht (by decide)
          have q7 : τ.2.1 7 t = nI (e.2.1 t 6) := hM.2.1 t 6 ht (by decide)
          have dM : f_M_dayOf τ (nI j) (nI t) 0 0 = _ := dayOf_M hB hM hL rm hj (t := t) (a := 0) (b := 0) (by omega) (by decide) (by decide)
          unfold f_Plan_dayFor_5 f_M_soon_39
          rw [hC1.1, hM.1, if_neg (nI_ge ht (by omega)), if_neg (nI_ge ht (by omega)), in_t (t := t) (by omega), ct_t (t := t) (by omega), wg t ht, nI_1, q6, bind_s, q7]
          simp only [cond_true]
          by_cases hw : nI (e.2.1 t 6) = y
          · rw [if_pos hw, if_pos hw, dM, bind_s]
            by_cases hr : RN Ln v t < 20
            · have h2 : RN Ln v t / e.2.2.1 2 ≤ RN Ln v t := Nat.div_le_self _ _
              have ex0 : exN (RN Ln v t) 0 0 = RN Ln v t := by unfold exN; split; · rename_i q; exact q.symm
                                                               · rfl
              rw [rI_yes hr, if_neg (m1_ne (by omega)), if_pos hr, ex0, dayOf_C hB hC1 (by omega), bind_s, if_pos (nI_pos' (by omega))]
              unfold imax
              by_cases q : acc < nI (RN Ln v t / e.2.2.1 2)
              · rw [if_pos q, if_neg (by rw [il]; rw [it] at q; omega)]; exact ih _
              · rw [if_neg q, if_pos (by rw [il]; rw [it] at q; omega)]; exact ih _
            · rw [rI_no hr, if_pos rfl, if_neg hr, if_neg (by decide)]
              exact ⟨_, rfl, rfl⟩
          · rw [if_neg hw, if_neg hw]; exact ih acc)
        0 (Nat.zero_le _) FU (by show _ < 1000; omega) (-2)
      obtain ⟨rl, m1, m2⟩ := main
      have m1' : f_Plan_dayFor σ1 y = some rl := m1
      have m2' : f_M_soon_39 FU τ (nI j) y (-2) 0 = some rl := m2
      rw [decide_eq_true hu, b2_t, if_neg i10, if_pos trivial, if_neg i10, r3', bind_s, if_pos (by decide), inb_nI hj (by decide), cond_true, nIt (show j < 2 ^ 31 by omega), w1, bind_s, m1', m2']
      exact ⟨_, _, rfl, rfl, Rel_C wk h⟩
    · rw [decide_eq_false hu]
      exact ⟨_, _, rfl, rfl, h⟩
theorem e_swap {σ τ : St} (h : Rel σ τ) (x : Int32) : ∃ r σ', f_Top_swap σ x = some (r, σ') ∧ f_M_swap τ x = some r ∧ Rel σ' τ := by
  obtain ⟨e, hB, hC, hM⟩ := rel_ew h
  obtain ⟨bn, hbn, h8⟩ := rel_sh h
  have hn := hB.1
  unfold f_Top_swap f_M_swap
  rcases row_2 hbn h8 x (s := 0) (by decide) with ⟨r1, r2⟩ | ⟨r, z0, zm, zn, r1, r2, r3⟩ | ⟨j, Ln, v, hj, hL, rfl, r1, r2, r3, rc, rm⟩
  · have r1' : f_Top_rowRefusal σ x 0 = _ := r1
    rw [r1', r2]; exact ⟨_, _, rfl, rfl, h⟩
  · have r1' : f_Top_rowRefusal σ x 0 = _ := r1
    have r3' : f_M_rowFault τ x 0 = _ := r3
    rw [r1', r2, bind_s, bind_s, if_neg i10, r3', bind_s, if_neg z0, if_neg zn]
    exact ⟨_, _, rfl, rfl, h⟩
  · have r1' : f_Top_rowRefusal σ (nI j) 0 = _ := r1
    have r3' : f_M_rowFault τ (nI j) 0 = _ := r3
    obtain ⟨σ1, w1, wk, wg⟩ := read_V hB hC hL rc hj
    have hC1 := ewC_k wk hC
    have dC : f_Plan_daysLate σ1 0 0 = _ := daysLate_C hB hC1 wg (a := 0) (b := 0) (by decide) (by decide)
    have dM : f_M_daysLate τ (nI j) 0 0 = _ := daysLate_M hB hM hL rm hj (a := 0) (b := 0) (by decide) (by decide)
    have inner := fun (k12 : St → Int32 → Int32 → Int32 → Option Int32) (k37 : St → Int32 → Int32 → Int32 → Int32 → Option Int32) (a : Nat) (ha : a < 20) => loopF (n := 20) (P := fun b fuel => ∀ (least pair : Int32), ∃ least' pair', f_Plan_bestPair_23 k12 fuel σ1 least pair (nI a) (nI b) = k12 σ1 least' pair' (nI (a + 1)) ∧ f_M_swap_50 k37 fuel τ (nI j) pair least (nI a) (nI b) = k37 τ (nI j) pair' least' (nI (a + 1))) (fun f least pair => by
        unfold f_Plan_bestPair_23 f_M_swap_50
        rw [if_pos (by decide), if_pos (by decide), nI_1]
        exact ⟨least, pair, rfl, rfl⟩) (fun b f hb ih least pair => by
        unfold f_Plan_bestPair_23 f_M_swap_50
        have c20 : ¬ (20 : Int32) ≤ nI b := nI_ge (b := 20) hb (by decide)
        rw [if_neg c20, if_neg c20, daysLate_C hB hC1 wg ha hb, daysLate_M hB hM hL rm hj ha hb, bind_s, bind_s, nI_1]
        by_cases q : least ≤ nI (dlN e (RN Ln v) a b e.1)
        · rw [if_pos q, if_neg (by rw [it]; rw [il] at q; omega)]
          exact ih least pair
        · rw [if_neg q, if_pos (by rw [it]; rw [il] at q; omega)]
          exact ih _ _)
    have outer := loopF (n := 20) (P := fun a fuel => ∀ (least pair : Int32), ∃ r, f_Plan_bestPair_12 fuel σ1 least pair (nI a) = some r ∧ f_M_swap_37 fuel τ (nI j) pair least (nI a) = some r) (fun f least pair => by
        unfold f_Plan_bestPair_12 f_M_swap_37
        rw [if_pos (by decide), if_pos (by decide)]
        exact ⟨pair, rfl, rfl⟩) (fun a f ha ih least pair => by
        unfold f_Plan_bestPair_12 f_M_swap_37
        have c20 : ¬ (20 : Int32) ≤ nI a := nI_ge (b := 20) ha (by decide)
        rw [if_neg c20, if_neg c20, nI_1]
        obtain ⟨l', p', i1, i2⟩ := inner (f_Plan_bestPair_12 f) (f_M_swap_37 f) a ha (a + 1) (by omega) FU (by show _ < 1000; omega) least pair
        rw [i1, i2]
        exact ih l' p')
      0 (by decide) FU (by decide) (nI (dlN e (RN Ln v) 0 0 e.1)) (-2)
    obtain ⟨r, m1, m2⟩ := outer
    have m1' : f_Plan_bestPair_12 FU σ1 (nI (dlN e (RN Ln v) 0 0 e.1)) (-2) 0 = some r := m1
    have m2' : f_M_swap_37 FU τ (nI j) (-2) (nI (dlN e (RN Ln v) 0 0 e.1)) 0 = some r := m2
    unfold f_Plan_bestPair
    rw [r1', r2, bind_s, bind_s, if_pos rfl, if_neg i10, r3', bind_s, if_pos (by decide), inb_nI hj (by decide), cond_true, nIt (show j < 2 ^ 31 by omega), w1, bind_s, dC, dM, bind_s, bind_s, m1', m2']
    exact ⟨_, _, rfl, rfl, Rel_C wk h⟩
