/-! line, rain -/
theorem mb_hi {b n : Nat} (hb : b < 2 ^ n) : ∀ {t : Nat}, n ≤ t → (mbN b t).2 = (mbN b n).2
  | 0, h => by obtain rfl : n = 0 := by omega
               rfl
  | t + 1, h => by
    rcases Nat.eq_or_lt_of_le h with q | q
    · rw [q]
    · rw [mb_2, bt_hi hb (show n ≤ t by omega), if_neg (by decide)]
      exact mb_hi hb (by omega)
set_option maxRecDepth 100000 in
theorem pc_mb0 : ∀ b : Fin 1024, pcI b.1 = nI (mbN b.1 10).2 := by decide +kernel
theorem pc_mb {n b : Nat} (hn : n ≤ 10) (hb : b < 2 ^ n) : pcI b = nI (mbN b n).2 := by
  have := pc_mb0 ⟨b, p10 hn hb⟩
  rw [mb_hi hb hn] at this
  exact this
def mxN (D : Nat → Nat) : Nat → Nat
  | 0 => 0
  | k + 1 => max (mxN D k) (D k)
theorem mx_s (D : Nat → Nat) (k : Nat) : mxN D (k + 1) = max (mxN D k) (D k) := rfl
theorem mx_le {D : Nat → Nat} {B : Nat} : ∀ {k : Nat}, (∀ i, i < k → D i ≤ B) → mxN D k ≤ B
  | 0, _ => Nat.zero_le _
  | k + 1, h => by
    rw [mx_s]
    exact Nat.max_le.mpr ⟨mx_le (fun i hi => h i (by omega)), h k (by omega)⟩
theorem mx_congr {D D' : Nat → Nat} : ∀ {k : Nat}, (∀ i, i < k → D i = D' i) → mxN D k = mxN D' k
  | 0, _ => rfl
  | k + 1, h => by rw [mx_s, mx_s, mx_congr (fun i hi => h i (by omega)), h k (by omega)]
theorem imax_N {a b : Nat} (ha : a < 2 ^ 31) (hb : b < 2 ^ 31) : imax (nI a) (nI b) = nI (max a b) := by
  unfold imax
  by_cases q : a < b
  · rw [if_pos (nI_lt q hb), Nat.max_eq_right (by omega)]
  · rw [if_neg (nI_nlt (by omega) ha), Nat.max_eq_left (by omega)]
theorem allDry_C {e : Ew} {σ : St} {c : Nat → Nat} {q : Nat} (hB : ewB e) (hq : q ≤ 10) (hf : fitC e c q) (hE : encC e c q σ) (h5 : σ.1 2705 = nI q) : f_Rope_allDry σ = some (nI (mxN (HD e c q).2 q)) := by
  have hbd := HD_b hB hf hq
  unfold f_Rope_allDry
  refine loopF (n := q) (P := fun t fuel => f_Rope_allDry_4 fuel σ (nI (mxN (HD e c q).2 t)) (nI t) = some (nI (mxN (HD e c q).2 q))) (fun f => ?_) (fun t f ht ih => ?_) 0 (Nat.zero_le _) FU (by show _ < 1000; omega)
  · unfold f_Rope_allDry_4
    rw [h5, if_pos (nI_le (Nat.le_refl _) (by omega))]
  · unfold f_Rope_allDry_4
    have b1 := (hbd t ht).2
    have b2 : mxN (HD e c q).2 t ≤ 9900 := mx_le (fun i hi => by have := (hbd i (by omega)).2; omega)
    rw [h5, if_neg (nI_ge ht (by omega)), in_t (t := t) (by omega), ct_t (t := t) (by omega), (hE t ht).2.2, nI_1, imax_N (by omega) (by omega)]
    exact ih
theorem allDry_M {e : Ew} {τ : St} {c : Nat → Nat} {K q : Nat} (hB : ewB e) (hK : K ≤ 10) (hq : q ≤ K) (hc : ∀ i, i < K → c i < e.1) (hf : ∀ i, i < q → e.2.1 (c i) 4 ≤ e.2.2.1 3) (h1 : chM c K τ) (hE : encM e c q τ) (hb : ∀ i, q ≤ i → i < K → τ.2.1 24 (c i) = -1 ∧ τ.2.1 25 (c i) = -1) : f_M_allDry τ = some (if q = K then nI (mxN (HD e c q).2 q) else -1) := by
  have hn := hB.1
  have hbd := HD_b hB (fun i hi => ⟨hc i (by omega), hf i hi⟩ : fitC e c q) (by omega)
  unfold f_M_allDry
  refine loopF (n := q) (P := fun t fuel => f_M_allDry_4 fuel τ (nI (mxN (HD e c q).2 t)) (nI t) = some (if q = K then nI (mxN (HD e c q).2 q) else -1)) (fun f => ?_) (fun t f ht ih => ?_) 0 (Nat.zero_le _) FU (by show _ < 1000; omega)
  · unfold f_M_allDry_4
    rw [h1.1]
    by_cases y : q = K
    · rw [if_pos (nI_le (by omega) (by omega)), if_pos y]
    · rw [if_neg (nI_ge (by omega) (by omega)), if_neg y, in_t (t := q) (by omega), ct_t (t := q) (by omega), h1.2 q (by omega), in_t (t := c q) (by have := hc q (by omega); omega), ct_t (t := c q) (by have := hc q (by omega); omega), (hb q (Nat.le_refl _) (by omega)).2, if_neg (by decide)]
      rfl
  · have ck := hc t (by omega)
    have b1 := (hbd t ht).2
    have b2 : mxN (HD e c q).2 t ≤ 9900 := mx_le (fun i hi => by have := (hbd i (by omega)).2; omega)
    unfold f_M_allDry_4
    rw [h1.1, if_neg (nI_ge (by omega) (by omega)), in_t (t := t) (by omega), ct_t (t := t) (by omega), h1.2 t (by omega), in_t (t := c t) (by omega), ct_t (t := c t) (by omega), (hE t ht).2, if_pos (nI_pos' (by omega)), nI_1]
    simp only [cond_true]
    rw [mx_s] at ih
    by_cases y : (HD e c q).2 t ≤ mxN (HD e c q).2 t
    · rw [if_pos (nI_le y (by omega))]
      rw [Nat.max_eq_left y] at ih
      exact ih
    · rw [if_neg (nI_ge (by omega) (by omega))]
      rw [Nat.max_eq_right (by omega)] at ih
      exact ih
theorem place_yes {σ : St} {c : Nat → Nat} {q i : Nat} (hq : q ≤ 10) (h5 : σ.1 2705 = nI q) (hc : ∀ j, j < q → c j < 10 ∧ σ.2.1 28 j = nI (c j)) (hi : i < q) (hu : ∀ j, j < q → c j = c i → j = i) : f_Rope_placeOf σ (nI (c i)) = some (nI i) := by
  unfold f_Rope_placeOf
  have ci := (hc i hi).1
  refine loopF (n := q) (P := fun t fuel => t ≤ i → f_Rope_placeOf_2 fuel σ (nI (c i)) (nI t) = some (nI i)) (fun f h => absurd h (by omega)) (fun t f ht ih h => ?_) 0 (Nat.zero_le _) FU (by show _ < 1000; omega) (Nat.zero_le _)
  unfold f_Rope_placeOf_2
  have tj := (hc t ht).1
  rw [h5, if_neg (nI_ge ht (by omega)), in_t (t := t) (by omega), ct_t (t := t) (by omega), (hc t ht).2, nI_1]
  simp only [cond_true]
  by_cases y : t = i
  · rw [y, if_pos rfl]
  · rw [if_neg (fun z => y (hu t ht ((nI_eq (by omega) (by omega)).mp z)))]
    exact ih (by omega)
theorem place_no {σ : St} {c : Nat → Nat} {q t : Nat} (hq : q ≤ 10) (h5 : σ.1 2705 = nI q) (hc : ∀ j, j < q → c j < 10 ∧ σ.2.1 28 j = nI (c j)) (ht : t < 10) (hu : ∀ j, j < q → c j ≠ t) : f_Rope_placeOf σ (nI t) = some (-1) := by
  unfold f_Rope_placeOf
  refine loopF (n := q) (P := fun s fuel => f_Rope_placeOf_2 fuel σ (nI t) (nI s) = some (-1)) (fun f => ?_) (fun s f hs ih => ?_) 0 (Nat.zero_le _) FU (by show _ < 1000; omega)
  · unfold f_Rope_placeOf_2
    rw [h5, if_pos (nI_le (Nat.le_refl _) (by omega))]
  · unfold f_Rope_placeOf_2
    have tj := (hc s hs).1
    rw [h5, if_neg (nI_ge hs (by omega)), in_t (t := s) (by omega), ct_t (t := s) (by omega), (hc s hs).2, nI_1]
    simp only [cond_true]
    rw [if_neg (fun z => hu s hs ((nI_eq (by omega) (by omega)).mp z))]
    exact ih
theorem all_2 {e : Ew} {σ τ : St} (hB : ewB e) (hC : ewC e σ) (hM : ewM e τ) (x : Int32) : (f_Top_isThingOrAll σ x = some 0 ∧ f_M_in x (-1) (nI e.1 - 1) = some 0) ∨ (x = -1 ∧ f_Top_isThingOrAll σ x = some 1 ∧ f_M_in x (-1) (nI e.1 - 1) = some 1) ∨ ∃ t, t < e.1 ∧ x = nI t ∧ f_Top_isThingOrAll σ x = some 1 ∧ f_M_in x (-1) (nI e.1 - 1) = some 1 := by
  have hn := hB.1
  have hp := nI_pred_toInt (n := e.1) (by omega)
  have zm : (-1 : Int32).toInt = -1 := rfl
  have z0 : (0 : Int32).toInt = 0 := rfl
  unfold f_Top_isThingOrAll f_Basket_isThing
  rw [hC.1, within_eq, in_eq, bind_s, bif_t (zb_b2 _), bind_s]
  by_cases h1 : x = -1
  · right; left
    subst h1
    rw [if_pos rfl, decide_eq_true (show (-1 : Int32) ≤ -1 ∧ -1 ≤ nI e.1 - 1 by rw [il, il, hp, zm]; omega)]
    exact ⟨rfl, rfl, rfl⟩
  · rw [if_neg h1]
    by_cases hv : 0 ≤ x ∧ x ≤ nI e.1 - 1
    · right; right
      obtain ⟨t, ht, rfl⟩ := (isT (by omega) _).mp hv
      rw [decide_eq_true hv, decide_eq_true (show (-1 : Int32) ≤ nI t ∧ nI t ≤ nI e.1 - 1 from ⟨by rw [il, zm]; have := hv.1; rw [il] at this; omega, hv.2⟩)]
      exact ⟨t, ht, rfl, rfl, rfl⟩
    · left
      rw [decide_eq_false hv, decide_eq_false (fun z => hv ⟨by
        have z1 := z.1
        rw [il] at z1 ⊢
        have : ¬ x.toInt = -1 := fun y => h1 ((ie _ _).mpr (by rw [y, zm]))
        omega, z.2⟩)]
      exact ⟨rfl, rfl⟩
theorem e_line {σ τ : St} (h : Rel σ τ) (x y z : Int32) : ∃ r σ' τ', f_Top_line σ x y z = some (r, σ') ∧ f_M_line τ x y z = some (r, τ') ∧ Rel σ' τ' := by
  obtain ⟨e, hB, hC, hM⟩ := rel_ew h
  have hn := hB.1
  unfold f_Top_line f_M_line
  rw [hM.1]
  rcases isSet_2 hB hC hM x with ⟨g1, g2⟩ | ⟨b, hb, rfl, g1, g2⟩
  · rw [g1, g2]; exact ⟨_, _, _, rfl, rfl, h⟩
  · rw [g1, g2, within_eq, in_eq (v := z)]
    have hKn := mb_le b e.1
    obtain ⟨σ', q, c1, c2, c3, c4, c5, c6, c7⟩ := hang_C hB hC hb
    obtain ⟨τ1, l1, l2, l3⟩ := layLine_M hB hM hb
    have hcl : ∀ i, i < (mbN b e.1).2 → (mbN b e.1).1 i < e.1 := fun i hi => (mb_lt b hi).1
    obtain ⟨τ2, m1, m2, m3, m4⟩ := goLine_M hB (ewM_k l2 hM) (c := (mbN b e.1).1) (K := (mbN b e.1).2) (q := q) (by omega) c4 hcl (mb_inj b e.1) (fun i hi => (c5 i hi).2) c7 l3
    have kM2 : kM τ2 = kM τ := (samO_kM m2).trans l2
    have aM := allDry_M hB (by omega) c4 hcl (fun i hi => (c5 i hi).2) (chM_s m2 l3) m3 m4
    have aC := allDry_C hB (by omega) c5 c6 c3
    have hbd := HD_b hB c5 (by omega)
    have bmx : mxN (HD e (mbN b e.1).1 q).2 q ≤ 9900 := mx_le (fun i hi => by have := (hbd i hi).2; omega)
    have fin : Rel σ' τ2 := rel_k h c2 kM2
    simp only [bind_s, i10, if_false]
    rcases all_2 hB hC hM y with ⟨k1, k2⟩ | ⟨rfl, k1, k2⟩ | ⟨t, ht, rfl, k1, k2⟩
    · rw [k1, k2]; exact ⟨_, _, _, rfl, rfl, h⟩
    · rw [k1, k2]
      simp only [bind_s, i10, if_false]
      by_cases hz : (0 : Int32) ≤ z ∧ z ≤ 1
      · rw [decide_eq_true hz, b2_t, if_neg i10, if_neg i10, c1, bind_s, if_pos trivial, if_pos (by decide)]
        unfold f_M_line_48
        rw [pc_some, bind_s, pc_mb hn hb, c3, l1, bind_s, m1, bind_s, if_neg (show ¬ (0 : Int32) ≤ -1 by decide), aM, bind_s, aC]
        by_cases qK : q = (mbN b e.1).2
        · rw [if_pos (by rw [qK]), if_pos qK, if_pos (nI_pos' (by omega))]
          exact ⟨_, _, _, rfl, rfl, fin⟩
        · rw [if_neg (fun w => qK ((nI_eq (by omega) (by omega)).mp w)), if_neg qK, if_neg (by decide)]
          exact ⟨_, _, _, rfl, rfl, fin⟩
      · rw [decide_eq_false hz]; exact ⟨_, _, _, rfl, rfl, h⟩
    · rw [k1, k2]
      simp only [bind_s, i10, if_false]
      by_cases hz : (0 : Int32) ≤ z ∧ z ≤ 1
      · rw [decide_eq_true hz, b2_t, if_neg i10, if_neg i10, c1, bind_s, if_neg (m1_ne (by omega)), if_neg (nI_pos (by omega)), bt_M hn hb ht]
        have hplace : ∀ j, j < q → (mbN b e.1).1 j < 10 ∧ σ'.2.1 28 j = nI ((mbN b e.1).1 j) := fun j hj => ⟨by have := hcl j (by omega); omega, (c6 j hj).1⟩
        by_cases qb : bt b t = true
        · rw [b2_nt qb, if_neg i10]
          unfold f_M_line_48
          rw [l1, bind_s, m1, bind_s, if_pos (nI_pos' (by omega)), in_t (t := t) (by omega), ct_t (t := t) (by omega)]
          obtain ⟨ct, clt⟩ := mb_at b ht qb
          generalize hI : (mbN b t).2 = i at ct clt
          by_cases iq : i < q
          · have pl := place_yes (c := (mbN b e.1).1) (by omega) c3 hplace iq (fun j hj y => mb_inj b e.1 j i (by omega) clt y)
            have e3 := m3 i iq
            have e6 := c6 i iq
            have hb1 := hbd i iq
            rw [ct] at pl e3
            rw [pl, bind_s, if_neg (m1_ne (by omega)), in_t (t := i) (by omega), ct_t (t := i) (by omega), e6.2.1, e6.2.2, e3.1, e3.2]
            simp only [cond_true]
            rw [if_pos (nI_pos' (show (HD e (mbN b e.1).1 q).1 i < 2 ^ 31 by omega)), if_pos (nI_pos' (show (HD e (mbN b e.1).1 q).2 i < 2 ^ 31 by omega))]
            by_cases z0 : z = 0
            · rw [if_pos z0, if_pos z0]; exact ⟨_, _, _, rfl, rfl, fin⟩
            · rw [if_neg z0, if_neg z0]; exact ⟨_, _, _, rfl, rfl, fin⟩
          · have pl := place_no (c := (mbN b e.1).1) (t := t) (by omega) c3 hplace (by omega) (fun j hj y => by
              have := mb_inj b e.1 j i (by omega) clt (by rw [y, ct])
              omega)
            have e4 := m4 i (by omega) clt
            rw [ct] at e4
            rw [pl, bind_s, if_pos rfl, e4.1, e4.2]
            simp only [cond_true, show ¬ (0 : Int32) ≤ -1 by decide, if_false, ite_self]
            exact ⟨_, _, _, rfl, rfl, fin⟩
        · rw [b2_nf (bt_f qb), if_pos rfl]
          have pl := place_no (c := (mbN b e.1).1) (t := t) (by omega) c3 hplace (by omega) (fun j hj y => by
            have := (mb_lt b (t := e.1) (i := j) (by omega)).2.1
            rw [y] at this
            exact qb this)
          rw [pl, bind_s, if_pos rfl]
          exact ⟨_, _, _, rfl, rfl, rel_k h c2 rfl⟩
      · rw [decide_eq_false hz]; exact ⟨_, _, _, rfl, rfl, h⟩
def rnI (c H D : Nat → Nat) (m : Nat) : Nat → Int32
  | 0 => 0
  | k + 1 => if H k ≤ m ∧ m < D k then rnI c H D m k ||| ((1 : Int32) <<< (nI (c k) &&& 31)) else rnI c H D m k
theorem rn_s (c H D : Nat → Nat) (m k : Nat) : rnI c H D m (k + 1) = if H k ≤ m ∧ m < D k then rnI c H D m k ||| ((1 : Int32) <<< (nI (c k) &&& 31)) else rnI c H D m k := rfl
theorem e_rain {σ τ : St} (h : Rel σ τ) (x y : Int32) : ∃ r σ' τ', f_Top_rain σ x y = some (r, σ') ∧ f_M_rain τ x y = some (r, τ') ∧ Rel σ' τ' := by
  obtain ⟨e, hB, hC, hM⟩ := rel_ew h
  have hn := hB.1
  unfold f_Top_rain f_M_rain
  rcases isSet_2 hB hC hM x with ⟨g1, g2⟩ | ⟨b, hb, rfl, g1, g2⟩
  · rw [g1, g2]; exact ⟨_, _, _, rfl, rfl, h⟩
  · rw [g1, g2, within_eq, in_eq]
    have hKn := mb_le b e.1
    obtain ⟨σ', q, c1, c2, c3, c4, c5, c6, c7⟩ := hang_C hB hC hb
    obtain ⟨τ1, l1, l2, l3⟩ := layLine_M hB hM hb
    have hcl : ∀ i, i < (mbN b e.1).2 → (mbN b e.1).1 i < e.1 := fun i hi => (mb_lt b hi).1
    obtain ⟨τ2, m1, m2, m3, m4⟩ := goLine_M hB (ewM_k l2 hM) (c := (mbN b e.1).1) (K := (mbN b e.1).2) (q := q) (by omega) c4 hcl (mb_inj b e.1) (fun i hi => (c5 i hi).2) c7 l3
    have kM2 : kM τ2 = kM τ := (samO_kM m2).trans l2
    have hbd := HD_b hB c5 (by omega)
    have ch2 := chM_s m2 l3
    have fin : Rel σ' τ2 := rel_k h c2 kM2
    simp only [bind_s, i10, if_false]
    by_cases hz : (0 : Int32) ≤ y ∧ y ≤ 999
    · obtain ⟨m, hm, rfl⟩ := (isT (n := 1000) (by decide) y).mp hz
      rw [decide_eq_true hz, b2_t, if_neg i10, if_neg i10, c1, bind_s, l1, bind_s, m1, bind_s]
      have rC : f_Rope_hangingAt σ' (nI m) = some (rnI (mbN b e.1).1 (HD e (mbN b e.1).1 q).1 (HD e (mbN b e.1).1 q).2 m q) := by
        unfold f_Rope_hangingAt
        refine loopF (n := q) (P := fun t fuel => f_Rope_hangingAt_4 fuel σ' (nI m) (rnI (mbN b e.1).1 (HD e (mbN b e.1).1 q).1 (HD e (mbN b e.1).1 q).2 m t) (nI t) = some (rnI (mbN b e.1).1 (HD e (mbN b e.1).1 q).1 (HD e (mbN b e.1).1 q).2 m q)) (fun f => ?_) (fun t f ht ih => ?_) 0 (Nat.zero_le _) FU (by show _ < 1000; omega)
        · unfold f_Rope_hangingAt_4
          rw [c3, if_pos (nI_le (Nat.le_refl _) (by omega))]
        · have b1 := hbd t ht
          unfold f_Rope_hangingAt_4
          rw [c3, if_neg (nI_ge ht (by omega)), in_t (t := t) (by omega), ct_t (t := t) (by omega), (c6 t ht).1, (c6 t ht).2.1, (c6 t ht).2.2, nI_1]
          simp only [cond_true]
          rw [rn_s] at ih
          by_cases y1 : (HD e (mbN b e.1).1 q).1 t ≤ m
          · rw [if_neg (nI_nlt y1 (by omega))]
            by_cases y2 : m < (HD e (mbN b e.1).1 q).2 t
            · rw [if_neg (nI_ge y2 (by omega))]
              rw [if_pos ⟨y1, y2⟩] at ih
              exact ih
            · rw [if_pos (nI_le (by omega) (by omega))]
              rw [if_neg (fun w => y2 w.2)] at ih
              exact ih
          · rw [if_pos (nI_lt (by omega) (by omega))]
            rw [if_neg (fun w => y1 w.1)] at ih
            exact ih
      have rM2 : ∀ acc : Int32, ∀ t, t ≤ (mbN b e.1).2 → ∀ fuel, (mbN b e.1).2 - t < fuel → q ≤ t → f_M_rain_35 fuel τ2 (nI m) acc (nI t) = some (acc, τ2) := fun acc => by
        refine loopF (n := (mbN b e.1).2) (P := fun t fuel => q ≤ t → f_M_rain_35 fuel τ2 (nI m) acc (nI t) = some (acc, τ2)) (fun f _ => ?_) (fun t f ht ih hq => ?_)
        · unfold f_M_rain_35
          rw [ch2.1, if_pos (nI_le (Nat.le_refl _) (by omega))]
        · have ck := hcl t ht
          unfold f_M_rain_35
          rw [ch2.1, if_neg (nI_ge ht (by omega)), in_t (t := t) (by omega), ct_t (t := t) (by omega), ch2.2 t ht, in_t (t := (mbN b e.1).1 t) (by omega), ct_t (t := (mbN b e.1).1 t) (by omega), (m4 t hq ht).1, if_pos (by decide), nI_1]
          exact ih (by omega)
      have rM : f_M_rain_35 FU τ2 (nI m) 0 0 = some (rnI (mbN b e.1).1 (HD e (mbN b e.1).1 q).1 (HD e (mbN b e.1).1 q).2 m q, τ2) := by
        refine loopF (n := q) (P := fun t fuel => f_M_rain_35 (fuel + 20) τ2 (nI m) (rnI (mbN b e.1).1 (HD e (mbN b e.1).1 q).1 (HD e (mbN b e.1).1 q).2 m t) (nI t) = some (rnI (mbN b e.1).1 (HD e (mbN b e.1).1 q).1 (HD e (mbN b e.1).1 q).2 m q, τ2)) (fun f => ?_) (fun t f ht ih => ?_) 0 (Nat.zero_le _) 980 (by omega)
        · exact rM2 _ q c4 _ (by omega) (Nat.le_refl _)
        · have ck := hcl t (by omega)
          have b1 := hbd t ht
          rw [show f + 1 + 20 = (f + 20) + 1 by omega]
          unfold f_M_rain_35
          rw [ch2.1, if_neg (nI_ge (by omega) (by omega)), in_t (t := t) (by omega), ct_t (t := t) (by omega), ch2.2 t (by omega), in_t (t := (mbN b e.1).1 t) (by omega), ct_t (t := (mbN b e.1).1 t) (by omega), (m3 t ht).1, (m3 t ht).2, if_neg (nI_pos (by omega)), nI_1]
          simp only [cond_true]
          rw [rn_s] at ih
          by_cases y1 : (HD e (mbN b e.1).1 q).1 t ≤ m
          · rw [if_neg (nI_nlt y1 (by omega))]
            by_cases y2 : m < (HD e (mbN b e.1).1 q).2 t
            · rw [if_neg (nI_ge y2 (by omega))]
              rw [if_pos ⟨y1, y2⟩] at ih
              exact ih
            · rw [if_pos (nI_le (by omega) (by omega))]
              rw [if_neg (fun w => y2 w.2)] at ih
              exact ih
          · rw [if_pos (nI_lt (by omega) (by omega))]
            rw [if_neg (fun w => y1 w.1)] at ih
            exact ih
      rw [rC, rM]
      exact ⟨_, _, _, rfl, rfl, fin⟩
    · rw [decide_eq_false hz]; exact ⟨_, _, _, rfl, rfl, h⟩
