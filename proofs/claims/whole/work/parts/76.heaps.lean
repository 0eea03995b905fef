/-! heaps -/
theorem runOf_C {σ : St} {c : Nat → Nat} {K i : Nat} {v : Int32} (hK : K ≤ 8) (h6 : σ.1 1506 = nI K) (hc : ∀ j, j < K → c j < 10 ∧ σ.2.1 16 j = nI (c j)) (hi : i < K) (hu : ∀ j, j < K → c j = c i → j = i) (hv : σ.2.1 20 i = v) : f_Heaps_runOf σ (nI (c i)) = some v := by
  unfold f_Heaps_runOf
  have ci := (hc i hi).1
  refine loopF (n := K) (P := fun t fuel => t ≤ i → f_Heaps_runOf_2 fuel σ (nI (c i)) (nI t) = some v) (fun f h => absurd h (by omega)) (fun t f ht ih h => ?_) 0 (Nat.zero_le _) FU (by show _ < 1000; omega) (Nat.zero_le _)
  unfold f_Heaps_runOf_2
  have tj := (hc t ht).1
  rw [h6, if_neg (nI_ge ht (by omega)), inb_nI (show t < 8 by omega) (by decide), nIt (show t < 2 ^ 31 by omega), (hc t ht).2, nI_1]
  simp only [cond_true]
  by_cases y : t = i
  · rw [y, if_pos rfl, hv]
  · rw [if_neg (fun z => y (hu t ht ((nI_eq (by omega) (by omega)).mp z)))]
    exact ih (by omega)
theorem e_heaps {σ τ : St} (h : Rel σ τ) (x y z : Int32) : ∃ r σ' τ', f_Top_heaps σ x y z = some (r, σ') ∧ f_M_heaps τ x y z = some (r, τ') ∧ Rel σ' τ' := by
  obtain ⟨e, hB, hC, hM⟩ := rel_ew h
  have hn := hB.1
  have eM : MAXI = 2147483647 := rfl
  unfold f_Top_heaps f_M_heaps
  rw [hM.1]
  rcases isSet_2 hB hC hM x with ⟨g1, g2⟩ | ⟨b, hb, rfl, g1, g2⟩
  · rw [g1, g2]; exact ⟨_, _, _, rfl, rfl, h⟩
  · rw [g1, g2]
    rcases heatTint_2 y with ⟨k1, k2⟩ | ⟨w, m, w3, w9, hm, k1, k2, k3, k4⟩
    · rw [k1, k2]; exact ⟨_, _, _, rfl, rfl, h⟩
    · rw [k1, k2]
      simp only [bind_s, i10, if_false]
      have hKn := mb_le b e.1
      rw [pc_some, bits_eq (p10 hn hb), pc_mb hn hb]
      simp only [bind_s]
      by_cases h8 : (mbN b e.1).2 ≤ 8
      · have c8 : nI (mbN b e.1).2 ≤ (8 : Int32) := nI_le (b := 8) h8 (by decide)
        simp only [c8, if_true]
        obtain ⟨σ1, w1, wk, wh, wg⟩ := warm_C hB hC w9
        obtain ⟨σ2, a1, a2, a3, a4⟩ := fewest_C hB (ewC_k wk hC) hb h8 w9 hm wh wg
        have kk : kC σ2 = kC σ := a3.trans wk
        have hcl : ∀ i, i < (mbN b e.1).2 → (mbN b e.1).1 i < e.1 := fun i hi => (mb_lt b hi).1
        obtain ⟨τ1, b1, b2', b3, b4, b5⟩ := goS_M hB hb h8 w9 hm k3 k4 e.1 0 0 (fun _ => 0) (fun _ => 0) (MAXI, fun _ => 0) (upI τ 37 11) (by omega) (Nat.zero_le _) ⟨fun i hi => absurd hi (Nat.not_lt_zero i), fun _ _ => rfl, fun _ => Nat.two_pow_pos _⟩ (ewM_k (kM_upI (by rfl)) hM) (fun i hi => absurd hi (Nat.not_lt_zero i)) (fun i hi => absurd hi (Nat.not_lt_zero i)) ⟨rfl, fun hs => absurd rfl hs, Or.inl rfl⟩ 20 (by omega)
        have km : kM τ1 = kM τ := by rw [frM_kM b2', kM_upI (by rfl)]
        have b1' : f_M_goSafe 20 (upI τ 37 11) (nI b) 0 0 y = some τ1 := b1
        have b5' : bsM (mbN b e.1).2 (mbN b e.1).1 (srch 8 (okH e w m (mbN b e.1).2 (mbN b e.1).1) wH (mbN b e.1).2 0 0 0 (fun _ => 0) (fun _ => 0) (MAXI, fun _ => 0)) τ1 := b5
        have fin : Rel σ2 τ1 := rel_k h kk km
        have fin2 : Rel σ τ1 := rel_k h rfl km
        have cC : ∀ u, f_Top_heaps_53 σ (nI b) y u = bd2 (some ((if (srch 8 (okH e w m (mbN b e.1).2 (mbN b e.1).1) wH (mbN b e.1).2 0 0 0 (fun _ => 0) (fun _ => 0) (MAXI, fun _ => 0)).1 = MAXI then (0 : Int32) else 1), σ2)) fun r73_2 σ73_2 => (if r73_2 = 0 then (some ((-2 : Int32), σ73_2)) else (if u = (-1 : Int32) then (some ((σ73_2.1 1508), σ73_2)) else ((f_Heaps_runOf σ73_2 u).bind fun r102_3 => (some (r102_3, σ73_2))))) := fun u => by
          unfold f_Top_heaps_53
          rw [k3, w1, bind_s, k4, a1]
        obtain ⟨d1, d2, d3, d4, d5, d6⟩ := a2
        obtain ⟨e1, e2, e3⟩ := b5'
        simp only [cC, b1', bind_s]
        generalize srch 8 (okH e w m (mbN b e.1).2 (mbN b e.1).1) wH (mbN b e.1).2 0 0 0 (fun _ => 0) (fun _ => 0) (MAXI, fun _ => 0) = S at *
        rw [e1]
        unfold f37
        rcases all_2 hB hC hM z with ⟨j1, j2⟩ | ⟨rfl, j1, j2⟩ | ⟨t, ht, rfl, j1, j2⟩
        · rw [j1, j2]; exact ⟨_, _, _, rfl, rfl, h⟩
        · rw [j1, j2]
          simp only [bind_s, i10, if_false, if_true, show ¬ (0 : Int32) ≤ -1 by decide]
          rcases Nat.lt_or_ge S.1 MAXI with q | q
          · have s10 : S.1 ≤ 10 := by rcases e3 with z | z <;> omega
            rw [if_neg (show ¬ S.1 = MAXI by omega), bd2_s, if_neg i10, d3, if_neg (show ¬ S.1 = MAXI by omega), if_pos (show nI S.1 ≤ (10 : Int32) from nI_le (b := 10) s10 (by decide))]
            exact ⟨_, _, _, rfl, rfl, fin⟩
          · have sM : S.1 = MAXI := by omega
            rw [if_pos sM, bd2_s, if_pos rfl, if_pos sM, if_neg (show ¬ nI 11 ≤ (10 : Int32) by decide)]
            exact ⟨_, _, _, rfl, rfl, fin⟩
        · have n1 : ¬ nI t = (-1 : Int32) := m1_ne (by omega)
          have n2 : (0 : Int32) ≤ nI t := nI_pos' (by omega)
          rw [j1, j2, bt_isOf hn hb ht, bt_M hn hb ht]
          simp only [bind_s, i10, if_false, n1, n2, if_true]
          by_cases qb : bt b t = true
          · obtain ⟨ct, clt⟩ := mb_at b ht qb
            rw [b2_nt qb, if_neg i10, if_pos rfl]
            rcases Nat.lt_or_ge S.1 MAXI with q | q
            · have s10 : S.1 ≤ 10 := by rcases e3 with z | z <;> omega
              have ro := runOf_C (σ := σ2) (c := (mbN b e.1).1) (K := (mbN b e.1).2) (i := (mbN b t).2) h8 d1 (fun j hj => ⟨by have := hcl j hj; omega, a4 j hj⟩) clt (fun j hj y => mb_inj b e.1 j _ hj clt y) (d5 (by omega) _ clt)
              have e4 := e2 (by omega) _ clt
              rw [ct] at ro e4
              rw [if_neg (show ¬ S.1 = MAXI by omega), bd2_s, if_neg i10, ro, bind_s, if_neg (show ¬ S.1 = MAXI by omega), if_pos (show nI S.1 ≤ (10 : Int32) from nI_le (b := 10) s10 (by decide)), in_t (t := t) (by omega), ct_t (t := t) (by omega), e4]
              exact ⟨_, _, _, rfl, rfl, fin⟩
            · have sM : S.1 = MAXI := by omega
              rw [if_pos sM, bd2_s, if_pos rfl, if_pos sM, if_neg (show ¬ nI 11 ≤ (10 : Int32) by decide)]
              exact ⟨_, _, _, rfl, rfl, fin⟩
          · rw [b2_nf (bt_f qb), if_pos rfl, if_neg i01]
            simp only [ite_self]
            exact ⟨_, _, _, rfl, rfl, fin2⟩
      · have c8 : ¬ nI (mbN b e.1).2 ≤ (8 : Int32) := nI_ge (a := 8) (by omega) (by omega)
        simp only [c8, if_false]
        rcases all_2 hB hC hM z with ⟨j1, j2⟩ | ⟨rfl, j1, j2⟩ | ⟨t, ht, rfl, j1, j2⟩
        · rw [j1, j2]; exact ⟨_, _, _, rfl, rfl, h⟩
        · rw [j1, j2]; exact ⟨_, _, _, rfl, rfl, h⟩
        · rw [j1, j2]; exact ⟨_, _, _, rfl, rfl, h⟩
/-! cost, by the reference -/
def frK (τ τ' : St) : Prop := (∀ k, k ≠ 38 → τ'.1 k = τ.1 k) ∧ (∀ a, (a < 19 ∨ 21 < a) → τ'.2.1 a = τ.2.1 a) ∧ τ'.2.2 = τ.2.2
theorem frK_rf (τ : St) : frK τ τ := ⟨fun _ _ => rfl, fun _ _ => rfl, rfl⟩
theorem frK_tr {a b c : St} (h1 : frK a b) (h2 : frK b c) : frK a c := ⟨fun k hk => (h2.1 k hk).trans (h1.1 k hk), fun k k1 => (h2.2.1 k k1).trans (h1.2.1 k k1), h2.2.2.trans h1.2.2⟩
theorem frK_kM {τ τ' : St} (h : frK τ τ') : kM τ' = kM τ := by
  refine kM_of (fun k hk => h.1 k ?_) (fun a ha => h.2.1 a ?_) (fun a _ => by rw [h.2.2])
  · rintro rfl; exact absurd hk (by decide)
  · simp only [scrAM, Bool.and_eq_false_iff, decide_eq_false_iff_not] at ha; omega
theorem frK_up {τ : St} {i : Nat} {v : Int32} : frK τ (upA τ 21 i v) := ⟨fun _ _ => rfl, fun b hb => by rw [upA_2, if_neg (by omega)], rfl⟩
theorem frK_G {τ τ' : St} (h : samG τ τ') : frK τ τ' := ⟨fun k _ => by rw [h.1], fun a ha => h.2.1 a (by omega) (by omega), h.2.2⟩
def smN (w : Nat → Nat) (rho : Nat → Nat) : Nat → Nat
  | 0 => 0
  | k + 1 => smN w rho k + w (rho k)
theorem sm_s (w rho : Nat → Nat) (k : Nat) : smN w rho (k + 1) = smN w rho k + w (rho k) := rfl
theorem sm_le {w rho : Nat → Nat} (hw : ∀ x, w x ≤ 10000) : ∀ k, smN w rho k ≤ 10000 * k
  | 0 => Nat.le_refl _
  | k + 1 => by rw [sm_s]; have := sm_le (rho := rho) hw k; have := hw (rho k); omega
theorem sm_hi {w rho : Nat → Nat} {i v : Nat} : ∀ {k : Nat}, k ≤ i → smN w (cxN rho i v) k = smN w rho k
  | 0, _ => rfl
  | k + 1, h => by rw [sm_s, sm_s, sm_hi (k := k) (by omega), cx_at, if_neg (by omega)]
theorem sm_lo {w rho : Nat → Nat} {i v : Nat} : ∀ {k : Nat}, i < k → smN w (cxN rho i v) k + w (rho i) = smN w rho k + w v
  | k + 1, h => by
    rw [sm_s, sm_s, cx_at]
    by_cases q : k = i
    · subst q; rw [if_pos rfl, sm_hi (Nat.le_refl _)]; omega
    · rw [if_neg q]
      have := sm_lo (w := w) (rho := rho) (i := i) (v := v) (k := k) (by omega)
      omega
theorem sm_next {w rho : Nat → Nat} {used i v : Nat} (hw0 : w 0 = 0) (hi : i ≤ used) (h0 : ∀ i, used ≤ i → rho i = 0) (hv : w (rho i) ≤ w v) : smN w (cxN rho i v) (max used (i + 1)) = smN w rho used + w v - w (rho i) := by
  by_cases q : i < used
  · rw [Nat.max_eq_left (by omega)]
    have := sm_lo (w := w) (rho := rho) (v := v) q
    omega
  · obtain rfl : i = used := by omega
    rw [Nat.max_eq_right (by omega), sm_s, sm_hi (Nat.le_refl _), cx_at, if_pos rfl, h0 i (Nat.le_refl _), hw0]; omega
theorem heapTints_M {e : Ew} {τ : St} {h K many : Nat} {c rho : Nat → Nat} (hB : ewB e) (hM : ewM e τ) (hh : h ≤ 9) (hc : ∀ i, i < K → c i < e.1) (hmany : many ≤ 9) (hs : hsM K c many rho τ) : ∃ τ', f_M_heapTints τ (nI many) (nI h) = some ((if allN (okT e h K c) rho many = true then nI (smN (wT e h K c) rho many) else -1), τ') ∧ samG τ τ' := by
  have hn := hB.1
  unfold f_M_heapTints
  exact loopF (n := many) (P := fun k fuel => ∀ τ1, samG τ τ1 → allN (okT e h K c) rho k = true → ∃ τ', f_M_heapTints_5 fuel τ1 (nI many) (nI h) (nI (smN (wT e h K c) rho k)) (nI k) = some ((if allN (okT e h K c) rho many = true then nI (smN (wT e h K c) rho many) else -1), τ') ∧ samG τ τ') (fun f τ1 k1 k2 => by
      unfold f_M_heapTints_5
      rw [if_pos (nI_le (Nat.le_refl _) (by omega)), if_pos k2]
      exact ⟨τ1, rfl, k1⟩) (fun k f hk ih τ1 k1 k2 => by
      have hM1 := ewM_k (samG_kM k1) hM
      have hlt : thN c (rho k) K < 2 ^ e.1 := th_lt hc
      have eok : okT e h K c (rho k) = (goN e (thN c (rho k) K) && decide (spN e h (thN c (rho k) K) = 0)) := rfl
      unfold f_M_heapTints_5
      rw [if_neg (nI_ge hk (by omega)), in_t (t := k) (by omega), ct_t (t := k) (by omega), k1.2.1 21 (by decide) (by decide), hs k hk, goesSo_M hB hM1 hlt, spoilt_M hB hM1 hlt hh, nI_1]
      simp only [cond_true, bind_s]
      rw [all_s] at ih
      cases q : goN e (thN c (rho k) K)
      · rw [b2_f, if_pos rfl, all_n (ok := okT e h K c) hk (by rw [eok, q]; rfl), if_neg (by decide)]
        exact ⟨τ1, rfl, k1⟩
      · rw [b2_t, if_neg i10]
        by_cases q2 : spN e h (thN c (rho k) K) = 0
        · obtain ⟨τ2, s1, s2⟩ := tints_MG hB hM1 hlt hh (off := 0) (by omega)
          have s1' : f_M_tints τ1 (nI (thN c (rho k) K)) (nI h) 0 = some (nI (wT e h K c (rho k)), τ2) := s1
          rw [if_pos q2, s1', bd2_s, nI_add]
          exact ih τ2 (samG_tr k1 s2) (by rw [k2, eok, q, decide_eq_true q2]; rfl)
        · rw [if_neg q2, all_n (ok := okT e h K c) hk (by rw [eok, q, decide_eq_false q2]; rfl), if_neg (by decide)]
          exact ⟨τ1, rfl, k1⟩)
    0 (Nat.zero_le _) FU (by show _ < 1000; omega) τ (samG_rf τ) rfl
theorem cost_body (rec : St → Int32 → Int32 → Int32 → Int32 → Option St) (fl : Nat) (τ1 : St) (b x : Int32) {t many k W m : Nat} (ht : t < 10) (hm : many ≤ 8) (hm2 : m ≤ 9) (hr : irem x 10 = nI m) (hk : k ≤ many) (hkm : k < m) (hW : W < 1024) (h1 : k < many → τ1.2.1 21 k = nI W) (h2 : k = many → W = 0) : f_M_goCost_71 rec (fl + 1) τ1 b (nI t) (nI many) x (nI k) = (rec (upA τ1 21 k (nI (W ||| 2 ^ t))) b (nI (t + 1)) (nI (max many (k + 1))) x).bind fun τ2 => f_M_goCost_71 rec fl (upA τ2 21 k (nI W)) b (nI t) (nI many) x (nI (k + 1)) := by
  have pt : (2 : Nat) ^ t ≤ 2 ^ 9 := Nat.pow_le_pow_right (by decide) (by omega)
  have eset : nI W ||| ((1 : Int32) <<< (nI t &&& 31)) = nI (W ||| 2 ^ t) := by rw [shl1_nI (by omega), or_nI (by omega) (by omega)]
  conv => lhs; unfold f_M_goCost_71
  rw [if_neg (nI_nlt (by omega) (by omega)), hr, if_neg (nI_ge hkm (by omega))]
  by_cases q : k = many
  · have W0 := h2 q
    have eset0 : (0 : Int32) ||| ((1 : Int32) <<< (nI t &&& 31)) = nI (W ||| 2 ^ t) := by rw [← eset, W0]; rfl
    rw [if_pos (by rw [q])]
    unfold f_M_goCost_104 f_M_goCost_137
    rw [in_t (t := k) (by omega), ct_t (t := k) (by omega), if_pos (by rw [q]), nI_1, nI_1, nI_1, eset0, Nat.max_eq_right (by omega), q, W0]
    rfl
  · rw [if_neg (fun z => q ((nI_eq (by omega) (by omega)).mp z)), in_t (t := k) (by omega), ct_t (t := k) (by omega), h1 (by omega), cond_true]
    unfold f_M_goCost_104 f_M_goCost_137
    rw [in_t (t := k) (by omega), ct_t (t := k) (by omega), if_neg (fun z => q ((nI_eq (by omega) (by omega)).mp z)), nI_1, nI_1, eset, Nat.max_eq_left (by omega)]
    rfl
theorem cx_lt {rho : Nat → Nat} {a k : Nat} (h : ∀ j, rho j < 2 ^ a) (j : Nat) : cxN rho k (rho k ||| 2 ^ a) j < 2 ^ (a + 1) := by
  rw [cx_at, Nat.pow_succ]
  have h1 := h j
  have h2 := h k
  by_cases z : j = k
  · rw [if_pos z]
    have : rho k ||| 2 ^ a < 2 ^ (a + 1) := Nat.or_lt_two_pow (by rw [Nat.pow_succ]; omega) (by rw [Nat.pow_succ]; omega)
    rw [Nat.pow_succ] at this
    exact this
  · rw [if_neg z]; omega
theorem cx_zero {rho : Nat → Nat} {used k v : Nat} (h : ∀ j, used ≤ j → rho j = 0) (j : Nat) (hj : max used (k + 1) ≤ j) : cxN rho k v j = 0 := by
  have hj1 := Nat.le_trans (Nat.le_max_left used (k + 1)) hj
  have hj2 := Nat.le_trans (Nat.le_max_right used (k + 1)) hj
  rw [cx_at, if_neg (by omega)]; exact h j hj1
theorem hs_mid {K : Nat} {c rho : Nat → Nat} {used k v : Nat} {τ1 : St} (hk : k ≤ used) (h : hsM K c used rho τ1) : hsM K c (max used (k + 1)) (cxN rho k v) (upA τ1 21 k (nI (thN c v K))) := fun j hj => by
  rw [upA_2, if_pos rfl, cx_at]
  unfold upd
  by_cases z : j = k
  · rw [if_pos z, if_pos z]
  · rw [if_neg z, if_neg z]
    refine h j ?_
    rcases Nat.le_total used (k + 1) with w | w
    · rw [Nat.max_eq_right w] at hj; omega
    · rw [Nat.max_eq_left w] at hj; exact hj
theorem hs_back {K : Nat} {c rho : Nat → Nat} {used k v : Nat} {τ2 : St} (h : hsM K c (max used (k + 1)) (cxN rho k v) τ2) : hsM K c used rho (upA τ2 21 k (nI (thN c (rho k) K))) := fun j hj => by
  rw [upA_2, if_pos rfl]
  unfold upd
  by_cases z : j = k
  · rw [if_pos z, z]
  · have := h j (Nat.lt_of_lt_of_le hj (Nat.le_max_left _ _))
    rw [cx_at, if_neg z] at this
    rw [if_neg z]; exact this
theorem okT_sub {e : Ew} {h K : Nat} {c : Nat → Nat} (hB : ewB e) {x a : Nat} (hx : bt x a = false) (hk : okT e h K c (x ||| 2 ^ a) = true) : okT e h K c x = true := by
  unfold okT at *
  rw [Bool.and_eq_true, decide_eq_true_eq] at *
  have := th_sub (n := e.1) c x a K hx
  exact ⟨go_sub this hk.1, sp_sub hB this hk.2⟩
theorem noop_K {e : Ew} {b h m : Nat} {x : Int32} (hB : ewB e) (hb : b < 2 ^ e.1) (h8 : (mbN b e.1).2 ≤ 8) (hh : h ≤ 9) (hm2 : m ≤ 9) (hd : x / 10 = nI h) (hr : irem x 10 = nI m) (w10 : ∀ y, wT e h (mbN b e.1).2 (mbN b e.1).1 y ≤ 10000) (w0 : wT e h (mbN b e.1).2 (mbN b e.1).1 0 = 0) : ∀ (d t used : Nat) (rho : Nat → Nat) (τ : St), t + d = e.1 → used ≤ (mbN b t).2 → (∀ k, rho k < 2 ^ (mbN b t).2) → (∀ k, used ≤ k → rho k = 0) → ewM e τ → hsM (mbN b e.1).2 (mbN b e.1).1 used rho τ → ((∃ k, k < used ∧ okT e h (mbN b e.1).2 (mbN b e.1).1 (rho k) = false) ∨ (∃ s, s ≤ 1000000 ∧ τ.1 38 = nI s ∧ s ≤ smN (wT e h (mbN b e.1).2 (mbN b e.1).1) rho used)) → ∀ fuel, d < fuel → ∃ τ', f_M_goCost fuel τ (nI b) (nI t) (nI used) x = some τ' ∧ frK τ τ' ∧ hsM (mbN b e.1).2 (mbN b e.1).1 used rho τ' ∧ τ'.1 38 = τ.1 38 := by
  have hn := hB.1
  have hcl : ∀ i, i < (mbN b e.1).2 → (mbN b e.1).1 i < e.1 := fun i hi => (mb_lt b hi).1
  intro d
  induction d with
  | zero =>
    intro t used rho τ ht hu hr1 hr2 hM hs hbad fuel hf
    obtain ⟨f, rfl⟩ : ∃ f, fuel = f + 1 := ⟨fuel - 1, by omega⟩
    obtain rfl : t = e.1 := by omega
    obtain ⟨τ1, a1, a2⟩ := heapTints_M (h := h) hB hM hh hcl (show used ≤ 9 by omega) hs
    have sl := sm_le (rho := rho) w10 used
    show ∃ τ', f_M_goCost_F (f_M_goCost f) τ (nI b) (nI e.1) (nI used) x = some τ' ∧ _
    unfold f_M_goCost_F
    rw [if_pos hM.1.symm, hd, a1, bd2_s]
    have fin : frK τ τ1 ∧ hsM (mbN b e.1).2 (mbN b e.1).1 used rho τ1 ∧ τ1.1 38 = τ.1 38 := ⟨frK_G a2, fun k hk => by rw [a2.2.1 21 (by decide) (by decide)]; exact hs k hk, by rw [a2.1]⟩
    by_cases q : allN (okT e h (mbN b e.1).2 (mbN b e.1).1) rho used = true
    · rcases hbad with ⟨k, k1, k2⟩ | ⟨s, s1, s2, s3⟩
      · rw [all_n k1 k2] at q; cases q
      · rw [if_pos q, if_neg (nI_pos (by omega)), fin.2.2, s2, if_neg (nI_pos (by omega)), if_pos (nI_le s3 (by omega))]
        exact ⟨τ1, rfl, fin.1, fin.2.1, by rw [fin.2.2, s2]⟩
    · rw [if_neg q, if_pos (by decide)]
      exact ⟨τ1, rfl, fin⟩
  | succ d ih =>
    intro t used rho τ ht hu hr1 hr2 hM hs hbad fuel hf
    obtain ⟨f, rfl⟩ : ∃ f, fuel = f + 1 := ⟨fuel - 1, by omega⟩
    have htn : t < e.1 := by omega
    have hmm := mb_mono b (t := t) (t' := e.1) (by omega)
    show ∃ τ', f_M_goCost_F (f_M_goCost f) τ (nI b) (nI t) (nI used) x = some τ' ∧ _
    unfold f_M_goCost_F
    rw [hM.1, if_neg (fun z => by have := (nI_eq (by omega) (by omega)).mp z; omega), bt_M hn hb htn]
    by_cases q : bt b t = true
    · obtain ⟨ct, clt⟩ := mb_at b htn q
      have e2 : (mbN b (t + 1)).2 = (mbN b t).2 + 1 := by rw [mb_2, if_pos q]
      rw [b2_nt q, if_neg i10]
      exact loopF (n := min (used + 1) m) (P := fun k fl => ∀ τ1, frK τ τ1 → hsM (mbN b e.1).2 (mbN b e.1).1 used rho τ1 → τ1.1 38 = τ.1 38 → ∃ τ', f_M_goCost_71 (f_M_goCost f) fl τ1 (nI b) (nI t) (nI used) x (nI k) = some τ' ∧ frK τ τ' ∧ hsM (mbN b e.1).2 (mbN b e.1).1 used rho τ' ∧ τ'.1 38 = τ.1 38) (fun fl τ1 k1 k2 k3 => by
          unfold f_M_goCost_71
          by_cases z : used + 1 ≤ m
          · have e1 : min (used + 1) m = used + 1 := Nat.min_eq_left z
            rw [if_pos (nI_lt (by rw [e1]; omega) (by rw [e1]; omega))]
            exact ⟨τ1, rfl, k1, k2, k3⟩
          · have e1 : min (used + 1) m = m := Nat.min_eq_right (by omega)
            rw [if_neg (nI_nlt (by rw [e1]; omega) (by omega)), hr, if_pos (nI_le (by rw [e1]; omega) (by rw [e1]; omega))]
            exact ⟨τ1, rfl, k1, k2, k3⟩) (fun k fl hk ihl τ1 k1 k2 k3 => by
          have hk1 : k < used + 1 := Nat.lt_of_lt_of_le hk (Nat.min_le_left _ _)
          have hk2 : k < m := Nat.lt_of_lt_of_le hk (Nat.min_le_right _ _)
          have hM1 := ewM_k (frK_kM k1) hM
          have hWlt : thN (mbN b e.1).1 (rho k) (mbN b e.1).2 < 2 ^ e.1 := th_lt hcl
          have hW := p10 hn hWlt
          have hafter : thN (mbN b e.1).1 (rho k) (mbN b e.1).2 ||| 2 ^ t = thN (mbN b e.1).1 (rho k ||| 2 ^ (mbN b t).2) (mbN b e.1).2 := by rw [th_or (bt_lt (hr1 k)), if_pos clt, ct]
          rw [cost_body (f_M_goCost f) fl τ1 (nI b) x (W := thN (mbN b e.1).1 (rho k) (mbN b e.1).2) (by omega) (by omega) hm2 hr (by omega) hk2 hW (fun z => k2 k z) (fun z => by rw [hr2 k (by omega), th_0]), hafter]
          have hmx : max used (k + 1) ≤ (mbN b t).2 + 1 := Nat.max_le.mpr ⟨by omega, by omega⟩
          have wm : wT e h (mbN b e.1).2 (mbN b e.1).1 (rho k) ≤ wT e h (mbN b e.1).2 (mbN b e.1).1 (rho k ||| 2 ^ (mbN b t).2) := al_sub (th_sub (mbN b e.1).1 (rho k) (mbN b t).2 (mbN b e.1).2 (bt_lt (hr1 k)))
          obtain ⟨τ2, j1, j2, j3, j4⟩ := ih (t + 1) (max used (k + 1)) (cxN rho k (rho k ||| 2 ^ (mbN b t).2)) _ (by omega) (by rw [e2]; exact hmx) (fun j => by rw [e2]; exact cx_lt hr1 j) (fun j hj => cx_zero hr2 j hj) (ewM_k (frK_kM frK_up) hM1) (hs_mid (by omega) k2) (by
              rcases hbad with ⟨kb, kb1, kb2⟩ | ⟨s, s1, s2, s3⟩
              · refine Or.inl ⟨kb, Nat.lt_of_lt_of_le kb1 (Nat.le_max_left _ _), ?_⟩
                rw [cx_at]
                by_cases z : kb = k
                · rw [if_pos z]
                  cases w : okT e h (mbN b e.1).2 (mbN b e.1).1 (rho k ||| 2 ^ (mbN b t).2)
                  · rfl
                  · rw [z] at kb2
                    exact absurd (okT_sub hB (bt_lt (hr1 k)) w) (by rw [kb2]; decide)
                · rw [if_neg z]; exact kb2
              · refine Or.inr ⟨s, s1, by rw [upA_1, k3]; exact s2, ?_⟩
                rw [sm_next w0 (by omega) hr2 wm]
                omega) f (by omega)
          rw [j1, bind_s]
          exact ihl _ (frK_tr k1 (frK_tr frK_up (frK_tr j2 frK_up))) (hs_back j3) (by rw [upA_1, j4, upA_1]; exact k3))
        0 (Nat.zero_le _) FU (by show _ < 1000; have := Nat.min_le_right (used + 1) m; omega) τ (frK_rf τ) hs rfl
    · have e2 : (mbN b (t + 1)).2 = (mbN b t).2 := by rw [mb_2, if_neg q]
      obtain ⟨τ2, j1, j2, j3, j4⟩ := ih (t + 1) used rho τ (by omega) (by rw [e2]; exact hu) (by rw [e2]; exact hr1) hr2 hM hs hbad f (by omega)
      rw [b2_nf (bt_f q), if_pos rfl, nI_1, j1]
      exact ⟨τ2, rfl, j2, j3, j4⟩
def bcM (s : Nat) (τ : St) : Prop := (s = MAXI ∧ τ.1 38 = -1) ∨ (s ≤ 1000000 ∧ τ.1 38 = nI s)
theorem goK_M {e : Ew} {b h m : Nat} {x : Int32} (hB : ewB e) (hb : b < 2 ^ e.1) (h8 : (mbN b e.1).2 ≤ 8) (hh : h ≤ 9) (hm2 : m ≤ 9) (hd : x / 10 = nI h) (hr : irem x 10 = nI m) (w10 : ∀ y, wT e h (mbN b e.1).2 (mbN b e.1).1 y ≤ 10000) (w0 : wT e h (mbN b e.1).2 (mbN b e.1).1 0 = 0) : ∀ (d t used : Nat) (rho way : Nat → Nat) (s : Sw) (τ : St), t + d = e.1 → used ≤ (mbN b t).2 → goodR (okT e h (mbN b e.1).2 (mbN b e.1).1) (mbN b t).2 used rho → ewM e τ → hsM (mbN b e.1).2 (mbN b e.1).1 used rho τ → bcM s.1 τ → ∀ fuel, d < fuel → ∃ τ', f_M_goCost fuel τ (nI b) (nI t) (nI used) x = some τ' ∧ frK τ τ' ∧ hsM (mbN b e.1).2 (mbN b e.1).1 used rho τ' ∧ bcM (srch m (okT e h (mbN b e.1).2 (mbN b e.1).1) (wT e h (mbN b e.1).2 (mbN b e.1).1) ((mbN b e.1).2 - (mbN b t).2) (mbN b t).2 used (smN (wT e h (mbN b e.1).2 (mbN b e.1).1) rho used) rho way s).1 τ' := by
  have hn := hB.1
  have eM : MAXI = 2147483647 := rfl
  have hcl : ∀ i, i < (mbN b e.1).2 → (mbN b e.1).1 i < e.1 := fun i hi => (mb_lt b hi).1
  intro d
  induction d with
  | zero =>
    intro t used rho way s τ ht hu hg hM hs hbs fuel hf
    obtain ⟨f, rfl⟩ : ∃ f, fuel = f + 1 := ⟨fuel - 1, by omega⟩
    obtain rfl : t = e.1 := by omega
    obtain ⟨τ1, a1, a2⟩ := heapTints_M (h := h) hB hM hh hcl (show used ≤ 9 by omega) hs
    have sl := sm_le (rho := rho) w10 used
    rw [Nat.sub_self, srch_z]
    show ∃ τ', f_M_goCost_F (f_M_goCost f) τ (nI b) (nI e.1) (nI used) x = some τ' ∧ _
    unfold f_M_goCost_F
    rw [if_pos hM.1.symm, hd, a1, bd2_s, if_pos (all_y (fun i hi => (hg.1 i hi).2)), if_neg (nI_pos (by omega)), a2.1]
    have hs1 : hsM (mbN b e.1).2 (mbN b e.1).1 used rho τ1 := fun k hk => by rw [a2.2.1 21 (by decide) (by decide)]; exact hs k hk
    rcases hbs with ⟨z1, z2⟩ | ⟨z1, z2⟩
    · rw [z2, if_pos (by decide), if_neg (by omega)]
      exact ⟨_, rfl, frK_tr (frK_G a2) ⟨fun k hk => by rw [upI_1, if_neg hk], fun _ _ => rfl, rfl⟩, hs1, Or.inr ⟨by show smN _ rho used ≤ 1000000; omega, by rw [upI_1, if_pos rfl]⟩⟩
    · rw [z2, if_neg (nI_pos (by omega))]
      by_cases y : s.1 ≤ smN (wT e h (mbN b e.1).2 (mbN b e.1).1) rho used
      · rw [if_pos (nI_le y (by omega)), if_pos y]
        exact ⟨τ1, rfl, frK_G a2, hs1, Or.inr ⟨z1, by rw [a2.1]; exact z2⟩⟩
      · rw [if_neg (nI_ge (by omega) (by omega)), if_neg y]
        exact ⟨_, rfl, frK_tr (frK_G a2) ⟨fun k hk => by rw [upI_1, if_neg hk], fun _ _ => rfl, rfl⟩, hs1, Or.inr ⟨by show smN _ rho used ≤ 1000000; omega, by rw [upI_1, if_pos rfl]⟩⟩
  | succ d ih =>
    intro t used rho way s τ ht hu hg hM hs hbs fuel hf
    have hmm := mb_mono b (t := t) (t' := e.1) (by omega)
    have sl := sm_le (rho := rho) w10 used
    by_cases y : s.1 ≤ smN (wT e h (mbN b e.1).2 (mbN b e.1).1) rho used
    · have z : s.1 ≤ 1000000 ∧ τ.1 38 = nI s.1 := by
        rcases hbs with ⟨z1, z2⟩ | z
        · omega
        · exact z
      obtain ⟨τ', j1, j2, j3, j4⟩ := noop_K hB hb h8 hh hm2 hd hr w10 w0 (d + 1) t used rho τ ht hu hg.2.2 hg.2.1 hM hs (Or.inr ⟨s.1, z.1, z.2, y⟩) fuel hf
      rw [srch_pr y]
      exact ⟨τ', j1, j2, j3, Or.inr ⟨z.1, by rw [j4]; exact z.2⟩⟩
    · obtain ⟨f, rfl⟩ : ∃ f, fuel = f + 1 := ⟨fuel - 1, by omega⟩
      have htn : t < e.1 := by omega
      show ∃ τ', f_M_goCost_F (f_M_goCost f) τ (nI b) (nI t) (nI used) x = some τ' ∧ _
      unfold f_M_goCost_F
      rw [hM.1, if_neg (fun z => by have := (nI_eq (by omega) (by omega)).mp z; omega), bt_M hn hb htn]
      by_cases q : bt b t = true
      · obtain ⟨ct, clt⟩ := mb_at b htn q
        have e2 : (mbN b (t + 1)).2 = (mbN b t).2 + 1 := by rw [mb_2, if_pos q]
        obtain ⟨r, er⟩ : ∃ r, (mbN b e.1).2 - (mbN b t).2 = r + 1 := ⟨(mbN b e.1).2 - (mbN b t).2 - 1, by omega⟩
        rw [b2_nt q, if_neg i10, er, srch_s, if_neg y]
        exact loopF (n := min (used + 1) m) (P := fun k fl => ∀ τ1, frK τ τ1 → hsM (mbN b e.1).2 (mbN b e.1).1 used rho τ1 → bcM (lpN (stepS m (okT e h (mbN b e.1).2 (mbN b e.1).1) (wT e h (mbN b e.1).2 (mbN b e.1).1) r (mbN b t).2 used (smN (wT e h (mbN b e.1).2 (mbN b e.1).1) rho used) rho way) k s).1 τ1 → ∃ τ', f_M_goCost_71 (f_M_goCost f) fl τ1 (nI b) (nI t) (nI used) x (nI k) = some τ' ∧ frK τ τ' ∧ hsM (mbN b e.1).2 (mbN b e.1).1 used rho τ' ∧ bcM (lpN (stepS m (okT e h (mbN b e.1).2 (mbN b e.1).1) (wT e h (mbN b e.1).2 (mbN b e.1).1) r (mbN b t).2 used (smN (wT e h (mbN b e.1).2 (mbN b e.1).1) rho used) rho way) (min (used + 1) m) s).1 τ') (fun fl τ1 k1 k2 k3 => by
            unfold f_M_goCost_71
            by_cases z : used + 1 ≤ m
            · have e1 : min (used + 1) m = used + 1 := Nat.min_eq_left z
              rw [if_pos (nI_lt (by rw [e1]; omega) (by rw [e1]; omega))]
              exact ⟨τ1, rfl, k1, k2, k3⟩
            · have e1 : min (used + 1) m = m := Nat.min_eq_right (by omega)
              rw [if_neg (nI_nlt (by rw [e1]; omega) (by omega)), hr, if_pos (nI_le (by rw [e1]; omega) (by rw [e1]; omega))]
              exact ⟨τ1, rfl, k1, k2, k3⟩) (fun k fl hk ihl τ1 k1 k2 k3 => by
            have hk1 : k < used + 1 := Nat.lt_of_lt_of_le hk (Nat.min_le_left _ _)
            have hk2 : k < m := Nat.lt_of_lt_of_le hk (Nat.min_le_right _ _)
            have hM1 := ewM_k (frK_kM k1) hM
            have hr1 := hg.2.2
            have hr2 := hg.2.1
            have hWlt : thN (mbN b e.1).1 (rho k) (mbN b e.1).2 < 2 ^ e.1 := th_lt hcl
            have hW := p10 hn hWlt
            have hafter : thN (mbN b e.1).1 (rho k) (mbN b e.1).2 ||| 2 ^ t = thN (mbN b e.1).1 (rho k ||| 2 ^ (mbN b t).2) (mbN b e.1).2 := by rw [th_or (bt_lt (hr1 k)), if_pos clt, ct]
            rw [cost_body (f_M_goCost f) fl τ1 (nI b) x (W := thN (mbN b e.1).1 (rho k) (mbN b e.1).2) (by omega) (by omega) hm2 hr (by omega) hk2 hW (fun z => k2 k z) (fun z => by rw [hr2 k (by omega), th_0]), hafter]
            have hmx : max used (k + 1) ≤ (mbN b t).2 + 1 := Nat.max_le.mpr ⟨by omega, by omega⟩
            have wm : wT e h (mbN b e.1).2 (mbN b e.1).1 (rho k) ≤ wT e h (mbN b e.1).2 (mbN b e.1).1 (rho k ||| 2 ^ (mbN b t).2) := al_sub (th_sub (mbN b e.1).1 (rho k) (mbN b t).2 (mbN b e.1).2 (bt_lt (hr1 k)))
            rw [lp_s] at ihl
            by_cases hok : okT e h (mbN b e.1).2 (mbN b e.1).1 (rho k ||| 2 ^ (mbN b t).2) = true
            · unfold stepS at ihl
              rw [if_pos hok] at ihl
              have g2 := good_next hg (show k ≤ used by omega) hok
              obtain ⟨τ2, j1, j2, j3, j4⟩ := ih (t + 1) (max used (k + 1)) (cxN rho k (rho k ||| 2 ^ (mbN b t).2)) (cxN way (mbN b t).2 k) _ _ (by omega) (by rw [e2]; exact hmx) (by rw [e2]; exact g2) (ewM_k (frK_kM frK_up) hM1) (hs_mid (by omega) k2) k3 f (by omega)
              rw [e2, show (mbN b e.1).2 - ((mbN b t).2 + 1) = r by omega, sm_next w0 (by omega) hr2 wm] at j4
              rw [j1, bind_s]
              exact ihl _ (frK_tr k1 (frK_tr frK_up (frK_tr j2 frK_up))) (hs_back j3) j4
            · unfold stepS at ihl
              rw [if_neg hok] at ihl
              obtain ⟨τ2, j1, j2, j3, j4⟩ := noop_K hB hb h8 hh hm2 hd hr w10 w0 d (t + 1) (max used (k + 1)) (cxN rho k (rho k ||| 2 ^ (mbN b t).2)) _ (by omega) (by rw [e2]; exact hmx) (fun j => by rw [e2]; exact cx_lt hr1 j) (fun j hj => cx_zero hr2 j hj) (ewM_k (frK_kM frK_up) hM1) (hs_mid (by omega) k2) (Or.inl ⟨k, Nat.lt_of_lt_of_le (Nat.lt_succ_self k) (Nat.le_max_right _ _), by rw [cx_at, if_pos rfl]; exact Bool.eq_false_iff.mpr hok⟩) f (by omega)
              rw [j1, bind_s]
              refine ihl _ (frK_tr k1 (frK_tr frK_up (frK_tr j2 frK_up))) (hs_back j3) ?_
              unfold bcM at *
              rw [upA_1, j4, upA_1]; exact k3)
          0 (Nat.zero_le _) FU (by show _ < 1000; have := Nat.min_le_right (used + 1) m; omega) τ (frK_rf τ) hs hbs
      · have e2 : (mbN b (t + 1)).2 = (mbN b t).2 := by rw [mb_2, if_neg q]
        obtain ⟨τ2, j1, j2, j3, j4⟩ := ih (t + 1) used rho way s τ (by omega) (by rw [e2]; exact hu) (by rw [e2]; exact hg) hM hs hbs f (by omega)
        rw [b2_nf (bt_f q), if_pos rfl, nI_1, j1]
        rw [e2] at j4
        exact ⟨τ2, rfl, j2, j3, j4⟩
theorem e_cost {σ τ : St} (h : Rel σ τ) (x y z : Int32) : ∃ r σ' τ', f_Top_cost σ x y z = some (r, σ') ∧ f_M_cost τ x y z = some (r, τ') ∧ Rel σ' τ' := by
  obtain ⟨e, hB, hC, hM⟩ := rel_ew h
  have hn := hB.1
  have eM : MAXI = 2147483647 := rfl
  unfold f_Top_cost f_M_cost
  rw [isHeat_C, isHeat_M, within_eq (v := irem y 10), in_eq (v := irem y 10)]
  rcases isSet_2 hB hC hM x with ⟨g1, g2⟩ | ⟨b, hb, rfl, g1, g2⟩
  · rw [g1, g2]; exact ⟨_, _, _, rfl, rfl, h⟩
  · rw [g1, g2]
    simp only [bind_s, i10, if_false]
    have hKn := mb_le b e.1
    by_cases y0 : y < 0
    · rw [if_pos y0, decide_eq_false (show ¬ ((3 : Int32) ≤ y / 10 ∧ y / 10 ≤ 9) from no_heat y0 (d := 10) (by decide))]
      rcases upto99_2 z with ⟨j1, j2⟩ | ⟨p, hp, rfl, j1, j2⟩
      · rw [j1]; exact ⟨_, _, _, rfl, rfl, h⟩
      · rw [j1]; exact ⟨_, _, _, rfl, rfl, h⟩
    · rw [if_neg y0]
      obtain ⟨yn, hy, rfl⟩ := nI_of y0
      have ed : nI yn / 10 = nI (yn / 10) := pk_div (d := 10) hy (by decide) (by decide)
      have er : irem (nI yn) 10 = nI (yn % 10) := pk_rem (d := 10) hy (by decide) (by decide)
      rw [ed, er]
      by_cases h1 : (3 : Int32) ≤ nI (yn / 10) ∧ nI (yn / 10) ≤ 9
      · have hw := (heat_N (m := yn / 10) (by omega)).mp h1
        rw [decide_eq_true h1, b2_t, if_neg i10, if_neg i10]
        by_cases h2 : (1 : Int32) ≤ nI (yn % 10) ∧ nI (yn % 10) ≤ 6
        · have hmm := (btw (a := 1) (b := 6) (m := yn % 10) (by omega) (by decide) (by decide)).mp h2
          rw [decide_eq_true h2, b2_t, if_neg i10, if_neg i10]
          rcases upto99_2 z with ⟨j1, j2⟩ | ⟨p, hp, rfl, j1, j2⟩
          · rw [j1, j2]; exact ⟨_, _, _, rfl, rfl, h⟩
          · rw [j1, j2, pc_some, bits_eq (p10 hn hb), pc_mb hn hb]
            simp only [bind_s, i10, if_false]
            by_cases h7 : (mbN b e.1).2 ≤ 7
            · have c7 : nI (mbN b e.1).2 ≤ (7 : Int32) := nI_le (b := 7) h7 (by decide)
              generalize yn / 10 = w at *
              generalize yn % 10 = m at *
              obtain ⟨σ1, w1, wk, wh, wg⟩ := warm_C hB hC hw.2
              obtain ⟨σ2, a1, a2, a3⟩ := least_C hB (ewC_k wk hC) hb (by omega) hw.2 hmm.1 (by omega) wh wg
              have kk : kC σ2 = kC σ := a3.trans wk
              have w10 : ∀ y, wT e w (mbN b e.1).2 (mbN b e.1).1 y ≤ 10000 := fun y => by have := al_le hB (b := thN (mbN b e.1).1 y (mbN b e.1).2) hw.2; unfold wT; omega
              have w0 : wT e w (mbN b e.1).2 (mbN b e.1).1 0 = 0 := by unfold wT alN; rw [th_0, sum_z]
              obtain ⟨τ1, b1, b2', b3, b4⟩ := goK_M hB hb (by omega) hw.2 (show m ≤ 9 by omega) ed er w10 w0 e.1 0 0 (fun _ => 0) (fun _ => 0) (MAXI, fun _ => 0) (upI τ 38 (-1)) (by omega) (Nat.zero_le _) ⟨fun i hi => absurd hi (Nat.not_lt_zero i), fun _ _ => rfl, fun _ => Nat.two_pow_pos _⟩ (ewM_k (kM_upI (by rfl)) hM) (fun i hi => absurd hi (Nat.not_lt_zero i)) (Or.inl ⟨rfl, rfl⟩) 20 (by omega)
              have km : kM τ1 = kM τ := by rw [frK_kM b2', kM_upI (by rfl)]
              have b1' : f_M_goCost 20 (upI τ 38 (-1)) (nI b) 0 0 (nI yn) = some τ1 := b1
              have b4' : bcM (srch m (okT e w (mbN b e.1).2 (mbN b e.1).1) (wT e w (mbN b e.1).2 (mbN b e.1).1) (mbN b e.1).2 0 0 0 (fun _ => 0) (fun _ => 0) (MAXI, fun _ => 0)).1 τ1 := b4
              have fin : Rel σ2 τ1 := rel_k h kk km
              obtain ⟨d1, d2, d3, d4, d5, d6⟩ := a2
              rw [if_pos c7, if_pos c7, w1, bind_s, a1, bd2_s, b1', bind_s]
              generalize srch m (okT e w (mbN b e.1).2 (mbN b e.1).1) (wT e w (mbN b e.1).2 (mbN b e.1).1) (mbN b e.1).2 0 0 0 (fun _ => 0) (fun _ => 0) (MAXI, fun _ => 0) = S at *
              rcases b4' with ⟨z1, z2⟩ | ⟨z1, z2⟩
              · rw [if_pos z1, if_pos rfl, z2, if_neg (by decide)]
                exact ⟨_, _, _, rfl, rfl, fin⟩
              · have hne : ¬ S.1 = MAXI := by omega
                simp only [hne, if_false, i10]
                rw [z2, d3, if_pos (nI_pos' (by omega))]
                exact ⟨_, _, _, rfl, rfl, fin⟩
            · have c7 : ¬ nI (mbN b e.1).2 ≤ (7 : Int32) := nI_ge (a := 7) (by omega) (by omega)
              rw [if_neg c7, if_neg c7]
              exact ⟨_, _, _, rfl, rfl, h⟩
        · rw [decide_eq_false h2]
          rcases upto99_2 z with ⟨j1, j2⟩ | ⟨p, hp, rfl, j1, j2⟩
          · rw [j1]; exact ⟨_, _, _, rfl, rfl, h⟩
          · rw [j1]; exact ⟨_, _, _, rfl, rfl, h⟩
      · rw [decide_eq_false h1]
        rcases upto99_2 z with ⟨j1, j2⟩ | ⟨p, hp, rfl, j1, j2⟩
        · rw [j1]; exact ⟨_, _, _, rfl, rfl, h⟩
        · rw [j1]; exact ⟨_, _, _, rfl, rfl, h⟩
