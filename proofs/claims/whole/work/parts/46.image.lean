/-! image, back -/
def imP (σ0 : St) (t : Nat) (σ : St) : Prop := σ.1 = σ0.1 ∧ σ.2.2 = σ0.2.2 ∧ (∀ b, (b < 12 ∨ 14 < b) → σ.2.1 b = σ0.2.1 b) ∧ ∀ u, u < t → σ.2.1 12 u = σ0.2.1 2 (8 * u + 2) ∧ σ.2.1 13 u = σ0.2.1 3 u ∧ σ.2.1 14 u = vp_nar .boolean (σ0.2.1 4 u)
theorem image_C {n : Nat} (hn : n ≤ 10) {σ0 : St} (h0 : σ0.1 103 = nI n) : ∀ (k t : Nat) (σ : St), t + k = n → imP σ0 t σ → ∀ fuel, k < fuel → ∃ σe, f_Deeds_keepImage_27 fuel σ (nI t) = some σe ∧ imP σ0 n σe := by
  intro k
  induction k with
  | zero =>
    intro t σ ht hp fuel hf
    obtain rfl : t = n := by omega
    obtain ⟨f, rfl⟩ : ∃ f, fuel = f + 1 := ⟨fuel - 1, by omega⟩
    unfold f_Deeds_keepImage_27
    rw [hp.1, h0, if_pos (nI_le (Nat.le_refl t) (by omega))]
    exact ⟨σ, rfl, hp⟩
  | succ k ih =>
    intro t σ ht hp fuel hf
    obtain ⟨f, rfl⟩ : ∃ f, fuel = f + 1 := ⟨fuel - 1, by omega⟩
    obtain ⟨p1, p2, p3, p4⟩ := hp
    unfold f_Deeds_keepImage_27
    rw [p1, h0, if_neg (nI_ge (by omega) (by omega)), inb_nI (show t < 10 by omega) (by decide), nIt (by omega), show (2 : Int32) = nI 2 from rfl, told_C σ (by omega) (by decide)]
    simp only [bind_s, cond_true, nI_1]
    refine ih (t + 1) _ (by omega) ?_ f (by omega)
    refine ⟨p1, p2, fun b hb => ?_, fun u hu => ?_⟩
    · rw [upA_2, if_neg (by omega), upA_2, if_neg (by omega), upA_2, if_neg (by omega)]; exact p3 b hb
    · show upd (σ.2.1 12) t _ u = _ ∧ upd (σ.2.1 13) t _ u = _ ∧ upd (σ.2.1 14) t _ u = _
      unfold upd
      by_cases e : u = t
      · subst e
        rw [if_pos rfl, if_pos rfl, if_pos rfl, p3 2 (by decide), p3 3 (by decide), p3 4 (by decide)]
        exact ⟨rfl, rfl, rfl⟩
      · rw [if_neg e, if_neg e, if_neg e]
        exact p4 u (by omega)
def imQ (τ0 : St) (t m : Nat) (τ : St) : Prop := τ.1 = τ0.1 ∧ τ.2.2 = τ0.2.2 ∧ (∀ b, (b < 31 ∨ 34 < b) → τ.2.1 b = τ0.2.1 b) ∧ (∀ u, u < t → τ.2.1 31 u = τ0.2.1 3 u ∧ τ.2.1 32 u = τ0.2.1 28 u ∧ τ.2.1 33 u = vp_nar .boolean (τ0.2.1 29 u)) ∧ ∀ u, u < m → τ.2.1 34 u = τ0.2.1 30 u
theorem image_M2 {n : Nat} {τ0 : St} : ∀ (k m : Nat) (τ : St), m + k = 5 → imQ τ0 n m τ → ∀ fuel, k < fuel → ∃ τe, f_M_image_67 fuel τ (nI m) = some (τ0.2.1 30 0, τe) ∧ imQ τ0 n 5 τe := by
  intro k
  induction k with
  | zero =>
    intro m τ hm hp fuel hf
    obtain rfl : m = 5 := by omega
    obtain ⟨f, rfl⟩ : ∃ f, fuel = f + 1 := ⟨fuel - 1, by omega⟩
    unfold f_M_image_67
    rw [if_pos (show (5 : Int32) ≤ nI 5 by decide)]
    exact ⟨τ, by rw [hp.2.2.1 30 (by decide)]; rfl, hp⟩
  | succ k ih =>
    intro m τ hm hp fuel hf
    obtain ⟨f, rfl⟩ : ∃ f, fuel = f + 1 := ⟨fuel - 1, by omega⟩
    obtain ⟨p1, p2, p3, p4, p5⟩ := hp
    unfold f_M_image_67
    rw [if_neg (show ¬ (5 : Int32) ≤ nI m from nI_ge (b := 5) (by omega) (by decide)), inb_nI (show m < 5 by omega) (by decide), nIt (by omega)]
    simp only [cond_true, nI_1]
    refine ih (m + 1) _ (by omega) ?_ f (by omega)
    refine ⟨p1, p2, fun b hb => ?_, p4, fun u hu => ?_⟩
    · rw [upA_2, if_neg (by omega)]; exact p3 b hb
    · show upd (τ.2.1 34) m _ u = _
      unfold upd
      by_cases e : u = m
      · subst e
        rw [if_pos rfl, p3 30 (by decide)]
      · rw [if_neg e]; exact p5 u (by omega)
theorem image_M {n : Nat} (hn : n ≤ 10) {τ0 : St} (h0 : τ0.1 1 = nI n) : ∀ (k t : Nat) (τ : St), t + k = n → imQ τ0 t 0 τ → ∀ fuel, k < fuel → ∃ τe, f_M_image_15 fuel τ (nI t) = some (τ0.2.1 30 0, τe) ∧ imQ τ0 n 5 τe := by
  intro k
  induction k with
  | zero =>
    intro t τ ht hp fuel hf
    obtain rfl : t = n := by omega
    obtain ⟨f, rfl⟩ : ∃ f, fuel = f + 1 := ⟨fuel - 1, by omega⟩
    unfold f_M_image_15
    rw [hp.1, h0, if_pos (nI_le (Nat.le_refl t) (by omega))]
    exact image_M2 5 0 τ rfl hp FU (by decide)
  | succ k ih =>
    intro t τ ht hp fuel hf
    obtain ⟨f, rfl⟩ : ∃ f, fuel = f + 1 := ⟨fuel - 1, by omega⟩
    obtain ⟨p1, p2, p3, p4, p5⟩ := hp
    unfold f_M_image_15
    rw [p1, h0, if_neg (nI_ge (by omega) (by omega)), inb_nI (show t < 10 by omega) (by decide), nIt (by omega)]
    simp only [cond_true, nI_1]
    refine ih (t + 1) _ (by omega) ?_ f (by omega)
    refine ⟨p1, p2, fun b hb => ?_, fun u hu => ?_, fun u hu => by omega⟩
    · rw [upA_2, if_neg (by omega), upA_2, if_neg (by omega), upA_2, if_neg (by omega)]; exact p3 b hb
    · show upd (τ.2.1 31) t _ u = _ ∧ upd (τ.2.1 32) t _ u = _ ∧ upd (τ.2.1 33) t _ u = _
      unfold upd
      by_cases e : u = t
      · subst e
        rw [if_pos rfl, if_pos rfl, if_pos rfl, p3 3 (by decide), p3 28 (by decide), p3 29 (by decide)]
        exact ⟨rfl, rfl, rfl⟩
      · rw [if_neg e, if_neg e, if_neg e]
        exact p4 u (by omega)
theorem nar01 {v : Int32} (h : v = 0 ∨ v = 1) : vp_nar .boolean v = v := by
  rcases h with rfl | rfl
  · exact nar0
  · exact nar1
theorem e_image {σ τ : St} (h : Rel σ τ) : ∃ r σ' τ', f_Top_image σ = some (r, σ') ∧ f_M_image τ = some (r, τ') ∧ Rel σ' τ' := by
  obtain ⟨n, bn, h1, h2, h3, h4, h5, ⟨d1, d2, d3⟩, h7, h8⟩ := id h
  have hn := h1.1
  have hc : cpok 0 0 4 4 4 = true := by decide
  unfold f_Top_image f_Deeds_keepImage f_M_image
  rw [hc]
  obtain ⟨σe, g1, p1, p2, p3, p4⟩ := image_C hn (σ0 := stA (upI σ 906 (σ.1 103)) 11 (va_cpy (σ.2.1 10) (σ.2.1 11) 0 0 4)) h1.2.1 n 0 _ (by omega) ⟨rfl, rfl, fun _ _ => rfl, fun u hu => by omega⟩ FU (by show n < 1000; omega)
  obtain ⟨τe, g2, q1, q2, q3, q4, q5⟩ := image_M hn (τ0 := upI (upI τ 48 1) 49 (τ.1 1)) h1.2.2.1 n 0 _ (by omega) ⟨rfl, rfl, fun _ _ => rfl, fun u hu => by omega, fun u hu => by omega⟩ FU (by show n < 1000; omega)
  have e1 : f_Deeds_keepImage_27 FU (stA (upI σ 906 (σ.1 103)) 11 (va_cpy (σ.2.1 10) (σ.2.1 11) (0 : Int32).toNatClampNeg (0 : Int32).toNatClampNeg (4 : Int32).toNatClampNeg)) (0 : Int32) = some σe := g1
  have e2 : f_M_image_15 FU (upI (upI τ 48 1) 49 (τ.1 1)) (0 : Int32) = some (τ.2.1 30 0, τe) := g2
  rw [e2]
  simp only [cond_true, e1, bind_s]
  have z10 : σe.2.1 10 = σ.2.1 10 := p3 10 (by decide)
  refine ⟨_, σe, τe, rfl, ?_, n, bn, ?_, ?_, ?_, ?_, ?_, ?_, ?_, ?_⟩
  · show some (τ.2.1 30 0, τe) = some (σe.2.1 10 0, τe)
    rw [z10, d1 0 (by decide)]
  · exact relT_c h1 (by rw [p1]; rfl) (p3 2 (by decide)) (by rw [q1]; rfl) ⟨q3 1 (by decide), q3 2 (by decide), q3 3 (by decide), q3 4 (by decide), q3 5 (by decide), q3 6 (by decide), q3 7 (by decide), q3 8 (by decide), by rw [q1]; rfl, by rw [q1]; rfl, by rw [q1]; rfl, by rw [q1]; rfl⟩
  · exact relG_c h2 (p3 3 (by decide)) (p3 4 (by decide)) (q3 28 (by decide)) (q3 29 (by decide))
  · exact relCh_c h3 (by rw [p1]; rfl) (by rw [p1]; rfl) (p3 6 (by decide)) (p3 7 (by decide)) (p3 8 (by decide)) (by rw [q1]; rfl) (by rw [q1]; rfl) (q3 9 (by decide)) (q3 10 (by decide)) (q3 11 (by decide)) (q3 12 (by decide))
  · exact relTp_c h4 (by rw [p1]; rfl) (p3 36 (by decide)) (by rw [q1]; rfl) (q3 13 (by decide))
  · exact relL_c h5 (by rw [p1]; rfl) (p3 22 (by decide)) (by rw [q1]; rfl) (q3 14 (by decide)) (q3 15 (by decide)) (q3 16 (by decide)) (q3 17 (by decide)) (q3 18 (by decide))
  · refine ⟨fun k hk => ?_, ?_, Or.inr ⟨by rw [q1]; rfl, n, Nat.le_refl n, by rw [p1]; exact h1.2.1, by rw [q1]; exact h1.2.2.1, fun t ht => ?_, fun k hk => ?_, ?_⟩⟩
    · rw [z10, q3 30 (by decide)]; exact d1 k hk
    · rw [q3 30 (by decide), q3 29 (by decide)]; exact d2
    · obtain ⟨r1, r2, r3⟩ := p4 t ht
      obtain ⟨s1, s2, s3⟩ := q4 t ht
      obtain ⟨w1, w2, w3⟩ := h2.1 t ht
      obtain ⟨v1, v2⟩ := h1.2.2.2.1 t 2 ht (by decide)
      rw [r1, r2, r3, s1, s2, s3]
      have k1 : vp_nar .boolean (τ.2.1 29 t) = τ.2.1 29 t := nar01 w3
      refine ⟨v1, v2, w1, ?_, ?_⟩
      · show vp_nar .boolean (σ.2.1 4 t) = vp_nar .boolean (τ.2.1 29 t)
        rw [w2]
      · show vp_nar .boolean (τ.2.1 29 t) = 0 ∨ vp_nar .boolean (τ.2.1 29 t) = 1
        rw [k1]; exact w3
    · rw [p3 11 (by decide), q5 k (by omega)]
      show va_cpy (σ.2.1 10) (σ.2.1 11) 0 0 4 k = τ.2.1 30 k
      unfold va_cpy
      rw [if_pos (by omega), ← d1 k hk, Nat.zero_add, Nat.sub_zero]
    · rw [q5 4 (by decide)]
      show τ.2.1 30 4 = _
      rw [d2]
      congr 1
      exact cnt_congr (fun u hu => by
        rw [(q4 u hu).2.2]
        show τ.2.1 29 u = vp_nar .boolean (τ.2.1 29 u)
        rw [nar01 (h2.1 u hu).2.2])
  · exact relS_c h7 (by rw [p1]; rfl) (by rw [p1]; rfl) (p3 33 (by decide)) (p3 34 (by decide)) (by rw [q1]; rfl) (by rw [q1]; rfl) (q3 35 (by decide)) (q3 36 (by decide))
  · exact relSh_c h8 (by rw [eqSh, p1]; exact ⟨rfl, rfl, rfl, rfl, rfl, rfl, rfl, rfl, rfl, rfl, rfl, rfl, rfl, rfl, rfl, rfl, rfl, rfl⟩) p2 (q3 37 (by decide)) (q3 38 (by decide)) (by rw [q2]; rfl)
def bkP (σ0 : St) (kn t : Nat) (σ : St) : Prop := σ.1 = σ0.1 ∧ σ.2.2 = σ0.2.2 ∧ (∀ b, (b < 2 ∨ 4 < b) → σ.2.1 b = σ0.2.1 b) ∧
  (∀ u, u < t → u < kn → σ.2.1 2 (8 * u + 2) = σ0.2.1 12 u) ∧ (∀ i, (∀ u, u < t → u < kn → i ≠ 8 * u + 2) → σ.2.1 2 i = σ0.2.1 2 i) ∧
  (∀ u, u < t → σ.2.1 3 u = if u < kn then σ0.2.1 13 u else 0) ∧ (∀ u, u < t → σ.2.1 4 u = if u < kn then σ0.2.1 14 u else 0) ∧ ∀ u, t ≤ u → σ.2.1 3 u = σ0.2.1 3 u ∧ σ.2.1 4 u = σ0.2.1 4 u
theorem slot_C2 {n : Nat} (hn : n ≤ 10) {σ : St} (h : σ.1 103 = nI n) {t : Nat} (ht : t < n) : f_Basket_slot σ (nI t) (2 : Int32) = some (nI (8 * t + 2)) := by
  unfold f_Basket_slot f_Basket_isThing
  have hd : (0 : Int32) ≤ nI t ∧ nI t ≤ nI n - 1 := (isT (by omega) _).mpr ⟨t, ht, rfl⟩
  simp only [within_eq, bind_s, h, show (decide ((0 : Int32) ≤ 2 ∧ (2 : Int32) ≤ 7)) = true by decide, decide_eq_true hd, b2_t, i10, if_false]
  show (bif zb 1 then some (1 : Int32) else none).bind (fun r12_3 => if r12_3 = 0 then some (-1) else some (nI t * nI 8 + nI 2)) = _
  rw [pk_mul, nI_add, Nat.mul_comm]
  rfl
theorem back_C {n kn : Nat} (hn : n ≤ 10) (hkn : kn ≤ n) {σ0 : St} (h0 : σ0.1 103 = nI n) (hk : σ0.1 906 = nI kn) (hz : ∀ t, t < kn → σ0.2.1 14 t = 0 ∨ σ0.2.1 14 t = 1) : ∀ (k t : Nat) (σ : St), t + k = n → bkP σ0 kn t σ → ∀ fuel, k < fuel → ∃ σe, f_Deeds_layBack_16 fuel σ (nI t) = some σe ∧ bkP σ0 kn n σe := by
  intro k
  induction k with
  | zero =>
    intro t σ ht hp fuel hf
    obtain rfl : t = n := by omega
    obtain ⟨f, rfl⟩ : ∃ f, fuel = f + 1 := ⟨fuel - 1, by omega⟩
    unfold f_Deeds_layBack_16
    rw [hp.1, h0, if_pos (nI_le (Nat.le_refl t) (by omega))]
    exact ⟨σ, rfl, hp⟩
  | succ k ih =>
    intro t σ ht hp fuel hf
    obtain ⟨f, rfl⟩ : ∃ f, fuel = f + 1 := ⟨fuel - 1, by omega⟩
    obtain ⟨p1, p2, p3, p4, p5, p6, p7, p8⟩ := hp
    have it10 : inb (nI t) 10 = true := inb_nI (by omega) (by decide)
    have ct : (nI t).toNatClampNeg = t := nIt (by omega)
    unfold f_Deeds_layBack_16
    rw [p1, h0, hk, if_neg (nI_ge (by omega) (by omega))]
    by_cases hkt : kn ≤ t
    · rw [if_pos (nI_le hkt (by omega))]
      unfold f_Deeds_layBack_40
      rw [if_pos rfl]
      unfold f_Deeds_layBack_63
      rw [it10, if_pos rfl]
      unfold f_Deeds_layBack_89 f_Deeds_layBack_90
      rw [it10, if_pos rfl]
      simp only [cond_true, ct, nI_1, nar0]
      refine ih (t + 1) _ (by omega) ?_ f (by omega)
      refine ⟨p1, p2, fun b hb => ?_, fun u hu1 hu2 => p4 u (by omega) hu2, fun i hi => p5 i (fun u hu1 hu2 => hi u (by omega) hu2), fun u hu => ?_, fun u hu => ?_, fun u hu => ?_⟩
      · rw [upA_2, if_neg (by omega), upA_2, if_neg (by omega)]; exact p3 b hb
      · show upd (σ.2.1 3) t 0 u = _
        unfold upd
        by_cases e : u = t
        · rw [if_pos e, if_neg (by omega)]
        · rw [if_neg e]; exact p6 u (by omega)
      · show upd (σ.2.1 4) t 0 u = _
        unfold upd
        by_cases e : u = t
        · rw [if_pos e, if_neg (by omega)]
        · rw [if_neg e]; exact p7 u (by omega)
      · show upd (σ.2.1 3) t 0 u = _ ∧ upd (σ.2.1 4) t 0 u = _
        unfold upd
        rw [if_neg (by omega), if_neg (by omega)]
        exact p8 u (by omega)
    · rw [if_neg (nI_ge (by omega) (by omega))]
      unfold f_Deeds_layBack_40
      rw [if_neg i10, it10, ct]
      have z14 : σ.2.1 14 = σ0.2.1 14 := p3 14 (by decide)
      have z13 : σ.2.1 13 = σ0.2.1 13 := p3 13 (by decide)
      have z12 : σ.2.1 12 = σ0.2.1 12 := p3 12 (by decide)
      have key : f_Deeds_layBack_63 (f_Deeds_layBack_16 f) σ (nI t) 1 (σ.2.1 13 t) (nI t) = f_Deeds_layBack_16 f (upA (upA (upA σ 3 t (σ0.2.1 13 t)) 4 t (σ0.2.1 14 t)) 2 (8 * t + 2) (σ0.2.1 12 t)) (nI (t + 1)) := by
        unfold f_Deeds_layBack_63
        rw [it10, if_neg i10, ct, z14, z13]
        unfold f_Deeds_layBack_89
        have q : ∀ v, v = σ0.2.1 14 t → f_Deeds_layBack_90 (f_Deeds_layBack_16 f) (upA σ 3 t (σ0.2.1 13 t)) (nI t) 1 v (nI t) = f_Deeds_layBack_16 f (upA (upA (upA σ 3 t (σ0.2.1 13 t)) 4 t (σ0.2.1 14 t)) 2 (8 * t + 2) (σ0.2.1 12 t)) (nI (t + 1)) := by
          rintro v rfl
          unfold f_Deeds_layBack_90
          rw [it10, if_neg i10, ct, nar01 (hz t (by omega)), slot_C2 hn (by show σ.1 103 = _; rw [p1, h0]) (by omega)]
          simp only [cond_true, bind_s, write_C _ (show 8 * t + 2 < 84 by omega), nI_1]
          have : (upA σ 3 t (σ0.2.1 13 t)).2.1 12 = σ0.2.1 12 := z12
          rw [this]
        rcases hz t (by omega) with h | h
        · simp only [cond_true, h, if_true]
          rw [h] at q
          exact q 0 rfl
        · simp only [cond_true, h, i10, if_false]
          rw [h] at q
          exact q 1 rfl
      simp only [cond_true, key]
      refine ih (t + 1) _ (by omega) ?_ f (by omega)
      refine ⟨p1, p2, fun b hb => ?_, fun u hu1 hu2 => ?_, fun i hi => ?_, fun u hu => ?_, fun u hu => ?_, fun u hu => ?_⟩
      · rw [upA_2, if_neg (by omega), upA_2, if_neg (by omega), upA_2, if_neg (by omega)]; exact p3 b hb
      · show upd (σ.2.1 2) (8 * t + 2) _ (8 * u + 2) = _
        unfold upd
        by_cases e : u = t
        · rw [if_pos (by omega), e]
        · rw [if_neg (by omega)]; exact p4 u (by omega) hu2
      · show upd (σ.2.1 2) (8 * t + 2) _ i = _
        unfold upd
        rw [if_neg (hi t (by omega) (by omega))]
        exact p5 i (fun u hu1 hu2 => hi u (by omega) hu2)
      · show upd (σ.2.1 3) t _ u = _
        unfold upd
        by_cases e : u = t
        · rw [if_pos e, if_pos (by omega), e]
        · rw [if_neg e]; exact p6 u (by omega)
      · show upd (σ.2.1 4) t _ u = _
        unfold upd
        by_cases e : u = t
        · rw [if_pos e, if_pos (by omega), e]
        · rw [if_neg e]; exact p7 u (by omega)
      · show upd (σ.2.1 3) t _ u = _ ∧ upd (σ.2.1 4) t _ u = _
        unfold upd
        rw [if_neg (by omega), if_neg (by omega)]
        exact p8 u (by omega)
def bkQ (τ0 : St) (kn t m : Nat) (τ : St) : Prop := τ.1 = τ0.1 ∧ τ.2.2 = τ0.2.2 ∧ (∀ b, b ≠ 3 → b ≠ 28 → b ≠ 29 → b ≠ 30 → τ.2.1 b = τ0.2.1 b) ∧
  (∀ u, τ.2.1 3 u = if u < t ∧ u < kn then τ0.2.1 31 u else τ0.2.1 3 u) ∧
  (∀ u, u < t → τ.2.1 28 u = if u < kn then τ0.2.1 32 u else 0) ∧ (∀ u, u < t → τ.2.1 29 u = if u < kn then τ0.2.1 33 u else 0) ∧ ∀ u, τ.2.1 30 u = if u < m then τ0.2.1 34 u else τ0.2.1 30 u
theorem back_M2 {n kn : Nat} {τ0 : St} : ∀ (k m : Nat) (τ : St), m + k = 5 → bkQ τ0 kn n m τ → ∀ fuel, k < fuel → ∃ τe, f_M_back_100 fuel τ (nI m) = some (τ0.2.1 34 0, τe) ∧ bkQ τ0 kn n 5 τe := by
  intro k
  induction k with
  | zero =>
    intro m τ hm hp fuel hf
    obtain rfl : m = 5 := by omega
    obtain ⟨f, rfl⟩ : ∃ f, fuel = f + 1 := ⟨fuel - 1, by omega⟩
    unfold f_M_back_100
    rw [if_pos (show (5 : Int32) ≤ nI 5 by decide)]
    refine ⟨τ, ?_, hp⟩
    have := hp.2.2.2.2.2.2 0
    rw [if_pos (by decide)] at this
    rw [← this]; rfl
  | succ k ih =>
    intro m τ hm hp fuel hf
    obtain ⟨f, rfl⟩ : ∃ f, fuel = f + 1 := ⟨fuel - 1, by omega⟩
    obtain ⟨p1, p2, p3, p4, p5, p6, p7⟩ := hp
    unfold f_M_back_100
    rw [if_neg (show ¬ (5 : Int32) ≤ nI m from nI_ge (b := 5) (by omega) (by decide)), inb_nI (show m < 5 by omega) (by decide), nIt (by omega)]
    simp only [cond_true, nI_1]
    refine ih (m + 1) _ (by omega) ?_ f (by omega)
    refine ⟨p1, p2, fun b b1 b2 b3 b4 => ?_, p4, p5, p6, fun u => ?_⟩
    · rw [upA_2, if_neg b4]; exact p3 b b1 b2 b3 b4
    · show upd (τ.2.1 30) m _ u = _
      unfold upd
      by_cases e : u = m
      · subst e
        rw [if_pos rfl, if_pos (by omega), p3 34 (by decide) (by decide) (by decide) (by decide)]
      · rw [if_neg e, p7 u]
        by_cases e2 : u < m
        · rw [if_pos e2, if_pos (by omega)]
        · rw [if_neg e2, if_neg (by omega)]
theorem back_M {n kn : Nat} (hn : n ≤ 10) (hkn : kn ≤ n) {τ0 : St} (h0 : τ0.1 1 = nI n) (hk : τ0.1 49 = nI kn) (hz : ∀ t, t < kn → τ0.2.1 33 t = 0 ∨ τ0.2.1 33 t = 1) : ∀ (k t : Nat) (τ : St), t + k = n → bkQ τ0 kn t 0 τ → ∀ fuel, k < fuel → ∃ τe, f_M_back_12 fuel τ (nI t) = some (τ0.2.1 34 0, τe) ∧ bkQ τ0 kn n 5 τe := by
  intro k
  induction k with
  | zero =>
    intro t τ ht hp fuel hf
    obtain rfl : t = n := by omega
    obtain ⟨f, rfl⟩ : ∃ f, fuel = f + 1 := ⟨fuel - 1, by omega⟩
    unfold f_M_back_12
    rw [hp.1, h0, if_pos (nI_le (Nat.le_refl t) (by omega))]
    exact back_M2 5 0 τ rfl hp FU (by decide)
  | succ k ih =>
    intro t τ ht hp fuel hf
    obtain ⟨f, rfl⟩ : ∃ f, fuel = f + 1 := ⟨fuel - 1, by omega⟩
    obtain ⟨p1, p2, p3, p4, p5, p6, p7⟩ := hp
    have it10 : inb (nI t) 10 = true := inb_nI (by omega) (by decide)
    have ct : (nI t).toNatClampNeg = t := nIt (by omega)
    have z33 : τ.2.1 33 = τ0.2.1 33 := p3 33 (by decide) (by decide) (by decide) (by decide)
    have z32 : τ.2.1 32 = τ0.2.1 32 := p3 32 (by decide) (by decide) (by decide) (by decide)
    have z31 : τ.2.1 31 = τ0.2.1 31 := p3 31 (by decide) (by decide) (by decide) (by decide)
    unfold f_M_back_12
    rw [p1, h0, hk, if_neg (nI_ge (by omega) (by omega))]
    have k49 : τ.1 49 = nI kn := by rw [p1, hk]
    by_cases hkt : kn ≤ t
    · have c : nI kn ≤ nI t := nI_le hkt (by omega)
      rw [if_pos c]
      unfold f_M_back_40
      rw [k49, if_pos c]
      unfold f_M_back_63
      rw [k49, if_pos c, it10]
      simp only [cond_true, ct, nI_1, nar0]
      refine ih (t + 1) _ (by omega) ?_ f (by omega)
      refine ⟨p1, p2, fun b b1 b2 b3 b4 => ?_, fun u => ?_, fun u hu => ?_, fun u hu => ?_, p7⟩
      · rw [upA_2, if_neg b3, upA_2, if_neg b2]; exact p3 b b1 b2 b3 b4
      · show τ.2.1 3 u = _
        rw [p4 u]
        by_cases e : u < t ∧ u < kn
        · rw [if_pos e, if_pos (by omega)]
        · rw [if_neg e, if_neg (by omega)]
      · show upd (τ.2.1 28) t 0 u = _
        unfold upd
        by_cases e : u = t
        · rw [if_pos e, if_neg (by omega)]
        · rw [if_neg e]; exact p5 u (by omega)
      · show upd (τ.2.1 29) t 0 u = _
        unfold upd
        by_cases e : u = t
        · rw [if_pos e, if_neg (by omega)]
        · rw [if_neg e]; exact p6 u (by omega)
    · have c : ¬ nI kn ≤ nI t := nI_ge (by omega) (by omega)
      rw [if_neg c, it10, ct]
      have key : f_M_back_40 (f_M_back_12 f) (upA τ 3 t (τ.2.1 31 t)) (nI t) = f_M_back_12 f (upA (upA (upA τ 3 t (τ0.2.1 31 t)) 28 t (τ0.2.1 32 t)) 29 t (τ0.2.1 33 t)) (nI (t + 1)) := by
        unfold f_M_back_40
        have e49 : (upA τ 3 t (τ.2.1 31 t)).1 49 = nI kn := k49
        have e32 : (upA τ 3 t (τ.2.1 31 t)).2.1 32 = τ0.2.1 32 := z32
        rw [e49, if_neg c, it10, ct, e32]
        unfold f_M_back_63
        have e33 : (upA τ 3 t (τ.2.1 31 t)).2.1 33 = τ0.2.1 33 := z33
        rw [it10, e49, if_neg c, ct, e33, z31]
        rcases hz t (by omega) with h | h
        · simp only [cond_true, h, if_true, nar0, nI_1]
        · simp only [cond_true, h, i10, if_false, nar1, nI_1]
      simp only [cond_true, key]
      refine ih (t + 1) _ (by omega) ?_ f (by omega)
      refine ⟨p1, p2, fun b b1 b2 b3 b4 => ?_, fun u => ?_, fun u hu => ?_, fun u hu => ?_, p7⟩
      · rw [upA_2, if_neg b3, upA_2, if_neg b2, upA_2, if_neg b1]; exact p3 b b1 b2 b3 b4
      · show upd (τ.2.1 3) t _ u = _
        unfold upd
        by_cases e : u = t
        · rw [if_pos e, if_pos (by omega), e]
        · rw [if_neg e, p4 u]
          by_cases e2 : u < t ∧ u < kn
          · rw [if_pos e2, if_pos (by omega)]
          · rw [if_neg e2, if_neg (by omega)]
      · show upd (τ.2.1 28) t _ u = _
        unfold upd
        by_cases e : u = t
        · rw [if_pos e, if_pos (by omega), e]
        · rw [if_neg e]; exact p5 u (by omega)
      · show upd (τ.2.1 29) t _ u = _
        unfold upd
        by_cases e : u = t
        · rw [if_pos e, if_pos (by omega), e]
        · rw [if_neg e]; exact p6 u (by omega)
theorem cnt_ext {f g : Nat → Int32} {k : Nat} (h1 : ∀ u, u < k → f u = g u) : ∀ {n : Nat}, k ≤ n → (∀ u, k ≤ u → u < n → f u = 0) → cnt f n = cnt g k := by
  intro n
  induction n with
  | zero => intro hk _; obtain rfl : k = 0 := by omega
            rfl
  | succ n ih =>
    intro hk h2
    by_cases e : k = n + 1
    · subst e; exact cnt_congr h1
    · have e1 : cnt f (n + 1) = cnt f n + (if f n = 1 then 1 else 0) := rfl
      rw [e1, ih (by omega) (fun u a b => h2 u a (by omega)), h2 n (by omega) (by omega), if_neg (by decide)]; rfl
theorem e_back {σ τ : St} (h : Rel σ τ) : ∃ r σ' τ', f_Top_back σ = some (r, σ') ∧ f_M_back τ = some (r, τ') ∧ Rel σ' τ' := by
  obtain ⟨n, bn, h1, h2, h3, h4, h5, ⟨d1, d2, d3⟩, h7, h8⟩ := id h
  have hn := h1.1
  unfold f_Top_back f_Deeds_hasImage f_M_back
  rcases d3 with ⟨e1, e2⟩ | ⟨e2, kn, hkn, e1, e3, f1, f2, f3⟩
  · rw [e1, e2, if_pos rfl, if_pos rfl]
    exact ⟨_, _, _, rfl, rfl, h⟩
  · have c1 : ¬ nI kn = (-1 : Int32) := fun q => by
      have := (ie _ _).mp q
      rw [nI_toInt (by omega)] at this
      have e : (-1 : Int32).toInt = -1 := rfl
      omega
    rw [e1, e2, if_neg c1, if_neg i10]
    unfold f_Deeds_layBack
    have hc : cpok 0 0 4 4 4 = true := by decide
    rw [hc]
    obtain ⟨σe, g1, p1, p2, p3, p4, p5, p6, p7, p8⟩ := back_C hn hkn (σ0 := stA σ 10 (va_cpy (σ.2.1 11) (σ.2.1 10) 0 0 4)) h1.2.1 e1 (fun t ht => by
      show σ.2.1 14 t = 0 ∨ σ.2.1 14 t = 1
      rw [(f1 t ht).2.2.2.1]; exact (f1 t ht).2.2.2.2) n 0 _ (by omega) ⟨rfl, rfl, fun _ _ => rfl, fun u hu => by omega, fun i hi => rfl, fun u hu => by omega, fun u hu => by omega, fun u hu => ⟨rfl, rfl⟩⟩ FU (by show n < 1000; omega)
    obtain ⟨τe, g2, q1, q2, q3, q4, q5, q6, q7⟩ := back_M hn hkn (τ0 := τ) h1.2.2.1 e3 (fun t ht => (f1 t ht).2.2.2.2) n 0 τ (by omega) ⟨rfl, rfl, fun _ _ _ _ _ => rfl, fun u => by rw [if_neg (by omega)], fun u hu => by omega, fun u hu => by omega, fun u => by rw [if_neg (by omega)]⟩ FU (by show n < 1000; omega)
    have e4 : f_Deeds_layBack_16 FU (stA σ 10 (va_cpy (σ.2.1 11) (σ.2.1 10) (0 : Int32).toNatClampNeg (0 : Int32).toNatClampNeg (4 : Int32).toNatClampNeg)) (0 : Int32) = some σe := g1
    have e5 : f_M_back_12 FU τ (0 : Int32) = some (τ.2.1 34 0, τe) := g2
    rw [e5]
    simp only [bind_s, i10, if_false, cond_true, e4]
    have z10 : σe.2.1 10 = va_cpy (σ.2.1 11) (σ.2.1 10) 0 0 4 := p3 10 (by decide)
    have z10k : ∀ k, k < 4 → σe.2.1 10 k = τ.2.1 34 k := fun k hk => by
      rw [z10, ← f2 k hk]
      unfold va_cpy
      rw [if_pos (by omega), Nat.zero_add, Nat.sub_zero]
    have zt : ∀ b, b ≠ 3 → b ≠ 28 → b ≠ 29 → b ≠ 30 → τe.2.1 b = τ.2.1 b := q3
    have zs : ∀ b, 4 < b → b ≠ 10 → σe.2.1 b = σ.2.1 b := fun b hb hb2 => by rw [p3 b (by omega)]; show va_up σ.2.1 10 _ b = _; rw [va_up_ne _ _ hb2]
    refine ⟨_, σe, τe, rfl, ?_, n, bn, ?_, ?_, ?_, ?_, ?_, ?_, ?_, ?_⟩
    · show some (τ.2.1 34 0, τe) = some (σe.2.1 10 0, τe)
      rw [z10k 0 (by decide)]
    · obtain ⟨-, t2, t3, t4, t5⟩ := h1
      refine ⟨hn, by rw [p1]; exact t2, by rw [q1]; exact t3, fun t k ht hk => ?_, fun k hk => ?_⟩
      · by_cases e : k = 2
        · subst e
          have := q4 t
          show σe.2.1 2 (8 * t + 2) = τe.2.1 3 t ∧ okV 2 (τe.2.1 3 t)
          rw [this]
          by_cases e2 : t < kn
          · rw [if_pos ⟨ht, e2⟩, p4 t ht e2]
            obtain ⟨r1, r2, -⟩ := f1 t e2
            exact ⟨r1, r2⟩
          · rw [if_neg (by omega), p5 _ (fun u hu1 hu2 => by omega)]
            exact t4 t 2 ht (by decide)
        · rw [p5 _ (fun u hu1 hu2 => by omega), zt (k + 1) (by omega) (by omega) (by omega) (by omega)]
          exact t4 t k ht hk
      · rw [p5 _ (fun u hu1 hu2 => by omega), q1]
        exact t5 k hk
    · refine ⟨fun t ht => ?_, fun t ht ht2 => ?_⟩
      · rw [p6 t ht, p7 t ht, q5 t ht, q6 t ht]
        by_cases e2 : t < kn
        · simp only [e2, if_true]
          obtain ⟨-, -, r3, r4, r5⟩ := f1 t e2
          exact ⟨r3, r4, r5⟩
        · simp only [e2, if_false]
          exact ⟨trivial, trivial, Or.inl trivial⟩
      · rw [(p8 t ht).1, (p8 t ht).2]
        exact h2.2 t ht ht2
    · exact relCh_c h3 (by rw [p1]; rfl) (by rw [p1]; rfl) (zs 6 (by decide) (by decide)) (zs 7 (by decide) (by decide)) (zs 8 (by decide) (by decide)) (by rw [q1]) (by rw [q1]) (zt 9 (by decide) (by decide) (by decide) (by decide)) (zt 10 (by decide) (by decide) (by decide) (by decide)) (zt 11 (by decide) (by decide) (by decide) (by decide)) (zt 12 (by decide) (by decide) (by decide) (by decide))
    · exact relTp_c h4 (by rw [p1]; rfl) (zs 36 (by decide) (by decide)) (by rw [q1]) (zt 13 (by decide) (by decide) (by decide) (by decide))
    · exact relL_c h5 (by rw [p1]; rfl) (zs 22 (by decide) (by decide)) (by rw [q1]) (zt 14 (by decide) (by decide) (by decide) (by decide)) (zt 15 (by decide) (by decide) (by decide) (by decide)) (zt 16 (by decide) (by decide) (by decide) (by decide)) (zt 17 (by decide) (by decide) (by decide) (by decide)) (zt 18 (by decide) (by decide) (by decide) (by decide))
    · refine ⟨fun k hk => ?_, ?_, Or.inr ⟨by rw [q1]; exact e2, kn, hkn, by rw [p1]; exact e1, by rw [q1]; exact e3, fun t ht => ?_, fun k hk => ?_, ?_⟩⟩
      · rw [z10k k hk, q7 k, if_pos (by omega)]
      · rw [q7 4, if_pos (by decide), f3]
        congr 1
        exact (cnt_ext (fun u hu => by rw [q6 u (by omega), if_pos hu]) hkn (fun u a b => by rw [q6 u b, if_neg (by omega)])).symm
      · rw [zs 12 (by decide) (by decide), zs 13 (by decide) (by decide), zs 14 (by decide) (by decide), zt 31 (by decide) (by decide) (by decide) (by decide), zt 32 (by decide) (by decide) (by decide) (by decide), zt 33 (by decide) (by decide) (by decide) (by decide)]
        exact f1 t ht
      · rw [zs 11 (by decide) (by decide), zt 34 (by decide) (by decide) (by decide) (by decide)]
        exact f2 k hk
      · rw [zt 34 (by decide) (by decide) (by decide) (by decide), zt 33 (by decide) (by decide) (by decide) (by decide)]
        exact f3
    · exact relS_c h7 (by rw [p1]; rfl) (by rw [p1]; rfl) (zs 33 (by decide) (by decide)) (zs 34 (by decide) (by decide)) (by rw [q1]) (by rw [q1]) (zt 35 (by decide) (by decide) (by decide) (by decide)) (zt 36 (by decide) (by decide) (by decide) (by decide))
    · exact relSh_c h8 (by rw [eqSh, p1]; exact ⟨rfl, rfl, rfl, rfl, rfl, rfl, rfl, rfl, rfl, rfl, rfl, rfl, rfl, rfl, rfl, rfl, rfl, rfl⟩) p2 (zt 37 (by decide) (by decide) (by decide) (by decide)) (zt 38 (by decide) (by decide) (by decide) (by decide)) (by rw [q2])
