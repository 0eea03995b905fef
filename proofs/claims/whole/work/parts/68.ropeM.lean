/-! the line, by the reference; line, rain -/
def samO (τ τ' : St) : Prop := τ'.1 = τ.1 ∧ (∀ a, a ≠ 24 → a ≠ 25 → τ'.2.1 a = τ.2.1 a) ∧ τ'.2.2 = τ.2.2
theorem samO_rf (τ : St) : samO τ τ := ⟨rfl, fun _ _ _ => rfl, rfl⟩
theorem samO_tr {a b c : St} (h1 : samO a b) (h2 : samO b c) : samO a c := ⟨h2.1.trans h1.1, fun k k1 k2 => (h2.2.1 k k1 k2).trans (h1.2.1 k k1 k2), h2.2.2.trans h1.2.2⟩
theorem samO_up (τ : St) (t : Nat) (v w : Int32) : samO τ (upA (upA τ 24 t v) 25 t w) := ⟨rfl, fun a h1 h2 => by rw [upA_2, if_neg h2, upA_2, if_neg h1], rfl⟩
theorem samO_kM {τ τ' : St} (h : samO τ τ') : kM τ' = kM τ := by
  refine kM_of (fun k _ => by rw [h.1]) (fun a ha => h.2.1 a ?_ ?_) (fun a _ => by rw [h.2.2])
  · rintro rfl; exact absurd ha (by decide)
  · rintro rfl; exact absurd ha (by decide)
def chM (c : Nat → Nat) (K : Nat) (τ : St) : Prop := τ.1 42 = nI K ∧ ∀ i, i < K → τ.2.1 26 i = nI (c i)
theorem chM_s {c : Nat → Nat} {K : Nat} {τ τ' : St} (h : samO τ τ') (hc : chM c K τ) : chM c K τ' := by
  unfold chM at *
  rw [h.1, h.2.1 26 (by decide) (by decide)]; exact hc
def injN (c : Nat → Nat) (K : Nat) : Prop := ∀ i j, i < K → j < K → c i = c j → i = j
def encM (e : Ew) (c : Nat → Nat) (k : Nat) (τ : St) : Prop := ∀ i, i < k → τ.2.1 24 (c i) = nI ((HD e c k).1 i) ∧ τ.2.1 25 (c i) = nI ((HD e c k).2 i)
def rdM (n : Nat) (c D : Nat → Nat) (k B : Nat) (τ : St) : Prop := ∀ i, i < k → c i < n ∧ τ.2.1 26 i = nI (c i) ∧ τ.2.1 25 (c i) = nI (D i) ∧ D i ≤ B
theorem load_M {e : Ew} {τ : St} {c D : Nat → Nat} {k m B : Nat} (hB : ewB e) (hM : ewM e τ) (hk : k ≤ 10) (h1 : rdM e.1 c D k B τ) (hBB : B < 100000) (hm : m ≤ B) : f_M_hangingAt τ (nI k) (nI m) = some (nI (ldN e c D m k)) := by
  have hn := hB.1
  unfold f_M_hangingAt
  refine loopF (n := k) (P := fun t fuel => f_M_hangingAt_5 fuel τ (nI k) (nI m) (nI (ldN e c D m t)) (nI t) = some (nI (ldN e c D m k))) (fun f => ?_) (fun t f ht ih => ?_) 0 (Nat.zero_le _) FU (by show _ < 1000; omega)
  · unfold f_M_hangingAt_5
    rw [if_pos (nI_le (Nat.le_refl _) (by omega))]
  · obtain ⟨a1, a2, a3, a4⟩ := h1 t ht
    have q4 : τ.2.1 5 (c t) = nI (e.2.1 (c t) 4) := hM.2.1 (c t) 4 a1 (by decide)
    unfold f_M_hangingAt_5
    rw [if_neg (nI_ge ht (by omega)), in_t (t := t) (by omega), ct_t (t := t) (by omega), a2, in_t (t := c t) (by omega), ct_t (t := c t) (by omega), a3, q4, nI_1, nI_add]
    simp only [cond_true]
    rw [ldN_s] at ih
    by_cases q : D t ≤ m
    · rw [if_pos (nI_le q (by omega))]
      rw [if_pos q] at ih
      exact ih
    · rw [if_neg (nI_ge (by omega) (by omega))]
      rw [if_neg q] at ih
      exact ih
theorem next_M {e : Ew} {τ : St} {c D : Nat → Nat} {k m B : Nat} (hB : ewB e) (hk : k ≤ 10) (h1 : rdM e.1 c D k B τ) (hBB : B < 100000) (hm : m ≤ B) (hp : 0 < ctN D m k) : f_M_nextDry τ (nI k) (nI m) = some (nI (nxN D m k)) := by
  have hn := hB.1
  unfold f_M_nextDry
  refine loopF (n := k) (P := fun t fuel => f_M_nextDry_5 fuel τ (nI k) (nI m) (if ctN D m t = 0 then -1 else nI (nxN D m t)) (nI t) = some (nI (nxN D m k))) (fun f => ?_) (fun t f ht ih => ?_) 0 (Nat.zero_le _) FU (by show _ < 1000; omega)
  · unfold f_M_nextDry_5
    rw [if_pos (nI_le (Nat.le_refl _) (by omega)), if_neg (by omega)]
  · obtain ⟨a1, a2, a3, a4⟩ := h1 t ht
    unfold f_M_nextDry_5
    rw [if_neg (nI_ge ht (by omega)), in_t (t := t) (by omega), ct_t (t := t) (by omega), a2, in_t (t := c t) (by omega), ct_t (t := c t) (by omega), a3, nI_1]
    simp only [cond_true]
    rw [nxN_s, ctN_s] at ih
    by_cases q : D t ≤ m
    · rw [if_pos (nI_le q (by omega))]
      rw [if_pos q, if_pos q, Nat.add_zero] at ih
      exact ih
    · rw [if_neg (nI_ge (by omega) (by omega))]
      rw [if_neg q, if_neg q, if_neg (by omega)] at ih
      by_cases z : ctN D m t = 0
      · rw [if_pos z, if_pos (by decide)]
        have big : ∀ k', k' ≤ t → ctN D m k' = 0 → nxN D m k' = 2147483647 := by
          intro k'
          induction k' with
          | zero => intro _ _; rfl
          | succ k' ih =>
            intro hk hz
            rw [ctN_s] at hz
            rw [nxN_s]
            by_cases q2 : D k' ≤ m
            · rw [if_pos q2]; exact ih (by omega) (by omega)
            · rw [if_neg q2] at hz; omega
        rw [big t (Nat.le_refl _) z, Nat.min_eq_right (by omega)] at ih
        exact ih
      · obtain ⟨j, j1, j2, j3⟩ := nx_mem (Nat.pos_of_ne_zero z) (fun j hj => by have := (h1 j (by omega)).2.2.2; omega)
        have j4 := (h1 j (by omega)).2.2.2
        rw [if_neg z, if_neg (nI_pos (by omega))]
        by_cases y : nxN D m t ≤ D t
        · rw [if_pos (nI_le y (by omega))]
          rw [Nat.min_eq_left y] at ih
          exact ih
        · rw [if_neg (nI_ge (by omega) (by omega))]
          rw [Nat.min_eq_right (by omega)] at ih
          exact ih
theorem wait_M {e : Ew} {τ : St} {c D : Nat → Nat} {k t B : Nat} {y0 : Int32} (hB : ewB e) (hM : ewM e τ) (hk : k < 10) (h1 : rdM e.1 c D k B τ) (hBB : B < 100000) (ht : t < e.1) (hs : e.2.1 t 4 ≤ e.2.2.1 3) (k6 : St → Int32 → Int32 → Int32 → Option St) : ∀ f m, m ≤ B → ctN D m k ≤ f → ∀ fuel, f < fuel → f_M_goLine_69 k6 fuel τ (nI m) y0 (nI k) (nI t) = k6 (upA (upA τ 24 t (nI (mfN e c D k (e.2.1 t 4) f m))) 25 t (nI (mfN e c D k (e.2.1 t 4) f m + 10 * e.2.1 t 5))) (nI (mfN e c D k (e.2.1 t 4) f m)) y0 (nI (k + 1)) := by
  have hn := hB.1
  have h9 := (hB.2.1 t 4 ht (by decide)).2
  have e9 : hiN 4 = 9 := rfl
  have hl60 := (hB.2.2.1 3 (by decide)).2
  have e60 : hiN (8 + 3) = 60 := rfl
  have q4 : τ.2.1 5 t = nI (e.2.1 t 4) := hM.2.1 t 4 ht (by decide)
  have q5 : τ.2.1 6 t = nI (e.2.1 t 5) := hM.2.1 t 5 ht (by decide)
  have q13 : τ.1 13 = nI (e.2.2.1 3) := hM.2.2.1 3 (by decide)
  have hD : ∀ j, j < k → D j < 2147483647 := fun j hj => by have := (h1 j hj).2.2.2; omega
  intro f
  induction f with
  | zero =>
    intro m hm hct fuel hf
    obtain ⟨g, rfl⟩ : ∃ g, fuel = g + 1 := ⟨fuel - 1, by omega⟩
    have l0 := ld_ct (e := e) (c := c) (D := D) (m := m) (k := k) (by omega)
    unfold f_M_goLine_69
    rw [load_M hB hM (by omega) h1 hBB hm, bind_s, in_t (t := t) (by omega), ct_t (t := t) (by omega), q4, q5, q13, nI_add, l0, if_pos (nI_le (by omega) (by omega)), nI_1, show (10 : Int32) * nI (e.2.1 t 5) = nI (10 * e.2.1 t 5) from by show nI 10 * nI _ = _; rw [pk_mul], nI_add]
    rfl
  | succ f ih =>
    intro m hm hct fuel hf
    obtain ⟨g, rfl⟩ : ∃ g, fuel = g + 1 := ⟨fuel - 1, by omega⟩
    have lle := ld_le (e := e) (c := c) (D := D) (m := m) hB (k := k) (fun i hi => (h1 i hi).1)
    rw [mfN_s]
    unfold f_M_goLine_69
    rw [load_M hB hM (by omega) h1 hBB hm, bind_s, in_t (t := t) (by omega), ct_t (t := t) (by omega), q4, q5, q13, nI_add, nI_1, show (10 : Int32) * nI (e.2.1 t 5) = nI (10 * e.2.1 t 5) from by show nI 10 * nI _ = _; rw [pk_mul]]
    by_cases q : ldN e c D m k + e.2.1 t 4 ≤ e.2.2.1 3
    · rw [if_pos (nI_le q (by omega)), if_pos q, nI_add]
      rfl
    · rw [if_neg (nI_ge (by omega) (by omega)), if_neg q]
      have hp : 0 < ctN D m k := by
        rcases Nat.eq_zero_or_pos (ctN D m k) with z | z
        · have := ld_ct (e := e) (c := c) z; omega
        · exact z
      obtain ⟨j, j1, j2, j3⟩ := nx_mem hp hD
      have jb := (h1 j j1).2.2.2
      have hdec := ct_dec (D := D) (m := m) (m' := D j) (by omega) j1 j3 (Nat.le_refl _)
      rw [next_M hB (by omega) h1 hBB hm hp, bind_s, cond_true]
      exact ih _ (by rw [j2]; exact jb) (by rw [j2]; omega) g (by omega)
theorem never_M {e : Ew} {τ : St} {c : Nat → Nat} {K : Nat} (hB : ewB e) (hK : K ≤ 10) (hc : ∀ i, i < K → c i < e.1) (m : Int32) : ∀ k, k ≤ K → ∀ fuel, K - k < fuel → ∀ τ1, chM c K τ1 → ∃ τ', f_M_goLine_6 fuel τ1 m 1 (nI k) = some τ' ∧ samO τ1 τ' ∧ (∀ i, k ≤ i → i < K → τ'.2.1 24 (c i) = -1 ∧ τ'.2.1 25 (c i) = -1) ∧ ∀ u, (∀ i, k ≤ i → i < K → c i ≠ u) → τ'.2.1 24 u = τ1.2.1 24 u ∧ τ'.2.1 25 u = τ1.2.1 25 u := by
  have hn := hB.1
  refine loopF (n := K) (P := fun k fuel => ∀ τ1, chM c K τ1 → ∃ τ', f_M_goLine_6 fuel τ1 m 1 (nI k) = some τ' ∧ samO τ1 τ' ∧ (∀ i, k ≤ i → i < K → τ'.2.1 24 (c i) = -1 ∧ τ'.2.1 25 (c i) = -1) ∧ ∀ u, (∀ i, k ≤ i → i < K → c i ≠ u) → τ'.2.1 24 u = τ1.2.1 24 u ∧ τ'.2.1 25 u = τ1.2.1 25 u) (fun f τ1 h1 => ?_) (fun k f hk ih τ1 h1 => ?_)
  · unfold f_M_goLine_6
    rw [h1.1, if_pos (nI_le (Nat.le_refl _) (by omega))]
    exact ⟨τ1, rfl, samO_rf _, fun i h1 h2 => absurd h1 (by omega), fun u _ => ⟨rfl, rfl⟩⟩
  · have ck := hc k hk
    obtain ⟨τ', a1, a2, a3, a4⟩ := ih (upA (upA τ1 24 (c k) (-1)) 25 (c k) (-1)) (chM_s (samO_up τ1 (c k) (-1) (-1)) h1)
    unfold f_M_goLine_6 f_M_goLine_40 f_M_goLine_45
    rw [h1.1, if_neg (nI_ge hk (by omega)), in_t (t := k) (by omega), ct_t (t := k) (by omega), if_neg i10, h1.2 k hk, in_t (t := c k) (by omega), ct_t (t := c k) (by omega), if_neg i10, nI_1]
    refine ⟨τ', a1, samO_tr (samO_up τ1 (c k) (-1) (-1)) a2, fun i i1 i2 => ?_, fun u hu => ?_⟩
    · by_cases z : ∃ i', k + 1 ≤ i' ∧ i' < K ∧ c i' = c i
      · obtain ⟨i', z1, z2, z3⟩ := z
        have := a3 i' z1 z2
        rw [z3] at this
        exact this
      · have := a4 (c i) (fun i' z1 z2 z3 => z ⟨i', z1, z2, z3⟩)
        have ik : i = k := by
          rcases Nat.eq_or_lt_of_le i1 with y | y
          · exact y.symm
          · exact absurd ⟨i, y, i2, rfl⟩ z
        rw [this.1, this.2, ik, upA_2, if_neg (by decide), upA_2, if_pos rfl, upA_2, if_pos rfl]
        unfold upd
        rw [if_pos rfl, if_pos rfl]
        exact ⟨rfl, rfl⟩
    · have := a4 u (fun i z1 z2 => hu i (by omega) z2)
      have ne := hu k (Nat.le_refl _) hk
      rw [this.1, this.2, upA_2, if_neg (by decide), upA_2, if_pos rfl, upA_2, if_pos rfl, upA_2, if_neg (by decide)]
      unfold upd
      rw [if_neg (fun z => ne z.symm), if_neg (fun z => ne z.symm)]
      exact ⟨rfl, rfl⟩
theorem goLine_M {e : Ew} {τ : St} {c : Nat → Nat} {K q : Nat} (hB : ewB e) (hM : ewM e τ) (hK : K ≤ 10) (hq : q ≤ K) (hc : ∀ i, i < K → c i < e.1) (hi : injN c K) (hf : ∀ i, i < q → e.2.1 (c i) 4 ≤ e.2.2.1 3) (hbad : q < K → ¬ e.2.1 (c q) 4 ≤ e.2.2.1 3) (h1 : chM c K τ) : ∃ τ', f_M_goLine τ = some τ' ∧ samO τ τ' ∧ encM e c q τ' ∧ ∀ i, q ≤ i → i < K → τ'.2.1 24 (c i) = -1 ∧ τ'.2.1 25 (c i) = -1 := by
  have hn := hB.1
  have hl60 := (hB.2.2.1 3 (by decide)).2
  have e60 : hiN (8 + 3) = 60 := rfl
  have main := loopF (n := q) (P := fun k fuel => ∀ τ1, samO τ τ1 → encM e c k τ1 → ∃ τ', f_M_goLine_6 (fuel + 20) τ1 (nI (if k = 0 then 0 else (HD e c k).1 (k - 1))) 0 (nI k) = some τ' ∧ samO τ τ' ∧ encM e c q τ' ∧ ∀ i, q ≤ i → i < K → τ'.2.1 24 (c i) = -1 ∧ τ'.2.1 25 (c i) = -1) (fun f τ1 s1 e1 => by
      have h2 := chM_s s1 h1
      have hM1 := ewM_k (samO_kM s1) hM
      rw [show f + 1 + 20 = (f + 20) + 1 by omega]
      unfold f_M_goLine_6
      rw [h2.1]
      by_cases qK : q = K
      · rw [if_pos (nI_le (by omega) (by omega))]
        exact ⟨τ1, rfl, s1, e1, fun i i1 i2 => absurd i1 (by omega)⟩
      · have cq := hc q (by omega)
        have q4 : τ1.2.1 5 (c q) = nI (e.2.1 (c q) 4) := hM1.2.1 (c q) 4 cq (by decide)
        have q13 : τ1.1 13 = nI (e.2.2.1 3) := hM1.2.2.1 3 (by decide)
        have h9 := (hB.2.1 (c q) 4 cq (by decide)).2
        have e9 : hiN 4 = 9 := rfl
        obtain ⟨τ', a1, a2, a3, a4⟩ := never_M (τ := τ) hB hK hc (nI (if q = 0 then 0 else (HD e c q).1 (q - 1))) (q + 1) (by omega) (f + 20) (by omega) (upA (upA τ1 24 (c q) (-1)) 25 (c q) (-1)) (chM_s (samO_up τ1 (c q) (-1) (-1)) h2)
        rw [if_neg (nI_ge (by omega) (by omega)), in_t (t := q) (by omega), ct_t (t := q) (by omega), if_pos rfl, h2.2 q (by omega), in_t (t := c q) (by omega), ct_t (t := c q) (by omega), q4, q13, if_neg (nI_ge (by have := hbad (by omega); omega) (by omega))]
        unfold f_M_goLine_40 f_M_goLine_45
        rw [in_t (t := c q) (by omega), ct_t (t := c q) (by omega), if_neg i10, nI_1]
        have other : ∀ i, i < q → τ'.2.1 24 (c i) = τ1.2.1 24 (c i) ∧ τ'.2.1 25 (c i) = τ1.2.1 25 (c i) := fun i iq => by
          have := a4 (c i) (fun i' z1 z2 z3 => by have := hi i' i z2 (by omega) z3; omega)
          have ne : ¬ c i = c q := fun z => by have := hi i q (by omega) (by omega) z; omega
          rw [this.1, this.2, upA_2, if_neg (by decide), upA_2, if_pos rfl, upA_2, if_pos rfl, upA_2, if_neg (by decide)]
          unfold upd
          rw [if_neg ne, if_neg ne]
          exact ⟨rfl, rfl⟩
        refine ⟨τ', a1, samO_tr s1 (samO_tr (samO_up τ1 (c q) (-1) (-1)) a2), fun i iq => ?_, fun i i1 i2 => ?_⟩
        · rw [(other i iq).1, (other i iq).2]; exact e1 i iq
        · rcases Nat.eq_or_lt_of_le i1 with y | y
          · have := a4 (c i) (fun i' z1 z2 z3 => by have := hi i' i z2 (by omega) z3; omega)
            rw [this.1, this.2, y, upA_2, if_neg (by decide), upA_2, if_pos rfl, upA_2, if_pos rfl]
            unfold upd
            rw [if_pos rfl, if_pos rfl]
            exact ⟨rfl, rfl⟩
          · exact a3 i y i2) (fun k f hk ih τ1 s1 e1 => by
      have h2 := chM_s s1 h1
      have hM1 := ewM_k (samO_kM s1) hM
      have ck := hc k (by omega)
      have hfk : fitC e c k := fun i ik => ⟨hc i (by omega), hf i (by omega)⟩
      have hbd := HD_b hB hfk (by omega)
      have q4 : τ1.2.1 5 (c k) = nI (e.2.1 (c k) 4) := hM1.2.1 (c k) 4 ck (by decide)
      have q13 : τ1.1 13 = nI (e.2.2.1 3) := hM1.2.2.1 3 (by decide)
      have h9 := (hB.2.1 (c k) 4 ck (by decide)).2
      have e9 : hiN 4 = 9 := rfl
      have hm0 : (if k = 0 then 0 else (HD e c k).1 (k - 1)) ≤ 990 * k := by
        split
        · omega
        · have := (hbd (k - 1) (by omega)).1; omega
      have s2 := samO_up τ1 (c k) (-1) (-1)
      have w := wait_M (e := e) (τ := upA (upA τ1 24 (c k) (-1)) 25 (c k) (-1)) (c := c) (D := (HD e c k).2) (k := k) (t := c k) (B := 990 * k) (y0 := 0) hB (ewM_k (samO_kM s2) hM1) (by omega) (fun i ik => by
        have ne : ¬ c i = c k := fun z => by have := hi i k (by omega) (by omega) z; omega
        refine ⟨hc i (by omega), ?_, ?_, by have := (hbd i ik).2; omega⟩
        · rw [s2.2.1 26 (by decide) (by decide)]; exact h2.2 i (by omega)
        · rw [upA_2, if_pos rfl, upA_2, if_neg (by decide)]
          unfold upd
          rw [if_neg ne]; exact (e1 i ik).2) (by omega) ck (hf k hk) (f_M_goLine_6 (f + 20)) k _ hm0 (ct_le _ _ _) FU (by show _ < 1000; omega)
      rw [show f + 1 + 20 = (f + 20) + 1 by omega]
      unfold f_M_goLine_6
      rw [h2.1, if_neg (nI_ge (by omega) (by omega)), in_t (t := k) (by omega), ct_t (t := k) (by omega), if_pos rfl, h2.2 k (by omega), in_t (t := c k) (by omega), ct_t (t := c k) (by omega), q4, q13, if_pos (nI_le (hf k hk) (by omega))]
      unfold f_M_goLine_45
      rw [in_t (t := c k) (by omega), ct_t (t := c k) (by omega), if_pos rfl]
      simp only [cond_true]
      rw [w]
      have hH : (HD e c (k + 1)).1 k = mfN e c (HD e c k).2 k (e.2.1 (c k) 4) k (if k = 0 then 0 else (HD e c k).1 (k - 1)) := by rw [HD_1, if_pos rfl]
      have hD : (HD e c (k + 1)).2 k = mfN e c (HD e c k).2 k (e.2.1 (c k) 4) k (if k = 0 then 0 else (HD e c k).1 (k - 1)) + 10 * e.2.1 (c k) 5 := by rw [HD_2, if_pos rfl]
      rw [← hD, ← hH]
      have step := ih (upA (upA (upA (upA τ1 24 (c k) (-1)) 25 (c k) (-1)) 24 (c k) (nI ((HD e c (k + 1)).1 k))) 25 (c k) (nI ((HD e c (k + 1)).2 k))) (samO_tr s1 (samO_tr s2 (samO_up _ _ _ _))) (fun i ik => by
        rw [upA_2, if_neg (by decide), upA_2, if_pos rfl, upA_2, if_neg (by decide), upA_2, if_pos rfl, upA_2, if_pos rfl, upA_2, if_neg (by decide), upA_2, if_pos rfl, upA_2, if_neg (by decide)]
        unfold upd
        by_cases y : i = k
        · subst y; rw [if_pos rfl, if_pos rfl]; exact ⟨rfl, rfl⟩
        · have ne : ¬ c i = c k := fun z => y (hi i k (by omega) (by omega) z)
          rw [if_neg ne, if_neg ne, if_neg ne, if_neg ne, HD_1, HD_2, if_neg y, if_neg y]
          exact e1 i (by omega))
      rw [if_neg (by omega), Nat.add_sub_cancel] at step
      exact step)
    0 (Nat.zero_le _) 980 (by omega) τ (samO_rf τ) (fun i hi => absurd hi (Nat.not_lt_zero i))
  exact main
/-! members of a set, as they come -/
def mbN (b : Nat) : Nat → (Nat → Nat) × Nat
  | 0 => (fun _ => 0, 0)
  | t + 1 => (fun i => if bt b t = true ∧ i = (mbN b t).2 then t else (mbN b t).1 i, if bt b t = true then (mbN b t).2 + 1 else (mbN b t).2)
theorem mb_1 (b t i : Nat) : (mbN b (t + 1)).1 i = if bt b t = true ∧ i = (mbN b t).2 then t else (mbN b t).1 i := rfl
theorem mb_2 (b t : Nat) : (mbN b (t + 1)).2 = if bt b t = true then (mbN b t).2 + 1 else (mbN b t).2 := rfl
theorem mb_le (b : Nat) : ∀ t, (mbN b t).2 ≤ t
  | 0 => Nat.le_refl _
  | t + 1 => by rw [mb_2]; have := mb_le b t; split <;> omega
theorem mb_mono (b : Nat) {t : Nat} : ∀ {t' : Nat}, t ≤ t' → (mbN b t).2 ≤ (mbN b t').2
  | 0, h => by obtain rfl : t = 0 := by omega
               exact Nat.le_refl _
  | t' + 1, h => by
    rcases Nat.eq_or_lt_of_le h with q | q
    · rw [q]; exact Nat.le_refl _
    · have := mb_mono b (t := t) (t' := t') (by omega)
      rw [mb_2]; split <;> omega
theorem mb_pre (b : Nat) {t : Nat} : ∀ {t' : Nat}, t ≤ t' → ∀ i, i < (mbN b t).2 → (mbN b t').1 i = (mbN b t).1 i
  | 0, h, i, _ => by obtain rfl : t = 0 := by omega
                     rfl
  | t' + 1, h, i, hi => by
    rcases Nat.eq_or_lt_of_le h with q | q
    · rw [q]
    · have := mb_mono b (t := t) (t' := t') (by omega)
      rw [mb_1, if_neg (fun z => by omega)]
      exact mb_pre b (by omega) i hi
theorem mb_at (b : Nat) {t n : Nat} (h : t < n) (q : bt b t = true) : (mbN b n).1 (mbN b t).2 = t ∧ (mbN b t).2 < (mbN b n).2 := by
  have h2 : (mbN b (t + 1)).2 = (mbN b t).2 + 1 := by rw [mb_2, if_pos q]
  have hm := mb_mono b (t := t + 1) (t' := n) h
  refine ⟨?_, by omega⟩
  rw [mb_pre b (t := t + 1) h _ (by omega), mb_1, if_pos ⟨q, rfl⟩]
theorem mb_lt (b : Nat) : ∀ {t i : Nat}, i < (mbN b t).2 → (mbN b t).1 i < t ∧ bt b ((mbN b t).1 i) = true ∧ (mbN b ((mbN b t).1 i)).2 = i
  | 0, i, h => absurd h (Nat.not_lt_zero i)
  | t + 1, i, h => by
    rw [mb_2] at h
    rw [mb_1]
    by_cases q : bt b t = true
    · rw [if_pos q] at h
      by_cases y : i = (mbN b t).2
      · rw [if_pos ⟨q, y⟩]; exact ⟨by omega, q, y.symm⟩
      · rw [if_neg (fun z => y z.2)]
        obtain ⟨z1, z2, z3⟩ := mb_lt b (t := t) (i := i) (by omega)
        exact ⟨by omega, z2, z3⟩
    · rw [if_neg q] at h
      rw [if_neg (fun z => q z.1)]
      obtain ⟨z1, z2, z3⟩ := mb_lt b (t := t) (i := i) h
      exact ⟨by omega, z2, z3⟩
theorem mb_inj (b n : Nat) : injN (mbN b n).1 (mbN b n).2 := fun i j hi hj h => by
  have h1 := (mb_lt b hi).2.2
  have h2 := (mb_lt b hj).2.2
  rw [h] at h1
  omega
theorem layLine_M {e : Ew} {τ : St} {b : Nat} (hB : ewB e) (hM : ewM e τ) (hb : b < 2 ^ e.1) : ∃ τ', f_M_layLine τ (nI b) = some τ' ∧ kM τ' = kM τ ∧ chM (mbN b e.1).1 (mbN b e.1).2 τ' := by
  have hn := hB.1
  unfold f_M_layLine
  exact loopF (n := e.1) (P := fun t fuel => ∀ τ1, kM τ1 = kM τ → chM (mbN b t).1 (mbN b t).2 τ1 → ∃ τ', f_M_layLine_7 fuel τ1 (nI b) (nI t) = some τ' ∧ kM τ' = kM τ ∧ chM (mbN b e.1).1 (mbN b e.1).2 τ') (fun f τ1 k1 k2 => by
      unfold f_M_layLine_7
      rw [(ewM_k k1 hM).1, if_pos (nI_le (Nat.le_refl _) (by omega))]
      exact ⟨τ1, rfl, k1, k2⟩) (fun t f ht ih τ1 k1 k2 => by
      have hM1 := ewM_k k1 hM
      have hle := mb_le b t
      unfold f_M_layLine_7
      rw [hM1.1, if_neg (nI_ge ht (by omega)), bt_M hn hb ht, nI_1, k2.1]
      by_cases q : bt b t = true
      · rw [b2_nt q, if_neg i10, in_t (t := (mbN b t).2) (by omega), ct_t (t := (mbN b t).2) (by omega), nI_1]
        refine ih _ (by rw [kM_upI (by rfl), kM_upA (by rfl)]; exact k1) ⟨?_, fun i hi => ?_⟩
        · rw [upI_1, if_pos rfl, mb_2, if_pos q]
        · rw [mb_2, if_pos q] at hi
          rw [upI_2, upA_2, if_pos rfl, mb_1]
          unfold upd
          by_cases y : i = (mbN b t).2
          · rw [if_pos y, if_pos ⟨q, y⟩]
          · rw [if_neg y, if_neg (fun z => y z.2)]; exact k2.2 i (by omega)
      · rw [b2_nf (bt_f q), if_pos rfl]
        refine ih τ1 k1 ⟨?_, fun i hi => ?_⟩
        · rw [mb_2, if_neg q]; exact k2.1
        · rw [mb_2, if_neg q] at hi
          rw [mb_1, if_neg (fun z => q z.1)]; exact k2.2 i hi)
    0 (Nat.zero_le _) FU (by show _ < 1000; omega) (upI τ 42 0) (kM_upI (by rfl)) ⟨rfl, fun i hi => absurd hi (Nat.not_lt_zero i)⟩
theorem hang_C {e : Ew} {σ : St} {b : Nat} (hB : ewB e) (hC : ewC e σ) (hb : b < 2 ^ e.1) : ∃ σ' q, f_Rope_hang σ (nI b) = some σ' ∧ kC σ' = kC σ ∧ σ'.1 2705 = nI q ∧ q ≤ (mbN b e.1).2 ∧ fitC e (mbN b e.1).1 q ∧ encC e (mbN b e.1).1 q σ' ∧ (q < (mbN b e.1).2 → ¬ e.2.1 ((mbN b e.1).1 q) 4 ≤ e.2.2.1 3) := by
  have hn := hB.1
  unfold f_Rope_hang
  exact loopF (n := e.1) (P := fun t fuel => ∀ σ1, kC σ1 = kC σ → σ1.1 2705 = nI (mbN b t).2 → fitC e (mbN b e.1).1 (mbN b t).2 → encC e (mbN b e.1).1 (mbN b t).2 σ1 → ∃ σ' q, f_Rope_hang_7 fuel σ1 (nI b) (nI t) = some σ' ∧ kC σ' = kC σ ∧ σ'.1 2705 = nI q ∧ q ≤ (mbN b e.1).2 ∧ fitC e (mbN b e.1).1 q ∧ encC e (mbN b e.1).1 q σ' ∧ (q < (mbN b e.1).2 → ¬ e.2.1 ((mbN b e.1).1 q) 4 ≤ e.2.2.1 3)) (fun f σ1 k1 k2 k3 k4 => by
      unfold f_Rope_hang_7
      rw [(ewC_k k1 hC).1, if_pos (nI_le (Nat.le_refl _) (by omega))]
      exact ⟨σ1, _, rfl, k1, k2, Nat.le_refl _, k3, k4, fun z => absurd z (Nat.lt_irrefl _)⟩) (fun t f ht ih σ1 k1 k2 k3 k4 => by
      have hC1 := ewC_k k1 hC
      have hle := mb_le b t
      unfold f_Rope_hang_7
      rw [hC1.1, if_neg (nI_ge ht (by omega)), bt_isOf hn hb ht, bind_s, nI_1, k2]
      by_cases q : bt b t = true
      · obtain ⟨ct, clt⟩ := mb_at b ht q
        rw [b2_nt q, if_neg i10]
        by_cases hs : e.2.1 t 4 ≤ e.2.2.1 3
        · obtain ⟨σ2, g1, g2, g3, g4, g5, g6, g7⟩ := hangs_yes hB hC1 ht (by omega) k3 k4 ct hs
          rw [g1, bd2_s, if_neg i10, g5, k2, nI_1]
          have e2 : (mbN b (t + 1)).2 = (mbN b t).2 + 1 := by rw [mb_2, if_pos q]
          refine ih _ (by rw [kC_upI (by rfl), g4]; exact k1) ?_ ?_ ?_
          · rw [upI_1, if_pos rfl, e2]
          · rw [e2]; exact g2
          · rw [e2]; exact g3
        · rw [hangs_no hB hC1 ht (by omega) hs, bd2_s, if_pos rfl]
          exact ⟨σ1, _, rfl, k1, k2, by omega, k3, k4, fun _ => by rw [ct]; exact hs⟩
      · have e2 : (mbN b (t + 1)).2 = (mbN b t).2 := by rw [mb_2, if_neg q]
        rw [b2_nf (bt_f q), if_pos rfl]
        exact ih σ1 k1 (by rw [e2]; exact k2) (by rw [e2]; exact k3) (by rw [e2]; exact k4))
    0 (Nat.zero_le _) FU (by show _ < 1000; omega) (upI σ 2705 0) (kC_upI (by rfl)) rfl (fun i hi => absurd hi (Nat.not_lt_zero i)) (fun i hi => absurd hi (Nat.not_lt_zero i))
