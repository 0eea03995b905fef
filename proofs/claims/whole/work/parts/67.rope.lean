/-! the line: who hangs where from when on, as both work it out -/
def ldN (e : Ew) (c D : Nat → Nat) (m : Nat) : Nat → Nat
  | 0 => 0
  | k + 1 => ldN e c D m k + (if D k ≤ m then 0 else e.2.1 (c k) 4)
def nxN (D : Nat → Nat) (m : Nat) : Nat → Nat
  | 0 => 2147483647
  | k + 1 => if D k ≤ m then nxN D m k else min (nxN D m k) (D k)
def ctN (D : Nat → Nat) (m : Nat) : Nat → Nat
  | 0 => 0
  | k + 1 => ctN D m k + (if D k ≤ m then 0 else 1)
def mfN (e : Ew) (c D : Nat → Nat) (k s : Nat) : Nat → Nat → Nat
  | 0, m => m
  | f + 1, m => if ldN e c D m k + s ≤ e.2.2.1 3 then m else mfN e c D k s f (nxN D m k)
def HD (e : Ew) (c : Nat → Nat) : Nat → (Nat → Nat) × (Nat → Nat)
  | 0 => (fun _ => 0, fun _ => 0)
  | k + 1 => (fun i => if i = k then mfN e c (HD e c k).2 k (e.2.1 (c k) 4) k (if k = 0 then 0 else (HD e c k).1 (k - 1)) else (HD e c k).1 i,
      fun i => if i = k then mfN e c (HD e c k).2 k (e.2.1 (c k) 4) k (if k = 0 then 0 else (HD e c k).1 (k - 1)) + 10 * e.2.1 (c k) 5 else (HD e c k).2 i)
theorem ldN_s (e : Ew) (c D : Nat → Nat) (m k : Nat) : ldN e c D m (k + 1) = ldN e c D m k + (if D k ≤ m then 0 else e.2.1 (c k) 4) := rfl
theorem nxN_s (D : Nat → Nat) (m k : Nat) : nxN D m (k + 1) = if D k ≤ m then nxN D m k else min (nxN D m k) (D k) := rfl
theorem ctN_s (D : Nat → Nat) (m k : Nat) : ctN D m (k + 1) = ctN D m k + (if D k ≤ m then 0 else 1) := rfl
theorem mfN_s (e : Ew) (c D : Nat → Nat) (k s f m : Nat) : mfN e c D k s (f + 1) m = if ldN e c D m k + s ≤ e.2.2.1 3 then m else mfN e c D k s f (nxN D m k) := rfl
theorem HD_1 (e : Ew) (c : Nat → Nat) (k i : Nat) : (HD e c (k + 1)).1 i = if i = k then mfN e c (HD e c k).2 k (e.2.1 (c k) 4) k (if k = 0 then 0 else (HD e c k).1 (k - 1)) else (HD e c k).1 i := rfl
theorem HD_2 (e : Ew) (c : Nat → Nat) (k i : Nat) : (HD e c (k + 1)).2 i = if i = k then mfN e c (HD e c k).2 k (e.2.1 (c k) 4) k (if k = 0 then 0 else (HD e c k).1 (k - 1)) + 10 * e.2.1 (c k) 5 else (HD e c k).2 i := rfl
theorem ld_congr {e : Ew} {c c' D D' : Nat → Nat} {m : Nat} : ∀ {k : Nat}, (∀ i, i < k → c i = c' i ∧ D i = D' i) → ldN e c D m k = ldN e c' D' m k
  | 0, _ => rfl
  | k + 1, h => by rw [ldN_s, ldN_s, ld_congr (fun i hi => h i (by omega)), (h k (by omega)).1, (h k (by omega)).2]
theorem nx_congr {D D' : Nat → Nat} {m : Nat} : ∀ {k : Nat}, (∀ i, i < k → D i = D' i) → nxN D m k = nxN D' m k
  | 0, _ => rfl
  | k + 1, h => by rw [nxN_s, nxN_s, nx_congr (fun i hi => h i (by omega)), h k (by omega)]
theorem mf_congr {e : Ew} {c c' D D' : Nat → Nat} {k s : Nat} (h : ∀ i, i < k → c i = c' i ∧ D i = D' i) : ∀ f m, mfN e c D k s f m = mfN e c' D' k s f m
  | 0, _ => rfl
  | f + 1, m => by rw [mfN_s, mfN_s, ld_congr h, nx_congr (fun i hi => (h i hi).2), mf_congr h f]
theorem HD_congr {e : Ew} {c c' : Nat → Nat} : ∀ {k : Nat}, (∀ i, i < k → c i = c' i) → HD e c k = HD e c' k
  | 0, _ => rfl
  | k + 1, h => by
    have ih := HD_congr (e := e) (k := k) (c := c) (c' := c') (fun i hi => h i (by omega))
    have hm := mf_congr (e := e) (c := c) (c' := c') (D := (HD e c' k).2) (D' := (HD e c' k).2) (k := k) (s := e.2.1 (c' k) 4) (fun i hi => ⟨h i (by omega), rfl⟩)
    refine Prod.ext ?_ ?_
    · funext i
      rw [HD_1, HD_1, ih, h k (by omega), hm]
    · funext i
      rw [HD_2, HD_2, ih, h k (by omega), hm]
theorem ld_ct {e : Ew} {c D : Nat → Nat} {m : Nat} : ∀ {k : Nat}, ctN D m k = 0 → ldN e c D m k = 0
  | 0, _ => rfl
  | k + 1, h => by
    rw [ctN_s] at h
    rw [ldN_s, ld_ct (k := k) (by omega)]
    by_cases q : D k ≤ m
    · rw [if_pos q]
    · rw [if_neg q] at h; omega
theorem nx_mem {D : Nat → Nat} {m : Nat} : ∀ {k : Nat}, 0 < ctN D m k → (∀ j, j < k → D j < 2147483647) → ∃ j, j < k ∧ nxN D m k = D j ∧ m < D j
  | 0, h, _ => absurd (show 0 < 0 from h) (Nat.lt_irrefl 0)
  | k + 1, h, hd => by
    rw [ctN_s] at h
    rw [nxN_s]
    by_cases q : D k ≤ m
    · rw [if_pos q] at h ⊢
      obtain ⟨j, h1, h2, h3⟩ := nx_mem (k := k) (by omega) (fun j hj => hd j (by omega))
      exact ⟨j, by omega, h2, h3⟩
    · rw [if_neg q]
      by_cases z : ctN D m k = 0
      · have : ∀ k', k' ≤ k → ctN D m k' = 0 → nxN D m k' = 2147483647 := by
          intro k'
          induction k' with
          | zero => intro _ _; rfl
          | succ k' ih =>
            intro hk hz
            rw [ctN_s] at hz
            rw [nxN_s]
            by_cases q2 : D k' ≤ m
            · rw [if_pos q2]; exact ih (by omega) (by omega)
            · rw [if_neg q2] at hz; omega
        rw [this k (Nat.le_refl _) z]
        refine ⟨k, by omega, Nat.min_eq_right ?_, by omega⟩
        have := hd k (by omega)
        omega
      · obtain ⟨j, h1, h2, h3⟩ := nx_mem (k := k) (Nat.pos_of_ne_zero z) (fun j hj => hd j (by omega))
        rcases Nat.le_total (nxN D m k) (D k) with y | y
        · exact ⟨j, by omega, by rw [Nat.min_eq_left y, h2], h3⟩
        · exact ⟨k, by omega, Nat.min_eq_right y, by omega⟩
theorem ct_mono {D : Nat → Nat} {m m' : Nat} (h : m ≤ m') : ∀ k, ctN D m' k ≤ ctN D m k
  | 0 => Nat.le_refl _
  | k + 1 => by
    rw [ctN_s, ctN_s]
    have := ct_mono (D := D) h k
    by_cases q : D k ≤ m
    · rw [if_pos q, if_pos (by omega)]; omega
    · rw [if_neg q]; split <;> omega
theorem ct_dec {D : Nat → Nat} {m m' : Nat} (h : m ≤ m') : ∀ {k j : Nat}, j < k → m < D j → D j ≤ m' → ctN D m' k < ctN D m k
  | k + 1, j, hj, h1, h2 => by
    rw [ctN_s, ctN_s]
    by_cases q : j = k
    · subst q
      have := ct_mono (D := D) h j
      rw [if_pos h2, if_neg (by omega)]; omega
    · have := ct_dec (D := D) h (k := k) (j := j) (by omega) h1 h2
      by_cases q2 : D k ≤ m
      · rw [if_pos q2, if_pos (by omega)]; omega
      · rw [if_neg q2]; split <;> omega
theorem ct_le (D : Nat → Nat) (m : Nat) : ∀ k, ctN D m k ≤ k
  | 0 => Nat.le_refl _
  | k + 1 => by rw [ctN_s]; have := ct_le D m k; split <;> omega
theorem mf_le {e : Ew} {c D : Nat → Nat} {k s B : Nat} (hs : s ≤ e.2.2.1 3) (hB : B < 2147483647) (hD : ∀ j, j < k → D j ≤ B) : ∀ f m, m ≤ B → mfN e c D k s f m ≤ B
  | 0, m, h => h
  | f + 1, m, h => by
    rw [mfN_s]
    by_cases q : ldN e c D m k + s ≤ e.2.2.1 3
    · rw [if_pos q]; exact h
    · rw [if_neg q]
      have hp : 0 < ctN D m k := by
        rcases Nat.eq_zero_or_pos (ctN D m k) with z | z
        · have := ld_ct (e := e) (c := c) z; omega
        · exact z
      obtain ⟨j, h1, h2, h3⟩ := nx_mem hp (fun j hj => by have := hD j hj; omega)
      exact mf_le hs hB hD f _ (by rw [h2]; exact hD j h1)
theorem HD_b {e : Ew} {c : Nat → Nat} (hB : ewB e) : ∀ {k : Nat}, (∀ i, i < k → c i < e.1 ∧ e.2.1 (c i) 4 ≤ e.2.2.1 3) → k ≤ 10 → ∀ i, i < k → (HD e c k).1 i ≤ 990 * i ∧ (HD e c k).2 i ≤ 990 * (i + 1)
  | 0, _, _, i, hi => absurd hi (Nat.not_lt_zero i)
  | k + 1, h, hk, i, hi => by
    have ih := HD_b (e := e) (c := c) hB (k := k) (fun i hi => h i (by omega)) (by omega)
    obtain ⟨h1, h2⟩ := h k (by omega)
    have hd := (hB.2.1 (c k) 5 h1 (by decide)).2
    have e99 : hiN 5 = 99 := rfl
    have hm : mfN e c (HD e c k).2 k (e.2.1 (c k) 4) k (if k = 0 then 0 else (HD e c k).1 (k - 1)) ≤ 990 * k := by
      refine mf_le h2 (by omega) (fun j hj => by have := (ih j hj).2; omega) _ _ ?_
      split
      · omega
      · have := (ih (k - 1) (by omega)).1; omega
    rw [HD_1, HD_2]
    by_cases q : i = k
    · subst q; rw [if_pos rfl, if_pos rfl]; omega
    · rw [if_neg q, if_neg q]; exact ih i (by omega)
theorem HD_pre (e : Ew) (c : Nat → Nat) {k : Nat} : ∀ {m : Nat}, k ≤ m → ∀ i, i < k → (HD e c m).1 i = (HD e c k).1 i ∧ (HD e c m).2 i = (HD e c k).2 i
  | 0, h, i, hi => by omega
  | m + 1, h, i, hi => by
    rcases Nat.eq_or_lt_of_le h with q | q
    · subst q; exact ⟨rfl, rfl⟩
    · have ih := HD_pre e c (k := k) (m := m) (by omega) i hi
      rw [HD_1, HD_2, if_neg (by omega), if_neg (by omega)]
      exact ih
/-! the class -/
def encC (e : Ew) (c : Nat → Nat) (k : Nat) (σ : St) : Prop := ∀ i, i < k → σ.2.1 28 i = nI (c i) ∧ σ.2.1 29 i = nI ((HD e c k).1 i) ∧ σ.2.1 30 i = nI ((HD e c k).2 i)
def fitC (e : Ew) (c : Nat → Nat) (k : Nat) : Prop := ∀ i, i < k → c i < e.1 ∧ e.2.1 (c i) 4 ≤ e.2.2.1 3
theorem ld_le {e : Ew} {c D : Nat → Nat} {m : Nat} (hB : ewB e) : ∀ {k : Nat}, (∀ i, i < k → c i < e.1) → ldN e c D m k ≤ 9 * k
  | 0, _ => Nat.le_refl _
  | k + 1, h => by
    rw [ldN_s]
    have := ld_le (e := e) (c := c) (D := D) (m := m) hB (k := k) (fun i hi => h i (by omega))
    have h9 := (hB.2.1 (c k) 4 (h k (by omega)) (by decide)).2
    have e9 : hiN 4 = 9 := rfl
    split <;> omega
theorem load_C {e : Ew} {σ : St} {c D : Nat → Nat} {k m B : Nat} (hB : ewB e) (hC : ewC e σ) (hk : k ≤ 10) (h1 : ∀ i, i < k → c i < e.1 ∧ σ.2.1 28 i = nI (c i) ∧ σ.2.1 30 i = nI (D i) ∧ D i ≤ B) (hBB : B < 100000) (hm : m ≤ B) : f_Rope_loadAt σ (nI m) (nI k) = some (nI (ldN e c D m k)) := by
  have hn := hB.1
  unfold f_Rope_loadAt
  refine loopF (n := k) (P := fun t fuel => f_Rope_loadAt_5 fuel σ (nI m) (nI k) (nI (ldN e c D m t)) (nI t) = some (nI (ldN e c D m k))) (fun f => ?_) (fun t f ht ih => ?_) 0 (Nat.zero_le _) FU (by show _ < 1000; omega)
  · unfold f_Rope_loadAt_5
    rw [if_pos (nI_le (Nat.le_refl _) (by omega))]
  · obtain ⟨a1, a2, a3, a4⟩ := h1 t ht
    unfold f_Rope_loadAt_5
    have q4 : f_Basket_told σ (nI (c t)) 4 = some (nI (e.2.1 (c t) 4)) := told_e hB hC (k := 4) a1 (by decide)
    rw [if_neg (nI_ge ht (by omega)), in_t (t := t) (by omega), ct_t (t := t) (by omega), a2, a3, q4, bind_s, nI_1, nI_add]
    simp only [cond_true]
    rw [ldN_s] at ih
    by_cases q : D t ≤ m
    · rw [if_pos (nI_le q (by omega)), show ∀ s : Nat, nI s + (0 : Int32) = nI (s + 0) from fun s => nI_add s 0]
      rw [if_pos q] at ih
      exact ih
    · rw [if_neg (nI_ge (by omega) (by omega))]
      rw [if_neg q] at ih
      exact ih
theorem next_C {σ : St} {D : Nat → Nat} {k m B : Nat} (hk : k ≤ 10) (h1 : ∀ i, i < k → σ.2.1 30 i = nI (D i) ∧ D i ≤ B) (hBB : B < 100000) (hm : m ≤ B) (hp : 0 < ctN D m k) : f_Rope_nextDry σ (nI m) (nI k) = some (nI (nxN D m k)) := by
  unfold f_Rope_nextDry
  have nxb : ∀ t, nxN D m t ≤ 2147483647 := by
    intro t
    induction t with
    | zero => exact Nat.le_refl _
    | succ t ih =>
      rw [nxN_s]
      split
      · exact ih
      · exact Nat.le_trans (Nat.min_le_left _ _) ih
  refine loopF (n := k) (P := fun t fuel => f_Rope_nextDry_6 fuel σ (nI m) (nI k) (nI (nxN D m t)) (nI t) = some (nI (nxN D m k))) (fun f => ?_) (fun t f ht ih => ?_) 0 (Nat.zero_le _) FU (by show _ < 1000; omega)
  · obtain ⟨j, j1, j2, j3⟩ := nx_mem hp (fun j hj => by have := (h1 j hj).2; omega)
    have := (h1 j j1).2
    unfold f_Rope_nextDry_6
    rw [if_pos (nI_le (Nat.le_refl _) (by omega)), if_neg (show ¬ nI (nxN D m k) = 2147483647 from fun z => by
      have := (nI_eq (b := 2147483647) (by omega) (by decide)).mp z
      omega)]
  · obtain ⟨a3, a4⟩ := h1 t ht
    unfold f_Rope_nextDry_6
    rw [if_neg (nI_ge ht (by omega)), in_t (t := t) (by omega), ct_t (t := t) (by omega), a3, nI_1]
    simp only [cond_true]
    rw [nxN_s] at ih
    by_cases q : D t ≤ m
    · rw [if_pos (nI_le q (by omega))]
      rw [if_pos q] at ih
      exact ih
    · rw [if_neg (nI_ge (by omega) (by omega))]
      rw [if_neg q] at ih
      have hmin : imin (nI (nxN D m t)) (nI (D t)) = nI (min (nxN D m t) (D t)) := by
        have := nxb t
        unfold imin
        by_cases z : D t < nxN D m t
        · rw [if_pos (nI_lt z (by omega)), Nat.min_eq_right (by omega)]
        · rw [if_neg (nI_nlt (by omega) (by omega)), Nat.min_eq_left (by omega)]
      rw [hmin]
      exact ih
theorem minute_C {e : Ew} {σ : St} {c D : Nat → Nat} {k s m B : Nat} (hB : ewB e) (hC : ewC e σ) (hk : k < 10) (hs : s ≤ e.2.2.1 3) (h1 : ∀ i, i < k → c i < e.1 ∧ σ.2.1 28 i = nI (c i) ∧ σ.2.1 30 i = nI (D i) ∧ D i ≤ B) (hBB : B < 100000) (hm : m ≤ B) (h0 : if k = 0 then m = 0 else σ.2.1 29 (k - 1) = nI m) : f_Rope_minuteFor σ (nI s) (nI k) = some (nI (mfN e c D k s k m)) := by
  have hn := hB.1
  have hl60 := (hB.2.2.1 3 (by decide)).2
  have e60 : hiN (8 + 3) = 60 := rfl
  have q3 : f_Basket_toldOfHouse σ 11 = some (nI (e.2.2.1 3)) := house_e hC (k := 3) (by decide)
  have main := loopF (n := k) (P := fun t fuel => ∀ m, m ≤ B → f_Rope_minuteFor_33 fuel σ (nI k) (nI (e.2.2.1 3 - s)) (nI m) (nI t) = some (nI (mfN e c D k s (k - t) m))) (fun f m hm => by
      unfold f_Rope_minuteFor_33
      rw [if_pos (nI_le (Nat.le_refl _) (by omega)), Nat.sub_self]
      rfl) (fun t f ht ih m hm => by
      unfold f_Rope_minuteFor_33
      have lle := ld_le (e := e) (c := c) (D := D) (m := m) hB (k := k) (fun i hi => (h1 i hi).1)
      rw [if_neg (nI_ge ht (by omega)), load_C hB hC (by omega) h1 hBB hm, bind_s, nI_1, show k - t = (k - (t + 1)) + 1 by omega, mfN_s]
      by_cases q : ldN e c D m k + s ≤ e.2.2.1 3
      · rw [if_pos (nI_le (by omega) (by omega)), if_pos q]
      · rw [if_neg (nI_ge (by omega) (by omega)), if_neg q]
        have hp : 0 < ctN D m k := by
          rcases Nat.eq_zero_or_pos (ctN D m k) with z | z
          · have := ld_ct (e := e) (c := c) z; omega
          · exact z
        obtain ⟨j, j1, j2, j3⟩ := nx_mem hp (fun j hj => by have := (h1 j hj).2.2.2; omega)
        rw [next_C (by omega) (fun i hi => (h1 i hi).2.2) hBB hm hp, bind_s]
        exact ih _ (by rw [j2]; exact (h1 j j1).2.2.2))
    0 (Nat.zero_le _) FU (by show _ < 1000; omega) m hm
  unfold f_Rope_minuteFor
  rw [q3, bind_s, pk_sub hs]
  by_cases k0 : k = 0
  · rw [if_pos k0] at h0
    subst h0
    rw [if_pos (by rw [k0]; decide)]
    exact main
  · rw [if_neg k0] at h0
    have ep : nI k - 1 = nI (k - 1) := by rw [show k = (k - 1) + 1 by omega, nI_pred]; rfl
    rw [if_neg (nI_nle (by omega) (by omega)), ep, inb_nI (show k - 1 < 10 by omega) (by decide), cond_true, nIt (show k - 1 < 2 ^ 31 by omega), h0]
    exact main
theorem hangs_no {e : Ew} {σ : St} {t k : Nat} (hB : ewB e) (hC : ewC e σ) (ht : t < e.1) (hk : k < 10) (hs : ¬ e.2.1 t 4 ≤ e.2.2.1 3) : f_Rope_hangs σ (nI t) (nI k) = some (0, σ) := by
  have h9 := (hB.2.1 t 4 ht (by decide)).2
  have e9 : hiN 4 = 9 := rfl
  unfold f_Rope_hangs
  have q4 : f_Basket_told σ (nI t) 4 = some (nI (e.2.1 t 4)) := told_e hB hC (k := 4) ht (by decide)
  have q3 : f_Basket_toldOfHouse σ 11 = some (nI (e.2.2.1 3)) := house_e hC (k := 3) (by decide)
  rw [q4, bind_s, if_neg (show ¬ (10 : Int32) ≤ nI k from nI_ge (b := 10) hk (by decide)), q3, bind_s, if_neg (nI_ge (by omega) (by omega))]
theorem hangs_yes {e : Ew} {σ : St} {c : Nat → Nat} {t k : Nat} (hB : ewB e) (hC : ewC e σ) (ht : t < e.1) (hk : k < 10) (hf : fitC e c k) (hE : encC e c k σ) (hct : c k = t) (hs : e.2.1 t 4 ≤ e.2.2.1 3) : ∃ σ', f_Rope_hangs σ (nI t) (nI k) = some (1, σ') ∧ fitC e c (k + 1) ∧ encC e c (k + 1) σ' ∧ kC σ' = kC σ ∧ σ'.1 = σ.1 ∧ (∀ a, a ≠ 28 → a ≠ 29 → a ≠ 30 → σ'.2.1 a = σ.2.1 a) ∧ σ'.2.2 = σ.2.2 := by
  have hn := hB.1
  have h9 := (hB.2.1 t 4 ht (by decide)).2
  have e9 : hiN 4 = 9 := rfl
  have h99 := (hB.2.1 t 5 ht (by decide)).2
  have e99 : hiN 5 = 99 := rfl
  have hl60 := (hB.2.2.1 3 (by decide)).2
  have e60 : hiN (8 + 3) = 60 := rfl
  have hbd := HD_b hB hf (by omega)
  have q4 : f_Basket_told σ (nI t) 4 = some (nI (e.2.1 t 4)) := told_e hB hC (k := 4) ht (by decide)
  have q3 : f_Basket_toldOfHouse σ 11 = some (nI (e.2.2.1 3)) := house_e hC (k := 3) (by decide)
  have k1 : kC (upA σ 28 k (nI t)) = kC σ := kC_upA (by rfl)
  have hC1 := ewC_k k1 hC
  have hm0 : (if k = 0 then 0 else (HD e c k).1 (k - 1)) ≤ 990 * k := by
    split
    · omega
    · have := (hbd (k - 1) (by omega)).1; omega
  have mC := minute_C (e := e) (σ := upA σ 28 k (nI t)) (c := c) (D := (HD e c k).2) (k := k) (s := e.2.1 t 4) (m := if k = 0 then 0 else (HD e c k).1 (k - 1)) (B := 990 * k) hB hC1 hk hs (fun i hi => by
    refine ⟨(hf i hi).1, ?_, ?_, by have := (hbd i hi).2; omega⟩
    · rw [upA_2, if_pos rfl]; unfold upd; rw [if_neg (by omega)]; exact (hE i hi).1
    · rw [upA_2, if_neg (by decide)]; exact (hE i hi).2.2) (by omega) hm0 (by
    by_cases k0 : k = 0
    · rw [if_pos k0, if_pos k0]
    · rw [if_neg k0, if_neg k0, upA_2, if_neg (by decide)]; exact (hE (k - 1) (by omega)).2.1)
  have hmb := mf_le (e := e) (c := c) (D := (HD e c k).2) (k := k) (s := e.2.1 t 4) (B := 990 * k) hs (by omega) (fun j hj => by have := (hbd j hj).2; omega) k _ hm0
  have hH : (HD e c (k + 1)).1 k = mfN e c (HD e c k).2 k (e.2.1 t 4) k (if k = 0 then 0 else (HD e c k).1 (k - 1)) := by rw [HD_1, if_pos rfl, hct]
  have hD : (HD e c (k + 1)).2 k = mfN e c (HD e c k).2 k (e.2.1 t 4) k (if k = 0 then 0 else (HD e c k).1 (k - 1)) + 10 * e.2.1 t 5 := by rw [HD_2, if_pos rfl, hct]
  generalize mfN e c (HD e c k).2 k (e.2.1 t 4) k (if k = 0 then 0 else (HD e c k).1 (k - 1)) = mm at mC hmb hH hD
  have k2 : kC (upA (upA σ 28 k (nI t)) 29 k (nI mm)) = kC σ := by rw [kC_upA (by rfl), k1]
  have q5 : f_Basket_told (upA (upA σ 28 k (nI t)) 29 k (nI mm)) (nI t) 5 = some (nI (e.2.1 t 5)) := told_e hB (ewC_k k2 hC) (k := 5) ht (by decide)
  have key : f_Rope_hangs σ (nI t) (nI k) = some (1, upA (upA (upA σ 28 k (nI t)) 29 k (nI mm)) 30 k (nI (mm + 10 * e.2.1 t 5))) := by
    unfold f_Rope_hangs
    rw [q4, bind_s, if_neg (show ¬ (10 : Int32) ≤ nI k from nI_ge (b := 10) hk (by decide)), q3, bind_s, if_pos (nI_le hs (by omega)), in_t hk, ct_t hk, mC]
    simp only [cond_true, bind_s, q5]
    rw [show upd (σ.2.1 29) k (nI mm) k = nI mm by unfold upd; rw [if_pos rfl], show nI (e.2.1 t 5) * (10 : Int32) = nI (10 * e.2.1 t 5) from by show nI _ * nI 10 = _; rw [pk_mul, Nat.mul_comm], nI_add]
  refine ⟨_, key, fun i hi => ?_, fun i hi => ?_, by rw [kC_upA (by rfl), k2], rfl, fun a h1 h2 h3 => by rw [upA_2, if_neg h3, upA_2, if_neg h2, upA_2, if_neg h1], rfl⟩
  · by_cases q : i = k
    · subst q; rw [hct]; exact ⟨ht, hs⟩
    · exact hf i (by omega)
  · rw [upA_2, if_neg (by decide), upA_2, if_neg (by decide), upA_2, if_pos rfl, upA_2, if_neg (by decide), upA_2, if_pos rfl, upA_2, if_neg (by decide), upA_2, if_pos rfl, upA_2, if_neg (by decide), upA_2, if_neg (by decide)]
    unfold upd
    by_cases q : i = k
    · subst q
      rw [if_pos rfl, if_pos rfl, if_pos rfl, hct, hH, hD]
      exact ⟨rfl, rfl, rfl⟩
    · rw [if_neg q, if_neg q, if_neg q, HD_1, HD_2, if_neg q, if_neg q]
      exact hE i (by omega)
