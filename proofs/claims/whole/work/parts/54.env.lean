/-! things as both hold them, by plain numbers; dye by both -/
theorem loopF {n : Nat} (P : Nat → Nat → Prop) (h0 : ∀ f, P n (f + 1)) (hs : ∀ t f, t < n → P (t + 1) f → P t (f + 1)) : ∀ t, t ≤ n → ∀ fuel, n - t < fuel → P t fuel := by
  intro t ht
  generalize hk : n - t = k
  induction k generalizing t with
  | zero =>
    intro fuel hf
    obtain ⟨f, rfl⟩ : ∃ f, fuel = f + 1 := ⟨fuel - 1, by omega⟩
    obtain rfl : t = n := by omega
    exact h0 f
  | succ k ih =>
    intro fuel hf
    obtain ⟨f, rfl⟩ : ∃ f, fuel = f + 1 := ⟨fuel - 1, by omega⟩
    exact hs t f (by omega) (ih (t + 1) (by omega) (by omega) f (by omega))
def loN (k : Nat) : Nat := ([0, 0, 0, 3, 1, 1, 0, 0, 1, 0, 1, 1] : List Nat).getD k 0
def hiN (k : Nat) : Nat := ([3, 9, 99, 9, 9, 99, 8, 30, 60, 99, 9, 60] : List Nat).getD k 0
theorem okV_N {k : Nat} (hk : k < 12) {v : Int32} (h : okV k v) : v = nI v.toNatClampNeg ∧ loN k ≤ v.toNatClampNeg ∧ v.toNatClampNeg ≤ hiN k := by
  have e : ∀ k : Fin 12, tb_LEAST k.1 = nI (loN k.1) ∧ tb_MOST k.1 = nI (hiN k.1) ∧ hiN k.1 < 100 ∧ loN k.1 < 100 := by decide +kernel
  have e1 : tb_LEAST k = nI (loN k) := (e ⟨k, hk⟩).1
  have e2 : tb_MOST k = nI (hiN k) := (e ⟨k, hk⟩).2.1
  have e3 : hiN k < 100 := (e ⟨k, hk⟩).2.2.1
  have e4 : loN k < 100 := (e ⟨k, hk⟩).2.2.2
  obtain ⟨h1, h2⟩ := h
  rw [e1] at h1
  rw [e2] at h2
  have h0 : ¬ v < 0 := fun q => by
    rw [it] at q
    rw [il, nI_toInt (by omega)] at h1
    have z0 : (0 : Int32).toInt = 0 := rfl
    omega
  obtain ⟨j, hj, rfl⟩ := nI_of h0
  rw [nIt hj]
  exact ⟨rfl, (nI_leI (by omega) hj).mp h1, (nI_leI hj (by omega)).mp h2⟩
/-- how many things, their numbers, the household's numbers, what is thrown away, the law -/
abbrev Ew : Type := Nat × (Nat → Nat → Nat) × (Nat → Nat) × (Nat → Bool) × LawT
def ewB (e : Ew) : Prop := e.1 ≤ 10 ∧ (∀ t k, t < e.1 → k < 8 → loN k ≤ e.2.1 t k ∧ e.2.1 t k ≤ hiN k) ∧ (∀ k, k < 4 → loN (8 + k) ≤ e.2.2.1 k ∧ e.2.2.1 k ≤ hiN (8 + k)) ∧ ∀ x ∈ e.2.2.2.2, okLine x
def ewC (e : Ew) (σ : St) : Prop := σ.1 103 = nI e.1 ∧ (∀ t k, t < e.1 → k < 8 → σ.2.1 2 (8 * t + k) = nI (e.2.1 t k)) ∧ (∀ k, k < 4 → σ.2.1 2 (80 + k) = nI (e.2.2.1 k)) ∧ (∀ t, t < e.1 → σ.2.1 4 t = b2 (e.2.2.2.1 t)) ∧ lawC σ e.2.2.2.2
def ewM (e : Ew) (τ : St) : Prop := τ.1 1 = nI e.1 ∧ (∀ t k, t < e.1 → k < 8 → τ.2.1 (k + 1) t = nI (e.2.1 t k)) ∧ (∀ k, k < 4 → τ.1 (10 + k) = nI (e.2.2.1 k)) ∧ (∀ t, t < e.1 → τ.2.1 29 t = b2 (e.2.2.2.1 t)) ∧ ((e.2.2.2.2 = [] ∧ τ.1 33 = 0) ∨ (e.2.2.2.2 ≠ [] ∧ τ.1 33 = 1 ∧ lawM τ e.2.2.2.2))
theorem rel_ew {σ τ : St} (h : Rel σ τ) : ∃ e, ewB e ∧ ewC e σ ∧ ewM e τ := by
  obtain ⟨n, bn, ⟨h1, h2, h3, h4, h5⟩, g, -, -, ⟨L, l1, l2, l3⟩, -, -, -⟩ := h
  refine ⟨(n, fun t k => (τ.2.1 (k + 1) t).toNatClampNeg, fun k => (τ.1 (10 + k)).toNatClampNeg, fun t => decide (τ.2.1 29 t = 1), L), ⟨h1, ?_, ?_, l1⟩, ⟨h2, ?_, ?_, ?_, l2⟩, ⟨h3, ?_, ?_, ?_, l3⟩⟩
  · intro t k ht hk; exact (okV_N (by omega) (h4 t k ht hk).2).2
  · intro k hk; exact (okV_N (by omega) (h5 k hk).2).2
  · intro t k ht hk; rw [(h4 t k ht hk).1]; exact (okV_N (by omega) (h4 t k ht hk).2).1
  · intro k hk; rw [(h5 k hk).1]; exact (okV_N (by omega) (h5 k hk).2).1
  · intro t ht
    rw [(g.1 t ht).2.1]
    rcases (g.1 t ht).2.2 with q | q <;> simp [q, b2]
  · intro t k ht hk; exact (okV_N (by omega) (h4 t k ht hk).2).1
  · intro k hk; exact (okV_N (by omega) (h5 k hk).2).1
  · intro t ht
    rcases (g.1 t ht).2.2 with q | q <;> simp [q, b2]
theorem kC_of {σ σ' : St} (h1 : ∀ k, scrI k = false → σ'.1 k = σ.1 k) (h2 : ∀ a, scrA a = false → σ'.2.1 a = σ.2.1 a) (h3 : σ'.2.2 = σ.2.2) : kC σ' = kC σ := by
  unfold kC
  refine Prod.ext ?_ (Prod.ext ?_ h3)
  · funext k
    show (bif scrI k then 0 else σ'.1 k) = (bif scrI k then 0 else σ.1 k)
    cases q : scrI k
    · exact h1 k q
    · rfl
  · funext a
    show (bif scrA a then (fun _ => 0) else σ'.2.1 a) = (bif scrA a then (fun _ => 0) else σ.2.1 a)
    cases q : scrA a
    · exact h2 a q
    · rfl
theorem kM_of {τ τ' : St} (h1 : ∀ k, scrIM k = false → τ'.1 k = τ.1 k) (h2 : ∀ a, scrAM a = false → τ'.2.1 a = τ.2.1 a) (h3 : ∀ a, a ≠ 40 → τ'.2.2 a = τ.2.2 a) : kM τ' = kM τ := by
  unfold kM
  refine Prod.ext ?_ (Prod.ext ?_ ?_)
  · funext k
    show (bif scrIM k then 0 else τ'.1 k) = (bif scrIM k then 0 else τ.1 k)
    cases q : scrIM k
    · exact h1 k q
    · rfl
  · funext a
    show (bif scrAM a then (fun _ => 0) else τ'.2.1 a) = (bif scrAM a then (fun _ => 0) else τ.2.1 a)
    cases q : scrAM a
    · exact h2 a q
    · rfl
  · funext a
    show (bif a == 40 then (fun _ => 0) else τ'.2.2 a) = (bif a == 40 then (fun _ => 0) else τ.2.2 a)
    by_cases q : a = 40
    · rw [q]; rfl
    · rw [show (a == 40) = false from beq_eq_false_iff_ne.mpr q]; exact h3 a q
theorem ewC_k {e : Ew} {σ σ' : St} (h : kC σ' = kC σ) (hC : ewC e σ) : ewC e σ' := by
  obtain ⟨c1, c2, c3, c4, c5, c6, c7⟩ := hC
  have i := fun k hk => kC_i h k hk
  have a := fun k hk => kC_a h k hk
  exact ⟨by rw [i 103 rfl]; exact c1, by rw [a 2 rfl]; exact c2, by rw [a 2 rfl]; exact c3, by rw [a 4 rfl]; exact c4, c5, by rw [i 2103 rfl]; exact c6, by rw [a 22 rfl]; exact c7⟩
theorem ewM_k {e : Ew} {τ τ' : St} (h : kM τ' = kM τ) (hM : ewM e τ) : ewM e τ' := by
  obtain ⟨c1, c2, c3, c4, c5⟩ := hM
  have i := fun k hk => kM_i h k hk
  have a := fun k hk => kM_a h k hk
  refine ⟨by rw [i 1 rfl]; exact c1, fun t k ht hk => ?_, fun k hk => ?_, by rw [a 29 rfl]; exact c4, ?_⟩
  · rw [a (k + 1) (by simp only [scrAM, Bool.and_eq_false_iff, decide_eq_false_iff_not]; omega)]; exact c2 t k ht hk
  · rw [i (10 + k) (by simp only [scrIM, Bool.or_eq_false_iff, Bool.and_eq_false_iff, beq_eq_false_iff_ne, decide_eq_false_iff_not]; omega)]; exact c3 k hk
  · unfold lawM at *
    rw [i 33 rfl, a 14 rfl, a 15 rfl, a 16 rfl, a 17 rfl, a 18 rfl]; exact c5
def samD (σ σ' : St) : Prop := (∀ k, k ≠ 2104 → σ'.1 k = σ.1 k) ∧ (∀ a, a ≠ 23 → a ≠ 24 → σ'.2.1 a = σ.2.1 a) ∧ σ'.2.2 = σ.2.2
theorem samD_rf (σ : St) : samD σ σ := ⟨fun _ _ => rfl, fun _ _ _ => rfl, rfl⟩
theorem samD_kC {σ σ' : St} (h : samD σ σ') : kC σ' = kC σ := by
  refine kC_of (fun k hk => h.1 k ?_) (fun a ha => h.2.1 a ?_ ?_) h.2.2
  · rintro rfl; exact absurd hk (by decide)
  · rintro rfl; exact absurd ha (by decide)
  · rintro rfl; exact absurd ha (by decide)
def samG (τ τ' : St) : Prop := τ'.1 = τ.1 ∧ (∀ a, a ≠ 19 → a ≠ 20 → τ'.2.1 a = τ.2.1 a) ∧ τ'.2.2 = τ.2.2
theorem samG_rf (τ : St) : samG τ τ := ⟨rfl, fun _ _ _ => rfl, rfl⟩
theorem samG_kM {τ τ' : St} (h : samG τ τ') : kM τ' = kM τ := by
  refine kM_of (fun k _ => by rw [h.1]) (fun a ha => h.2.1 a ?_ ?_) (fun a _ => by rw [h.2.2])
  · rintro rfl; exact absurd ha (by decide)
  · rintro rfl; exact absurd ha (by decide)
theorem clip_N (x : Int32) : ∃ j, j ≤ 99 ∧ clip x = nI j := by
  unfold clip imax imin
  by_cases hx : x < 99
  · rw [if_pos hx]
    by_cases h0 : (0 : Int32) < x
    · rw [if_pos h0]
      obtain ⟨j, hj, rfl⟩ := nI_of (x := x) (fun q => by rw [it] at q h0; omega)
      have := (nI_ltI hj (by decide)).mp (show nI j < nI 99 from hx)
      exact ⟨j, by omega, rfl⟩
    · rw [if_neg h0]; exact ⟨0, by omega, rfl⟩
  · rw [if_neg hx, if_pos (by decide)]; exact ⟨99, by omega, rfl⟩
theorem clip_id {j : Nat} (h : j ≤ 99) : clip (nI j) = nI j := by
  unfold clip imax imin
  by_cases hx : j < 99
  · rw [if_pos (show nI j < (99 : Int32) from nI_lt (b := 99) hx (by decide))]
    by_cases h0 : 0 < j
    · rw [if_pos (show (0 : Int32) < nI j from nI_lt (a := 0) h0 (by omega))]
    · obtain rfl : j = 0 := by omega
      rfl
  · obtain rfl : j = 99 := by omega
    rfl
theorem dyeS_N (L : LawT) {v w h : Nat} (hv : v ≤ 9) (hw : w ≤ 200) (hh : h ≤ 9) (c s b : Int32) : ∃ j, j ≤ 99 ∧ dyeS L (nI v) (nI w) (nI h) c s b = nI j := by
  unfold dyeS
  by_cases hL : L = []
  · rw [if_pos hL]
    by_cases hq : v ≤ w
    · rw [if_pos (nI_le hq (by omega))]; exact ⟨0, by omega, rfl⟩
    · rw [if_neg (nI_ge (by omega) (by omega)), pk_sub (by omega), pk_mul]
      have hm : (v - w) * h ≤ 9 * 9 := Nat.mul_le_mul (by omega) hh
      exact ⟨(v - w) * h / 3, by omega, pk_div (a := (v - w) * h) (d := 3) (by omega) (by decide) (by decide)⟩
  · rw [if_neg hL]; exact clip_N _
def dN (e : Ew) (t v w h : Nat) : Nat := (dyeS e.2.2.2.2 (nI v) (nI w) (nI h) (nI (e.2.1 t 0)) (nI (e.2.1 t 4)) (nI (e.2.1 t 3))).toNatClampNeg
theorem dN_eq (e : Ew) {t v w h : Nat} (hv : v ≤ 9) (hw : w ≤ 200) (hh : h ≤ 9) : dyeS e.2.2.2.2 (nI v) (nI w) (nI h) (nI (e.2.1 t 0)) (nI (e.2.1 t 4)) (nI (e.2.1 t 3)) = nI (dN e t v w h) ∧ dN e t v w h ≤ 99 := by
  obtain ⟨j, hj, h1⟩ := dyeS_N e.2.2.2.2 hv hw hh (nI (e.2.1 t 0)) (nI (e.2.1 t 4)) (nI (e.2.1 t 3))
  unfold dN
  rw [h1, nIt (by omega)]
  exact ⟨rfl, hj⟩
theorem name_C (σ : St) (r n h c s b : Int32) : ∃ σ1, f_Law_name σ r n h c s b = some σ1 ∧ (∀ k, k < 6 → σ1.2.1 24 k = nmF r n h c s b k) ∧ σ1.1 = σ.1 ∧ (∀ a, a ≠ 24 → σ1.2.1 a = σ.2.1 a) ∧ σ1.2.2 = σ.2.2 := by
  refine ⟨_, rfl, fun k hk => ?_, rfl, fun a ha => ?_, rfl⟩
  · match k, hk with
    | 0, _ => rfl
    | 1, _ => rfl
    | 2, _ => rfl
    | 3, _ => rfl
    | 4, _ => rfl
    | 5, _ => rfl
  · simp only [upA_2, if_neg ha]
theorem lflC_pos {L : LawT} (h : ¬ L = []) : 0 < (lflC L).length := by
  cases L with
  | nil => exact absurd rfl h
  | cons x r =>
    show 0 < (tst x ++ x.2 ++ (if x.1.isSome then -63 else -59) :: lflC r).length
    rw [List.length_append, List.length_cons]; omega
theorem imax_sub {a b : Nat} (ha : a < 2 ^ 30) (hb : b < 2 ^ 30) : imax 0 (nI a - nI b) = nI (a - b) := by
  unfold imax
  by_cases h : a ≤ b
  · rw [if_neg (by rw [it, pk_sub_toInt ha hb]; have z0 : (0 : Int32).toInt = 0 := rfl; omega), show a - b = 0 by omega]; rfl
  · rw [if_pos (by rw [it, pk_sub_toInt ha hb]; have z0 : (0 : Int32).toInt = 0 := rfl; omega), pk_sub (by omega)]
theorem dyeIf_C {e : Ew} {σ : St} (hB : ewB e) (hC : ewC e σ) {t v w h : Nat} (ht : t < e.1) (hv : v ≤ 9) (hw : w ≤ 200) (hh : h ≤ 9) : ∃ σ', f_Tub_dyeIf σ (nI t) (nI v) (nI w) (nI h) = some (nI (dN e t v w h), σ') ∧ samD σ σ' := by
  have key := (dN_eq e (t := t) hv hw hh).1
  obtain ⟨n, T, H, G, L⟩ := e
  obtain ⟨b1, b2', b3, b4⟩ := hB
  obtain ⟨c1, c2, c3, c4, c5, c6, c7⟩ := hC
  simp only at b1 b4 c2 c5 c6 c7 key ht
  have ht10 : t < 10 := by omega
  unfold f_Tub_dyeIf f_Law_isTold
  rw [c6]
  by_cases hL : L = []
  · subst hL
    rw [if_pos (show nI (lflC []).length ≤ 0 by decide)]
    simp only [bind_s, if_true]
    refine ⟨σ, ?_, samD_rf σ⟩
    rw [← key, imax_sub (by omega) (by omega)]
    congr 2
    unfold dyeS
    rw [if_pos rfl]
    by_cases hq : v ≤ w
    · rw [if_pos (nI_le hq (by omega)), show v - w = 0 by omega, pk_mul, Nat.zero_mul]; rfl
    · rw [if_neg (nI_ge (by omega) (by omega)), pk_sub (by omega)]
  · rw [if_neg (show ¬ nI (lflC L).length ≤ 0 from nI_nle (lflC_pos hL) (by omega))]
    have q0 : f_Basket_told σ (nI t) 0 = some (nI (T t 0)) := by rw [← c2 t 0 ht (by decide)]; exact told_C σ (k := 0) ht10 (by decide)
    have q4 : f_Basket_told σ (nI t) 4 = some (nI (T t 4)) := by rw [← c2 t 4 ht (by decide)]; exact told_C σ (k := 4) ht10 (by decide)
    have q3 : f_Basket_told σ (nI t) 3 = some (nI (T t 3)) := by rw [← c2 t 3 ht (by decide)]; exact told_C σ (k := 3) ht10 (by decide)
    obtain ⟨σ1, n1, n2, n3, n4, n5⟩ := name_C σ (nI v) (nI w) (nI h) (nI (T t 0)) (nI (T t 4)) (nI (T t 3))
    simp only [bind_s, i10, if_false, q0, q4, q3, n1]
    obtain ⟨σ', s1, s2⟩ := worth_C (nm := nmF (nI v) (nI w) (nI h) (nI (T t 0)) (nI (T t 4)) (nI (T t 3))) (len := (lflC L).length) c5 L 0 (upI σ1 2104 0) b4
      (fun q hq => by rw [upI_2, n4 22 (by decide), Nat.zero_add]; exact c7 q hq)
      (by rw [upI_1, if_neg (by decide), n3]; exact c6) (Nat.zero_add _) ⟨rfl, fun q hq => absurd hq (Nat.not_lt_zero q)⟩
      (fun k hk => by rw [upI_2]; exact n2 k hk)
    have hf : f_Law_worth σ1 = some (evalLaw (nmF (nI v) (nI w) (nI h) (nI (T t 0)) (nI (T t 4)) (nI (T t 3))) L, σ') := s2 FU (by show _ < 1000; omega)
    rw [hf, bd2_s]
    refine ⟨σ', ?_, fun k hk => ?_, fun a h1 h2 => ?_, ?_⟩
    · rw [← key]
      unfold dyeS
      rw [if_neg hL]
      rfl
    · rw [s1.1 k hk, upI_1, if_neg hk, n3]
    · rw [s1.2.1 a h1, upI_2, n4 a h2]
    · rw [s1.2.2, upI_2, n5]
theorem g104 (τ : St) (x : Int32) : f_M_givesBy_104 τ x = some (clip x, τ) := by
  rw [← clip_eq x]
  unfold f_M_givesBy_104
  split
  · split <;> rfl
  · rfl
theorem facts_M (τ : St) (r n h c s b : Int32) : (∀ k, k < 6 → (upA (upA (upA (upA (upA (upA τ 19 ((0 : Int32).toNatClampNeg) r) 19 ((1 : Int32).toNatClampNeg) n) 19 ((2 : Int32).toNatClampNeg) h) 19 ((3 : Int32).toNatClampNeg) c) 19 ((4 : Int32).toNatClampNeg) s) 19 ((5 : Int32).toNatClampNeg) b).2.1 19 k = nmF r n h c s b k) ∧ samG τ (upA (upA (upA (upA (upA (upA τ 19 ((0 : Int32).toNatClampNeg) r) 19 ((1 : Int32).toNatClampNeg) n) 19 ((2 : Int32).toNatClampNeg) h) 19 ((3 : Int32).toNatClampNeg) c) 19 ((4 : Int32).toNatClampNeg) s) 19 ((5 : Int32).toNatClampNeg) b) := by
  refine ⟨fun k hk => ?_, rfl, fun a ha _ => ?_, rfl⟩
  · match k, hk with
    | 0, _ => rfl
    | 1, _ => rfl
    | 2, _ => rfl
    | 3, _ => rfl
    | 4, _ => rfl
    | 5, _ => rfl
  · simp only [upA_2, if_neg ha]
theorem givesBy_M {e : Ew} {τ : St} (hB : ewB e) (hM : ewM e τ) {t w h : Nat} (ht : t < e.1) (hw : w ≤ 200) (hh : h ≤ 9) : ∃ τ', f_M_givesBy τ (nI t) (nI w) (nI h) = some (nI (dN e t (e.2.1 t 1) w h), τ') ∧ samG τ τ' := by
  have hv : e.2.1 t 1 ≤ 9 := (hB.2.1 t 1 ht (by decide)).2
  have key := dN_eq e (t := t) hv hw hh
  obtain ⟨n, T, H, G, L⟩ := e
  obtain ⟨b1, b2', b3, b4⟩ := hB
  obtain ⟨c1, c2, c3, c4, c5⟩ := hM
  simp only at b1 b4 c2 c5 key ht hv
  have ht10 : t < 10 := by omega
  have i10t : inb (nI t) 10 = true := inb_nI ht10 (by decide)
  have ct : (nI t).toNatClampNeg = t := nIt (by omega)
  have f0 : τ.2.1 1 t = nI (T t 0) := c2 t 0 ht (by decide)
  have f1 : τ.2.1 2 t = nI (T t 1) := c2 t 1 ht (by decide)
  have f3 : τ.2.1 4 t = nI (T t 3) := c2 t 3 ht (by decide)
  have f4 : τ.2.1 5 t = nI (T t 4) := c2 t 4 ht (by decide)
  unfold f_M_givesBy f_M_givesBy_26
  simp only [i10t, cond_true, ct, f0, f1, f3, f4]
  rcases c5 with ⟨hL, h33⟩ | ⟨hL, h33, m⟩
  · subst hL
    simp only [h33, if_true, g104]
    refine ⟨τ, ?_, samG_rf τ⟩
    have : (if nI (T t 1) ≤ nI w then some (clip 0, τ) else some (clip ((nI (T t 1) - nI w) * nI h / 3), τ)) = some (clip (dyeS [] (nI (T t 1)) (nI w) (nI h) (nI (T t 0)) (nI (T t 4)) (nI (T t 3))), τ) := by
      unfold dyeS
      rw [if_pos rfl]
      by_cases hq : nI (T t 1) ≤ nI w
      · rw [if_pos hq, if_pos hq]
      · rw [if_neg hq, if_neg hq]
    rw [this, key.1, clip_id key.2]
  · simp only [h33, i10, if_false]
    obtain ⟨x1, x2⟩ := facts_M τ (nI (T t 1)) (nI w) (nI h) (nI (T t 0)) (nI (T t 4)) (nI (T t 3))
    generalize upA (upA (upA (upA (upA (upA τ 19 ((0 : Int32).toNatClampNeg) (nI (T t 1))) 19 ((1 : Int32).toNatClampNeg) (nI w)) 19 ((2 : Int32).toNatClampNeg) (nI h)) 19 ((3 : Int32).toNatClampNeg) (nI (T t 0))) 19 ((4 : Int32).toNatClampNeg) (nI (T t 4))) 19 ((5 : Int32).toNatClampNeg) (nI (T t 3)) = τ1 at x1 x2
    have m1 : lawM τ1 L := by
      unfold lawM at *
      rw [x2.2.1 14 (by decide) (by decide), x2.2.1 15 (by decide) (by decide), x2.2.1 16 (by decide) (by decide), x2.2.1 17 (by decide) (by decide), x2.2.1 18 (by decide) (by decide)]
      exact m
    obtain ⟨τ2, y1, y2⟩ := text_M m1 b4 x1 L.length 0 τ1 (Nat.zero_add _) (samP_rf τ1) FU (by have := m.1; show _ < 1000; omega)
    have hf : f_M_givesText τ1 0 = some (evalLaw (nmF (nI (T t 1)) (nI w) (nI h) (nI (T t 0)) (nI (T t 4)) (nI (T t 3))) L, τ2) := by
      have e61 : (61 : Int32) * 0 = nI 0 := by decide
      unfold f_M_givesText
      rw [e61]
      exact y2
    rw [hf]
    simp only [bd2_s, g104, ite_self]
    refine ⟨τ2, ?_, y1.1.trans x2.1, fun a h1 h2 => by rw [y1.2.1 a h2, x2.2.1 a h1 h2], y1.2.2.trans x2.2.2⟩
    rw [← key.1]
    unfold dyeS
    rw [if_neg hL]
