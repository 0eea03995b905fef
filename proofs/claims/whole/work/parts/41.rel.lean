/-! the relation between the class's state σ and the reference's state τ -/
def okV (k : Nat) (v : Int32) : Prop := tb_LEAST k ≤ v ∧ v ≤ tb_MOST k
def relT (n : Nat) (σ τ : St) : Prop := n ≤ 10 ∧ σ.1 103 = nI n ∧ τ.1 1 = nI n ∧
  (∀ t k, t < n → k < 8 → σ.2.1 2 (8 * t + k) = τ.2.1 (k + 1) t ∧ okV k (τ.2.1 (k + 1) t)) ∧
  (∀ k, k < 4 → σ.2.1 2 (80 + k) = τ.1 (10 + k) ∧ okV (8 + k) (τ.1 (10 + k)))
def relG (n : Nat) (σ τ : St) : Prop := (∀ t, t < n → σ.2.1 3 t = τ.2.1 28 t ∧ σ.2.1 4 t = τ.2.1 29 t ∧ (τ.2.1 29 t = 0 ∨ τ.2.1 29 t = 1)) ∧ (∀ t, n ≤ t → t < 10 → σ.2.1 3 t = 0 ∧ σ.2.1 4 t = 0)
def chOK (n : Nat) (s k9 k10 v7 v8 v11 v12 : Int32) : Prop := ∃ k a : Nat, k9 = nI k ∧ k10 = nI a ∧ ((k < 8 ∧ a < n ∧ s = nI (8 * a + k)) ∨ (8 ≤ k ∧ k < 12 ∧ a = 0 ∧ s = nI (72 + k))) ∧ v7 = v11 ∧ v8 = v12 ∧ okV k v11 ∧ okV k v12
def relCh (n : Nat) (σ τ : St) : Prop := ∃ dn un : Nat, dn + un ≤ 40 ∧ σ.1 503 = nI dn ∧ τ.1 14 = nI dn ∧ σ.1 504 = nI un ∧ τ.1 15 = nI un ∧
  ∀ i, i < dn + un → chOK n (σ.2.1 6 i) (τ.2.1 9 i) (τ.2.1 10 i) (σ.2.1 7 i) (σ.2.1 8 i) (τ.2.1 11 i) (τ.2.1 12 i)
def relTp (σ τ : St) : Prop := ∃ L : Nat, L ≤ 120 ∧ σ.1 3503 = nI L ∧ τ.1 21 = nI L ∧ ∀ i, i < L → ∃ b : Nat, b < 256 ∧ σ.2.1 36 i = nI b ∧ τ.2.1 13 i = (nI b).toInt8.toInt32
def cnt (f : Nat → Int32) : Nat → Nat
  | 0 => 0
  | n + 1 => cnt f n + (if f n = 1 then 1 else 0)
def relD (n : Nat) (σ τ : St) : Prop := (∀ k, k < 4 → σ.2.1 10 k = τ.2.1 30 k) ∧ τ.2.1 30 4 = nI (cnt (τ.2.1 29) n) ∧
  ((σ.1 906 = -1 ∧ τ.1 48 = 0) ∨ (τ.1 48 = 1 ∧ ∃ kn : Nat, kn ≤ n ∧ σ.1 906 = nI kn ∧ τ.1 49 = nI kn ∧
    (∀ t, t < kn → σ.2.1 12 t = τ.2.1 31 t ∧ okV 2 (τ.2.1 31 t) ∧ σ.2.1 13 t = τ.2.1 32 t ∧ σ.2.1 14 t = τ.2.1 33 t ∧ (τ.2.1 33 t = 0 ∨ τ.2.1 33 t = 1)) ∧
    (∀ k, k < 4 → σ.2.1 11 k = τ.2.1 34 k) ∧ τ.2.1 34 4 = nI (cnt (τ.2.1 33) kn)))
def relS (bn : Nat) (σ τ : St) : Prop := bn ≤ 50 ∧ σ.1 3202 = nI bn ∧ τ.1 54 = nI bn ∧ (∀ i, i < bn → σ.2.1 33 i = τ.2.1 35 i ∧ ∃ k : Nat, k < 8 ∧ τ.2.1 35 i = nI k) ∧
  ∃ rn : Nat, rn < 1000 ∧ σ.1 3203 = nI rn ∧ τ.1 56 = nI rn ∧ ∀ i, i < rn → i < 24 → σ.2.1 34 i = τ.2.1 36 i
def shOK (bn : Nat) (so bo le ho si : Int32) (e : Nat → Int64) (f : Nat → Int64) : Prop :=
  (so = -2 ∧ ho = -1) ∨ (so = -1 ∧ ∃ b : Nat, b < bn ∧ bo = nI b ∧ ho = nI b) ∨
  (∃ s : Nat, s < 5 ∧ so = nI s ∧ ho = -2 - nI s ∧ ∃ L : Nat, L ≤ 60 ∧ le = nI L ∧ si = nI L ∧ ∀ i, i < L → e i = f i ∧ (s ≤ 1 → ∃ x : Int32, e i = x.toInt64))
def relSh (bn : Nat) (σ τ : St) : Prop := ∀ j, j < 6 → shOK bn (σ.1 (4201 + 200 * j)) (σ.1 (4202 + 200 * j)) (σ.1 (4203 + 200 * j)) (τ.2.1 37 j) (τ.2.1 38 j) (σ.2.2 (43 + 2 * j)) (fun i => τ.2.2 39 (60 * j + i))
/-! THE LAW: lines of steps (the class's own numbers for steps) -/
abbrev LawT : Type := List (Option (List Int32) × List Int32)
def stepM (s : Int32) : Int32 × Int32 := if 0 ≤ s then (1, s) else if -6 ≤ s then (2, -1 - s) else if s = -33 then (3, 0) else if s = -126 then (4, 0) else (-s, 0)
def tst (x : Option (List Int32) × List Int32) : List Int32 := x.1.getD []
def lflC : LawT → List Int32
  | [] => []
  | x :: r => tst x ++ x.2 ++ (if x.1.isSome then -63 else -59) :: lflC r
def lflM : LawT → List Int32
  | [] => []
  | x :: r => tst x ++ x.2 ++ lflM r
def isOpS (s : Int32) : Bool := s = -124 || s = -38 || s = -60 || s = -61 || s = -62 || s = -43 || s = -45 || s = -42 || s = -47 || s = -37
/-- how many numbers lie on the stack behind the steps; none: too few, or too many -/
def dep : List Int32 → Nat → Option Nat
  | [], k => some k
  | s :: r, k => if -6 ≤ s then (if k < 60 then dep r (k + 1) else none) else if s = -33 ∨ s = -126 then (if 1 ≤ k then dep r k else none) else if isOpS s = true ∧ 2 ≤ k then dep r (k - 1) else none
def okLine (x : Option (List Int32) × List Int32) : Prop := (∀ t, x.1 = some t → dep t 0 = some 1) ∧ dep x.2 0 = some 1 ∧ dep x.2 1 = some 2
def lawM (τ : St) (L : LawT) : Prop := L.length ≤ 61 ∧ (lflM L).length ≤ 121 ∧ τ.2.1 16 0 = nI L.length ∧
  (∀ i, i < (lflM L).length → τ.2.1 14 i = (stepM ((lflM L).getD i 0)).1 ∧ τ.2.1 15 i = (stepM ((lflM L).getD i 0)).2) ∧
  ∀ l (x : Option (List Int32) × List Int32), L[l]? = some x → τ.2.1 17 l = nI ((lflM (L.take l)).length + (tst x).length) ∧ τ.2.1 18 l = nI ((lflM (L.take l)).length + (tst x).length + x.2.length)
def lawC (σ : St) (L : LawT) : Prop := (lflC L).length ≤ 121 ∧ σ.1 2103 = nI (lflC L).length ∧ ∀ i, i < (lflC L).length → σ.2.1 22 i = (lflC L).getD i 0
def relL (σ τ : St) : Prop := ∃ L : LawT, (∀ x ∈ L, okLine x) ∧ lawC σ L ∧ ((L = [] ∧ τ.1 33 = 0) ∨ (L ≠ [] ∧ τ.1 33 = 1 ∧ lawM τ L))
def Rel (σ τ : St) : Prop := ∃ n bn : Nat, relT n σ τ ∧ relG n σ τ ∧ relCh n σ τ ∧ relTp σ τ ∧ relL σ τ ∧ relD n σ τ ∧ relS bn σ τ ∧ relSh bn σ τ
/-! what is worked with and told nobody -/
def scrI (k : Nat) : Bool := (k == 2104) || (1500 ≤ k && k < 1600) || (2700 ≤ k && k < 2800) || (3504 ≤ k && k < 3600) || (3900 ≤ k && k < 4000)
def scrA (a : Nat) : Bool := (16 ≤ a && a ≤ 20) || a == 23 || a == 24 || a == 26 || (28 ≤ a && a ≤ 31) || a == 37 || a == 38 || a == 40
def kC (σ : St) : St := (fun k => bif scrI k then 0 else σ.1 k, fun a => bif scrA a then (fun _ => 0) else σ.2.1 a, σ.2.2)
def scrIM (k : Nat) : Bool := k == 0 || (22 ≤ k && k ≤ 25) || k == 37 || k == 38 || k == 42 || k == 44
def scrAM (a : Nat) : Bool := (19 ≤ a && a ≤ 27)
def kM (τ : St) : St := (fun k => bif scrIM k then 0 else τ.1 k, fun a => bif scrAM a then (fun _ => 0) else τ.2.1 a, fun a => bif a == 40 then (fun _ => 0) else τ.2.2 a)
theorem kC_i {σ σ' : St} (h : kC σ' = kC σ) (k : Nat) (hk : scrI k = false) : σ'.1 k = σ.1 k := by
  have := congrArg (fun q : St => q.1 k) h
  simp only [kC, hk, cond_false] at this
  exact this
theorem kC_a {σ σ' : St} (h : kC σ' = kC σ) (a : Nat) (ha : scrA a = false) : σ'.2.1 a = σ.2.1 a := by
  have := congrArg (fun q : St => q.2.1 a) h
  simp only [kC, ha, cond_false] at this
  exact this
theorem kC_l {σ σ' : St} (h : kC σ' = kC σ) : σ'.2.2 = σ.2.2 := by have e := congrArg (fun q : St => q.2.2) h; exact e
theorem kM_i {σ σ' : St} (h : kM σ' = kM σ) (k : Nat) (hk : scrIM k = false) : σ'.1 k = σ.1 k := by
  have := congrArg (fun q : St => q.1 k) h
  simp only [kM, hk, cond_false] at this
  exact this
theorem kM_a {σ σ' : St} (h : kM σ' = kM σ) (a : Nat) (ha : scrAM a = false) : σ'.2.1 a = σ.2.1 a := by
  have := congrArg (fun q : St => q.2.1 a) h
  simp only [kM, ha, cond_false] at this
  exact this
theorem kM_l {σ σ' : St} (h : kM σ' = kM σ) : σ'.2.2 39 = σ.2.2 39 := by have e := congrArg (fun q : St => q.2.2 39) h; exact e
theorem kC_upI {σ : St} {k : Nat} {v : Int32} (hk : scrI k = true) : kC (upI σ k v) = kC σ := by
  unfold kC upI upd
  refine Prod.ext ?_ rfl
  funext j
  show (bif scrI j then 0 else if j = k then v else σ.1 j) = (bif scrI j then 0 else σ.1 j)
  by_cases h : j = k
  · rw [h, hk]; rfl
  · rw [if_neg h]
theorem kC_stA {σ : St} {a : Nat} {f : Nat → Int32} (ha : scrA a = true) : kC (stA σ a f) = kC σ := by
  unfold kC stA
  refine Prod.ext rfl (Prod.ext ?_ rfl)
  funext j
  show (bif scrA j then (fun _ => 0) else va_up σ.2.1 a f j) = (bif scrA j then (fun _ => 0) else σ.2.1 j)
  by_cases h : j = a
  · rw [h, ha]; rfl
  · rw [va_up_ne _ _ h]
theorem kC_upA {σ : St} {a i : Nat} {v : Int32} (ha : scrA a = true) : kC (upA σ a i v) = kC σ := kC_stA (f := upd (σ.2.1 a) i v) ha
theorem kM_upI {σ : St} {k : Nat} {v : Int32} (hk : scrIM k = true) : kM (upI σ k v) = kM σ := by
  unfold kM upI upd
  refine Prod.ext ?_ rfl
  funext j
  show (bif scrIM j then 0 else if j = k then v else σ.1 j) = (bif scrIM j then 0 else σ.1 j)
  by_cases h : j = k
  · rw [h, hk]; rfl
  · rw [if_neg h]
theorem kM_stA {σ : St} {a : Nat} {f : Nat → Int32} (ha : scrAM a = true) : kM (stA σ a f) = kM σ := by
  unfold kM stA
  refine Prod.ext rfl (Prod.ext ?_ rfl)
  funext j
  show (bif scrAM j then (fun _ => 0) else va_up σ.2.1 a f j) = (bif scrAM j then (fun _ => 0) else σ.2.1 j)
  by_cases h : j = a
  · rw [h, ha]; rfl
  · rw [va_up_ne _ _ h]
theorem kM_upA {σ : St} {a i : Nat} {v : Int32} (ha : scrAM a = true) : kM (upA σ a i v) = kM σ := kM_stA (f := upd (σ.2.1 a) i v) ha
theorem Rel_C {σ σ' τ : St} (h : kC σ' = kC σ) (hr : Rel σ τ) : Rel σ' τ := by
  obtain ⟨n, bn, h1, h2, h3, h4, h5, h6, h7, h8⟩ := hr
  have i := fun k hk => kC_i h k hk
  have a := fun k hk => kC_a h k hk
  refine ⟨n, bn, ?_, ?_, ?_, ?_, ?_, ?_, ?_, ?_⟩
  · unfold relT at *; rw [i 103 rfl, a 2 rfl]; exact h1
  · unfold relG at *; rw [a 3 rfl, a 4 rfl]; exact h2
  · unfold relCh at *; rw [i 503 rfl, i 504 rfl, a 6 rfl, a 7 rfl, a 8 rfl]; exact h3
  · unfold relTp at *; rw [i 3503 rfl, a 36 rfl]; exact h4
  · unfold relL lawC at *; rw [i 2103 rfl, a 22 rfl]; exact h5
  · unfold relD at *; rw [i 906 rfl, a 10 rfl, a 11 rfl, a 12 rfl, a 13 rfl, a 14 rfl]; exact h6
  · unfold relS at *; rw [i 3202 rfl, i 3203 rfl, a 33 rfl, a 34 rfl]; exact h7
  · intro j hj
    have s : ∀ k, 4200 ≤ k → scrI k = false := fun k hk => by
      simp only [scrI, Bool.or_eq_false_iff, Bool.and_eq_false_iff, beq_eq_false_iff_ne, decide_eq_false_iff_not]
      omega
    have := h8 j hj
    rw [i (4201 + 200 * j) (s _ (by omega)), i (4202 + 200 * j) (s _ (by omega)), i (4203 + 200 * j) (s _ (by omega)), kC_l h]
    exact this
theorem Rel_M {σ τ τ' : St} (h : kM τ' = kM τ) (hr : Rel σ τ) : Rel σ τ' := by
  obtain ⟨n, bn, h1, h2, h3, h4, h5, h6, h7, h8⟩ := hr
  have i := fun k hk => kM_i h k hk
  have a := fun k hk => kM_a h k hk
  refine ⟨n, bn, ?_, ?_, ?_, ?_, ?_, ?_, ?_, ?_⟩
  · obtain ⟨g1, g2, g3, g4, g5⟩ := h1
    refine ⟨g1, g2, by rw [i 1 rfl]; exact g3, fun t k ht hk => ?_, fun k hk => ?_⟩
    · rw [a (k + 1) (by simp only [scrAM, Bool.and_eq_false_iff, decide_eq_false_iff_not]; omega)]; exact g4 t k ht hk
    · rw [i (10 + k) (by simp only [scrIM, Bool.or_eq_false_iff, Bool.and_eq_false_iff, beq_eq_false_iff_ne, decide_eq_false_iff_not]; omega)]; exact g5 k hk
  · unfold relG at *; rw [a 28 rfl, a 29 rfl]; exact h2
  · unfold relCh at *; rw [i 14 rfl, i 15 rfl, a 9 rfl, a 10 rfl, a 11 rfl, a 12 rfl]; exact h3
  · unfold relTp at *; rw [i 21 rfl, a 13 rfl]; exact h4
  · unfold relL lawM at *; rw [i 33 rfl, a 14 rfl, a 15 rfl, a 16 rfl, a 17 rfl, a 18 rfl]; exact h5
  · unfold relD at *; rw [i 48 rfl, i 49 rfl, a 29 rfl, a 30 rfl, a 31 rfl, a 32 rfl, a 33 rfl, a 34 rfl]; exact h6
  · unfold relS at *; rw [i 54 rfl, i 56 rfl, a 35 rfl, a 36 rfl]; exact h7
  · unfold relSh at *; rw [a 37 rfl, a 38 rfl, kM_l h]; exact h8
def eqT (τ τ' : St) : Prop := τ'.2.1 1 = τ.2.1 1 ∧ τ'.2.1 2 = τ.2.1 2 ∧ τ'.2.1 3 = τ.2.1 3 ∧ τ'.2.1 4 = τ.2.1 4 ∧ τ'.2.1 5 = τ.2.1 5 ∧ τ'.2.1 6 = τ.2.1 6 ∧ τ'.2.1 7 = τ.2.1 7 ∧ τ'.2.1 8 = τ.2.1 8 ∧ τ'.1 10 = τ.1 10 ∧ τ'.1 11 = τ.1 11 ∧ τ'.1 12 = τ.1 12 ∧ τ'.1 13 = τ.1 13
theorem relT_c {n : Nat} {σ τ σ' τ' : St} (h : relT n σ τ) (h1 : σ'.1 103 = σ.1 103 := by rfl) (h2 : σ'.2.1 2 = σ.2.1 2 := by rfl) (h3 : τ'.1 1 = τ.1 1 := by rfl) (h4 : eqT τ τ' := by exact ⟨rfl, rfl, rfl, rfl, rfl, rfl, rfl, rfl, rfl, rfl, rfl, rfl⟩) : relT n σ' τ' := by
  obtain ⟨g1, g2, g3, g4, g5⟩ := h
  obtain ⟨e1, e2, e3, e4, e5, e6, e7, e8, e10, e11, e12, e13⟩ := h4
  refine ⟨g1, by rw [h1]; exact g2, by rw [h3]; exact g3, fun t k ht hk => ?_, fun k hk => ?_⟩
  · have e : τ'.2.1 (k + 1) = τ.2.1 (k + 1) := by
      match k, hk with
      | 0, _ => exact e1
      | 1, _ => exact e2
      | 2, _ => exact e3
      | 3, _ => exact e4
      | 4, _ => exact e5
      | 5, _ => exact e6
      | 6, _ => exact e7
      | 7, _ => exact e8
    rw [h2, e]
    exact g4 t k ht hk
  · have e : τ'.1 (10 + k) = τ.1 (10 + k) := by
      match k, hk with
      | 0, _ => exact e10
      | 1, _ => exact e11
      | 2, _ => exact e12
      | 3, _ => exact e13
    rw [h2, e]
    exact g5 k hk
def eqSh (σ σ' : St) : Prop := σ'.1 4201 = σ.1 4201 ∧ σ'.1 4202 = σ.1 4202 ∧ σ'.1 4203 = σ.1 4203 ∧ σ'.1 4401 = σ.1 4401 ∧ σ'.1 4402 = σ.1 4402 ∧ σ'.1 4403 = σ.1 4403 ∧ σ'.1 4601 = σ.1 4601 ∧ σ'.1 4602 = σ.1 4602 ∧ σ'.1 4603 = σ.1 4603 ∧ σ'.1 4801 = σ.1 4801 ∧ σ'.1 4802 = σ.1 4802 ∧ σ'.1 4803 = σ.1 4803 ∧ σ'.1 5001 = σ.1 5001 ∧ σ'.1 5002 = σ.1 5002 ∧ σ'.1 5003 = σ.1 5003 ∧ σ'.1 5201 = σ.1 5201 ∧ σ'.1 5202 = σ.1 5202 ∧ σ'.1 5203 = σ.1 5203
theorem eqSh_k {σ σ' : St} (h : eqSh σ σ') {j : Nat} (hj : j < 6) : σ'.1 (4201 + 200 * j) = σ.1 (4201 + 200 * j) ∧ σ'.1 (4202 + 200 * j) = σ.1 (4202 + 200 * j) ∧ σ'.1 (4203 + 200 * j) = σ.1 (4203 + 200 * j) := by
  obtain ⟨e4201, e4202, e4203, e4401, e4402, e4403, e4601, e4602, e4603, e4801, e4802, e4803, e5001, e5002, e5003, e5201, e5202, e5203⟩ := h
  match j, hj with
  | 0, _ => exact ⟨e4201, e4202, e4203⟩
  | 1, _ => exact ⟨e4401, e4402, e4403⟩
  | 2, _ => exact ⟨e4601, e4602, e4603⟩
  | 3, _ => exact ⟨e4801, e4802, e4803⟩
  | 4, _ => exact ⟨e5001, e5002, e5003⟩
  | 5, _ => exact ⟨e5201, e5202, e5203⟩
theorem relSh_c {bn : Nat} {σ τ σ' τ' : St} (h : relSh bn σ τ) (h1 : eqSh σ σ' := by exact ⟨rfl, rfl, rfl, rfl, rfl, rfl, rfl, rfl, rfl, rfl, rfl, rfl, rfl, rfl, rfl, rfl, rfl, rfl⟩) (h2 : σ'.2.2 = σ.2.2 := by rfl) (h3 : τ'.2.1 37 = τ.2.1 37 := by rfl) (h4 : τ'.2.1 38 = τ.2.1 38 := by rfl) (h5 : τ'.2.2 39 = τ.2.2 39 := by rfl) : relSh bn σ' τ' := by
  intro j hj
  obtain ⟨e1, e2, e3⟩ := eqSh_k h1 hj
  rw [e1, e2, e3, h2, h3, h4, h5]
  exact h j hj
theorem relG_c {n : Nat} {σ τ σ' τ' : St} (h : relG n σ τ) (h1 : σ'.2.1 3 = σ.2.1 3 := by rfl) (h2 : σ'.2.1 4 = σ.2.1 4 := by rfl) (h3 : τ'.2.1 28 = τ.2.1 28 := by rfl) (h4 : τ'.2.1 29 = τ.2.1 29 := by rfl) : relG n σ' τ' := by
  unfold relG at *; rw [h1, h2, h3, h4]; exact h
theorem relCh_c {n : Nat} {σ τ σ' τ' : St} (h : relCh n σ τ) (h1 : σ'.1 503 = σ.1 503 := by rfl) (h2 : σ'.1 504 = σ.1 504 := by rfl) (h3 : σ'.2.1 6 = σ.2.1 6 := by rfl) (h4 : σ'.2.1 7 = σ.2.1 7 := by rfl) (h5 : σ'.2.1 8 = σ.2.1 8 := by rfl) (g1 : τ'.1 14 = τ.1 14 := by rfl) (g2 : τ'.1 15 = τ.1 15 := by rfl) (g3 : τ'.2.1 9 = τ.2.1 9 := by rfl) (g4 : τ'.2.1 10 = τ.2.1 10 := by rfl) (g5 : τ'.2.1 11 = τ.2.1 11 := by rfl) (g6 : τ'.2.1 12 = τ.2.1 12 := by rfl) : relCh n σ' τ' := by
  unfold relCh at *; rw [h1, h2, h3, h4, h5, g1, g2, g3, g4, g5, g6]; exact h
theorem relTp_c {σ τ σ' τ' : St} (h : relTp σ τ) (h1 : σ'.1 3503 = σ.1 3503 := by rfl) (h2 : σ'.2.1 36 = σ.2.1 36 := by rfl) (h3 : τ'.1 21 = τ.1 21 := by rfl) (h4 : τ'.2.1 13 = τ.2.1 13 := by rfl) : relTp σ' τ' := by
  unfold relTp at *; rw [h1, h2, h3, h4]; exact h
theorem relL_c {σ τ σ' τ' : St} (h : relL σ τ) (h1 : σ'.1 2103 = σ.1 2103 := by rfl) (h2 : σ'.2.1 22 = σ.2.1 22 := by rfl) (h3 : τ'.1 33 = τ.1 33 := by rfl) (g1 : τ'.2.1 14 = τ.2.1 14 := by rfl) (g2 : τ'.2.1 15 = τ.2.1 15 := by rfl) (g3 : τ'.2.1 16 = τ.2.1 16 := by rfl) (g4 : τ'.2.1 17 = τ.2.1 17 := by rfl) (g5 : τ'.2.1 18 = τ.2.1 18 := by rfl) : relL σ' τ' := by
  unfold relL lawC lawM at *; rw [h1, h2, h3, g1, g2, g3, g4, g5]; exact h
theorem relD_c {n : Nat} {σ τ σ' τ' : St} (h : relD n σ τ) (h1 : σ'.1 906 = σ.1 906 := by rfl) (h2 : σ'.2.1 10 = σ.2.1 10 := by rfl) (h3 : σ'.2.1 11 = σ.2.1 11 := by rfl) (h4 : σ'.2.1 12 = σ.2.1 12 := by rfl) (h5 : σ'.2.1 13 = σ.2.1 13 := by rfl) (h6 : σ'.2.1 14 = σ.2.1 14 := by rfl) (g1 : τ'.1 48 = τ.1 48 := by rfl) (g2 : τ'.1 49 = τ.1 49 := by rfl) (g3 : τ'.2.1 29 = τ.2.1 29 := by rfl) (g4 : τ'.2.1 30 = τ.2.1 30 := by rfl) (g5 : τ'.2.1 31 = τ.2.1 31 := by rfl) (g6 : τ'.2.1 32 = τ.2.1 32 := by rfl) (g7 : τ'.2.1 33 = τ.2.1 33 := by rfl) (g8 : τ'.2.1 34 = τ.2.1 34 := by rfl) : relD n σ' τ' := by
  unfold relD at *; rw [h1, h2, h3, h4, h5, h6, g1, g2, g3, g4, g5, g6, g7, g8]; exact h
theorem relS_c {bn : Nat} {σ τ σ' τ' : St} (h : relS bn σ τ) (h1 : σ'.1 3202 = σ.1 3202 := by rfl) (h2 : σ'.1 3203 = σ.1 3203 := by rfl) (h3 : σ'.2.1 33 = σ.2.1 33 := by rfl) (h4 : σ'.2.1 34 = σ.2.1 34 := by rfl) (g1 : τ'.1 54 = τ.1 54 := by rfl) (g2 : τ'.1 56 = τ.1 56 := by rfl) (g3 : τ'.2.1 35 = τ.2.1 35 := by rfl) (g4 : τ'.2.1 36 = τ.2.1 36 := by rfl) : relS bn σ' τ' := by
  unfold relS at *; rw [h1, h2, h3, h4, g1, g2, g3, g4]; exact h
/-- all parts but things and changes, where only other cells have changed -/
theorem rel_rest {n bn : Nat} {σ τ σ' τ' : St} (h2 : relG n σ τ) (h4 : relTp σ τ) (h5 : relL σ τ) (h6 : relD n σ τ) (h7 : relS bn σ τ) (h8 : relSh bn σ τ)
    (si : ∀ j, j ≠ 503 → j ≠ 504 → σ'.1 j = σ.1 j) (sl : σ'.2.2 = σ.2.2) (sa : ∀ b, b ≠ 2 → (b < 6 ∨ 8 < b) → σ'.2.1 b = σ.2.1 b)
    (ti : ∀ j, j ≠ 14 → j ≠ 15 → (j < 10 ∨ 13 < j) → τ'.1 j = τ.1 j) (tl : τ'.2.2 = τ.2.2) (ta : ∀ b, 12 < b → τ'.2.1 b = τ.2.1 b) :
    relG n σ' τ' ∧ relTp σ' τ' ∧ relL σ' τ' ∧ relD n σ' τ' ∧ relS bn σ' τ' ∧ relSh bn σ' τ' := by
  have a := fun b h1 h2 => sa b h1 h2
  have t := fun b h => ta b h
  refine ⟨relG_c h2 (sa 3 (by decide) (by decide)) (sa 4 (by decide) (by decide)) (ta 28 (by decide)) (ta 29 (by decide)),
    relTp_c h4 (si 3503 (by decide) (by decide)) (sa 36 (by decide) (by decide)) (ti 21 (by decide) (by decide) (by decide)) (ta 13 (by decide)),
    relL_c h5 (si 2103 (by decide) (by decide)) (sa 22 (by decide) (by decide)) (ti 33 (by decide) (by decide) (by decide)) (ta 14 (by decide)) (ta 15 (by decide)) (ta 16 (by decide)) (ta 17 (by decide)) (ta 18 (by decide)),
    relD_c h6 (si 906 (by decide) (by decide)) (sa 10 (by decide) (by decide)) (sa 11 (by decide) (by decide)) (sa 12 (by decide) (by decide)) (sa 13 (by decide) (by decide)) (sa 14 (by decide) (by decide)) (ti 48 (by decide) (by decide) (by decide)) (ti 49 (by decide) (by decide) (by decide)) (ta 29 (by decide)) (ta 30 (by decide)) (ta 31 (by decide)) (ta 32 (by decide)) (ta 33 (by decide)) (ta 34 (by decide)),
    relS_c h7 (si 3202 (by decide) (by decide)) (si 3203 (by decide) (by decide)) (sa 33 (by decide) (by decide)) (sa 34 (by decide) (by decide)) (ti 54 (by decide) (by decide) (by decide)) (ti 56 (by decide) (by decide) (by decide)) (ta 35 (by decide)) (ta 36 (by decide)), ?_⟩
  intro j hj
  have := h8 j hj
  rw [si (4201 + 200 * j) (by omega) (by omega), si (4202 + 200 * j) (by omega) (by omega), si (4203 + 200 * j) (by omega) (by omega), sl, tl, ta 37 (by decide), ta 38 (by decide)]
  exact this
