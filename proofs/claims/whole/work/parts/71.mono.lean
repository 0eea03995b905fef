/-! more things in a run: nothing gets better by them -/
theorem noB_sub {b b' : Nat} {p : Nat → Bool} : ∀ {n : Nat}, (∀ u, u < n → bt b u = true → bt b' u = true) → noB n b' p = true → noB n b p = true
  | 0, _, _ => rfl
  | n + 1, h, h2 => by
    rw [noB_s] at h2 ⊢
    rw [Bool.and_eq_true] at h2
    rw [noB_sub (fun u hu => h u (by omega)) h2.1, Bool.true_and]
    cases q : bt b n
    · rfl
    · rw [h n (by omega) q] at h2; exact h2.2
theorem noB_imp {b : Nat} {p p' : Nat → Bool} : ∀ {n : Nat}, (∀ u, u < n → p u = true → p' u = true) → noB n b p' = true → noB n b p = true
  | 0, _, _ => rfl
  | n + 1, h, h2 => by
    rw [noB_s] at h2 ⊢
    rw [Bool.and_eq_true] at h2
    rw [noB_imp (fun u hu => h u (by omega)) h2.1, Bool.true_and]
    cases q : bt b n
    · rfl
    · cases q2 : p n
      · rfl
      · rw [q, h n (by omega) q2] at h2; exact h2.2
theorem sumB_sub {b b' : Nat} {f f' : Nat → Nat} : ∀ {n : Nat}, (∀ u, u < n → bt b u = true → bt b' u = true) → (∀ u, u < n → f u ≤ f' u) → sumB n b f ≤ sumB n b' f'
  | 0, _, _ => Nat.le_refl _
  | n + 1, h, h2 => by
    rw [sumB_s, sumB_s]
    have ih := sumB_sub (b := b) (b' := b') (f := f) (f' := f') (n := n) (fun u hu => h u (by omega)) (fun u hu => h2 u (by omega))
    have := h2 n (by omega)
    by_cases q : bt b n = true
    · rw [if_pos q, if_pos (h n (by omega) q)]; omega
    · rw [if_neg q]; split <;> omega
theorem orI_no {b : Nat} {p : Nat → Bool} : ∀ {n : Nat}, noB n b p = true → orI n b p = 0
  | 0, _ => rfl
  | n + 1, h => by
    rw [noB_s, Bool.and_eq_true] at h
    rw [orI_s, orI_no h.1]
    cases q : (bt b n && p n)
    · rfl
    · rw [q] at h; exact absurd h.2 (by decide)
theorem orI_yes {b : Nat} {p : Nat → Bool} : ∀ {n : Nat}, n ≤ 10 → noB n b p = false → ∃ c, 0 < c ∧ c < 2 ^ n ∧ orI n b p = nI c
  | 0, _, h => by cases h
  | n + 1, hn, h => by
    have h2 : (2 : Nat) ^ n ≤ 2 ^ 9 := Nat.pow_le_pow_right (by decide) (by omega)
    rw [noB_s] at h
    rw [orI_s]
    cases q : (bt b n && p n)
    · rw [q] at h
      have h3 : noB n b p = false := by cases z : noB n b p; rfl; rw [z] at h; cases h
      obtain ⟨c, c1, c2, c3⟩ := orI_yes (n := n) (by omega) h3
      refine ⟨c, c1, by rw [Nat.pow_succ]; omega, ?_⟩
      rw [if_neg (by decide)]; exact c3
    · obtain ⟨c, c1, c2⟩ := orI_nI (b := b) (p := p) (n := n) (by omega)
      rw [if_pos rfl, c2, shl1_nI (by omega), or_nI (by omega) (by omega)]
      refine ⟨c ||| 2 ^ n, ?_, Nat.or_lt_two_pow (by rw [Nat.pow_succ]; omega) (by rw [Nat.pow_succ]; omega), rfl⟩
      have h1 : (2 : Nat) ^ n ≤ c ||| 2 ^ n := Nat.right_le_or
      have := Nat.two_pow_pos n
      omega
theorem orI_0 {b n : Nat} {p : Nat → Bool} (hn : n ≤ 10) : orI n b p = 0 ↔ noB n b p = true := by
  constructor
  · intro h
    cases q : noB n b p
    · obtain ⟨c, c1, c2, c3⟩ := orI_yes hn q
      have h2 : (2 : Nat) ^ n ≤ 2 ^ 10 := Nat.pow_le_pow_right (by decide) hn
      rw [c3] at h
      exact absurd h (nI_ne0 c1 (by omega))
    · rfl
  · exact orI_no
def subN (n b b' : Nat) : Prop := ∀ u, u < n → bt b u = true → bt b' u = true
theorem go_sub {e : Ew} {b b' : Nat} (h : subN e.1 b b') (hg : goN e b' = true) : goN e b = true := by
  unfold goN at *
  rw [Bool.and_eq_true, decide_eq_true_eq] at *
  exact ⟨noB_sub h hg.1, Nat.le_trans (sumB_sub h (fun _ _ => Nat.le_refl _)) hg.2⟩
theorem sp_sub {e : Ew} {hh b b' : Nat} (hB : ewB e) (h : subN e.1 b b') (hg : spN e hh b' = 0) : spN e hh b = 0 := by
  unfold spN at *
  rw [orI_0 hB.1] at *
  exact noB_sub h hg
theorem tN_mono {c d d' : Nat} (h : d ≤ d') : tN c d ≤ tN c d' := by
  unfold tN
  split
  · exact h
  · split
    · omega
    · split <;> omega
theorem ls_sub {e : Ew} {gv : Nat → Nat} {b b' off : Nat} (h : subN e.1 b b') : lsN e gv b off ≤ lsN e gv b' off := by
  unfold lsN
  have := sumB_sub (f := gv) (f' := gv) h (fun _ _ => Nat.le_refl _)
  omega
theorem al_sub {e : Ew} {gv : Nat → Nat} {b b' : Nat} (h : subN e.1 b b') : alN e gv b (lsN e gv b 0) ≤ alN e gv b' (lsN e gv b' 0) := by
  unfold alN
  refine sumB_sub h (fun u hu => tN_mono ?_)
  have := ls_sub (gv := gv) (off := 0) h
  omega
theorem sf_sub {e : Ew} {gv : Nat → Nat} {hh b b' most : Nat} (hB : ewB e) (h : subN e.1 b b') (hs : sfN e gv hh b' (lsN e gv b' 0) most = true) : sfN e gv hh b (lsN e gv b 0) most = true := by
  unfold sfN at *
  rw [Bool.and_eq_true, Bool.and_eq_true, decide_eq_true_eq] at *
  refine ⟨go_sub h hs.1, sp_sub hB h hs.2.1, noB_sub h (noB_imp (fun u hu q => ?_) hs.2.2)⟩
  rw [decide_eq_true_eq] at *
  have := tN_mono (c := e.2.1 u 0) (d := lsN e gv b 0 - gv u) (d' := lsN e gv b' 0 - gv u) (by have := ls_sub (gv := gv) (off := 0) h; omega)
  omega
theorem sub_or (n b t : Nat) : subN n b (b ||| 2 ^ t) := fun u _ q => by rw [bt_or, q]; rfl
/-- the set of the things at places (bits) -/
def thN (c : Nat → Nat) (x : Nat) : Nat → Nat
  | 0 => 0
  | k + 1 => thN c x k ||| (if bt x k = true then 2 ^ c k else 0)
theorem th_s (c : Nat → Nat) (x k : Nat) : thN c x (k + 1) = thN c x k ||| (if bt x k = true then 2 ^ c k else 0) := rfl
theorem th_lt {n : Nat} {c : Nat → Nat} {x : Nat} : ∀ {k : Nat}, (∀ i, i < k → c i < n) → thN c x k < 2 ^ n
  | 0, _ => Nat.two_pow_pos _
  | k + 1, h => by
    rw [th_s]
    refine Nat.or_lt_two_pow (th_lt (fun i hi => h i (by omega))) ?_
    split
    · exact Nat.pow_lt_pow_right (by decide) (h k (by omega))
    · exact Nat.two_pow_pos _
theorem th_0 (c : Nat → Nat) : ∀ k, thN c 0 k = 0
  | 0 => rfl
  | k + 1 => by rw [th_s, th_0 c k, bt_0, if_neg (by decide)]; rfl
theorem th_or {c : Nat → Nat} {x a : Nat} (hx : bt x a = false) : ∀ {k : Nat}, thN c (x ||| 2 ^ a) k = if a < k then thN c x k ||| 2 ^ c a else thN c x k
  | 0 => by rw [if_neg (Nat.not_lt_zero a)]; rfl
  | k + 1 => by
    rw [th_s, th_s, th_or hx (k := k), bt_or]
    by_cases q : a = k
    · subst q
      rw [decide_eq_true rfl, Bool.or_true, if_pos rfl, if_neg (Nat.lt_irrefl a), if_pos (Nat.lt_succ_self a), hx, if_neg (by decide), Nat.or_zero]
    · rw [decide_eq_false q, Bool.or_false]
      by_cases q2 : a < k
      · rw [if_pos q2, if_pos (show a < k + 1 by omega), Nat.or_assoc, Nat.or_assoc, Nat.or_comm (2 ^ c a)]
      · rw [if_neg q2, if_neg (show ¬ a < k + 1 by omega)]
theorem bt_lt {x a : Nat} (h : x < 2 ^ a) : bt x a = false := bt_hi h (Nat.le_refl a)
