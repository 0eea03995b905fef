/-! an operand -/
theorem byte_g : ∀ i : Fin 256, (f_M_nameOf (lookV i.val) = some (if nmN i.val < 6 then nI (nmN i.val) else -1)) ∧ (lookV i.val = 33 ↔ i.val = 33) ∧ (lookV i.val = 45 ↔ i.val = 45) ∧ (lookV i.val = 40 ↔ i.val = 40) ∧ (lookV i.val = 41 ↔ i.val = 41) ∧ f_M_in (lookV i.val) 48 57 = some (if 48 ≤ i.val ∧ i.val ≤ 57 then 1 else 0) ∧ ((48 ≤ i.val ∧ i.val ≤ 57) → lookV i.val = nI i.val) ∧ (nmN i.val < 6 → ¬ (48 ≤ i.val ∧ i.val ≤ 57)) ∧ (lookV i.val = 59 ↔ i.val = 59) ∧ (lookV i.val = 63 ↔ i.val = 63) := by decide +kernel
theorem pop_ind : ∀ (W : List Int32) (o : Nat) (t : List Int32), ∃ t' W' o', ∀ (w : List Int32) (v : Int32), popN (w ++ v :: t) W o = (w ++ v :: t', W', o')
  | [], o, t => ⟨t, [], o, fun _ _ => rfl⟩
  | c :: W, o, t => by
    by_cases q : c = 33 ∨ c = 126
    · obtain ⟨t', W', o', h⟩ := pop_ind W (o - 1) (t ++ [-c])
      refine ⟨t', W', o', fun w v => ?_⟩
      rw [← h w v]
      show (if c = 33 ∨ c = 126 then popN (w ++ v :: t ++ [-c]) W (o - 1) else _) = _
      rw [if_pos q, List.append_assoc]; rfl
    · refine ⟨t, c :: W, o, fun w v => ?_⟩
      show (if c = 33 ∨ c = 126 then _ else (w ++ v :: t, c :: W, o)) = _
      rw [if_neg q]
theorem getD_mid (v : Int32) (t : List Int32) : ∀ w : List Int32, (w ++ v :: t).getD w.length 0 = v
  | [] => rfl
  | x :: w => getD_mid v t w
theorem set_mid (v v' : Int32) (t : List Int32) : ∀ w : List Int32, (w ++ v :: t).set w.length v' = w ++ v' :: t
  | [] => rfl
  | x :: w => by
    show x :: ((w ++ v :: t).set w.length v') = x :: (w ++ v' :: t)
    rw [set_mid v v' t w]
theorem dig_1 {c : Nat} {w W : List Int32} {o dg na : Nat} {sec : Bool} (hd : 48 ≤ c ∧ c ≤ 57) : takesN (w, W, o, true, sec, dg, na) c = some (opnN (w ++ [nI (c - 48)]) W o sec 1 w.length) := by
  unfold takesN
  rw [if_pos hd, if_pos rfl]
theorem dig_n {c i v : Nat} {w W : List Int32} {o : Nat} {sec : Bool} (hd : 48 ≤ c ∧ c ≤ 57) (h1 : 1 ≤ i) (h4 : i < 4) : takesN (opnN (w ++ [nI v]) W o sec i w.length) c = some (opnN (w ++ [nI (10 * v + (c - 48))]) W o sec (i + 1) w.length) := by
  obtain ⟨t', W', o', h⟩ := pop_ind W o []
  unfold opnN
  rw [h, h]
  unfold takesN
  rw [if_pos hd, if_neg Bool.false_ne_true]
  have hl : (w ++ nI v :: t').length = w.length + (t'.length + 1) := by rw [List.length_append, List.length_cons]
  rw [if_neg (show ¬ (i = 0 ∨ 4 ≤ i ∨ ¬ w.length < (w ++ nI v :: t').length) by rw [hl]; omega)]
  show some ((w ++ nI v :: t').set w.length ((w ++ nI v :: t').getD w.length 0 * 10 + nI (c - 48)), W', o', false, sec, i + 1, w.length) = _
  rw [set_mid, getD_mid, show nI v * 10 + nI (c - 48) = nI (10 * v + (c - 48)) by
    show nI v * nI 10 + nI (c - 48) = _
    rw [pk_mul, nI_add, Nat.mul_comm]]
theorem dig_no {c : Nat} {w W : List Int32} {o dg na : Nat} {sec : Bool} (hd : 48 ≤ c ∧ c ≤ 57) (h : dg = 0 ∨ 4 ≤ dg) : takesN (opnN w W o sec dg na) c = none := by
  unfold opnN takesN
  rw [if_pos hd, if_neg Bool.false_ne_true, if_pos (by rcases h with h | h; exact Or.inl h; exact Or.inr (Or.inl h))]
theorem okE_6 {b : Nat → Nat} {Lb q : Nat} {w W : List Int32} {o dg na : Nat} {sec : Bool} (h : dg = 0 ∨ 4 ≤ dg ∨ (q < Lb → ¬ (48 ≤ b q ∧ b q ≤ 57))) : okE b Lb q 6 (opnN w W o sec dg na) := by
  intro hq
  rintro (hd | hr)
  · rcases h with h | h | h
    · exact dig_no hd (Or.inl h)
    · exact dig_no hd (Or.inr h)
    · exact absurd hd (h hq)
  · have := rk_le (nI (b q)); omega
theorem step_v {v : Nat} (h : v < 100000) : stepM (nI v) = (1, nI v) ∧ (-6 : Int32) ≤ nI v := by
  have h0 : (0 : Int32) ≤ nI v := nI_0le (by omega)
  refine ⟨if_pos h0, ?_⟩
  exact Int32.le_trans (by decide) h0
theorem dep_1 {x : Int32} (h : (-6 : Int32) ≤ x) {c : Nat} (hc : 1 ≤ c) : dpOK [x] c := by
  intro j hj
  rw [dep_c, if_pos h, if_pos (by omega)]; rfl
theorem wrong_M {τ : St} (h : τ.1 23 = -1) : f_M_wrong τ = some (upI τ 23 (τ.1 22)) := by
  unfold f_M_wrong
  rw [h, if_neg (by decide)]
/-- what no operand begins with -/
theorem no_opn {c : Nat} {w W : List Int32} {o dg na : Nat} {sec : Bool} (h1 : ¬ (48 ≤ c ∧ c ≤ 57)) (h2 : ¬ nmN c < 6) (h3 : (c = 40 ∨ c = 33 ∨ c = 45) → 6 ≤ o) : takesN (w, W, o, true, sec, dg, na) c = none := by
  unfold takesN
  rw [if_neg h1, if_pos rfl, if_neg h2]
  by_cases q : c = 40 ∨ c = 33 ∨ c = 45
  · rw [if_pos q, if_pos (h3 q)]
  · rw [if_neg q]
theorem inL {b : Nat → Nat} {Lb p : Nat} (hb : ∀ i, i < Lb → b i < 256) : f_M_in (lkN b Lb p) 48 57 = some (if p < Lb ∧ 48 ≤ b p ∧ b p ≤ 57 then 1 else 0) := by
  unfold lkN
  by_cases q : p < Lb
  · rw [if_pos q]
    have := (byte_g ⟨b p, hb p q⟩).2.2.2.2.2.1
    have e : f_M_in (lookV (b p)) 48 57 = some (if 48 ≤ b p ∧ b p ≤ 57 then 1 else 0) := this
    rw [e]
    by_cases q2 : 48 ≤ b p ∧ b p ≤ 57
    · rw [if_pos q2, if_pos ⟨q, q2⟩]
    · rw [if_neg q2, if_neg (fun z => q2 z.2)]
  · rw [if_neg q, if_neg (fun z => q z.1)]; decide
/-- a figure, its first digit read -/
theorem fig_l {b : Nat → Nat} {Lb o p : Nat} {m w W : List Int32} {sec : Bool} {dg0 na0 : Nat} (hm : m.length ≤ p) : ∀ (k i v : Nat) (τ : St), 4 - i ≤ k → 1 ≤ i → i ≤ 4 → v < 10 ^ i → p + i ≤ Lb → τ.1 22 = nI (p + i) → τ.1 23 = -1 → τ.1 24 = nI o → tpM b Lb τ → stM m τ → runN b i p (w, W, o, true, sec, dg0, na0) = some (opnN (w ++ [nI v]) W o sec i w.length) → ∀ fuel, k < fuel → ∃ τ', f_M_figure_4 fuel τ (nI v) (nI i) = some τ' ∧ frR τ τ' ∧ (OkR b Lb o 6 p m w W sec (w, W, o, true, sec, dg0, na0) τ' ∨ BadR b Lb p m (w, W, o, true, sec, dg0, na0) τ') := by
  have fin : ∀ (i v : Nat) (τ : St), 1 ≤ i → i ≤ 4 → v < 10 ^ i → p + i ≤ Lb → τ.1 22 = nI (p + i) → τ.1 23 = -1 → τ.1 24 = nI o → tpM b Lb τ → stM m τ → runN b i p (w, W, o, true, sec, dg0, na0) = some (opnN (w ++ [nI v]) W o sec i w.length) → (i = 4 ∨ ¬ (p + i < Lb ∧ 48 ≤ b (p + i) ∧ b (p + i) ≤ 57)) → ∃ τ', f_M_figure_52 τ (nI v) (nI i) = some τ' ∧ frR τ τ' ∧ (OkR b Lb o 6 p m w W sec (w, W, o, true, sec, dg0, na0) τ' ∨ BadR b Lb p m (w, W, o, true, sec, dg0, na0) τ') := by
    intro i v τ h1 h4 hv hp t22 t23 t24 ht hst hrun hor
    have hLb := ht.2.1
    have hv5 : v < 100000 := Nat.lt_of_lt_of_le hv (Nat.le_trans (Nat.pow_le_pow_right (by decide) h4) (by decide))
    obtain ⟨sv1, sv2⟩ := step_v hv5
    have bs : ∀ x : Option St, (x.bind fun s => some s) = x := by intro x; cases x <;> rfl
    unfold f_M_figure_52
    rw [if_neg (nI_ne0 (by omega) (by omega)), look_M ht t22 hp, bind_s, inL (fun i hi => (ht.2.2 i hi).2), bind_s]
    by_cases qd : p + i < Lb ∧ 48 ≤ b (p + i) ∧ b (p + i) ≤ 57
    · have i4 : i = 4 := hor.resolve_right (fun z => z qd)
      rw [if_pos qd, if_neg i10]
      unfold f_M_figure_70
      rw [wrong_M t23, bind_s, bs]
      obtain ⟨τ1, a1, a2, a3, a4, a5⟩ := add_bad (τ := upI τ 23 (τ.1 22)) (l := m.length) (a1 := 1) (a2 := nI v) (by rw [upI_1, if_neg (by decide)]; exact hst.1) (by omega)
      refine ⟨τ1, a1, frR_tr (frR_I (by omega)) a3, Or.inr ⟨p + i, p + i, m.length + 1, _, by omega, hp, hp, by rw [a4, upI_1, if_neg (by decide)]; exact t22, by rw [a5, upI_1, if_pos rfl]; exact t22, a2, by omega, by rw [show p + i - p = i by omega]; exact hrun, Or.inl ⟨qd.1, dig_no qd.2 (Or.inr (by omega))⟩⟩⟩
    · rw [if_neg qd, if_pos rfl, bs]
      obtain ⟨τ1, a1, a2, a3, a4, a5, a6⟩ := add_M (a1 := 1) (a2 := nI v) (s := nI v) hst (by omega) (by decide) sv1
      refine ⟨τ1, a1, a3, Or.inl ⟨[nI v], p + i, _, by omega, hp, by show 1 ≤ _; omega, by rw [a4]; exact t22, by rw [a5]; exact t23, by rw [a6]; exact t24, a2, by rw [show p + i - p = i by omega]; exact hrun, ?_, okE_6 (Or.inr (Or.inr fun h z => qd ⟨h, z⟩)), dep_1 sv2 (by omega)⟩⟩
      unfold aftN
      rw [if_pos rfl]
      exact ⟨i, w.length, rfl⟩
  intro k
  induction k with
  | zero =>
    intro i v τ hk h1 h4 hv hp t22 t23 t24 ht hst hrun fuel hf
    obtain ⟨f, rfl⟩ : ∃ f, fuel = f + 1 := ⟨fuel - 1, by omega⟩
    unfold f_M_figure_4
    rw [if_pos (show (4 : Int32) ≤ nI i from nI_le (a := 4) (by omega) (by omega))]
    exact fin i v τ h1 h4 hv hp t22 t23 t24 ht hst hrun (Or.inl (by omega))
  | succ k ih =>
    intro i v τ hk h1 h4 hv hp t22 t23 t24 ht hst hrun fuel hf
    obtain ⟨f, rfl⟩ : ∃ f, fuel = f + 1 := ⟨fuel - 1, by omega⟩
    by_cases q4 : i = 4
    · unfold f_M_figure_4
      rw [if_pos (show (4 : Int32) ≤ nI i from nI_le (a := 4) (by omega) (by omega))]
      exact fin i v τ h1 h4 hv hp t22 t23 t24 ht hst hrun (Or.inl q4)
    · conv => arg 1; ext τ'; arg 1; lhs; unfold f_M_figure_4
      rw [if_neg (show ¬ (4 : Int32) ≤ nI i from nI_ge (b := 4) (by omega) (by omega)), look_M ht t22 hp, bind_s, inL (fun i hi => (ht.2.2 i hi).2), bind_s]
      by_cases qd : p + i < Lb ∧ 48 ≤ b (p + i) ∧ b (p + i) ≤ 57
      · rw [if_pos qd, if_neg i10, bind_s, t22, nI_1, nI_1]
        have e1 : lkN b Lb (p + i) = nI (b (p + i)) := by
          unfold lkN
          rw [if_pos qd.1]
          exact (byte_g ⟨b (p + i), (ht.2.2 _ qd.1).2⟩).2.2.2.2.2.2.1 qd.2
        have e2 : (10 : Int32) * nI v + lkN b Lb (p + i) - 48 = nI (10 * v + (b (p + i) - 48)) := by
          rw [e1, show nI (b (p + i)) = nI (b (p + i) - 48 + 48) by congr 1; omega]
          show nI 10 * nI v + nI (b (p + i) - 48 + 48) - nI 48 = _
          rw [pk_mul, nI_add, ← Nat.add_assoc, ← nI_add _ 48, Int32.add_sub_cancel]
        rw [e2]
        obtain ⟨τ', g1, g2, g3⟩ := ih (i + 1) (10 * v + (b (p + i) - 48)) (upI τ 22 (nI (p + i + 1))) (by omega) (by omega) (by omega) (by rw [Nat.pow_succ]; omega) (by omega) (by rw [upI_1, if_pos rfl]; rfl) (by rw [upI_1, if_neg (by decide)]; exact t23) (by rw [upI_1, if_neg (by decide)]; exact t24) (tpM_R (frR_I (by omega)) ht) (stM_I hst (by decide)) (by
          rw [run_app b i 1 p _ _ hrun]
          exact run_1 (dig_n qd.2 h1 (by omega))) f (by omega)
        exact ⟨τ', g1, frR_tr (frR_I (by omega)) g2, g3⟩
      · rw [if_neg qd, if_pos rfl]
        exact fin i v τ h1 h4 hv hp t22 t23 t24 ht hst hrun (Or.inr qd)
