/-! the reference's law worked out -/
def samP (τ τ' : St) : Prop := τ'.1 = τ.1 ∧ (∀ a, a ≠ 20 → τ'.2.1 a = τ.2.1 a) ∧ τ'.2.2 = τ.2.2
theorem samP_rf (τ : St) : samP τ τ := ⟨rfl, fun _ _ => rfl, rfl⟩
theorem samP_tr {a b c : St} (h1 : samP a b) (h2 : samP b c) : samP a c := ⟨h2.1.trans h1.1, fun k hk => (h2.2.1 k hk).trans (h1.2.1 k hk), h2.2.2.trans h1.2.2⟩
theorem samP_up (τ : St) (i : Nat) (v : Int32) : samP τ (upA τ 20 i v) := ⟨rfl, fun a ha => by rw [upA_2, if_neg ha], rfl⟩
theorem stk_set {a : Nat → Int32} {x : Int32} {st : List Int32} (h : stk a (x :: st)) (v : Int32) : stk (upd a st.length v) (v :: st) := stk_push (stk_pop h).2 v
theorem mul0 (e : Nat) : (130 : Int32) * 0 + nI e = nI e := by
  show nI 130 * nI 0 + nI e = _
  rw [pk_mul, nI_add]
  congr 1
  omega
theorem step_M {nm : Nat → Int32} {e : Nat} (he : e ≤ 130) {τ : St} {s : Int32} {r st : List Int32} {m i : Nat} (h14 : τ.2.1 14 i = (stepM s).1) (h15 : τ.2.1 15 i = (stepM s).2) (hi : i < e) (hst : stk (τ.2.1 20) st) (hl : st.length ≤ 60) (hn : ∀ k, k < 6 → τ.2.1 19 k = nm k) (hd : dep (s :: r) st.length = some m) :
    ∃ τ', samP τ τ' ∧ stk (τ'.2.1 20) (stepE nm s st) ∧ ∀ f, f_M_worked_12 (f + 1) τ 0 (nI e) (nI st.length) (nI i) = f_M_worked_12 f τ' 0 (nI e) (nI (stepE nm s st).length) (nI (i + 1)) := by
  obtain ⟨-, d1, d2, d3⟩ := dep_step nm st rfl hd
  have z0 : (0 : Int32).toInt = 0 := rfl
  have z6 : (-6 : Int32).toInt = -6 := rfl
  have ci : (nI i).toNatClampNeg = i := nIt (by omega)
  have ii : inb (nI i) 260 = true := inb_nI (by omega) (by decide)
  have hcmp : ¬ nI e ≤ nI i := nI_ge hi (by omega)
  have il130 : inb (nI st.length) 130 = true := inb_nI (by omega) (by decide)
  have cl : (nI st.length).toNatClampNeg = st.length := nIt (by omega)
  unfold stepE
  unfold stepM at h14 h15
  by_cases h0 : 0 ≤ s
  · rw [if_pos h0] at h14 h15 ⊢
    refine ⟨upA τ 20 st.length s, samP_up _ _ _, stk_push hst s, fun f => ?_⟩
    conv => lhs; unfold f_M_worked_12
    rw [mul0, if_neg hcmp, ii, ci, h14]
    simp only [cond_true, if_true]
    unfold f_M_worked_45
    rw [if_pos rfl, ii, il130, ci, cl, h15]
    simp only [cond_true, nI_1]
    rw [List.length_cons]
  · rw [if_neg h0] at h14 h15 ⊢
    by_cases h6 : -6 ≤ s
    · rw [if_pos h6] at h14 h15 ⊢
      have hb : (0 : Int32) ≤ -1 - s ∧ -1 - s ≤ nI 6 - 1 := by
        have e : (-1 - s : Int32).toInt = -1 - s.toInt := by
          rw [Int32.toInt_sub]
          have em : (-1 : Int32).toInt = -1 := rfl
          rw [em, Int.bmod_def]
          rw [il] at h6
          rw [il] at h0
          split <;> omega
        have e5 : (nI 6 - 1).toInt = 5 := rfl
        rw [il, il, e, e5]
        rw [il] at h6
        rw [il] at h0
        omega
      obtain ⟨q, hq, eq⟩ := (isT (n := 6) (by decide) _).mp hb
      rw [eq] at h15 ⊢
      refine ⟨upA τ 20 st.length (nm (nI q).toNatClampNeg), samP_up _ _ _, stk_push hst _, fun f => ?_⟩
      conv => lhs; unfold f_M_worked_12
      rw [mul0, if_neg hcmp, ii, ci, h14]
      simp only [cond_true, show ¬ (2 : Int32) = 1 by decide, if_true, if_false]
      unfold f_M_worked_45
      rw [if_neg (by decide), ii, il130, ci, cl, h15, inb_nI hq (by decide), nIt (by omega), hn q hq]
      simp only [cond_true, nI_1]
      rw [List.length_cons]
    · rw [if_neg h6] at h14 h15 ⊢
      match st, d2 h6, hst, hl, d3, cl, il130 with
      | x :: t, _, hst, hl, d3, cl, il130 =>
        rw [List.length_cons] at hl
        have ip : inb (nI t.length) 130 = true := inb_nI (by omega) (by decide)
        have cp : (nI t.length).toNatClampNeg = t.length := nIt (by omega)
        have e1 : nI (x :: t).length - 1 = nI t.length := by rw [List.length_cons, nI_pred]
        have px := (stk_pop hst).1
        by_cases h33 : s = -33
        · rw [if_pos h33] at h14 h15 ⊢
          refine ⟨upA τ 20 t.length (if x = 0 then 1 else 0), samP_up _ _ _, stk_set hst _, fun f => ?_⟩
          conv => lhs; unfold f_M_worked_12
          rw [mul0, if_neg hcmp, ii, ci, h14]
          simp only [cond_true, show ¬ (3 : Int32) = 1 by decide, show ¬ (3 : Int32) = 2 by decide, if_true, if_false, e1, ip, cp, px, nI_1]
          by_cases hx : x = 0
          · simp only [hx, if_true]
            rfl
          · simp only [hx, if_false, List.headD_cons, List.tail_cons]
            rfl
        · rw [if_neg h33] at h14 h15 ⊢
          by_cases h126 : s = -126
          · rw [if_pos h126] at h14 h15 ⊢
            refine ⟨upA τ 20 t.length (-x), samP_up _ _ _, stk_set hst _, fun f => ?_⟩
            conv => lhs; unfold f_M_worked_12
            rw [mul0, if_neg hcmp, ii, ci, h14]
            simp only [cond_true, show ¬ (4 : Int32) = 1 by decide, show ¬ (4 : Int32) = 2 by decide, show ¬ (4 : Int32) = 3 by decide, if_true, if_false, e1, ip, cp, px, nI_1]
            rfl
          · rw [if_neg h126] at h14 h15 ⊢
            obtain ⟨d4, d5⟩ := d3 h6 h33 h126
            match t, d4, hst, hl, ip, cp, e1, px with
            | y :: u, _, hst, hl, ip, cp, e1, px =>
              rw [List.length_cons] at hl
              have p2 := (stk_pop hst).2
              have py := (stk_pop p2).1
              have iu : inb (nI u.length) 130 = true := inb_nI (by omega) (by decide)
              have cu : (nI u.length).toNatClampNeg = u.length := nIt (by omega)
              have e2 : nI (x :: y :: u).length + (-1) = nI (y :: u).length := by rw [List.length_cons]; exact pk_m1 _
              have e3 : nI (y :: u).length - 1 = nI u.length := by rw [List.length_cons, nI_pred]
              have hs : ¬ -s = (1 : Int32) ∧ ¬ -s = (2 : Int32) ∧ ¬ -s = (3 : Int32) ∧ ¬ -s = (4 : Int32) := by
                simp only [isOpS, Bool.or_eq_true, decide_eq_true_eq] at d5
                rcases d5 with ((((((((rfl | rfl) | rfl) | rfl) | rfl) | rfl) | rfl) | rfl) | rfl) | rfl <;> decide
              obtain ⟨c1, c2, c3, c4⟩ := hs
              refine ⟨upA τ 20 u.length (binV (-s) y x), samP_up _ _ _, stk_set p2 _, fun f => ?_⟩
              conv => lhs; unfold f_M_worked_12
              rw [mul0, if_neg hcmp, ii, ci, h14]
              simp only [cond_true, c1, c2, c3, c4, if_false, e2, e3, iu, ip, cu, cp, px, py, two_eq d5, bind_s, nI_1]
              rfl
theorem run_M {nm : Nat → Int32} {e : Nat} (he : e ≤ 130) : ∀ (seg : List Int32) (i : Nat) (st : List Int32) (τ : St) (m : Nat), (∀ q, q < seg.length → τ.2.1 14 (i + q) = (stepM (seg.getD q 0)).1 ∧ τ.2.1 15 (i + q) = (stepM (seg.getD q 0)).2) → i + seg.length ≤ e → stk (τ.2.1 20) st → st.length ≤ 60 → (∀ k, k < 6 → τ.2.1 19 k = nm k) → dep seg st.length = some m →
    ∃ τ', samP τ τ' ∧ stk (τ'.2.1 20) (evalP nm seg st) ∧ ∀ fuel, f_M_worked_12 (fuel + seg.length) τ 0 (nI e) (nI st.length) (nI i) = f_M_worked_12 fuel τ' 0 (nI e) (nI (evalP nm seg st).length) (nI (i + seg.length)) := by
  intro seg
  induction seg with
  | nil => intro i st τ m _ _ h _ _ _; exact ⟨τ, samP_rf τ, h, fun fuel => rfl⟩
  | cons s r ih =>
    intro i st τ m h1 h3 h4 h5 h6 h7
    rw [List.length_cons] at h3
    have h10 := h1 0 (by rw [List.length_cons]; omega)
    rw [Nat.add_zero] at h10
    obtain ⟨τ1, g1, g2, g3⟩ := step_M (nm := nm) he (s := s) h10.1 h10.2 (by omega) h4 h5 h6 h7
    obtain ⟨τ2, k1, k2, k3⟩ := ih (i + 1) _ τ1 m (fun q hq => by
      rw [g1.2.1 14 (by decide), g1.2.1 15 (by decide), show i + 1 + q = i + (q + 1) by omega]
      exact h1 (q + 1) (by rw [List.length_cons]; omega)) (by omega) g2 (step_le h7 h5) (fun k hk => by rw [g1.2.1 19 (by decide)]; exact h6 k hk) (dep_step nm st rfl h7).1
    refine ⟨τ2, samP_tr g1 k1, k2, fun fuel => ?_⟩
    rw [List.length_cons, show fuel + (r.length + 1) = (fuel + r.length) + 1 by omega, show i + (r.length + 1) = i + 1 + r.length by omega, g3, k3]
    rfl
theorem worked_M {nm : Nat → Int32} {τ : St} {seg : List Int32} {i : Nat} (h1 : ∀ q, q < seg.length → τ.2.1 14 (i + q) = (stepM (seg.getD q 0)).1 ∧ τ.2.1 15 (i + q) = (stepM (seg.getD q 0)).2) (h2 : i + seg.length ≤ 121) (h3 : ∀ k, k < 6 → τ.2.1 19 k = nm k) (h4 : dep seg 0 = some 1) : ∃ τ', samP τ τ' ∧ f_M_worked τ 0 (nI i) (nI (i + seg.length)) = some ((evalP nm seg []).headD 0, τ') := by
  obtain ⟨τ', g1, g2, g3⟩ := run_M (nm := nm) (e := i + seg.length) (by omega) seg i [] τ 1 h1 (Nat.le_refl _) (fun q hq => absurd hq (by simp)) (by decide) h3 h4
  refine ⟨τ', g1, ?_⟩
  unfold f_M_worked
  obtain ⟨v, hv⟩ := one_of (nm := nm) h4
  rw [mul0, show FU = (FU - seg.length - 1 + 1) + seg.length by have : FU = 1000 := rfl; omega]
  have := g3 (FU - seg.length - 1 + 1)
  rw [show nI ([] : List Int32).length = (0 : Int32) from rfl] at this
  rw [this]
  unfold f_M_worked_12
  rw [mul0, if_pos (nI_le (Nat.le_refl _) (by omega)), hv]
  rw [hv] at g2
  have e0 := (stk_pop g2).1
  show some (τ'.2.1 20 0, τ') = some (v, τ')
  rw [show τ'.2.1 20 0 = v from e0]
