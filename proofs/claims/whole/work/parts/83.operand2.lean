/-! an operand, every sort -/
theorem fig_C {b : Nat → Nat} {Lb o p : Nat} {m w W : List Int32} {sec : Bool} {dg na : Nat} {τ : St} (hp : p ≤ Lb) (hm : m.length ≤ p) (ht : tpM b Lb τ) (t22 : τ.1 22 = nI p) (t23 : τ.1 23 = -1) (t24 : τ.1 24 = nI o) (hst : stM m τ) (hn : p < Lb → ¬ nmN (b p) < 6 ∧ ¬ (b p = 40 ∨ b p = 33 ∨ b p = 45)) : ∃ τ', f_M_figure τ = some τ' ∧ frR τ τ' ∧ (OkR b Lb o 6 p m w W sec (w, W, o, true, sec, dg, na) τ' ∨ BadR b Lb p m (w, W, o, true, sec, dg, na) τ') := by
  have hLb := ht.2.1
  have bs : ∀ x : Option St, (x.bind fun s => some s) = x := by intro x; cases x <;> rfl
  show ∃ τ', f_M_figure_4 (999 + 1) τ 0 0 = some τ' ∧ _
  conv => arg 1; ext τ'; arg 1; lhs; unfold f_M_figure_4
  rw [if_neg (show ¬ (4 : Int32) ≤ 0 by decide), look_M ht t22 hp, bind_s, inL (fun i hi => (ht.2.2 i hi).2), bind_s]
  by_cases qd : p < Lb ∧ 48 ≤ b p ∧ b p ≤ 57
  · rw [if_pos qd, if_neg i10, bind_s, t22, nI_1]
    have e1 : lkN b Lb p = nI (b p) := by
      unfold lkN
      rw [if_pos qd.1]
      exact (byte_g ⟨b p, (ht.2.2 _ qd.1).2⟩).2.2.2.2.2.2.1 qd.2
    have e2 : (10 : Int32) * 0 + lkN b Lb p - 48 = nI (b p - 48) := by
      rw [e1, show nI (b p) = nI (b p - 48 + 48) by congr 1; omega]
      show nI 10 * nI 0 + nI (b p - 48 + 48) - nI 48 = _
      rw [pk_mul, nI_add, ← Nat.add_assoc, ← nI_add _ 48, Int32.add_sub_cancel]
      congr 1; omega
    rw [e2]
    obtain ⟨τ', g1, g2, g3⟩ := fig_l (b := b) (Lb := Lb) (o := o) (p := p) (m := m) (w := w) (W := W) (sec := sec) (dg0 := dg) (na0 := na) hm 3 1 (b p - 48) (upI τ 22 (nI (p + 1))) (by omega) (by omega) (by omega) (by omega) (by omega) (by rw [upI_1, if_pos rfl]) (by rw [upI_1, if_neg (by decide)]; exact t23) (by rw [upI_1, if_neg (by decide)]; exact t24) (tpM_R (frR_I (by omega)) ht) (stM_I hst (by decide)) (run_1 (dig_1 qd.2)) 999 (by omega)
    exact ⟨τ', g1, frR_tr (frR_I (by omega)) g2, g3⟩
  · rw [if_neg qd, if_pos rfl]
    unfold f_M_figure_52
    rw [if_pos rfl]
    unfold f_M_figure_70
    rw [wrong_M t23, bind_s, bs]
    obtain ⟨τ1, a1, a2, a3, a4, a5⟩ := add_bad (τ := upI τ 23 (τ.1 22)) (l := m.length) (a1 := 1) (a2 := 0) (by rw [upI_1, if_neg (by decide)]; exact hst.1) (by omega)
    refine ⟨τ1, a1, frR_tr (frR_I (by omega)) a3, Or.inr ⟨p, p, m.length + 1, _, by omega, hp, hp, by rw [a4, upI_1, if_neg (by decide)]; exact t22, by rw [a5, upI_1, if_pos rfl]; exact t22, a2, by omega, by rw [Nat.sub_self]; rfl, ?_⟩⟩
    by_cases q : p < Lb
    · obtain ⟨n1, n2⟩ := hn q
      exact Or.inl ⟨q, no_opn (fun z => qd ⟨q, z⟩) n1 (fun z => absurd z n2)⟩
    · exact Or.inr ⟨by omega, Or.inl rfl⟩
theorem nameO_C {b : Nat → Nat} {Lb o p : Nat} {m w W : List Int32} {sec : Bool} {dg na : Nat} {τ : St} (hp : p < Lb) (hm : m.length ≤ p) (ht : tpM b Lb τ) (t22 : τ.1 22 = nI p) (t23 : τ.1 23 = -1) (t24 : τ.1 24 = nI o) (hst : stM m τ) (hn : nmN (b p) < 6) : ∃ τ', ((f_M_addStep τ (2 : Int32) (nI (nmN (b p)))).bind fun σ18_9 => (some (upI σ18_9 22 ((σ18_9.1 22) + (1 : Int32))))) = some τ' ∧ frR τ τ' ∧ OkR b Lb o 6 p m w W sec (w, W, o, true, sec, dg, na) τ' := by
  have hLb := ht.2.1
  have six : ∀ k : Fin 6, stepM (-1 - nI k.val) = (2, nI k.val) ∧ (-6 : Int32) ≤ -1 - nI k.val := by decide
  obtain ⟨s1, s2⟩ := six ⟨nmN (b p), hn⟩
  obtain ⟨τ1, a1, a2, a3, a4, a5, a6⟩ := add_M (a1 := 2) (a2 := nI (nmN (b p))) (s := -1 - nI (nmN (b p))) hst (by omega) (by decide) s1
  rw [a1, bind_s, a4, t22, nI_1]
  have htk : takesN (w, W, o, true, sec, dg, na) (b p) = some (opnN (w ++ [-1 - nI (nmN (b p))]) W o sec 0 na) := by
    unfold takesN
    rw [if_neg ((byte_g ⟨b p, (ht.2.2 p hp).2⟩).2.2.2.2.2.2.2.1 hn), if_pos rfl, if_pos hn]
  refine ⟨_, rfl, frR_tr a3 (frR_I (by omega)), [-1 - nI (nmN (b p))], p + 1, _, by omega, by omega, by show 1 ≤ _; omega, by rw [upI_1, if_pos rfl], by rw [upI_1, if_neg (by decide), a5]; exact t23, by rw [upI_1, if_neg (by decide), a6]; exact t24, stM_I a2 (by decide), by rw [show p + 1 - p = 1 by omega]; exact run_1 htk, ?_, okE_6 (Or.inl rfl), dep_1 s2 (by omega)⟩
  unfold aftN
  rw [if_pos rfl]
  exact ⟨0, na, rfl⟩
theorem opens_M {τ : St} {o p : Nat} (ho : o ≤ 6) (t22 : τ.1 22 = nI p) (t23 : τ.1 23 = -1) (t24 : τ.1 24 = nI o) : f_M_opens τ = if o = 6 then some (0, upI τ 23 (nI p)) else some (1, upI (upI τ 24 (nI (o + 1))) 22 (nI (p + 1))) := by
  unfold f_M_opens
  rw [t24]
  by_cases q : o = 6
  · rw [if_pos (show nI o = 6 by rw [q]; rfl), if_pos q, wrong_M t23, bind_s, t22]
  · rw [if_neg (show ¬ nI o = 6 from fun z => q ((nI_eq (b := 6) (by omega) (by decide)).mp z)), if_neg q, nI_1, t22, nI_1]
theorem sign_C {b : Nat → Nat} {Lb o p : Nat} {rec : St → Option St} (HC : o + 1 ≤ 6 → Claim b Lb (o + 1) 6 rec) {m w W : List Int32} {sec : Bool} {dg na : Nat} {τ : St} (ho : o ≤ 6) (hp : p < Lb) (hm : m.length ≤ p) (ht : tpM b Lb τ) (t22 : τ.1 22 = nI p) (t23 : τ.1 23 = -1) (t24 : τ.1 24 = nI o) (hst : stM m τ) (hc : b p = 33 ∨ b p = 45) : ∃ τ', f_M_operand_46 rec τ (lkN b Lb p) = some τ' ∧ frR τ τ' ∧ (OkR b Lb o 6 p m w W sec (w, W, o, true, sec, dg, na) τ' ∨ BadR b Lb p m (w, W, o, true, sec, dg, na) τ') := by
  have hLb := ht.2.1
  have bs : ∀ x : Option St, (x.bind fun s => some s) = x := by intro x; cases x <;> rfl
  have hnm : ¬ nmN (b p) < 6 := by rcases hc with h | h <;> rw [h] <;> decide
  have hnd : ¬ (48 ≤ b p ∧ b p ≤ 57) := by rcases hc with h | h <;> rw [h] <;> decide
  unfold f_M_operand_46
  rw [opens_M ho t22 t23 t24]
  by_cases q6 : o = 6
  · rw [if_pos q6, bd2_s, if_pos rfl]
    refine ⟨_, rfl, frR_I (by omega), Or.inr ⟨p, p, m.length, (w, W, o, true, sec, dg, na), by omega, by omega, by omega, by rw [upI_1, if_neg (by decide)]; exact t22, by rw [upI_1, if_pos rfl], by rw [upI_1, if_neg (by decide)]; exact hst.1, by omega, by rw [Nat.sub_self]; rfl, Or.inl ⟨hp, no_opn hnd hnm (fun _ => by omega)⟩⟩⟩
  · rw [if_neg q6, bd2_s, if_neg i10]
    have hx : ∃ x : Int32, (x = 33 ∨ x = 126) ∧ (if b p = 45 then (126 : Int32) else nI (b p)) = x ∧ ¬ (-6 : Int32) ≤ -x ∧ (-x = -33 ∨ -x = -126) ∧ ∃ a1 : Int32, vp_nar .byte (a1.toInt8.toInt32) = a1 ∧ stepM (-x) = (a1, 0) ∧ ∀ σ55_2 : St, (if lkN b Lb p = (33 : Int32) then ((f_M_addStep (upI σ55_2 24 ((σ55_2.1 24) - (1 : Int32))) (3 : Int32) (0 : Int32)).bind fun σ81_4 => (some σ81_4)) else ((f_M_addStep (upI σ55_2 24 ((σ55_2.1 24) - (1 : Int32))) (4 : Int32) (0 : Int32)).bind fun σ81_3 => (some σ81_3))) = f_M_addStep (upI σ55_2 24 ((σ55_2.1 24) - (1 : Int32))) a1 0 := by
      have el : lkN b Lb p = lookV (b p) := by unfold lkN; rw [if_pos hp]
      rw [el]
      rcases hc with h | h
      · refine ⟨33, Or.inl rfl, by rw [h]; decide, by decide, by decide, 3, by decide, by decide, fun σ => ?_⟩
        rw [h, if_pos (show lookV 33 = 33 by decide), bs]
      · refine ⟨126, Or.inr rfl, by rw [h]; decide, by decide, by decide, 4, by decide, by decide, fun σ => ?_⟩
        rw [h, if_neg (show ¬ lookV 45 = 33 by decide), bs]
    obtain ⟨x, hx1, hx2, hx3, hx4, a1, hx5, hx6, hx7⟩ := hx
    have htk : takesN (w, W, o, true, sec, dg, na) (b p) = some (w, x :: W, o + 1, true, sec, 0, na) := by
      unfold takesN
      rw [if_neg hnd, if_pos rfl, if_neg hnm, if_pos (show b p = 40 ∨ b p = 33 ∨ b p = 45 from Or.inr hc), if_neg (show ¬ 6 ≤ o by omega)]
      show some (w, (if b p = 45 then (126 : Int32) else nI (b p)) :: W, o + 1, true, sec, 0, na) = _
      rw [hx2]
    have fr0 : frR τ (upI (upI τ 24 (nI (o + 1))) 22 (nI (p + 1))) := frR_tr (b := upI τ 24 (nI (o + 1))) (frR_I (by omega)) (frR_I (by omega))
    obtain ⟨τ2, e1, e2, e3⟩ := HC (by omega) (p + 1) m w (x :: W) sec 0 na (upI (upI τ 24 (nI (o + 1))) 22 (nI (p + 1))) (by omega) (by omega) (tpM_R fr0 ht) (by rw [upI_1, if_pos rfl]) (by rw [upI_1, if_neg (by decide), upI_1, if_neg (by decide)]; exact t23) (by rw [upI_1, if_neg (by decide), upI_1, if_pos rfl]) (stM_I (stM_I hst (by decide)) (by decide)) (fun h => by omega)
    rw [e1, bind_s, hx7 τ2]
    rcases e3 with ⟨S, q, s2, d1, d2, d3, d4, d5, d6, d7, d8, d9, d10, d11⟩ | ⟨fl, h, l, s2, d1, d2, d3, d4, d5, d6, d7, d8, d9⟩
    · have e24 : τ2.1 24 - 1 = nI o := by rw [d6, nI_pred]
      obtain ⟨τ3, a1', a2, a3, a4, a5, a6⟩ := add_M (τ := upI τ2 24 (τ2.1 24 - 1)) (a1 := a1) (a2 := 0) (s := -x) (stM_I d7 (by decide)) (by rw [List.length_append]; omega) hx5 hx6
      have hrun2 : runN b (q - p) p (w, W, o, true, sec, dg, na) = some s2 := run_to (q := p + 1) (by rw [show p + 1 - p = 1 by omega]; exact run_1 htk) d8 (by omega) (by omega)
      unfold aftN at d9
      rw [if_pos rfl] at d9
      obtain ⟨dg2, na2, g1⟩ := d9
      refine ⟨τ3, a1', frR_tr fr0 (frR_tr e2 (frR_tr (frR_I (by omega)) a3)), Or.inl ⟨S ++ [-x], q, s2, by omega, d2, by rw [List.length_append]; show S.length + 1 ≤ _; omega, by rw [a4, upI_1, if_neg (by decide)]; exact d4, by rw [a5, upI_1, if_neg (by decide)]; exact d5, by rw [a6, upI_1, if_pos rfl]; exact e24, by rw [← List.append_assoc]; exact a2, hrun2, ?_, d10, ?_⟩⟩
      · unfold aftN
        rw [if_pos rfl]
        refine ⟨dg2, na2, ?_⟩
        rw [g1]
        unfold opnN
        have ep : popN (w ++ S) (x :: W) (o + 1) = popN (w ++ (S ++ [-x])) W o := by
          show (if x = 33 ∨ x = 126 then popN (w ++ S ++ [-x]) W (o + 1 - 1) else _) = _
          rw [if_pos hx1, List.append_assoc]; rfl
        rw [ep]
      · intro j hj
        rw [dep_app S [-x] j (j + 1) (d11 j (by omega)), dep_c, if_neg hx3, if_pos hx4, if_pos (by omega)]
        rfl
    · obtain ⟨τ3, a1', a2, a3, a4, a5⟩ := add_bad (τ := upI τ2 24 (τ2.1 24 - 1)) (l := l) (a1 := a1) (a2 := 0) (by rw [upI_1, if_neg (by decide)]; exact d6) (by omega)
      refine ⟨τ3, a1', frR_tr fr0 (frR_tr e2 (frR_tr (frR_I (by omega)) a3)), Or.inr ⟨fl, h, l + 1, s2, by omega, d2, d3, by rw [a4, upI_1, if_neg (by decide)]; exact d4, by rw [a5, upI_1, if_neg (by decide)]; exact d5, a2, by omega, ?_, d9⟩⟩
      exact run_to (q := p + 1) (by rw [show p + 1 - p = 1 by omega]; exact run_1 htk) d8 (by omega) (by omega)
