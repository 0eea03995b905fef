/-! brackets; every operand; the whole descent -/
theorem not_on {b : Nat → Nat} {Lb q : Nat} {w W : List Int32} {o dg na : Nat} {sec : Bool} (hok : okE b Lb q 1 (w, W, o, false, sec, dg, na)) (hq : q < Lb) (h41 : b q ≠ 41) (ho : 0 < o) : takesN (w, W, o, false, sec, dg, na) (b q) = none := by
  by_cases qd : 48 ≤ b q ∧ b q ≤ 57
  · exact hok hq (Or.inl qd)
  · by_cases qr : 0 < rkN (nI (b q))
    · exact hok hq (Or.inr (by omega))
    · unfold takesN
      rw [if_neg qd, if_neg Bool.false_ne_true, if_neg qr, if_neg h41, if_pos ho]
theorem brack_C {b : Nat → Nat} {Lb o p : Nat} {rec : St → Option St} (HC : o + 1 ≤ 6 → Claim b Lb (o + 1) 6 rec) {m w W : List Int32} {sec : Bool} {dg na : Nat} {τ : St} (ho : o ≤ 6) (hp : p < Lb) (hm : m.length ≤ p) (ht : tpM b Lb τ) (t22 : τ.1 22 = nI p) (t23 : τ.1 23 = -1) (t24 : τ.1 24 = nI o) (hst : stM m τ) (hc : b p = 40) : ∃ τ', (bd2 (f_M_opens τ) fun r94_4 σ94_4 => (if r94_4 = 0 then (some σ94_4) else ((f_M_either rec σ94_4).bind fun σ102_5 => (if (σ102_5.1 23) < 0 then ((f_M_look σ102_5).bind fun r114_6 => (if r114_6 = (41 : Int32) then (some (upI (upI σ102_5 22 ((σ102_5.1 22) + (1 : Int32))) 24 ((σ102_5.1 24) - (1 : Int32)))) else ((f_M_wrong σ102_5).bind fun σ123_7 => (some σ123_7)))) else (some σ102_5))))) = some τ' ∧ frR τ τ' ∧ (OkR b Lb o 6 p m w W sec (w, W, o, true, sec, dg, na) τ' ∨ BadR b Lb p m (w, W, o, true, sec, dg, na) τ') := by
  have hLb := ht.2.1
  have hnm : ¬ nmN (b p) < 6 := by rw [hc]; decide
  have hnd : ¬ (48 ≤ b p ∧ b p ≤ 57) := by rw [hc]; decide
  rw [opens_M ho t22 t23 t24]
  by_cases q6 : o = 6
  · rw [if_pos q6, bd2_s, if_pos rfl]
    refine ⟨_, rfl, frR_I (by omega), Or.inr ⟨p, p, m.length, (w, W, o, true, sec, dg, na), by omega, by omega, by omega, by rw [upI_1, if_neg (by decide)]; exact t22, by rw [upI_1, if_pos rfl], by rw [upI_1, if_neg (by decide)]; exact hst.1, by omega, by rw [Nat.sub_self]; rfl, Or.inl ⟨hp, no_opn hnd hnm (fun _ => by omega)⟩⟩⟩
  · rw [if_neg q6, bd2_s, if_neg i10]
    have htk : takesN (w, W, o, true, sec, dg, na) (b p) = some (w, 40 :: W, o + 1, true, sec, 0, na) := by
      unfold takesN
      rw [if_neg hnd, if_pos rfl, if_neg hnm, if_pos (show b p = 40 ∨ b p = 33 ∨ b p = 45 from Or.inl hc), if_neg (show ¬ 6 ≤ o by omega), hc]
      rfl
    have fr0 : frR τ (upI (upI τ 24 (nI (o + 1))) 22 (nI (p + 1))) := frR_tr (b := upI τ 24 (nI (o + 1))) (frR_I (by omega)) (frR_I (by omega))
    obtain ⟨τ2, e1, e2, e3⟩ := either_C (HC (by omega)) (p + 1) m w (40 :: W) sec 0 na (upI (upI τ 24 (nI (o + 1))) 22 (nI (p + 1))) (by omega) (by omega) (tpM_R fr0 ht) (by rw [upI_1, if_pos rfl]) (by rw [upI_1, if_neg (by decide), upI_1, if_neg (by decide)]; exact t23) (by rw [upI_1, if_neg (by decide), upI_1, if_pos rfl]) (stM_I (stM_I hst (by decide)) (by decide)) (fun _ => ⟨show rkN 40 < 1 by decide, show (40 : Int32) ≠ 33 by decide, show (40 : Int32) ≠ 126 by decide⟩)
    rw [e1, bind_s]
    have ht2 : tpM b Lb τ2 := tpM_R e2 (tpM_R fr0 ht)
    rcases e3 with ⟨S, q, s2, d1, d2, d3, d4, d5, d6, d7, d8, d9, d10, d11⟩ | ⟨fl, h, l, s2, d1, d2, d3, d4, d5, d6, d7, d8, d9⟩
    · rw [if_pos (show τ2.1 23 < 0 by rw [d5]; decide), look_M ht2 d4 d2, bind_s]
      unfold aftN at d9
      rw [if_neg (by omega)] at d9
      obtain ⟨w', W', dg2, na2, g1, g2⟩ := d9
      have hrun2 : runN b (q - p) p (w, W, o, true, sec, dg, na) = some s2 := run_to (q := p + 1) (by rw [show p + 1 - p = 1 by omega]; exact run_1 htk) d8 (by omega) (by omega)
      have e41 : lkN b Lb q = 41 ↔ q < Lb ∧ b q = 41 := by
        unfold lkN
        by_cases z : q < Lb
        · rw [if_pos z]
          have := (byte_g ⟨b q, (ht.2.2 q z).2⟩).2.2.2.2.1
          exact ⟨fun y => ⟨z, this.mp y⟩, fun y => this.mpr y.2⟩
        · rw [if_neg z]
          exact ⟨fun y => absurd y (by decide), fun y => absurd y.1 z⟩
      by_cases q41 : q < Lb ∧ b q = 41
      · rw [if_pos (e41.mpr q41), d4, d6, nI_1, nI_pred]
        have htk2 : takesN s2 (b q) = some (opnN (w ++ S) W o sec 0 na2) := by
          rw [g1, q41.2]
          unfold takesN
          rw [if_neg (by decide), if_neg Bool.false_ne_true, if_neg (show ¬ 0 < rkN (nI 41) by decide), if_pos rfl, g2, if_pos (show (List.headD (40 :: W) 0 : Int32) = 40 from rfl)]
          rfl
        have hrun3 : runN b (q + 1 - p) p (w, W, o, true, sec, dg, na) = some (opnN (w ++ S) W o sec 0 na2) := run_to (q := q) hrun2 (by rw [show q + 1 - q = 1 by omega]; exact run_1 htk2) (by omega) (by omega)
        refine ⟨_, rfl, frR_tr fr0 (frR_tr e2 (frR_tr (b := upI τ2 22 (nI (q + 1))) (frR_I (by omega)) (frR_I (by omega)))), Or.inl ⟨S, q + 1, _, by omega, by omega, by omega, by rw [upI_1, if_neg (by decide), upI_1, if_pos rfl], by rw [upI_1, if_neg (by decide), upI_1, if_neg (by decide)]; exact d5, by rw [upI_1, if_pos rfl], stM_I (stM_I d7 (by decide)) (by decide), hrun3, ?_, okE_6 (Or.inl rfl), dep_mono d11 (by omega)⟩⟩
        unfold aftN
        rw [if_pos rfl]
        exact ⟨0, na2, rfl⟩
      · rw [if_neg (fun z => q41 (e41.mp z)), wrong_M d5, bind_s]
        have hlm : (m ++ S).length = m.length + S.length := List.length_append
        refine ⟨_, rfl, frR_tr fr0 (frR_tr e2 (frR_I (by omega))), Or.inr ⟨q, q, (m ++ S).length, s2, by omega, d2, d2, by rw [upI_1, if_neg (by decide)]; exact d4, by rw [upI_1, if_pos rfl]; exact d4, by rw [upI_1, if_neg (by decide)]; exact d7.1, by omega, hrun2, ?_⟩⟩
        by_cases z : q < Lb
        · refine Or.inl ⟨z, ?_⟩
          rw [g1] at d10 ⊢
          exact not_on d10 z (fun y => q41 ⟨z, y⟩) (by omega)
        · refine Or.inr ⟨by omega, Or.inr ?_⟩
          rw [g1]; exact Nat.succ_pos o
    · rw [if_neg (show ¬ τ2.1 23 < 0 by rw [d5]; exact nI_pos (by omega))]
      refine ⟨τ2, rfl, frR_tr fr0 e2, Or.inr ⟨fl, h, l, s2, by omega, d2, d3, d4, d5, d6, by omega, ?_, d9⟩⟩
      exact run_to (q := p + 1) (by rw [show p + 1 - p = 1 by omega]; exact run_1 htk) d8 (by omega) (by omega)
theorem opnd_C {b : Nat → Nat} {Lb : Nat} : ∀ (n o : Nat), o ≤ 6 → 6 - o < n → Claim b Lb o 6 (f_M_operand n) := by
  intro n
  induction n with
  | zero => intro o ho h; omega
  | succ n ih =>
    intro o ho h p m w W sec dg na τ hp hm ht t22 t23 t24 hst _
    have hLb := ht.2.1
    have HC : o + 1 ≤ 6 → Claim b Lb (o + 1) 6 (f_M_operand n) := fun h6 => ih (o + 1) h6 (by omega)
    have bs : ∀ x : Option St, (x.bind fun s => some s) = x := by intro x; cases x <;> rfl
    show ∃ τ', f_M_operand_F (f_M_operand n) τ = some τ' ∧ _
    unfold f_M_operand_F
    rw [look_M ht t22 hp, bind_s]
    by_cases q : p < Lb
    · have bg := byte_g ⟨b p, (ht.2.2 p q).2⟩
      obtain ⟨b1, b2', b3, b4, b5, b6, b7, b8, b9, b10⟩ := bg
      have el : lkN b Lb p = lookV (b p) := by unfold lkN; rw [if_pos q]
      have b1' : f_M_nameOf (lkN b Lb p) = some (if nmN (b p) < 6 then nI (nmN (b p)) else -1) := by rw [el]; exact b1
      rw [b1', bind_s]
      by_cases qn : nmN (b p) < 6
      · rw [if_pos qn, if_neg (nI_pos (by omega)), bind_s]
        obtain ⟨τ', g1, g2, g3⟩ := nameO_C (b := b) (o := o) (w := w) (W := W) (sec := sec) (dg := dg) (na := na) q hm ht t22 t23 t24 hst qn
        exact ⟨τ', g1, g2, Or.inl g3⟩
      · rw [if_neg qn, if_pos (show (-1 : Int32) < 0 by decide)]
        by_cases q33 : b p = 33
        · rw [if_pos (by rw [el]; exact b2'.mpr q33)]
          exact sign_C HC ho q hm ht t22 t23 t24 hst (Or.inl q33)
        · rw [if_neg (by rw [el]; exact fun z => q33 (b2'.mp z))]
          by_cases q45 : b p = 45
          · rw [if_pos (by rw [el]; exact b3.mpr q45)]
            exact sign_C HC ho q hm ht t22 t23 t24 hst (Or.inr q45)
          · rw [if_neg (by rw [el]; exact fun z => q45 (b3.mp z))]
            by_cases q40 : b p = 40
            · rw [if_pos (by rw [el]; exact b4.mpr q40)]
              exact brack_C HC ho q hm ht t22 t23 t24 hst q40
            · rw [if_neg (by rw [el]; exact fun z => q40 (b4.mp z)), bs]
              exact fig_C hp hm ht t22 t23 t24 hst (fun _ => ⟨qn, by omega⟩)
    · have el : lkN b Lb p = -1 := by unfold lkN; rw [if_neg q]
      rw [el, show f_M_nameOf (-1) = some (-1) by decide, bind_s, if_pos (show (-1 : Int32) < 0 by decide), if_neg (show ¬ (-1 : Int32) = 33 by decide), if_neg (show ¬ (-1 : Int32) = 45 by decide), if_neg (show ¬ (-1 : Int32) = 40 by decide), bs]
      exact fig_C hp hm ht t22 t23 t24 hst (fun z => absurd z q)
/-- what stands for a line's test or its value -/
theorem whole_C {b : Nat → Nat} {Lb : Nat} : Claim b Lb 0 1 (f_M_either (f_M_operand 20)) := either_C (opnd_C 20 0 (by omega) (by omega))
