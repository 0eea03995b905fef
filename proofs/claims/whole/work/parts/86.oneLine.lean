/-! one line read by both -/
def EndL (b : Nat → Nat) (Lb p : Nat) (L : LawT) (s : TS) (τ' : St) : Prop := ∃ (x : Option (List Int32) × List Int32) (q : Nat) (w' W' : List Int32) (dg na : Nat), p < q ∧ q ≤ Lb ∧ okLine x ∧ (tst x).length + x.2.length ≤ q - p ∧ τ'.1 22 = nI q ∧ τ'.1 23 = -1 ∧ τ'.1 24 = 0 ∧ stM (lflM (L ++ [x])) τ' ∧ τ'.2.1 16 1 = nI (L.length + 1) ∧ entM 61 τ' (L ++ [x]) ∧ runN b (q - p) p s = some (w', W', 0, false, x.1.isSome, dg, na) ∧ relN 1 w' W' = (lflC L ++ (tst x ++ x.2), []) ∧ okE b Lb q 1 (w', W', 0, false, x.1.isSome, dg, na) ∧ (q < Lb → x.1 = none → b q ≠ 63)
def BadL (b : Nat → Nat) (Lb p : Nat) (s : TS) (τ' : St) : Prop := ∃ f h s'', p ≤ f ∧ f ≤ Lb ∧ h ≤ Lb ∧ τ'.1 22 = nI h ∧ τ'.1 23 = nI f ∧ runN b (f - p) p s = some s'' ∧ ((f < Lb ∧ takesN s'' (b f) = none) ∨ (f = Lb ∧ (s''.2.2.2.1 = true ∨ 0 < s''.2.2.1)))
theorem ok_S {S : List Int32} {c : Nat} (h : dpOK S c) (hc : c ≤ 59) : dep S 0 = some 1 ∧ dep S 1 = some 2 := ⟨h 0 (by omega), h 1 (by omega)⟩
theorem line_C {b : Nat → Nat} {Lb p : Nat} {L : LawT} {dg na : Nat} {τ : St} (ht : tpM b Lb τ) (hp : p ≤ Lb) (hl : (lflC L).length ≤ p) (h2 : 2 * L.length ≤ (lflC L).length) (t22 : τ.1 22 = nI p) (t23 : τ.1 23 = -1) (t24 : τ.1 24 = 0) (hst : stM (lflM L) τ) (h16 : τ.2.1 16 1 = nI L.length) (he : entM 61 τ L) : ∃ τ', f_M_oneLine τ = some τ' ∧ frL τ τ' ∧ (EndL b Lb p L (lflC L, [], 0, true, false, dg, na) τ' ∨ BadL b Lb p (lflC L, [], 0, true, false, dg, na) τ') := by
  have hLb := ht.2.1
  have hmc := lMC L
  have hm : (lflM L).length ≤ p := by omega
  have hli : L.length ≤ 60 := by omega
  have c1 : (1 : Int32).toNatClampNeg = 1 := by decide
  have e61 : (61 : Int32) + nI L.length = nI (61 + L.length) := nI_add 61 _
  have e25 : vp_nar .short ((τ.1 25).toInt16.toInt32) = nI (lflM L).length := by
    rw [hst.1, (sh_id ⟨_, by omega⟩).1]
  unfold f_M_oneLine
  rw [c1, h16, e61, inb_nI (show 61 + L.length < 122 by omega) (by decide)]
  simp only [cond_true]
  rw [nIt (show 61 + L.length < 2 ^ 31 by omega), e25]
  have ht1 : tpM b Lb (upA τ 17 (61 + L.length) (nI (lflM L).length)) := tpM_L fr_17 ht
  have hst1 : stM (lflM L) (upA τ 17 (61 + L.length) (nI (lflM L).length)) := ⟨hst.1, fun i hi => by rw [upA_2, if_neg (by decide), upA_2, if_neg (by decide)]; exact hst.2 i hi⟩
  obtain ⟨τ2, a1, a2, a3⟩ := whole_C (b := b) (Lb := Lb) p (lflM L) (lflC L) [] false dg na (upA τ 17 (61 + L.length) (nI (lflM L).length)) hp hm ht1 t22 t23 t24 hst1 (fun _ => ⟨by decide, by decide, by decide⟩)
  rw [a1, bind_s]
  have ht2 := tpM_R a2 ht1
  have fr2 : frL τ τ2 := frL_tr fr_17 (frR_L a2)
  have g16 : τ2.2.1 16 1 = nI L.length := by rw [a2.2.1 16 (by decide) (by decide), upA_2, if_neg (by decide)]; exact h16
  have g17 : ∀ i, τ2.2.1 17 i = if i = 61 + L.length then nI (lflM L).length else τ.2.1 17 i := by
    intro i
    rw [a2.2.1 17 (by decide) (by decide), upA_2, if_pos rfl]; rfl
  have g18 : τ2.2.1 18 = τ.2.1 18 := by rw [a2.2.1 18 (by decide) (by decide), upA_2, if_neg (by decide)]
  have ge : entM 61 τ2 L := by
    intro l y hy
    have hlt : l < L.length := by
      by_cases z : l < L.length
      · exact z
      · rw [List.getElem?_eq_none (by omega)] at hy; cases hy
    rw [g17, if_neg (by omega), g18]
    exact he l y hy
  rcases a3 with ⟨S, q, s2, d1, d2, d3, d4, d5, d6, d7, d8, d9, d10, d11⟩ | ⟨fl, h, l, s2, d1, d2, d3, d4, d5, d6, d7, d8, d9⟩
  · rw [if_neg (show ¬ (0 : Int32) ≤ τ2.1 23 by rw [d5]; decide), look_M ht2 d4 d2, bind_s]
    unfold aftN at d9
    rw [if_neg (by omega)] at d9
    obtain ⟨w', W', dg', na', es, er⟩ := d9
    obtain ⟨dp0, dp1⟩ := ok_S d11 (by omega)
    have e63 : lkN b Lb q = 63 ↔ q < Lb ∧ b q = 63 := by
      unfold lkN
      by_cases z : q < Lb
      · rw [if_pos z]
        have := (byte_g ⟨b q, (ht.2.2 q z).2⟩).2.2.2.2.2.2.2.2.2
        exact ⟨fun y => ⟨z, this.mp y⟩, fun y => this.mpr y.2⟩
      · rw [if_neg z]
        exact ⟨fun y => absurd y (by decide), fun y => absurd y.1 z⟩
    by_cases q63 : q < Lb ∧ b q = 63
    · rw [if_pos (e63.mpr q63), d4, nI_1]
      have hlS : (lflM L ++ S).length = (lflM L).length + S.length := List.length_append
      have e25' : vp_nar .short ((τ2.1 25).toInt16.toInt32) = nI ((lflM L).length + S.length) := by
        rw [d7.1, (sh_id ⟨_, by omega⟩).1]
        show nI (lflM L ++ S).length = _
        rw [hlS]
      rw [e25']
      have htk : takesN s2 (b q) = some (lflC L ++ S, [], 0, true, true, 0, na') := by
        rw [es, q63.2]
        unfold takesN
        rw [if_neg (by decide), if_neg Bool.false_ne_true, if_neg (show ¬ 0 < rkN (nI 63) by decide), if_neg (by decide), if_neg (show ¬ 0 < 0 by decide), if_neg (by decide), if_pos rfl, if_neg Bool.false_ne_true, er]
      have fr3 : frL τ2 (upA (upI τ2 22 (nI (q + 1))) 17 (61 + L.length) (nI ((lflM L).length + S.length))) := frL_tr (frR_L (frR_I (by omega))) fr_17
      have ht3 := tpM_L fr3 ht2
      have hst3 : stM (lflM L ++ S) (upA (upI τ2 22 (nI (q + 1))) 17 (61 + L.length) (nI ((lflM L).length + S.length))) := ⟨d7.1, fun i hi => by rw [upA_2, if_neg (by decide), upA_2, if_neg (by decide)]; exact d7.2 i hi⟩
      obtain ⟨τ4, b1, b2', b3⟩ := whole_C (b := b) (Lb := Lb) (q + 1) (lflM L ++ S) (lflC L ++ S) [] true 0 na' _ (by omega) (by omega) ht3 (by rw [upA_1, upI_1, if_pos rfl]) (by rw [upA_1, upI_1, if_neg (by decide)]; exact d5) (by rw [upA_1, upI_1, if_neg (by decide)]; exact d6) hst3 (fun _ => ⟨by decide, by decide, by decide⟩)
      rw [b1, bind_s, ln_66 hli]
      have fr4 : frL τ τ4 := frL_tr fr2 (frL_tr fr3 (frR_L b2'))
      have k16 : τ4.2.1 16 1 = nI L.length := by rw [b2'.2.1 16 (by decide) (by decide), upA_2, if_neg (by decide)]; exact g16
      have k17 : ∀ i, τ4.2.1 17 i = if i = 61 + L.length then nI ((lflM L).length + S.length) else τ2.2.1 17 i := by
        intro i
        rw [b2'.2.1 17 (by decide) (by decide), upA_2, if_pos rfl]; rfl
      have k18 : τ4.2.1 18 = τ2.2.1 18 := by rw [b2'.2.1 18 (by decide) (by decide), upA_2, if_neg (by decide)]; rfl
      have ke : entM 61 τ4 L := by
        intro l y hy
        have hlt : l < L.length := by
          by_cases z : l < L.length
          · exact z
          · rw [List.getElem?_eq_none (by omega)] at hy; cases hy
        rw [k17, if_neg (by omega), k18]
        exact ge l y hy
      have hrun1 : runN b (q + 1 - p) p (lflC L, [], 0, true, false, dg, na) = some (lflC L ++ S, [], 0, true, true, 0, na') := run_to (q := q) d8 (by rw [show q + 1 - q = 1 by omega]; exact run_1 htk) (by omega) (by omega)
      refine ⟨_, rfl, frL_tr fr4 fr_66, ?_⟩
      rcases b3 with ⟨S2, q2, s3, c1', c2, c3, c4, c5, c6, c7, c8, c9, c10, c11⟩ | ⟨fl, h, l, s3, c1', c2, c3, c4, c5, c6, c7, c8, c9⟩
      · refine Or.inl ?_
        unfold aftN at c9
        rw [if_neg (by omega)] at c9
        obtain ⟨w2, W2, dg2, na2, gs, gr⟩ := c9
        obtain ⟨dq0, dq1⟩ := ok_S c11 (by omega)
        obtain ⟨f1, f2, f3⟩ := fin_66 (L := L) (x := (some S, S2)) (τ := τ4) (by rw [show lflM L ++ (tst (some S, S2) ++ (some S, S2).2) = lflM L ++ S ++ S2 by rw [List.append_assoc]; rfl]; exact c7) (by
          show (lflM L ++ (S ++ S2)).length < 200
          rw [List.length_append, List.length_append]; omega) (by rw [k17, if_pos rfl]; rfl) k16 ke
        refine ⟨(some S, S2), q2, w2, W2, dg2, na2, by omega, c2, ⟨fun t ht => (by cases ht; exact dp0), dq0, dq1⟩, by show S.length + S2.length ≤ _; omega, c4, c5, c6, f1, f3, f2, ?_, ?_, by rw [gs] at c10; exact c10, fun _ h => by cases h⟩
        · show _ = some (w2, W2, 0, false, true, dg2, na2)
          rw [← gs]
          exact run_to (q := q + 1) hrun1 c8 (by omega) (by omega)
        · rw [gr]
          show (lflC L ++ S ++ S2, []) = (lflC L ++ (S ++ S2), [])
          rw [List.append_assoc]
      · refine Or.inr ⟨fl, h, s3, by omega, c2, c3, c4, c5, ?_, c9⟩
        exact run_to (q := q + 1) hrun1 c8 (by omega) (by omega)
    · rw [if_neg (fun z => q63 (e63.mp z)), ln_66 hli]
      obtain ⟨f1, f2, f3⟩ := fin_66 (L := L) (x := (none, S)) (τ := τ2) d7 (by
          show (lflM L ++ S).length < 200
          rw [List.length_append]; omega) (by rw [g17, if_pos rfl]; rfl) g16 ge
      refine ⟨_, rfl, frL_tr fr2 fr_66, Or.inl ⟨(none, S), q, w', W', dg', na', d1, d2, ⟨fun t ht => (by cases ht), dp0, dp1⟩, by show 0 + S.length ≤ _; omega, d4, d5, d6, f1, f3, f2, ?_, er, by rw [es] at d10; exact d10, fun h _ z => q63 ⟨h, z⟩⟩⟩
      show _ = some (w', W', 0, false, false, dg', na')
      rw [← es]
      exact d8
  · rw [if_pos (show (0 : Int32) ≤ τ2.1 23 by rw [d5]; exact nI_0le (by omega)), ln_66 hli]
    exact ⟨_, rfl, frL_tr fr2 fr_66, Or.inr ⟨fl, h, s2, d1, d2, d3, d4, d5, d8, d9⟩⟩
