/-! the whole text, read by the reference -/
def sI : TS := ([], [], 0, true, false, 0, 0)
def EndW (b : Nat → Nat) (Lb q : Nat) (τ : St) : Prop := ∃ (L : LawT) (x : Option (List Int32) × List Int32) (w' W' : List Int32) (dg na : Nat), (∀ y ∈ L, okLine y) ∧ okLine x ∧ q ≤ Lb ∧ (lflC (L ++ [x])).length ≤ q + 1 ∧ 2 * (L.length + 1) ≤ (lflC (L ++ [x])).length ∧ τ.1 22 = nI q ∧ τ.1 23 = -1 ∧ τ.1 24 = 0 ∧ stM (lflM (L ++ [x])) τ ∧ τ.2.1 16 1 = nI (L.length + 1) ∧ entM 61 τ (L ++ [x]) ∧ runN b q 0 sI = some (w', W', 0, false, x.1.isSome, dg, na) ∧ relN 1 w' W' = (lflC L ++ (tst x ++ x.2), []) ∧ okE b Lb q 1 (w', W', 0, false, x.1.isSome, dg, na) ∧ (q < Lb → x.1 = none → b q ≠ 63)
def Good (b : Nat → Nat) (Lb : Nat) (τ : St) : Prop := ∃ (L : LawT) (w' W' : List Int32) (sec : Bool) (dg na : Nat), L ≠ [] ∧ (∀ y ∈ L, okLine y) ∧ (lflC L).length ≤ Lb + 1 ∧ 2 * L.length ≤ (lflC L).length ∧ τ.1 23 = -1 ∧ stM (lflM L) τ ∧ τ.2.1 16 1 = nI L.length ∧ entM 61 τ L ∧ runN b Lb 0 sI = some (w', W', 0, false, sec, dg, na) ∧ (relN 1 w' W').1 ++ [if sec = true then -63 else -59] = lflC L
theorem app_ne (L : LawT) (x : Option (List Int32) × List Int32) : L ++ [x] ≠ [] := by
  intro z
  have := congrArg List.length z
  rw [List.length_append] at this
  exact absurd this (Nat.succ_ne_zero _)
theorem run_0 {b : Nat → Nat} {q : Nat} {s s1 : TS} (h : runN b q 0 s = some s1) : runN b (q - 0) 0 s = some s1 := h
theorem endW_of {b : Nat → Nat} {Lb p : Nat} {L : LawT} {dg na : Nat} {τ : St} (hL : ∀ y ∈ L, okLine y) (hl : (lflC L).length ≤ p) (h2 : 2 * L.length ≤ (lflC L).length) (hr : runN b p 0 sI = some (lflC L, [], 0, true, false, dg, na)) (h : EndL b Lb p L (lflC L, [], 0, true, false, dg, na) τ) : ∃ q, p < q ∧ EndW b Lb q τ := by
  obtain ⟨x, q, w', W', dg', na', h1, h2', h3, h4, h5, h6, h7, h8, h9, h10, h11, h12, h13, h14⟩ := h
  have hx : 1 ≤ x.2.length := by
    have := h3.2.1
    cases e : x.2 with
    | nil => rw [e] at this; cases this
    | cons a r => rw [List.length_cons]; omega
  have hlen : (lflC (L ++ [x])).length = (lflC L).length + ((tst x).length + x.2.length) + 1 := by
    rw [lC_app, List.length_append, List.length_append, List.length_append]; rfl
  refine ⟨q, h1, L, x, w', W', dg', na', hL, h3, h2', by omega, by omega, h5, h6, h7, h8, h9, h10, ?_, h12, h13, h14⟩
  have := run_to (q := p) (run_0 hr) h11 (by omega) (by omega)
  exact this
theorem badW_of {b : Nat → Nat} {Lb p : Nat} {s : TS} {τ : St} (hr : runN b p 0 sI = some s) (h : BadL b Lb p s τ) : BadL b Lb 0 sI τ := by
  obtain ⟨f, h, s2, h1, h2, h3, h4, h5, h6, h7⟩ := h
  exact ⟨f, h, s2, by omega, h2, h3, h4, h5, run_to (q := p) (run_0 hr) h6 (by omega) (by omega), h7⟩
theorem bad_86 {b : Nat → Nat} {Lb : Nat} {τ : St} (hLb : Lb ≤ 120) (h : BadL b Lb 0 sI τ) : 0 ≤ τ.1 23 := by
  obtain ⟨f, h, s2, h1, h2, h3, h4, h5, h6, h7⟩ := h
  rw [h5]; exact nI_0le (by omega)
theorem text_l {b : Nat → Nat} {Lb : Nat} : ∀ (n q : Nat) (τ : St), Lb - q ≤ n → tpM b Lb τ → EndW b Lb q τ → ∀ fuel, n + 1 < fuel → ∃ τ', f_M_readText_31 fuel τ 0 = f_M_readText_86 τ' 0 ∧ frL τ τ' ∧ (Good b Lb τ' ∨ BadL b Lb 0 sI τ') := by
  intro n
  induction n with
  | zero =>
    intro q τ hn ht h fuel hf
    obtain ⟨f, rfl⟩ : ∃ f, fuel = f + 1 := ⟨fuel - 1, by omega⟩
    obtain ⟨L, x, w', W', dg, na, e1, e2, e3, e4, e5, e6, e7, e8, e9, e10, e11, e12, e13, e14, e15⟩ := h
    have hq : q = Lb := by omega
    subst hq
    have hLb := ht.2.1
    refine ⟨τ, ?_, frL_rf τ, Or.inl ⟨L ++ [x], w', W', x.1.isSome, dg, na, app_ne L x, fun y hy => ?_, e4, by rw [List.length_append]; exact e5, e7, e9, by rw [List.length_append]; exact e10, e11, e12, by rw [e13, lC_app]⟩⟩
    · unfold f_M_readText_31
      rw [if_neg (show ¬ (0 : Int32) ≤ τ.1 23 by rw [e7]; decide), look_M ht e6 e3, bind_s, if_neg (by unfold lkN; rw [if_neg (by omega)]; decide)]
      unfold f_M_readText_64
      rw [if_neg (show ¬ (0 : Int32) ≤ τ.1 23 by rw [e7]; decide), if_pos (by rw [ht.1, e6]; exact nI_le (Nat.le_refl _) (by omega))]
    · rcases List.mem_append.mp hy with z | z
      · exact e1 y z
      · rw [List.mem_singleton.mp z]; exact e2
  | succ n ih =>
    intro q τ hn ht h fuel hf
    obtain ⟨f, rfl⟩ : ∃ f, fuel = f + 1 := ⟨fuel - 1, by omega⟩
    obtain ⟨L, x, w', W', dg, na, e1, e2, e3, e4, e5, e6, e7, e8, e9, e10, e11, e12, e13, e14, e15⟩ := h
    have hLb := ht.2.1
    have n23 : ¬ (0 : Int32) ≤ τ.1 23 := by rw [e7]; decide
    have hmem : ∀ y ∈ L ++ [x], okLine y := fun y hy => by
      rcases List.mem_append.mp hy with z | z
      · exact e1 y z
      · rw [List.mem_singleton.mp z]; exact e2
    have e59 : lkN b Lb q = 59 ↔ q < Lb ∧ b q = 59 := by
      unfold lkN
      by_cases z : q < Lb
      · rw [if_pos z]
        have := (byte_g ⟨b q, (ht.2.2 q z).2⟩).2.2.2.2.2.2.2.2.1
        exact ⟨fun y => ⟨z, this.mp y⟩, fun y => this.mpr y.2⟩
      · rw [if_neg z]
        exact ⟨fun y => absurd y (by decide), fun y => absurd y.1 z⟩
    by_cases q59 : q < Lb ∧ b q = 59
    · have htk : takesN (w', W', 0, false, x.1.isSome, dg, na) (b q) = some (lflC (L ++ [x]), [], 0, true, false, 0, na) := by
        rw [q59.2]
        unfold takesN
        rw [if_neg (by decide), if_neg Bool.false_ne_true, if_neg (show ¬ 0 < rkN (nI 59) by decide), if_neg (by decide), if_neg (show ¬ 0 < 0 by decide), if_pos rfl, e13, lC_app]
      have hrun : runN b (q + 1) 0 sI = some (lflC (L ++ [x]), [], 0, true, false, 0, na) := by
        rw [run_app b q 1 0 _ _ e12, Nat.zero_add]
        exact run_1 htk
      have fr1 : frL τ (upI τ 22 (nI (q + 1))) := frR_L (frR_I (by omega))
      obtain ⟨τ2, a1, a2, a3⟩ := line_C (b := b) (Lb := Lb) (p := q + 1) (L := L ++ [x]) (dg := 0) (na := na) (τ := upI τ 22 (nI (q + 1))) (tpM_L fr1 ht) (by omega) e4 (by rw [List.length_append]; exact e5) (by rw [upI_1, if_pos rfl]) (by rw [upI_1, if_neg (by decide)]; exact e7) (by rw [upI_1, if_neg (by decide)]; exact e8) (stM_I e9 (by decide)) (by rw [List.length_append]; exact e10) e11
      have ht2 := tpM_L a2 (tpM_L fr1 ht)
      have step : f_M_readText_31 (f + 1) τ 0 = f_M_readText_31 f τ2 0 := by
        conv => lhs; unfold f_M_readText_31
        rw [if_neg n23, look_M ht e6 e3, bind_s, if_pos (e59.mpr q59), e6, nI_1, a1, bind_s]
      rw [step]
      rcases a3 with a3 | a3
      · obtain ⟨q2, g1, g2⟩ := endW_of hmem e4 (by rw [List.length_append]; exact e5) hrun a3
        obtain ⟨τ3, k1, k2, k3⟩ := ih q2 τ2 (by omega) ht2 g2 f (by omega)
        exact ⟨τ3, k1, frL_tr fr1 (frL_tr a2 k2), k3⟩
      · have hb := badW_of hrun a3
        have h0 := bad_86 hLb hb
        obtain ⟨f', rfl⟩ : ∃ f', f = f' + 1 := ⟨f - 1, by omega⟩
        refine ⟨τ2, ?_, frL_tr fr1 a2, Or.inr hb⟩
        unfold f_M_readText_31
        rw [if_pos h0]
        unfold f_M_readText_64
        rw [if_pos h0]
    · have step : f_M_readText_31 (f + 1) τ 0 = f_M_readText_64 τ 0 := by
        conv => lhs; unfold f_M_readText_31
        rw [if_neg n23, look_M ht e6 e3, bind_s, if_neg (fun z => q59 (e59.mp z))]
      rw [step]
      unfold f_M_readText_64
      rw [if_neg n23, ht.1, e6]
      by_cases qe : q < Lb
      · rw [if_neg (nI_ge qe (by omega)), wrong_M e7, bind_s]
        refine ⟨_, rfl, frR_L (frR_I (by omega)), Or.inr ⟨q, q, _, by omega, by omega, by omega, by rw [upI_1, if_neg (by decide)]; exact e6, by rw [upI_1, if_pos rfl]; exact e6, run_0 e12, Or.inl ⟨qe, ?_⟩⟩⟩
        by_cases qd : 48 ≤ b q ∧ b q ≤ 57
        · exact e14 qe (Or.inl qd)
        · by_cases qr : 0 < rkN (nI (b q))
          · exact e14 qe (Or.inr (by omega))
          · unfold takesN
            rw [if_neg qd, if_neg Bool.false_ne_true, if_neg qr]
            by_cases q41 : b q = 41
            · rw [if_pos q41, e13, if_neg (show ¬ ([] : List Int32).headD 0 = 40 by decide)]
            · rw [if_neg q41, if_neg (show ¬ 0 < 0 by decide), if_neg (fun z => q59 ⟨qe, z⟩)]
              by_cases q63 : b q = 63
              · rw [if_pos q63, if_pos (by
                  cases e : x.1 with
                  | none => exact absurd q63 (e15 qe e)
                  | some t => rfl)]
              · rw [if_neg q63]
      · have hq : q = Lb := by omega
        rw [if_pos (nI_le (by omega) (by omega))]
        subst hq
        exact ⟨τ, rfl, frL_rf τ, Or.inl ⟨L ++ [x], w', W', x.1.isSome, dg, na, app_ne L x, hmem, e4, by rw [List.length_append]; exact e5, e7, e9, by rw [List.length_append]; exact e10, e11, e12, by rw [e13, lC_app]⟩⟩
theorem text_C {b : Nat → Nat} {Lb : Nat} {τ : St} (ht : tpM b Lb τ) : ∃ τ', f_M_readText τ 0 = f_M_readText_86 τ' 0 ∧ frL τ τ' ∧ (Good b Lb τ' ∨ BadL b Lb 0 sI τ') := by
  have hLb := ht.2.1
  have fr0 : frL τ (upA (upI (upI (upI (upI τ 22 0) 23 (-1)) 24 0) 25 0) 16 1 0) := by
    refine ⟨fun k p => ?_, fun a p => by rw [upA_2, if_neg (by omega)]; rfl, fun i _ => by rw [upA_2, if_neg (by decide), upA_2, if_neg (by decide)]; exact ⟨rfl, rfl⟩, fun i _ => by rw [upA_2, if_neg (by decide), upA_2, if_neg (by decide)]; exact ⟨rfl, rfl⟩, by rw [upA_2, if_pos rfl]; rfl, rfl⟩
    rw [upA_1, upI_1, if_neg (by omega), upI_1, if_neg (by omega), upI_1, if_neg (by omega), upI_1, if_neg (by omega)]
  obtain ⟨τ1, a1, a2, a3⟩ := line_C (b := b) (Lb := Lb) (p := 0) (L := []) (dg := 0) (na := 0) (tpM_L fr0 ht) (by omega) (by decide) (by decide) (by rw [upA_1, upI_1, if_neg (by decide), upI_1, if_neg (by decide), upI_1, if_neg (by decide), upI_1, if_pos rfl]; rfl) (by rw [upA_1, upI_1, if_neg (by decide), upI_1, if_neg (by decide), upI_1, if_pos rfl]) (by rw [upA_1, upI_1, if_neg (by decide), upI_1, if_pos rfl]) ⟨by rw [upA_1, upI_1, if_pos rfl]; rfl, fun i hi => absurd hi (Nat.not_lt_zero _)⟩ (by rw [upA_2, if_pos rfl]; rfl) (fun l y hy => by cases hy)
  have ht1 := tpM_L a2 (tpM_L fr0 ht)
  have e0 : f_M_readText τ 0 = f_M_readText_31 FU τ1 0 := by
    unfold f_M_readText
    rw [show (1 : Int32).toNatClampNeg = 1 by decide, a1, bind_s]
  rw [e0]
  rcases a3 with a3 | a3
  · obtain ⟨q2, g1, g2⟩ := endW_of (fun y hy => by cases hy) (by decide) (by decide) rfl a3
    obtain ⟨τ3, k1, k2, k3⟩ := text_l 120 q2 τ1 (by omega) ht1 g2 FU (by show _ < 1000; omega)
    exact ⟨τ3, k1, frL_tr fr0 (frL_tr a2 k2), k3⟩
  · have h0 := bad_86 hLb a3
    refine ⟨τ1, ?_, frL_tr fr0 a2, Or.inr a3⟩
    show f_M_readText_31 (999 + 1) τ1 0 = _
    unfold f_M_readText_31
    rw [if_pos h0]
    unfold f_M_readText_64
    rw [if_pos h0]
