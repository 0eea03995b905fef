/-! both worlds in one frame -/
abbrev hx (g : Gx) (a : Nat → Nat) (A' : Nat → Prop) : Gx := (g.1, a, g.2.2.1, A', g.2.2.2.2)
abbrev wL (A : Nat → Prop) (g : Gx) (a : Nat → Nat) (A' : Nat → Prop) (τ : St) : Wx := (fun σ => WdC g σ ++ WdM (hx g a A') τ, g.1, tysG g, A, fun _ _ => True)
def LB (E : Ev) (nL : Nat) (A : Nat → Prop) (g : Gx) (a : Nat → Nat) (A' : Nat → Prop) (cc : ByteArray) (own : String) (d : Nat) : Prop :=
  (∀ τ, Cx E classes nL (wL A g a A' τ) cc own d) ∧ Wok classes (wC g) ∧ Wok classes (wM (hx g a A')) ∧ gxC g E.2.2.2.2.1 E.2.2.2.2.1.heap ∧ (∀ q, g.2.2.2.1 q → A q) ∧ (∀ q, A' q → A q) ∧ (∀ q, g.2.2.2.1 q → ¬ A' q) ∧ (∀ q, A q → E.2.2.2.2.1.heap.size ≤ q)
section TWO
variable {E : Ev} {g : Gx} {a : Nat → Nat} {A A' : Nat → Prop} {nL d dd : Nat} {σ σ' τ τ' : St} {pc : Nat} {lv : List (Nat × Value)} {st st0 : List Value} {cc b : ByteArray} {own : String}
theorem va_P.fst {D : va_G} {cl : List vw_C} {w1 w2 : va_W} {H : Heap} (h : va_P D cl (w1 ++ w2) H) : va_P D cl w1 H := fun k q hk => h k q (by
  have hlt : k < w1.length := by
    rcases Nat.lt_or_ge k w1.length with z | z
    · exact z
    · rw [List.getElem?_eq_none z] at hk; cases hk
  rw [List.getElem?_append_left hlt]; exact hk)
theorem va_P.snd {D : va_G} {cl : List vw_C} {w1 w2 : va_W} {H : Heap} (h : va_P D cl (w1 ++ w2) H) : va_P D cl w2 H := fun k q hk => h (w1.length + k) q (by
  rw [List.getElem?_append_right (by omega), Nat.add_sub_cancel_left]; exact hk)
theorem L_callC (B : LB E nL A g a A' cc own d) (As : List Value) {y : MethodName} {maxL idx n : Nat} {ret : Option FieldType} {r : Int32} (hM : CtI classes E.2.1 y b maxL ret dd (wC g) (.ref (g.2.1 0) :: As) σ r σ') (hd : dd + 1 ≤ d) (hw : CwV own idx y b maxL ret n) (hcn : y.cls = "WithTheReds") (hn : As.length = n) (hcat : (st.map fun v => v.category).sum ≤ 8) (hst : As.reverse ++ .ref (g.2.1 0) :: st = st0) (hdg : decode cc pc = .ok (.invokevirtual idx, 3)) (kk : V E classes nL (wL A g a A' τ) σ' (pc + 3) lv (.int r :: st)) : V E classes nL (wL A g a A' τ) σ pc lv st0 := by
  intro H locs ls hP hS hl
  subst hst
  have C := B.1 τ
  have hPC : va_P g.1 classes (WdC g σ) H := va_P.fst hP
  have hPM : va_P g.1 classes (WdM (hx g a A') τ) H := va_P.snd hP
  have hS' : va_S A E.2.2.2.2.1.heap H locs := hS
  have hS0 : va_S g.2.2.2.1 E.2.2.2.2.1.heap H [] := ⟨hS'.1, fun q h1 h2 => hS'.2.1 q h1 (fun z => absurd (B.2.2.2.2.2.2.2 q z) (by omega)), fun _ h => by cases h⟩
  exact va_calli (va_runV (C := y.cls) (As := As) (rest := st) ⟨C.1, C.2.1, C.2.2.1, C.2.2.2.1, C.2.2.2.2.1⟩ hM ⟨cwB C hd hw.1 hw.2.1, C.2.2.2.2.1 _ hw.2.2.1, C.2.2.2.2.1 _ hw.2.2.2⟩ ⟨pcw_blind B.2.1 _, by rw [hcn]; exact va_recv (q0 := 0) (ci := 11) C.2.2.2.2.2.1 hPC rfl rfl, fun U hU hW => ⟨rfl, by rw [hU]; exact hPC, va_K.moved hW.alike C.2.2.2.2.2.1, by rw [hU]; exact B.2.1.2.1 _ U H [] B.2.2.2.1 hS0 hU hW⟩⟩ rfl hn hl.1 rfl (lv_room hcat) hdg C.2.2.2.2.2.2.2.2.2.2) hS' (fun q _ h => B.2.2.2.2.1 q h) (fun q h => B.2.2.2.2.1 q h) (fun r1 u t H1 locs1 ht hvm hpost hB hz hk hS1 => by
    obtain ⟨rfl, rfl⟩ := hpost
    have hP1 : va_P g.1 classes (WdC g u) H1 := by rw [← ht]; exact hB
    have hP2 : va_P g.1 classes (WdM (hx g a A') τ) H1 := hPM.kept (fun k x hx => hk x.1 ((hPM k x hx).lt) (fun z => B.2.2.2.2.2.2.1 x.1 z ((B.2.2.1.1 τ).2 k x hx)))
    exact kk H1 locs1 ls (hP1.app hP2) hS1 hl)
theorem L_callM (B : LB E nL A g a A' cc own d) (As : List Value) {y : MethodName} {maxL idx n : Nat} {ret : Option FieldType} {r : Int32} (hM : CtI classes E.2.1 y b maxL ret dd (wM (hx g a A')) (.ref (a 0) :: As) τ r τ') (hd : dd + 1 ≤ d) (hw : CwV own idx y b maxL ret n) (hcn : y.cls = "WithTheRedsModel") (hn : As.length = n) (hcat : (st.map fun v => v.category).sum ≤ 8) (hst : As.reverse ++ .ref (a 0) :: st = st0) (hdg : decode cc pc = .ok (.invokevirtual idx, 3)) (kk : V E classes nL (wL A g a A' τ') σ (pc + 3) lv (.int r :: st)) : V E classes nL (wL A g a A' τ) σ pc lv st0 := by
  intro H locs ls hP hS hl
  subst hst
  have C := B.1 τ
  have hPC : va_P g.1 classes (WdC g σ) H := va_P.fst hP
  have hPM : va_P g.1 classes (WdM (hx g a A') τ) H := va_P.snd hP
  have hS' : va_S A E.2.2.2.2.1.heap H locs := hS
  exact va_calli (va_runV (C := y.cls) (As := As) (rest := st) ⟨C.1, C.2.1, C.2.2.1, C.2.2.2.1, C.2.2.2.2.1⟩ hM ⟨cwB C hd hw.1 hw.2.1, C.2.2.2.2.1 _ hw.2.2.1, C.2.2.2.2.1 _ hw.2.2.2⟩ ⟨pcw_blind B.2.2.1 _, by rw [hcn]; exact va_recv (q0 := 0) (ci := 12) C.2.2.2.2.2.1 hPM rfl rfl, fun U hU hW => ⟨rfl, by rw [hU]; exact hPM, va_K.moved hW.alike C.2.2.2.2.2.1, trivial⟩⟩ rfl hn hl.1 rfl (lv_room hcat) hdg C.2.2.2.2.2.2.2.2.2.2) hS' (fun q _ h => B.2.2.2.2.2.1 q h) (fun q h => B.2.2.2.2.2.1 q h) (fun r1 u t H1 locs1 ht hvm hpost hB hz hk hS1 => by
    obtain ⟨rfl, rfl⟩ := hpost
    have hP1 : va_P g.1 classes (WdM (hx g a A') u) H1 := by rw [← ht]; exact hB
    have hP2 : va_P g.1 classes (WdC g σ) H1 := hPC.kept (fun k x hx => hk x.1 ((hPC k x hx).lt) (fun z => B.2.2.2.2.2.2.1 x.1 ((B.2.1.1 σ).2 k x hx) z))
    exact kk H1 locs1 ls (hP2.app hP1) hS1 hl)
end TWO
