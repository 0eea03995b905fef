/-! both worlds: long answers, the script -/
theorem lg_rf (r : Int64) : lg_cmp r r = 0 := by
  unfold lg_cmp
  rw [if_neg (show ¬ r > r from Int64.lt_irrefl), if_pos rfl]
section TWR
variable {E : Ev} {g : Gx} {a : Nat → Nat} {A A' : Nat → Prop} {nL d dd : Nat} {σ σ' τ τ' : St} {pc : Nat} {lv : List (Nat × Value)} {st st0 : List Value} {cc b : ByteArray} {own : String}
theorem L_callCl (B : LB E nL A g a A' cc own d) (As : List Value) {y : MethodName} {maxL idx n : Nat} {ret : Option FieldType} {r : Int64} (hM : CtL classes E.2.1 y b maxL ret dd (wC g) (.ref (g.2.1 0) :: As) σ r σ') (hd : dd + 1 ≤ d) (hw : CwV own idx y b maxL ret n) (hcn : y.cls = "WithTheReds") (hn : As.length = n) (hcat : (st.map fun v => v.category).sum ≤ 8) (hst : As.reverse ++ .ref (g.2.1 0) :: st = st0) (hdg : decode cc pc = .ok (.invokevirtual idx, 3)) (kk : V E classes nL (wL A g a A' τ) σ' (pc + 3) lv (.long r :: st)) : V E classes nL (wL A g a A' τ) σ pc lv st0 := by
  intro H locs ls hP hS hl
  subst hst
  have C := B.1 τ
  have hPC : va_P g.1 classes (WdC g σ) H := va_P.fst hP
  have hPM : va_P g.1 classes (WdM (hx g a A') τ) H := va_P.snd hP
  have hS' : va_S A E.2.2.2.2.1.heap H locs := hS
  have hS0 : va_S g.2.2.2.1 E.2.2.2.2.1.heap H [] := ⟨hS'.1, fun q h1 h2 => hS'.2.1 q h1 (fun z => absurd (B.2.2.2.2.2.2.2 q z) (by omega)), fun _ h => by cases h⟩
  exact va_calll (va_runV (C := y.cls) (As := As) (rest := st) ⟨C.1, C.2.1, C.2.2.1, C.2.2.2.1, C.2.2.2.2.1⟩ hM ⟨cwB C hd hw.1 hw.2.1, C.2.2.2.2.1 _ hw.2.2.1, C.2.2.2.2.1 _ hw.2.2.2⟩ ⟨pcw_blind B.2.1 _, by rw [hcn]; exact va_recv (q0 := 0) (ci := 11) C.2.2.2.2.2.1 hPC rfl rfl, fun U hU hW => ⟨rfl, by rw [hU]; exact hPC, va_K.moved hW.alike C.2.2.2.2.2.1, by rw [hU]; exact B.2.1.2.1 _ U H [] B.2.2.2.1 hS0 hU hW⟩⟩ rfl hn hl.1 rfl (lv_room hcat) hdg C.2.2.2.2.2.2.2.2.2.2) hS' (fun q _ h => B.2.2.2.2.1 q h) (fun q h => B.2.2.2.2.1 q h) (fun r1 u t H1 locs1 ht hvm hpost hB hz hk hS1 => by
    obtain ⟨rfl, rfl⟩ := hpost
    have hP1 : va_P g.1 classes (WdC g u) H1 := by rw [← ht]; exact hB
    have hP2 : va_P g.1 classes (WdM (hx g a A') τ) H1 := hPM.kept (fun k x hx => hk x.1 ((hPM k x hx).lt) (fun z => B.2.2.2.2.2.2.1 x.1 z ((B.2.2.1.1 τ).2 k x hx)))
    exact kk H1 locs1 ls (hP1.app hP2) hS1 hl)
theorem L_callMl (B : LB E nL A g a A' cc own d) (As : List Value) {y : MethodName} {maxL idx n : Nat} {ret : Option FieldType} {r : Int64} (hM : CtL classes E.2.1 y b maxL ret dd (wM (hx g a A')) (.ref (a 0) :: As) τ r τ') (hd : dd + 1 ≤ d) (hw : CwV own idx y b maxL ret n) (hcn : y.cls = "WithTheRedsModel") (hn : As.length = n) (hcat : (st.map fun v => v.category).sum ≤ 8) (hst : As.reverse ++ .ref (a 0) :: st = st0) (hdg : decode cc pc = .ok (.invokevirtual idx, 3)) (kk : V E classes nL (wL A g a A' τ') σ (pc + 3) lv (.long r :: st)) : V E classes nL (wL A g a A' τ) σ pc lv st0 := by
  intro H locs ls hP hS hl
  subst hst
  have C := B.1 τ
  have hPC : va_P g.1 classes (WdC g σ) H := va_P.fst hP
  have hPM : va_P g.1 classes (WdM (hx g a A') τ) H := va_P.snd hP
  have hS' : va_S A E.2.2.2.2.1.heap H locs := hS
  exact va_calll (va_runV (C := y.cls) (As := As) (rest := st) ⟨C.1, C.2.1, C.2.2.1, C.2.2.2.1, C.2.2.2.2.1⟩ hM ⟨cwB C hd hw.1 hw.2.1, C.2.2.2.2.1 _ hw.2.2.1, C.2.2.2.2.1 _ hw.2.2.2⟩ ⟨pcw_blind B.2.2.1 _, by rw [hcn]; exact va_recv (q0 := 0) (ci := 12) C.2.2.2.2.2.1 hPM rfl rfl, fun U hU hW => ⟨rfl, by rw [hU]; exact hPM, va_K.moved hW.alike C.2.2.2.2.2.1, trivial⟩⟩ rfl hn hl.1 rfl (lv_room hcat) hdg C.2.2.2.2.2.2.2.2.2.2) hS' (fun q _ h => B.2.2.2.2.2.1 q h) (fun q h => B.2.2.2.2.2.1 q h) (fun r1 u t H1 locs1 ht hvm hpost hB hz hk hS1 => by
    obtain ⟨rfl, rfl⟩ := hpost
    have hP1 : va_P g.1 classes (WdM (hx g a A') u) H1 := by rw [← ht]; exact hB
    have hP2 : va_P g.1 classes (WdC g σ) H1 := hPC.kept (fun k x hx => hk x.1 ((hPC k x hx).lt) (fun z => B.2.2.2.2.2.2.1 x.1 ((B.2.1.1 σ).2 k x hx) z))
    exact kk H1 locs1 ls (hP2.app hP1) hS1 hl)
theorem L_len {q L : Nat} {xs : Nat → Int32} (B : LB E nL A g a A' cc own d) (hX : va_X q L xs E.2.2.2.2.1 E.2.2.2.2.1.heap) (hbl : q < E.2.2.2.2.1.heap.size) (hdg : decode cc pc = .ok (.arraylength, 1)) (kk : V E classes nL (wL A g a A' τ) σ (pc + 1) lv (.int (nI L) :: st)) : V E classes nL (wL A g a A' τ) σ pc lv (.ref q :: st) := fun H locs ls hP hS hl => va_slen (B.1 τ).1 (B.1 τ).2.1 hX hbl (fun z => absurd (B.2.2.2.2.2.2.2 q z) (by omega)) hS hdg (kk H locs ls hP hS hl)
theorem L_ld {q L : Nat} {xs : Nat → Int32} {i : Int32} (B : LB E nL A g a A' cc own d) (hX : va_X q L xs E.2.2.2.2.1 E.2.2.2.2.1.heap) (hbl : q < E.2.2.2.2.1.heap.size) (hi : vp_in i L) (hdg : decode cc pc = .ok (.iaload, 1)) (kk : V E classes nL (wL A g a A' τ) σ (pc + 1) lv (.int (xs i.toNatClampNeg) :: st)) : V E classes nL (wL A g a A' τ) σ pc lv (.int i :: .ref q :: st) := fun H locs ls hP hS hl => va_sld (B.1 τ).1 (B.1 τ).2.1 hX hbl (fun z => absurd (B.2.2.2.2.2.2.2 q z) (by omega)) hS hi hdg (kk H locs ls hP hS hl)
end TWR
