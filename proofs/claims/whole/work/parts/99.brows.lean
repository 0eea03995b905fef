/-! the law's own frame, with a world that grows -/
def BL (E : Ev) (nL : Nat) (z : Nx) (cc : ByteArray) (own : String) (d mc ms : Nat) : Prop :=
  E.1.tables.exec = Jvm.exec ∧ E.2.2.2.2.2.2.2.2.2.1.code = cc ∧ E.2.2.2.2.2.2.2.2.2.1.maxLocals = nL ∧ E.2.2.2.2.1.vm.findClass own = some E.2.2.2.2.2.1.cls ∧
  (∀ x ∈ TT, x.before E.2.2.2.2.2.2.1 E.2.2.2.2.1 = true) ∧ va_K z.1 classes z.2.1 E.2.2.2.2.1 ∧ (∀ q, E.2.2.2.2.1.heap.size ≤ q → z.2.2 q) ∧ (d ≤ E.2.2.2.1.frames ∧ 40 * d ≤ E.2.2.2.1.locals ∧ mc ≤ E.2.2.2.1.cells ∧ ms ≤ E.2.2.2.1.slots)
section LAWF
variable {E : Ev} {nL d dd mc ms ce sl : Nat} {z : Nx} {ws : va_W} {pc : Nat} {lv lv' : List (Nat × Value)} {st st0 : List Value} {cc b : ByteArray} {own : String}
theorem BL.cx (B : BL E nL z cc own d mc ms) (hD : va_D z.2.2 ws) (h1 : ce ≤ mc) (h2 : sl ≤ ms) : Cx (EN E ce sl) classes nL (wN z ws) cc own d :=
  ⟨B.1, B.2.1, B.2.2.1, B.2.2.2.1, B.2.2.2.2.1, B.2.2.2.2.2.1, trivial, ⟨fun _ => hD, fun _ _ _ _ _ _ _ _ => trivial, fun _ _ _ _ _ => trivial⟩, B.2.2.2.2.2.2.2.1, B.2.2.2.2.2.2.2.2.1, Nat.le_trans h1 B.2.2.2.2.2.2.2.2.2.1, Nat.le_trans h2 B.2.2.2.2.2.2.2.2.2.2⟩
theorem G_new {C : String} {T : u_T} {N ci index : Nat} {fs : List Value} (B : BL E nL z cc own d mc ms) (hD : va_D z.2.2 ws) (hin : ∀ x ∈ u_ws C T N, x ∈ TT) (ty : Nat → FieldType) (hty : ∀ k, k < N → parseFieldDescriptor (T k).2.2.1 = some (ty k)) (hcl : Cond.classLink own index C ∈ TT) (hinst : Cond.instantiable C N ∈ TT) (hini : Cond.initialized C ∈ TT) (hc : classes[ci]? = some (C, T, N)) (hfs : ∀ j, j < N → defaultValue (ty j) = vp_V fs j) (hce : ce + 1 ≤ mc) (hsl : sl + N ≤ ms) (hdg : decode cc pc = .ok (.new index, 3))
    (kk : ∀ q, va_D z.2.2 (ws ++ [(q, .inr (ci, fs))]) → V (EN E (ce + 1) (sl + N)) classes nL (wN z (ws ++ [(q, .inr (ci, fs))])) sg0 (pc + 3) lv (.ref q :: st)) : V (EN E ce sl) classes nL (wN z ws) sg0 pc lv st := by
  intro H locs ls hP hS hl2
  have hr := B.2.2.2.2.2.2.2
  exact va_new B.1 B.2.1 B.2.2.2.2.1 hin ty hty B.2.2.2.1 (B.2.2.2.2.1 _ hcl) (B.2.2.2.2.1 _ hinst) (B.2.2.2.2.1 _ hini) B.2.2.2.2.2.1 hP hD hS B.2.2.2.2.2.2.1 hc hfs (Nat.le_trans hce hr.2.2.1) (Nat.le_trans hsl hr.2.2.2) hdg (fun q H1 hP1 hD1 hS1 => kk q hD1 H1 locs ls hP1 hS1 hl2)
theorem G_callI {y : MethodName} {maxL mc' ms' idx n : Nat} {wc wr : va_W} {Bf : (Nat → Nat) → va_W} {X : (Nat → Prop) → State → Heap → Prop} (B : BL E nL z cc own d mc ms) (hD : va_D z.2.2 ws) (As : List Value) {h0 : Nat} (hM : CtN E.2.1 y b maxL dd mc' ms' z.1 z.2.1 (.ref h0 :: As) wc Bf X) (hd : dd + 1 ≤ d) (hw : CwI own idx y b maxL n) (hlk : Cond.methodLink own idx y ∈ TT) (isC isR : List Nat) (hC : isC.map (fun i => ws[i]?) = wc.map some) (hCf : isC.filterMap (fun i => ws[i]?) = wc) (hR : isR.map (fun i => ws[i]?) = wr.map some) (hnC : va_nd isC = true) (hnd : va_nd isR = true) (hdis : ∀ i ∈ isR, i ∉ isC)
    (hX : ∀ (U : State) (H : Heap) (locs : List Loc), va_S z.2.2 E.2.2.2.2.1.heap H locs → (∀ q, va_A wc H.size q → z.2.2 q) → U.heap = H → E.2.2.2.2.1.WarmedH U.vm → X (va_A wc H.size) U H) (hXb : ∀ (A : Nat → Prop) (U : State) (g : JFrame) (mk : MethodId) (a : Array Value), X A U U.heap → X A (U.calling g mk a) U.heap) (hn : As.length = n) (hcat : (st.map fun v => v.category).sum ≤ 8) (hst : As.reverse ++ .ref h0 :: st = st0) (hce : ce + mc' ≤ mc) (hsl : sl + ms' ≤ ms) (hdg : decode cc pc = .ok (.invokespecial idx, 3))
    (kk : ∀ u : Nat → Nat, va_D z.2.2 (wr ++ Bf u) → V (EN E (ce + mc') (sl + ms')) classes nL (wN z (wr ++ Bf u)) sg0 (pc + 3) lv st) : V (EN E ce sl) classes nL (wN z ws) sg0 pc lv st0 := by
  intro H locs ls hP hS hl
  subst hst
  have hr := B.2.2.2.2.2.2.2
  have hP' : va_P z.1 classes ws H := hP
  have hS' : va_S z.2.2 E.2.2.2.2.1.heap H locs := hS
  have hK : va_K z.1 classes z.2.1 E.2.2.2.2.1 := B.2.2.2.2.2.1
  have hPc := hP'.sub (ws' := wc) isC hCf
  have hDc := hD.sub (ws' := wc) isC hnC hC
  have hFc := va_free (wc := wc) hD hS' B.2.2.2.2.2.2.1 isC hC
  refine va_callv (va_runI (As := As) (rest := st) ⟨B.1, B.2.1, B.2.2.1, B.2.2.2.1, B.2.2.2.2.1⟩ (hM H.size) (cwI n B.2.2.2.2.1 (tt_good hw.2.1) rfl rfl rfl (B.2.2.2.2.1 _ hw.1) (B.2.2.2.2.1 _ hlk) (B.2.2.2.2.1 _ hw.2.2.2.2.1) hw.2.2.2.2.2 hw.2.2.1 (roomN_ok ⟨hr.1, hr.2.1⟩ hd hw.2.2.2.1)) ⟨fun a U g mk q => ?_, fun U hU hW => ⟨rfl, by rw [hU], by rw [hU]; exact hPc, va_K.moved hW.alike hK, hDc.weaken (fun _ _ _ _ => trivial), by rw [hU]; exact hX U H locs hS' hFc hU hW⟩⟩ rfl hn hl.1 rfl (lv_room hcat) hdg ⟨Nat.le_trans hce hr.2.2.1, Nat.le_trans hsl hr.2.2.2⟩) hS' (fun q _ h => hFc q h) hFc (fun u t H1 locs1 ht hvm hp hB hz1 hk1 hS1 => ?_)
  · obtain ⟨q0, q1, qP, qK, qD, qX⟩ := q
    exact ⟨q0, q1, qP, va_K.moved (u := U) (U := U.calling g mk a) (Vm.Alike.refl U.vm) qK, qD, hXb _ U g mk a qX⟩
  · obtain ⟨hP1, hD1⟩ := hB
    rw [ht] at hP1
    obtain ⟨hP2, hD2⟩ := va_join (wr := wr) (w1 := Bf u) hP' hD isC isR hC hR hnd hdis hk1 hFc hP1 hD1
    exact kk u hD2 H1 locs1 ls hP2 hS1 hl
end LAWF
