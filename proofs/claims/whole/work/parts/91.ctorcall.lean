/-! constructors called; what is copied out of a table into a new world -/
def CwI (own : String) (idx : Nat) (y : MethodName) (b : ByteArray) (maxL n : Nat) : Prop := Cond.initialized y.cls ∈ TT ∧ Cond.code y b maxL none ∈ TT ∧ (y.cls ≠ "java/lang/invoke/MethodHandle" ∧ y.cls ≠ "java/lang/invoke/VarHandle" ∧ (parseMethodDescriptor y.desc).map (fun d => d.parameters.length) = some n) ∧ maxL ≤ 21 ∧ Cond.instanceMethod y ∈ TT ∧ y.name = "<init>"
section CTC
variable {E : Ev} {nL d dd mc ms ce sl : Nat} {z : Nx} {ws : va_W} {pc : Nat} {lv lv' : List (Nat × Value)} {st st0 : List Value} {cc b : ByteArray} {own : String}
theorem roomN_ok {E : Ev} (h : d ≤ E.2.2.2.1.frames ∧ 40 * d ≤ E.2.2.2.1.locals) (hd : dd + 1 ≤ d) {maxL a c : Nat} (hm : maxL ≤ 21) : (rmN dd a c).frames + 1 ≤ E.2.2.2.1.frames ∧ 8 + (maxL + 11) + (rmN dd a c).locals ≤ E.2.2.2.1.locals := by
  refine ⟨by show dd + 1 ≤ _; omega, ?_⟩
  show 8 + (maxL + 11) + 40 * dd ≤ _
  omega
theorem N_callI {y : MethodName} {maxL mc' ms' idx n : Nat} {wc wr : va_W} {Bf : (Nat → Nat) → va_W} {X : (Nat → Prop) → State → Heap → Prop} (B : BN E nL z cc own d mc ms) (hD : va_D z.2.2 ws) (As : List Value) {h0 : Nat} (hM : CtN E.2.1 y b maxL dd mc' ms' z.1 z.2.1 (.ref h0 :: As) wc Bf X) (hd : dd + 1 ≤ d) (hw : CwI own idx y b maxL n) (hlk : Cond.methodLink own idx y ∈ TT) (isC isR : List Nat) (hC : isC.map (fun i => ws[i]?) = wc.map some) (hR : isR.map (fun i => ws[i]?) = wr.map some) (hnC : va_nd isC = true) (hnd : va_nd isR = true) (hdis : ∀ i ∈ isR, i ∉ isC)
    (hX : ∀ (U : State) (H : Heap) (locs : List Loc), va_S z.2.2 E.2.2.2.2.1.heap H locs → (∀ q, va_A wc H.size q → z.2.2 q) → U.heap = H → E.2.2.2.2.1.WarmedH U.vm → X (va_A wc H.size) U H) (hXb : ∀ (A : Nat → Prop) (U : State) (g : JFrame) (mk : MethodId) (a : Array Value), X A U U.heap → X A (U.calling g mk a) U.heap) (hn : As.length = n) (hcat : (st.map fun v => v.category).sum ≤ 8) (hst : As.reverse ++ .ref h0 :: st = st0) (hce : ce + mc' ≤ mc) (hsl : sl + ms' ≤ ms) (hdg : decode cc pc = .ok (.invokespecial idx, 3))
    (kk : ∀ u : Nat → Nat, va_D z.2.2 (wr ++ Bf u) → V (EN E (ce + mc') (sl + ms')) classes nL (wN z (wr ++ Bf u)) sg0 (pc + 3) lv st) : V (EN E ce sl) classes nL (wN z ws) sg0 pc lv st0 := by
  intro H locs ls hP hS hl
  subst hst
  have hr := B.2.2.2.2.2.2.2.1
  have hP' : va_P z.1 classes ws H := hP
  have hS' : va_S z.2.2 E.2.2.2.2.1.heap H locs := hS
  have hK : va_K z.1 classes z.2.1 E.2.2.2.2.1 := B.2.2.2.2.2.1
  have hPc := hP'.sub (ws' := wc) isC (by
    have : isC.filterMap (fun i => ws[i]?) = wc := by
      have h2 : ∀ (is : List Nat) (w : va_W), is.map (fun i => ws[i]?) = w.map some → is.filterMap (fun i => ws[i]?) = w := by
        intro is
        induction is with
        | nil => intro w h; cases w with
          | nil => rfl
          | cons a w => cases h
        | cons i is ih => intro w h; cases w with
          | nil => cases h
          | cons a w =>
            have h3 : ws[i]? = some a ∧ is.map (fun i => ws[i]?) = w.map some := by
              have := List.cons.inj h; exact this
            rw [List.filterMap_cons, h3.1]
            show a :: _ = _
            rw [ih w h3.2]
      exact h2 isC wc hC
    exact this)
  have hDc := hD.sub (ws' := wc) isC hnC hC
  have hFc := va_free (wc := wc) hD hS' B.2.2.2.2.2.2.1 isC hC
  refine va_callv (va_runI (As := As) (rest := st) ⟨B.1, B.2.1, B.2.2.1, B.2.2.2.1, B.2.2.2.2.1⟩ (hM H.size) (cwI n B.2.2.2.2.1 (tt_good hw.2.1) rfl rfl rfl (B.2.2.2.2.1 _ hw.1) (B.2.2.2.2.1 _ hlk) (B.2.2.2.2.1 _ hw.2.2.2.2.1) hw.2.2.2.2.2 hw.2.2.1 (roomN_ok ⟨hr.1, hr.2.1⟩ hd hw.2.2.2.1)) ⟨fun a U g mk q => ?_, fun U hU hW => ⟨rfl, by rw [hU], by rw [hU]; exact hPc, va_K.moved hW.alike hK, hDc.weaken (fun _ _ _ _ => trivial), by rw [hU]; exact hX U H locs hS' hFc hU hW⟩⟩ rfl hn hl.1 rfl (lv_room hcat) hdg ⟨Nat.le_trans hce hr.2.2.1, Nat.le_trans hsl hr.2.2.2⟩) hS' (fun q _ h => hFc q h) hFc (fun u t H1 locs1 ht hvm hp hB hz1 hk1 hS1 => ?_)
  · obtain ⟨q0, q1, qP, qK, qD, qX⟩ := q
    exact ⟨q0, q1, qP, va_K.moved (u := U) (U := U.calling g mk a) (Vm.Alike.refl U.vm) qK, qD, hXb _ U g mk a qX⟩
  · obtain ⟨hP1, hD1⟩ := hB
    rw [ht] at hP1
    obtain ⟨hP2, hD2⟩ := va_join (wr := wr) (w1 := Bf u) hP' hD isC isR hC hR hnd hdis hk1 hFc hP1 hD1
    exact kk u hD2 H1 locs1 ls hP2 hS1 hl
theorem N_callN {y : MethodName} {host : String} {maxL mc' ms' idx n : Nat} {wc wr : va_W} {Bf : (Nat → Nat) → va_W} (B : BN E nL z cc own d mc ms) (hD : va_D z.2.2 ws) (As : List Value) {h0 : Nat} (hM : CtN E.2.1 y b maxL dd mc' ms' z.1 z.2.1 (.ref h0 :: As) wc Bf (fun _ _ _ => True)) (hd : dd + 1 ≤ d) (hw : CwI own idx y b maxL n) (hlk : va_Nw (.methodLinkNest own idx y host) E.2.2.2.2.1) (isC isR : List Nat) (hC : isC.map (fun i => ws[i]?) = wc.map some) (hCf : isC.filterMap (fun i => ws[i]?) = wc) (hR : isR.map (fun i => ws[i]?) = wr.map some) (hnC : va_nd isC = true) (hnd : va_nd isR = true) (hdis : ∀ i ∈ isR, i ∉ isC) (hn : As.length = n) (hcat : (st.map fun v => v.category).sum ≤ 8) (hst : As.reverse ++ .ref h0 :: st = st0) (hce : ce + mc' ≤ mc) (hsl : sl + ms' ≤ ms) (hdg : decode cc pc = .ok (.invokespecial idx, 3))
    (kk : ∀ u : Nat → Nat, va_D z.2.2 (wr ++ Bf u) → V (EN E (ce + mc') (sl + ms')) classes nL (wN z (wr ++ Bf u)) sg0 (pc + 3) lv st) : V (EN E ce sl) classes nL (wN z ws) sg0 pc lv st0 := by
  intro H locs ls hP hS hl
  subst hst
  have hr := B.2.2.2.2.2.2.2.1
  have hP' : va_P z.1 classes ws H := hP
  have hS' : va_S z.2.2 E.2.2.2.2.1.heap H locs := hS
  have hK : va_K z.1 classes z.2.1 E.2.2.2.2.1 := B.2.2.2.2.2.1
  have hPc := hP'.sub (ws' := wc) isC hCf
  have hDc := hD.sub (ws' := wc) isC hnC hC
  have hFc := va_free (wc := wc) hD hS' B.2.2.2.2.2.2.1 isC hC
  refine va_callv (va_runIN (As := As) (rest := st) ⟨B.1, B.2.1, B.2.2.1, B.2.2.2.1, B.2.2.2.2.1⟩ (hM H.size) ⟨va_cnB n B.2.2.2.2.1 (tt_good hw.2.1) rfl rfl rfl hlk (B.2.2.2.2.1 _ hw.1) hw.2.2.1 (roomN_ok ⟨hr.1, hr.2.1⟩ hd hw.2.2.2.1), hw.2.2.2.2.2, B.2.2.2.2.1 _ hw.2.2.2.2.1⟩ ⟨fun a U g mk q => ?_, fun U hU hW => ⟨rfl, by rw [hU], by rw [hU]; exact hPc, va_K.moved hW.alike hK, hDc.weaken (fun _ _ _ _ => trivial), trivial⟩⟩ rfl hn hl.1 rfl (lv_room hcat) hdg ⟨Nat.le_trans hce hr.2.2.1, Nat.le_trans hsl hr.2.2.2⟩) hS' (fun q _ h => hFc q h) hFc (fun u t H1 locs1 ht hvm hp hB hz1 hk1 hS1 => ?_)
  · obtain ⟨q0, q1, qP, qK, qD, qX⟩ := q
    exact ⟨q0, q1, qP, va_K.moved (u := U) (U := U.calling g mk a) (Vm.Alike.refl U.vm) qK, qD, trivial⟩
  · obtain ⟨hP1, hD1⟩ := hB
    rw [ht] at hP1
    obtain ⟨hP2, hD2⟩ := va_join (wr := wr) (w1 := Bf u) hP' hD isC isR hC hR hnd hdis hk1 hFc hP1 hD1
    exact kk u hD2 H1 locs1 ls hP2 hS1 hl
/-- the table of the first numbers, as a constructor may read it -/
def XF (t : Nat) (A : Nat → Prop) (U : State) (H : Heap) : Prop := va_Z "WithTheReds$Basket" "FIRST" "[I" (.ref t) A U H ∧ va_T .int t 12 (fun j => .int (tb_FIRST j)) A U H
theorem N_gsF {t index : Nat} (B : BN E nL z cc own d mc ms) (hX : XF t z.2.2 E.2.2.2.2.1 E.2.2.2.2.1.heap) (hl : Cond.fieldLink own index "WithTheReds$Basket" "FIRST" "[I" ∈ TT) (hdg : decode cc pc = .ok (.getstatic index, 3)) (kk : V (EN E ce sl) classes nL (wN z ws) sg0 (pc + 3) lv (.ref t :: st)) : V (EN E ce sl) classes nL (wN z ws) sg0 pc lv st := fun H locs ls hP hS hl2 => va_gets B.1 B.2.1 hX.1 hS B.2.2.2.1 (B.2.2.2.2.1 _ hl) (fun _ h9 => h9) hdg (kk H locs ls hP hS hl2)
theorem N_cpT {t a n1 index : Nat} {c1 : ClassId} {f : Nat → Int32} {sp dp n : Int32} {ws' : va_W} (B : BN E nL z cc own d mc ms) (hD : va_D z.2.2 ws) (hX : XF t z.2.2 E.2.2.2.2.1 E.2.2.2.2.1.heap) (q1 t1 : Nat) (ha1 : ws[q1]? = some (a, .inl (c1, n1, .inl f))) (ht1 : z.2.1[t1]? = some (c1, .int)) (hcp : cpok sp dp n 12 n1 = true) (hce : ce ≤ mc) (hsl : sl ≤ ms) (hd : 1 ≤ d) (hcat : (st.map fun v => v.category).sum + 18 ≤ 40) (hl : Cond.methodLink own index arraycopyName ∈ TT) (hset : ws.set q1 (a, .inl (c1, n1, .inl (va_cpy tb_FIRST f sp.toNatClampNeg dp.toNatClampNeg n.toNatClampNeg))) = ws') (hdg : decode cc pc = .ok (.invokestatic index, 3)) (kk : va_D z.2.2 ws' → V (EN E ce sl) classes nL (wN z ws') sg0 (pc + 3) lv st) : V (EN E ce sl) classes nL (wN z ws) sg0 pc lv (.int n :: .int dp :: .ref a :: .int sp :: .ref t :: st) := by
  intro H locs ls hP hS hl2
  subst hset
  have hr := B.2.2.2.2.2.2.2.1
  obtain ⟨h1, h2, h3, h4, h5⟩ := of_decide_eq_true hcp
  have C : Cx (EN E ce sl) classes nL (wN z ws) cc own d := B.cx hD hce hsl
  exact tb_copy B.1 B.2.1 (by rw [B.2.2.1]; exact hl2.1.symm) B.2.2.2.1 (B.2.2.2.2.1 _ hl) (B.2.2.2.2.1 _ tm_ac_n) (B.2.2.2.2.1 _ tm_ac_s) (B.2.2.2.2.1 _ tm_sys) B.2.2.2.2.2.1 hP hD hS hX.2 q1 t1 ha1 ht1 h1 h2 h3 h4 h5 (Nat.le_trans hd hr.1) (ac_room C hd hcat) hdg (fun H1 locs1 hP1 hS1 => kk (hD.set ha1) H1 locs1 ls hP1 hS1 hl2)
end CTC
