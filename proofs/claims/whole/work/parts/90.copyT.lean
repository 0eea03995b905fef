/-! copied out of a table that never changes -/
section TBC
variable {p : Program} {l : Launch} {e : Env} {R : Room} {s : State} {m : MethodId} {args : Array Value} {below : List Frame} {meth : Method} {c : Code} {H : Heap} {locs : List Loc} {cells slots : Nat} {Q : State → Prop}
variable {pc : Nat} {ls : Array Slot} {rest : List Value} {D : va_G} {cl : List vw_C} {A : Nat → Prop} {a : Nat} {tys : List (ClassId × FieldType)} {ws : va_W}
theorem i32_nat {z : Int32} (h : ¬ z < 0) : z.toInt = (z.toNatClampNeg : Int) := by
  have h0 : (0 : Int) ≤ z.toInt := by
    have := Int32.le_iff_toInt_le.mp (Int32.not_lt.mp h)
    simpa using this
  show z.toInt = ((z.toInt.toNat : Nat) : Int)
  omega
theorem tb_copy {cc : ByteArray} (hexec : p.tables.exec = Jvm.exec) (hb : c.code = cc) (hml : c.maxLocals = ls.size) {own : String} {index : Nat} (hown : s.vm.findClass own = some m.cls) (hlink : (Cond.methodLink own index arraycopyName).before args s = true) (hnat : (Cond.native arraycopyName).before args s = true) (hstat : (Cond.static arraycopyName).before args s = true) (hini : (Cond.initialized "java/lang/System").before args s = true)
    (hK : va_K D cl tys s) (hP : va_P D cl ws H) (hD : va_D A ws) (hS : va_S A s.heap H locs) {b0 n0 : Nat} {f : Nat → Int32} (hT : va_T .int b0 n0 (fun j => .int (f j)) A s s.heap) (q1 t1 : Nat) {c1 : ClassId} {n1 : Nat} {g : Nat → Int32} (ha1 : ws[q1]? = some (a, .inl (c1, n1, .inl g))) (ht1 : tys[t1]? = some (c1, .int))
    {sp dp n : Int32} (h1 : ¬ sp < 0) (h2 : ¬ dp < 0) (h3 : ¬ n < 0) (h4 : sp.toNatClampNeg + n.toNatClampNeg ≤ n0) (h5 : dp.toNatClampNeg + n.toNatClampNeg ≤ n1)
    (hframes : 1 ≤ R.frames) (hlocals : (rest.map fun v => v.category).sum + (nativeFrameWords "java/lang/System" "arraycopy" 5 + 11) ≤ R.locals) (hdg : decode cc pc = .ok (.invokestatic index, 3))
    (kk : ∀ (H1 : Heap) (locs1 : List Loc), va_P D cl (ws.set q1 (a, .inl (c1, n1, .inl (va_cpy f g sp.toNatClampNeg dp.toNatClampNeg n.toNatClampNeg)))) H1 → va_S A s.heap H1 locs1 → W p l e R s m args below meth c H1 locs1 cells slots Q (F0 m (pc + 3) ls rest)) : W p l e R s m args below meth c H locs cells slots Q (F0 m pc ls (.int n :: .int dp :: .ref a :: .int sp :: .ref b0 :: rest)) := by
  intro T hTh X
  obtain ⟨scr, z1, z2, z3, z4, z5, z6, z7⟩ := hT
  have hbl : b0 < s.heap.size := (Array.getElem?_eq_some_iff.mp z1).1
  have hc0 : H[b0]? = some scr := by rw [hS.2.1 b0 hbl z7]; exact z1
  have hc1 : H[a]? = some (vp_cell c1 (n1, .inl g)) := hP q1 _ ha1
  obtain ⟨y0, k0, hk0, cm0, hkk0⟩ := z2
  obtain ⟨-, k1, hk1, cm1, hkk1⟩ := (hK.2 t1 _ ht1).1 n1 (fun j => .int (g j))
  have hsz : (vp_cell c1 (n1, .inl g)).slots.size = n1 := arrV_size ..
  obtain ⟨vm', X', step⟩ := X.arraycopy hexec hown hlink hnat hstat hini (src := b0) (dst := a) (cs := scr) (cd := vp_cell c1 (n1, .inl g)) (srcPos := sp) (destPos := dp) (n := n) (by rw [hTh]; exact hc0) (by rw [hTh]; exact hc1)
    y0 (fun _ h => by cases h) z3 (fun h => by cases h) hk0 hk1 hkk0 hkk1 (by simp [refKind]) h1 h2 h3
    (by rw [i32_nat h1, i32_nat h3]; omega)
    (by rw [i32_nat h2, i32_nat h3, hsz]; omega)
    (fun vm₁ _ i hi => by
      have e : scr.slots.getD (sp.toNatClampNeg + i) .null = .int (f (sp.toNatClampNeg + i)) := by
        rw [Array.getD_eq_getD_getElem?, z6 _ (by omega)]
        rfl
      rw [e]
      exact ⟨rfl, trivial⟩)
    (g := F0 m pc ls (.int n :: .int dp :: .ref a :: .int sp :: .ref b0 :: rest)) rfl (by rw [hml]) (rest := rest) rfl (by rw [hb]; exact hdg) hframes (by show 2 * 0 + _ + _ ≤ _; omega)
  have e1 : copied scr (vp_cell c1 (n1, .inl g)) sp dp n = vp_cell c1 (n1, .inl (va_cpy f g sp.toNatClampNeg dp.toNatClampNeg n.toNatClampNeg)) := va_copiedX (fun z => .int z) scr c1 f g z6 h4
  rw [e1] at X' step
  have hal : a < H.size := (Array.getElem?_eq_some_iff.mp hc1).1
  have hA : A a := hD.2 q1 _ ha1
  have hne : ∀ q : Nat, q ≠ a → (H.setIfInBounds a (vp_cell c1 (n1, .inl (va_cpy f g sp.toNatClampNeg dp.toNatClampNeg n.toNatClampNeg))))[q]? = H[q]? := fun q hq => by
    rw [Array.getElem?_setIfInBounds, if_neg (Ne.symm hq)]
  have hP' : va_P D cl (ws.set q1 (a, .inl (c1, n1, .inl (va_cpy f g sp.toNatClampNeg dp.toNatClampNeg n.toNatClampNeg)))) (H.setIfInBounds a (vp_cell c1 (n1, .inl (va_cpy f g sp.toNatClampNeg dp.toNatClampNeg n.toNatClampNeg)))) := hP.set hD ha1 (show (H.setIfInBounds a (vp_cell c1 (n1, .inl (va_cpy f g sp.toNatClampNeg dp.toNatClampNeg n.toNatClampNeg))))[a]? = some (vp_cell c1 (n1, .inl (va_cpy f g sp.toNatClampNeg dp.toNatClampNeg n.toNatClampNeg))) by rw [Array.getElem?_setIfInBounds, if_pos rfl, if_pos hal]) hne
  have hS' : ∀ xs : List Loc, (∀ q ∈ xs, A q.base) → va_S A s.heap (H.setIfInBounds a (vp_cell c1 (n1, .inl (va_cpy f g sp.toNatClampNeg dp.toNatClampNeg n.toNatClampNeg)))) (locs ++ xs) := fun xs hxs => ⟨by rw [Array.size_setIfInBounds]; exact hS.1, fun q g1 g2 => by rw [hne q (fun z => g2 (by rw [z]; exact hA))]; exact hS.2.1 q g1 g2, fun q hq => (List.mem_append.mp hq).elim (hS.2.2 q) (hxs q)⟩
  have hh : ((T.setVm vm').setCell a (vp_cell c1 (n1, .inl (va_cpy f g sp.toNatClampNeg dp.toNatClampNeg n.toNatClampNeg)))).heap = H.setIfInBounds a (vp_cell c1 (n1, .inl (va_cpy f g sp.toNatClampNeg dp.toNatClampNeg n.toNatClampNeg))) := by rw [← hTh]; rfl
  obtain ⟨t, a1, b1⟩ := kk _ _ hP' (hS' _ (fun q hq => by
    obtain ⟨z, -, hz⟩ := List.mem_map.mp hq
    rw [← hz]
    exact hA)) _ hh X'
  exact ⟨t, step t a1, b1⟩
end TBC
section TBW
variable {E : Ev} {g : Gx} {nL d : Nat} {σ σ' : St} {pc : Nat} {lv lv' : List (Nat × Value)} {st : List Value} {cc : ByteArray} {own : String}
theorem cpT_new (C : Cx E classes nL (wC g) cc own d) {sp dp n : Int32} {index : Nat} (hcp : cpok sp dp n 12 84 = true) (hd : 1 ≤ d) (hcat : (st.map fun v => v.category).sum + 18 ≤ 40) (hl : Cond.methodLink own index arraycopyName ∈ TT) (hdg : decode cc pc = .ok (.invokestatic index, 3)) (kk : V E classes nL (wC g) (stA σ 2 (va_cpy tb_FIRST (σ.2.1 2) sp.toNatClampNeg dp.toNatClampNeg n.toNatClampNeg)) (pc + 3) lv st) : V E classes nL (wC g) σ pc lv (.int n :: .int dp :: .ref (g.2.1 2) :: .int sp :: .ref (g.2.2.2.2 2) :: st) := by
  intro H locs ls hP hS hl2
  obtain ⟨h1, h2, h3, h4, h5⟩ := of_decide_eq_true hcp
  exact tb_copy C.1 C.2.1 (by rw [C.2.2.1]; exact hl2.1.symm) C.2.2.2.1 (C.2.2.2.2.1 _ hl) (C.2.2.2.2.1 _ tm_ac_n) (C.2.2.2.2.1 _ tm_ac_s) (C.2.2.2.2.1 _ tm_sys) C.2.2.2.2.2.1 hP (C.2.2.2.2.2.2.2.1.1 σ) hS C.2.2.2.2.2.2.1.2.1.2.2.1.2 2 0 rfl rfl h1 h2 h3 h4 h5 (by have := C.2.2.2.2.2.2.2.2.1; omega) (ac_room C hd hcat) hdg (fun H1 locs1 hP1 hS1 => kk H1 locs1 ls hP1 hS1 hl2)
end TBW
