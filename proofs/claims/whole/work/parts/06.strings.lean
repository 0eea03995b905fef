/-! copied out of a table that never changes -/
section TBC
variable {p : Program} {l : Launch} {e : Env} {R : Room} {s : State} {m : MethodId} {args : Array Value} {below : List Frame} {meth : Method} {c : Code} {H : Heap} {locs : List Loc} {cells slots : Nat} {Q : State → Prop}
variable {pc : Nat} {ls : Array Slot} {rest : List Value} {D : va_G} {cl : List vw_C} {A : Nat → Prop} {a : Nat} {tys : List (ClassId × FieldType)} {ws : va_W}
theorem i32_nat {z : Int32} (h : ¬ z < 0) : z.toInt = (z.toNatClampNeg : Int) := by
  have h0 : (0 : Int) ≤ z.toInt := by
    have := Int32.le_iff_toInt_le.mp (Int32.not_lt.mp h)
    simpa using this
  show z.toInt = ((z.toInt.toNat : Nat) : Int)
  omega
theorem tb_copy {cc : ByteArray} (hexec : p.tables.exec = Jvm.exec) (hb : c.code = cc) (hml : c.maxLocals = ls.size) {own : String} {index : Nat} (hown : s.vm.findClass own = some m.cls) (hlink : (Cond.methodLink own index arraycopyName).before args s = true) (hnat : (Cond.native arraycopyName).before args s = true) (hstat : (Cond.static arraycopyName).before args s = true) (hini : (Cond.initialized "java/lang/System").before args s = true)
    (hK : va_K D cl tys s) (hP : va_P D cl ws H) (hD : va_D A ws) (hS : va_S A s.heap H locs) {b0 n0 : Nat} {f : Nat → Int32} (hT : va_T .int b0 n0 (fun j => .int (f j)) A s s.heap) (q1 t1 : Nat) {c1 : ClassId} {n1 : Nat} {g : Nat → Int32} (ha1 : ws[q1]? = some (a, .inl (c1, n1, .inl g))) (ht1 : tys[t1]? = some (c1, .int))
    {sp dp n : Int32} (h1 : ¬ sp < 0) (h2 : ¬ dp < 0) (h3 : ¬ n < 0) (h4 : sp.toNatClampNeg + n.toNatClampNeg ≤ n0) (h5 : dp.toNatClampNeg + n.toNatClampNeg ≤ n1)
    (hframes : 1 ≤ R.frames) (hlocals : (rest.map fun v => v.category).sum + (nativeFrameWords "java/lang/System" "arraycopy" 5 + 11) ≤ R.locals) (hdg : decode cc pc = .ok (.invokestatic index, 3))
    (kk : ∀ (H1 : Heap) (locs1 : List Loc), va_P D cl (ws.set q1 (a, .inl (c1, n1, .inl (va_cpy f g sp.toNatClampNeg dp.toNatClampNeg n.toNatClampNeg)))) H1 → va_S A s.heap H1 locs1 → W p l e R s m args below meth c H1 locs1 cells slots Q (F0 m (pc + 3) ls rest)) : W p l e R s m args below meth c H locs cells slots Q (F0 m pc ls (.int n :: .int dp :: .ref a :: .int sp :: .ref b0 :: rest)) := by
  intro T hTh X
  obtain ⟨scr, z1, z2, z3, z4, z5, z6, z7⟩ := hT
  have hbl : b0 < s.heap.size := (Array.getElem?_eq_some_iff.mp z1).1
  have hc0 : H[b0]? = some scr := by rw [hS.2.1 b0 hbl z7]; exact z1
  have hc1 : H[a]? = some (vp_cell c1 (n1, .inl g)) := hP q1 _ ha1
  obtain ⟨y0, k0, hk0, cm0, hkk0⟩ := z2
  obtain ⟨-, k1, hk1, cm1, hkk1⟩ := (hK.2 t1 _ ht1).1 n1 (fun j => .int (g j))
  have hsz : (vp_cell c1 (n1, .inl g)).slots.size = n1 := arrV_size ..
  obtain ⟨vm', X', step⟩ := X.arraycopy hexec hown hlink hnat hstat hini (src := b0) (dst := a) (cs := scr) (cd := vp_cell c1 (n1, .inl g)) (srcPos := sp) (destPos := dp) (n := n) (by rw [hTh]; exact hc0) (by rw [hTh]; exact hc1)
    y0 (fun _ h => by cases h) z3 (fun h => by cases h) hk0 hk1 hkk0 hkk1 (by simp [refKind]) h1 h2 h3
    (by rw [i32_nat h1, i32_nat h3]; omega)
    (by rw [i32_nat h2, i32_nat h3, hsz]; omega)
    (fun vm₁ _ i hi => by
      have e : scr.slots.getD (sp.toNatClampNeg + i) .null = .int (f (sp.toNatClampNeg + i)) := by
        rw [Array.getD_eq_getD_getElem?, z6 _ (by omega)]
        rfl
      rw [e]
      exact ⟨rfl, trivial⟩)
    (g := F0 m pc ls (.int n :: .int dp :: .ref a :: .int sp :: .ref b0 :: rest)) rfl (by rw [hml]) (rest := rest) rfl (by rw [hb]; exact hdg) hframes (by show 2 * 0 + _ + _ ≤ _; omega)
  have e1 : copied scr (vp_cell c1 (n1, .inl g)) sp dp n = vp_cell c1 (n1, .inl (va_cpy f g sp.toNatClampNeg dp.toNatClampNeg n.toNatClampNeg)) := va_copiedX (fun z => .int z) scr c1 f g z6 h4
  rw [e1] at X' step
  have hal : a < H.size := (Array.getElem?_eq_some_iff.mp hc1).1
  have hA : A a := hD.2 q1 _ ha1
  have hne : ∀ q : Nat, q ≠ a → (H.setIfInBounds a (vp_cell c1 (n1, .inl (va_cpy f g sp.toNatClampNeg dp.toNatClampNeg n.toNatClampNeg))))[q]? = H[q]? := fun q hq => by
    rw [Array.getElem?_setIfInBounds, if_neg (Ne.symm hq)]
  have hP' : va_P D cl (ws.set q1 (a, .inl (c1, n1, .inl (va_cpy f g sp.toNatClampNeg dp.toNatClampNeg n.toNatClampNeg)))) (H.setIfInBounds a (vp_cell c1 (n1, .inl (va_cpy f g sp.toNatClampNeg dp.toNatClampNeg n.toNatClampNeg)))) := hP.set hD ha1 (show (H.setIfInBounds a (vp_cell c1 (n1, .inl (va_cpy f g sp.toNatClampNeg dp.toNatClampNeg n.toNatClampNeg))))[a]? = some (vp_cell c1 (n1, .inl (va_cpy f g sp.toNatClampNeg dp.toNatClampNeg n.toNatClampNeg))) by rw [Array.getElem?_setIfInBounds, if_pos rfl, if_pos hal]) hne
  have hS' : ∀ xs : List Loc, (∀ q ∈ xs, A q.base) → va_S A s.heap (H.setIfInBounds a (vp_cell c1 (n1, .inl (va_cpy f g sp.toNatClampNeg dp.toNatClampNeg n.toNatClampNeg)))) (locs ++ xs) := fun xs hxs => ⟨by rw [Array.size_setIfInBounds]; exact hS.1, fun q g1 g2 => by rw [hne q (fun z => g2 (by rw [z]; exact hA))]; exact hS.2.1 q g1 g2, fun q hq => (List.mem_append.mp hq).elim (hS.2.2 q) (hxs q)⟩
  have hh : ((T.setVm vm').setCell a (vp_cell c1 (n1, .inl (va_cpy f g sp.toNatClampNeg dp.toNatClampNeg n.toNatClampNeg)))).heap = H.setIfInBounds a (vp_cell c1 (n1, .inl (va_cpy f g sp.toNatClampNeg dp.toNatClampNeg n.toNatClampNeg))) := by rw [← hTh]; rfl
  obtain ⟨t, a1, b1⟩ := kk _ _ hP' (hS' _ (fun q hq => by
    obtain ⟨z, -, hz⟩ := List.mem_map.mp hq
    rw [← hz]
    exact hA)) _ hh X'
  exact ⟨t, step t a1, b1⟩
end TBC
section TBW
variable {E : Ev} {g : Gx} {nL d : Nat} {σ σ' : St} {pc : Nat} {lv lv' : List (Nat × Value)} {st : List Value} {cc : ByteArray} {own : String}
theorem V_cpT_FIRST_2 (C : Cx E classes nL (wC g) cc own d) {sp dp n : Int32} {index : Nat} (hcp : cpok sp dp n 12 84 = true) (hd : 1 ≤ d) (hcat : (st.map fun v => v.category).sum + 18 ≤ 40) (hl : Cond.methodLink own index arraycopyName ∈ TT) (hdg : decode cc pc = .ok (.invokestatic index, 3)) (kk : V E classes nL (wC g) (stA σ 2 (va_cpy tb_FIRST (σ.2.1 2) sp.toNatClampNeg dp.toNatClampNeg n.toNatClampNeg)) (pc + 3) lv st) : V E classes nL (wC g) σ pc lv (.int n :: .int dp :: .ref (g.2.1 2) :: .int sp :: .ref (g.2.2.2.2 2) :: st) := by
  intro H locs ls hP hS hl2
  obtain ⟨h1, h2, h3, h4, h5⟩ := of_decide_eq_true hcp
  exact tb_copy C.1 C.2.1 (by rw [C.2.2.1]; exact hl2.1.symm) C.2.2.2.1 (C.2.2.2.2.1 _ hl) (C.2.2.2.2.1 _ tm_ac_n) (C.2.2.2.2.1 _ tm_ac_s) (C.2.2.2.2.1 _ tm_sys) C.2.2.2.2.2.1 hP (C.2.2.2.2.2.2.2.1.1 σ) hS C.2.2.2.2.2.2.1.2.1.2.2.1.2 2 0 rfl rfl h1 h2 h3 h4 h5 (by have := C.2.2.2.2.2.2.2.2.1; omega) (ac_room C hd hcat) hdg (fun H1 locs1 hP1 hS1 => kk H1 locs1 ls hP1 hS1 hl2)
end TBW
/-! String.indexOf, walked: the machine's own classes, over the world of the class -/
abbrev b_S_index1 : ByteArray := prog_18_method_79_code
abbrev b_S_index2 : ByteArray := prog_18_method_80_code
abbrev b_S_isLatin1 : ByteArray := prog_18_method_154_code
abbrev b_S_length : ByteArray := prog_18_method_54_code
abbrev b_S_coder : ByteArray := prog_18_method_152_code
abbrev b_L_index : ByteArray := prog_19_method_22_code
abbrev b_L_can : ByteArray := prog_19_method_4_code
abbrev b_L_char : ByteArray := prog_19_method_23_code
def y_S_index1 : MethodName := ⟨"java/lang/String", "indexOf", "(I)I"⟩
def y_S_index2 : MethodName := ⟨"java/lang/String", "indexOf", "(II)I"⟩
def y_S_isLatin1 : MethodName := ⟨"java/lang/String", "isLatin1", "()Z"⟩
def y_S_length : MethodName := ⟨"java/lang/String", "length", "()I"⟩
def y_S_coder : MethodName := ⟨"java/lang/String", "coder", "()B"⟩
def y_L_index : MethodName := ⟨"java/lang/StringLatin1", "indexOf", "([BIII)I"⟩
def y_L_can : MethodName := ⟨"java/lang/StringLatin1", "canEncode", "(I)Z"⟩
def y_L_char : MethodName := ⟨"java/lang/StringLatin1", "indexOfChar", "([BIII)I"⟩
theorem cw_S_82 : CwV "WithTheReds$Tape" 82 y_S_index1 b_S_index1 2 (some .int) 1 := ⟨⟨tt_c1 15 rfl rfl, tt_c3 29 rfl rfl, by decide +kernel, by decide⟩, tt_c3 26 rfl rfl, tt_c3 27 rfl rfl, tt_c3 28 rfl rfl⟩
theorem cw_S_633 : CwV "java/lang/String" 633 y_S_index2 b_S_index2 3 (some .int) 2 := ⟨⟨tt_c1 15 rfl rfl, tt_c3 33 rfl rfl, by decide +kernel, by decide⟩, tt_c3 30 rfl rfl, tt_c3 31 rfl rfl, tt_c3 32 rfl rfl⟩
theorem cw_S_492 : CwV "java/lang/String" 492 y_S_isLatin1 b_S_isLatin1 1 (some .boolean) 0 := ⟨⟨tt_c1 15 rfl rfl, tt_c3 37 rfl rfl, by decide +kernel, by decide⟩, tt_c3 34 rfl rfl, tt_c3 35 rfl rfl, tt_c3 36 rfl rfl⟩
theorem cw_S_505 : CwV "java/lang/String" 505 y_S_length b_S_length 1 (some .int) 0 := ⟨⟨tt_c1 15 rfl rfl, tt_c3 43 rfl rfl, by decide +kernel, by decide⟩, tt_c3 40 rfl rfl, tt_c3 41 rfl rfl, tt_c3 42 rfl rfl⟩
theorem cw_S_335 : CwV "java/lang/String" 335 y_S_coder b_S_coder 1 (some .byte) 0 := ⟨⟨tt_c1 15 rfl rfl, tt_c3 47 rfl rfl, by decide +kernel, by decide⟩, tt_c3 44 rfl rfl, tt_c3 45 rfl rfl, tt_c3 46 rfl rfl⟩
theorem cw_S_637 : CwS "java/lang/String" 637 y_L_index b_L_index 4 (some .int) 4 := ⟨⟨tt_c1 16 rfl rfl, tt_c3 50 rfl rfl, by decide +kernel, by decide⟩, tt_c3 48 rfl rfl, tt_c3 49 rfl rfl⟩
theorem cw_L_88 : CwS "java/lang/StringLatin1" 88 y_L_can b_L_can 1 (some .boolean) 1 := ⟨⟨tt_c1 16 rfl rfl, tt_c3 53 rfl rfl, by decide +kernel, by decide⟩, tt_c3 51 rfl rfl, tt_c3 52 rfl rfl⟩
theorem cw_L_95 : CwS "java/lang/StringLatin1" 95 y_L_char b_L_char 6 (some .int) 4 := ⟨⟨tt_c1 16 rfl rfl, tt_c3 62 rfl rfl, by decide +kernel, by decide⟩, tt_c3 60 rfl rfl, tt_c3 61 rfl rfl⟩
theorem ml_L_92 : Cond.methodLink "java/lang/StringLatin1" 92 Lib.Math.max.name ∈ TT := tt_c3 54 rfl rfl
theorem ml_L_38 : Cond.methodLink "java/lang/StringLatin1" 38 Lib.Math.min.name ∈ TT := tt_c3 57 rfl rfl
theorem fl_S_38 : Cond.fieldLink "java/lang/String" 38 "java/lang/String" "COMPACT_STRINGS" "Z" ∈ TT := tt_c3 38 rfl rfl
theorem fl_S_15 : Cond.fieldLink "java/lang/String" 15 "java/lang/String" "coder" "B" ∈ TT := tt_c8 150 rfl rfl
theorem fl_S_9 : Cond.fieldLink "java/lang/String" 9 "java/lang/String" "value" "[B" ∈ TT := tt_c8 151 rfl rfl
theorem inb0 {t n : Nat} (h : t < n) (hn : n < 2 ^ 31) : inb (nI t) n = true := decide_eq_true (nI_in h hn)
section STRS
variable {E : Ev} {g : Gx} {nL d dd : Nat} {σ σ' : St} {pc : Nat} {lv lv' : List (Nat × Value)} {st st0 : List Value} {cc b : ByteArray} {own : String}
theorem V_callStr (C : Cx E classes nL (wC g) cc own d) (As : List Value) {y : MethodName} {maxL idx n : Nat} {ret : Option FieldType} {r : Int32} (hM : CtI classes E.2.1 y b maxL ret dd (wC g) (.ref (g.2.2.2.2 5) :: As) σ r σ') (hd : dd + 1 ≤ d) (hw : CwV own idx y b maxL ret n) (hcn : y.cls = "java/lang/String") (hn : As.length = n) (hcat : (st.map fun v => v.category).sum ≤ 8) (hst : As.reverse ++ .ref (g.2.2.2.2 5) :: st = st0) (hdg : decode cc pc = .ok (.invokevirtual idx, 3)) (kk : V E classes nL (wC g) σ' (pc + 3) lv (.int r :: st)) : V E classes nL (wC g) σ pc lv st0 := by
  intro H locs ls hP hS hl
  subst hst
  exact va_calli (va_runV (C := y.cls) (As := As) (rest := st) ⟨C.1, C.2.1, C.2.2.1, C.2.2.2.1, C.2.2.2.2.1⟩ hM ⟨cwB C hd hw.1 hw.2.1, C.2.2.2.2.1 _ hw.2.2.1, C.2.2.2.2.1 _ hw.2.2.2⟩ ⟨pcw_blind C.2.2.2.2.2.2.2.1 _, by rw [hcn]; exact vk_recv C.2.2.2.2.2.2.1.2.2.2.1 (i := 0) (by decide) hS, pcw_at C _ hP hS⟩ rfl hn hl.1 rfl (lv_room hcat) hdg C.2.2.2.2.2.2.2.2.2.2) hS (fun q _ h => h) (fun q h => h) (fun r1 u t H1 locs1 ht hvm hpost hB hz hk hS1 => by obtain ⟨rfl, rfl⟩ := hpost; exact kk H1 locs1 ls (by rw [← ht]; exact hB) hS1 hl)
theorem V_sCoder (C : Cx E classes nL (wC g) cc "java/lang/String" d) (hdg : decode cc pc = .ok (.getfield 15, 3)) (kk : V E classes nL (wC g) σ (pc + 3) lv (.int 0 :: st)) : V E classes nL (wC g) σ pc lv (.ref (g.2.2.2.2 5) :: st) := fun H locs ls hP hS hl => vk_getf C.1 C.2.1 (C.2.2.2.2.2.2.1.2.2.2.1.1 0 (by decide)).2.1 hS C.2.2.2.1 (C.2.2.2.2.1 _ fl_S_15) (fun _ h => h) hdg (kk H locs ls hP hS hl)
theorem V_sValue (C : Cx E classes nL (wC g) cc "java/lang/String" d) (hdg : decode cc pc = .ok (.getfield 9, 3)) (kk : V E classes nL (wC g) σ (pc + 3) lv (.ref (g.2.2.2.2 6) :: st)) : V E classes nL (wC g) σ pc lv (.ref (g.2.2.2.2 5) :: st) := fun H locs ls hP hS hl => vk_getf C.1 C.2.1 (C.2.2.2.2.2.2.1.2.2.2.1.1 0 (by decide)).2.2.1 hS C.2.2.2.1 (C.2.2.2.2.1 _ fl_S_9) (fun _ h => h) hdg (kk H locs ls hP hS hl)
theorem V_sLen (C : Cx E classes nL (wC g) cc own d) (hdg : decode cc pc = .ok (.arraylength, 1)) (kk : V E classes nL (wC g) σ (pc + 1) lv (.int 6 :: st)) : V E classes nL (wC g) σ pc lv (.ref (g.2.2.2.2 6) :: st) := fun H locs ls hP hS hl => va_tlen C.1 C.2.1 (C.2.2.2.2.2.2.1.2.2.2.1.1 0 (by decide)).2.2.2 hS rfl hdg (kk H locs ls hP hS hl)
theorem V_sByte {i : Int32} (C : Cx E classes nL (wC g) cc own d) (hi : inb i 6 = true) (hdg : decode cc pc = .ok (.baload, 1)) (kk : V E classes nL (wC g) σ (pc + 1) lv (.int (nmBytes.getD i.toNatClampNeg 0) :: st)) : V E classes nL (wC g) σ pc lv (.int i :: .ref (g.2.2.2.2 6) :: st) := fun H locs ls hP hS hl => va_tb C.1 C.2.1 (C.2.2.2.2.2.2.1.2.2.2.1.1 0 (by decide)).2.2.2 hS (inb_in hi) rfl hdg (kk H locs ls hP hS hl)
theorem V_sCompact (C : Cx E classes nL (wC g) cc "java/lang/String" d) (hdg : decode cc pc = .ok (.getstatic 38, 3)) (kk : V E classes nL (wC g) σ (pc + 3) lv (.int 1 :: st)) : V E classes nL (wC g) σ pc lv st := fun H locs ls hP hS hl => va_gets C.1 C.2.1 C.2.2.2.2.2.2.1.2.2.2.2 hS C.2.2.2.1 (C.2.2.2.2.1 _ fl_S_38) (fun _ h => h) hdg (kk H locs ls hP hS hl)
/-- a method that answers a byte -/
theorem MetB {w : Wx} {l : Launch} {y : MethodName} {maxL : Nat} {av : List Value} {r : Int32} (hy : plainName y.cls = true) (hok : Wok classes w) (hn : (lg_sl av).length ≤ maxL) (hnar : narrow .byte (.int r) = .int r)
    (body : ∀ E : Ev, E.2.1 = l → Cx E classes maxL w b y.cls d → RetI E classes maxL w b r σ' → V E classes maxL w σ 0 (lv_args 0 av) []) : CtI classes l y b maxL (some .byte) d w av σ r σ' := by
  refine Met.ofW (cc := b) (maxL := maxL) (ret := some .byte) hy rfl ?_
  intro p e s m args below meth c s₁ B hml hv
  obtain ⟨rfl, hP, hK, hg⟩ := hv
  have hx := B.exec
  have hb := B.bytes
  have hr := B.returns
  have hts := atoms_spec (ws := Cond.code y b maxL (some .byte) :: TT) B.pre
  have hown : s.vm.findClass y.cls = some m.cls := findClass_of_methodNamed B.named
  have hlocks := B.notSynchronized
  rw [lg_entry_eq]
  have hl := lv_entry av (n := maxL) hn
  refine body (p, l, e, (headSpec (Cond.code y b maxL (some .byte) :: TT) (rmD d)).room, s, m, av.toArray, below, meth, c, MQ below (QcI classes w r σ') av.toArray s 0 0 w.2.2.2.1, 0, 0) rfl ⟨hx, hb, hml, hown, fun x h => hts x (List.mem_cons_of_mem _ h), hK, hg, hok, Nat.le_refl _, Nat.le_refl _, Nat.le_refl _, Nat.le_refl _⟩ ?_ s.heap [] _ hP va_S.rf hl
  intro pc lv hdg H locs ls hP hS hl
  exact W.zret (v := r) hx hb hr hnar (fun t ht hW => ⟨⟨r, σ', rfl, ⟨rfl, rfl⟩, by show va_P _ _ _ t.heap; rw [ht]; exact hP⟩, hS.F ht⟩) hS.2.2 hdg
theorem c_L_can {l : Launch} (hok : Wok classes (wC g)) {x : Int32} (hx : chr x = true) : CtI classes l y_L_can b_L_can 1 (some .boolean) 1 (wC g) [.int x] σ 1 σ :=
  MetZ (by decide +kernel) hok (Nat.le_of_ble_eq_true rfl) (fun E _ C hR => by
    obtain ⟨h1, h2⟩ := of_decide_eq_true hx
    have n1 : ¬ x < 0 := Int32.not_lt.mpr h1
    have n2 : ¬ (255 : Int32) < x := fun z => by
      have a1 := Int32.lt_iff_toInt_lt.mp h2
      have a2 := Int32.lt_iff_toInt_lt.mp z
      have e1 : (256 : Int32).toInt = 256 := by decide
      have e2 : (255 : Int32).toInt = 255 := by decide
      omega
    refine V_iload_n C 0 (j := 0) (by decide +kernel) rfl ?_
    refine V_if_lt (pc := 1) (tgt := 15) C (off := 14) (by decide +kernel) (by decide) (if_neg n1 : (if x < 0 then true else false) = false) (fun h => by cases h) (fun _ => ?_)
    refine V_iload_n C 0 (j := 0) (by decide +kernel) rfl ?_
    refine V_sipush (v := 255) C (n := 255) (by decide +kernel) (by decide) ?_
    refine V_icmp_gt (pc := 8) (tgt := 15) C (off := 7) (by decide +kernel) (by decide) (if_neg n2 : (if (255 : Int32) < x then true else false) = false) (fun h => by cases h) (fun _ => ?_)
    refine V_iconst (v := 1) (n := 1) C (by decide +kernel) (by decide) ?_
    refine V_goto (pc := 12) (tgt := 16) (off := 4) C (by decide +kernel) (by decide) ?_
    exact hR 16 _ rfl (by decide +kernel))
end STRS
/-! String.indexOf, its methods -/
def scanN (xb : Int32) : Nat → Nat → Int32
  | 0, _ => -1
  | k + 1, j => if nmBytes.getD j 0 = xb then nI j else scanN xb k (j + 1)
theorem scanN_s (xb : Int32) (k j : Nat) : scanN xb (k + 1) j = if nmBytes.getD j 0 = xb then nI j else scanN xb k (j + 1) := rfl
theorem scan_ix : ∀ i : Fin 256, scanN (nI i.val).toInt8.toInt32 6 0 = nameIx (nI i.val) := by decide +kernel
section STRT
variable {E : Ev} {g : Gx} {nL d dd : Nat} {σ σ' : St} {pc : Nat} {lv lv' : List (Nat × Value)} {st st0 : List Value} {cc b : ByteArray} {own : String}
theorem c_S_coder {l : Launch} (hok : Wok classes (wC g)) : CtI classes l y_S_coder b_S_coder 1 (some .byte) 1 (wC g) [.ref (g.2.2.2.2 5)] σ 0 σ :=
  MetB (by decide +kernel) hok (Nat.le_of_ble_eq_true rfl) (by decide +kernel) (fun E _ C hR => by
    refine V_sCompact C (by decide +kernel) ?_
    refine V_if_eq (pc := 3) (tgt := 13) C (off := 10) (by decide +kernel) (by decide) (if_neg (by decide) : (if (1 : Int32) = 0 then true else false) = false) (fun h => by cases h) (fun _ => ?_)
    refine V_aload_n C 0 (j := 0) (by decide +kernel) rfl ?_
    refine V_sCoder C (by decide +kernel) ?_
    refine V_goto (pc := 10) (tgt := 14) (off := 4) C (by decide +kernel) (by decide) ?_
    exact hR 14 _ (by decide +kernel))
theorem c_S_isLatin1 {l : Launch} (hok : Wok classes (wC g)) : CtI classes l y_S_isLatin1 b_S_isLatin1 1 (some .boolean) 1 (wC g) [.ref (g.2.2.2.2 5)] σ 1 σ :=
  MetZ (by decide +kernel) hok (Nat.le_of_ble_eq_true rfl) (fun E _ C hR => by
    refine V_sCompact C (by decide +kernel) ?_
    refine V_if_eq (pc := 3) (tgt := 17) C (off := 14) (by decide +kernel) (by decide) (if_neg (by decide) : (if (1 : Int32) = 0 then true else false) = false) (fun h => by cases h) (fun _ => ?_)
    refine V_aload_n C 0 (j := 0) (by decide +kernel) rfl ?_
    refine V_sCoder C (by decide +kernel) ?_
    refine V_if_ne (pc := 10) (tgt := 17) C (off := 7) (by decide +kernel) (by decide) (if_pos rfl : (if (0 : Int32) = 0 then true else false) = true) (fun h => by cases h) (fun _ => ?_)
    refine V_iconst (v := 1) (n := 1) C (by decide +kernel) (by decide) ?_
    refine V_goto (pc := 14) (tgt := 18) (off := 4) C (by decide +kernel) (by decide) ?_
    exact hR 18 _ rfl (by decide +kernel))
theorem c_S_length {l : Launch} (hok : Wok classes (wC g)) : CtI classes l y_S_length b_S_length 1 (some .int) 2 (wC g) [.ref (g.2.2.2.2 5)] σ 6 σ :=
  MetI (by decide +kernel) hok (Nat.le_of_ble_eq_true rfl) (fun E _ C hR => by
    refine V_aload_n C 0 (j := 0) (by decide +kernel) rfl ?_
    refine V_sValue C (by decide +kernel) ?_
    refine V_sLen C (by decide +kernel) ?_
    refine V_aload_n C 0 (j := 0) (by decide +kernel) rfl ?_
    refine V_callStr C [] (c_S_coder C.2.2.2.2.2.2.2.1) (by decide) cw_S_335 rfl rfl (Nat.le_of_ble_eq_true rfl) rfl (by decide +kernel) ?_
    refine V_ishr C (by decide +kernel) ?_
    exact hR 10 _ (by decide +kernel))
theorem w_L_char (C : Cx E classes 6 (wC g) b_L_char "java/lang/StringLatin1" 1) {r x xb : Int32} (hR : RetI E classes 6 (wC g) b_L_char r σ) : ∀ (k j : Nat), j + k = 6 → scanN xb k j = r → V E classes 6 (wC g) σ 7 [(5, .int (nI j)), (4, .int xb), (0, .ref (g.2.2.2.2 6)), (1, .int x), (2, .int 0), (3, .int 6)] [] := by
  intro k
  induction k with
  | zero =>
    intro j hj hr
    have e : j = 6 := by omega
    subst e
    refine V_iload C 0 (j := 5) (by decide +kernel) rfl ?_
    refine V_iload_n C 5 (j := 3) (by decide +kernel) rfl ?_
    refine V_icmp_ge (pc := 10) (tgt := 31) (off := 21) C (by decide +kernel) (by decide) (if_pos (by decide) : (if (6 : Int32) ≤ nI 6 then true else false) = true) (fun _ => ?_) (fun h => by cases h)
    refine V_iconst (v := -1) (n := -1) C (by decide +kernel) (by decide) ?_
    have hr' : (-1 : Int32) = r := hr
    rw [hr']
    exact hR 32 _ (by decide +kernel)
  | succ k ih =>
    intro j hj hr
    rw [scanN_s] at hr
    refine V_iload C 0 (j := 5) (by decide +kernel) rfl ?_
    refine V_iload_n C 5 (j := 3) (by decide +kernel) rfl ?_
    refine V_icmp_ge (pc := 10) (tgt := 31) (off := 21) C (by decide +kernel) (by decide) (if_neg (nI_ge (b := 6) (show j < 6 by omega) (by decide)) : (if (6 : Int32) ≤ nI j then true else false) = false) (fun h => by cases h) (fun _ => ?_)
    refine V_aload_n C 2 (j := 0) (by decide +kernel) rfl ?_
    refine V_iload C 0 (j := 5) (by decide +kernel) rfl ?_
    refine V_sByte C (inb0 (show j < 6 by omega) (by decide)) (by decide +kernel) ?_
    rw [nI_clamp (show j < 2 ^ 31 by omega)]
    refine V_iload C 1 (j := 4) (by decide +kernel) rfl ?_
    refine V_icmp_ne (pc := 19) (tgt := 25) (off := 6) C (by decide +kernel) (by decide) hr (fun hr => ?_) (fun hr => ?_)
    · refine V_iinc (v := nI (j + 1)) C 0 (i := 5) (n := 1) (by decide +kernel) rfl (nI_1 j) (by decide) rfl ?_
      refine V_goto (pc := 28) (tgt := 7) (off := -21) C (by decide +kernel) (by decide) ?_
      exact ih (j + 1) (by omega) hr
    · refine V_iload C 0 (j := 5) (by decide +kernel) rfl ?_
      rw [hr]
      exact hR 24 _ (by decide +kernel)
theorem c_L_char {l : Launch} (hok : Wok classes (wC g)) {x : Int32} : CtI classes l y_L_char b_L_char 6 (some .int) 1 (wC g) [.ref (g.2.2.2.2 6), .int x, .int 0, .int 6] σ (scanN x.toInt8.toInt32 6 0) σ :=
  MetI (by decide +kernel) hok (Nat.le_of_ble_eq_true rfl) (fun E _ C hR => by
    refine V_iload_n C 1 (j := 1) (by decide +kernel) rfl ?_
    refine V_i2b C (by decide +kernel) ?_
    refine V_istore C (j := 4) (by decide +kernel) (by decide) rfl ?_
    refine V_iload_n C 3 (j := 2) (by decide +kernel) rfl ?_
    refine V_istore C (j := 5) (by decide +kernel) (by decide) rfl ?_
    exact w_L_char C hR 6 0 rfl rfl)
theorem c_L_index {l : Launch} (hok : Wok classes (wC g)) {x : Int32} (hx : chr x = true) : CtI classes l y_L_index b_L_index 4 (some .int) 2 (wC g) [.ref (g.2.2.2.2 6), .int x, .int 0, .int 6] σ (scanN x.toInt8.toInt32 6 0) σ :=
  MetI (by decide +kernel) hok (Nat.le_of_ble_eq_true rfl) (fun E _ C hR => by
    refine V_iload_n C 1 (j := 1) (by decide +kernel) rfl ?_
    refine V_callSi C [.int x] (c_L_can C.2.2.2.2.2.2.2.1 hx) (by decide) cw_L_88 rfl (Nat.le_of_ble_eq_true rfl) rfl (by decide +kernel) ?_
    refine V_if_ne (pc := 4) (tgt := 9) C (off := 5) (by decide +kernel) (by decide) (if_neg (by decide) : (if (1 : Int32) = 0 then true else false) = false) (fun _ => ?_) (fun h => by cases h)
    refine V_iload_n C 2 (j := 2) (by decide +kernel) rfl ?_
    refine V_iconst (v := 0) (n := 0) C (by decide +kernel) (by decide) ?_
    refine V_max C ml_L_92 (by decide) (Nat.le_of_ble_eq_true rfl) (by decide +kernel) ?_
    refine V_istore_n C (j := 2) (by decide +kernel) (by decide) rfl ?_
    refine V_iload_n C 3 (j := 3) (by decide +kernel) rfl ?_
    refine V_aload_n C 1 (j := 0) (by decide +kernel) rfl ?_
    refine V_sLen C (by decide +kernel) ?_
    refine V_min C ml_L_38 (by decide) (Nat.le_of_ble_eq_true rfl) (by decide +kernel) ?_
    refine V_istore_n C (j := 3) (by decide +kernel) (by decide) rfl ?_
    refine V_iload_n C 1 (j := 2) (by decide +kernel) rfl ?_
    refine V_iload_n C 0 (j := 3) (by decide +kernel) rfl ?_
    refine V_icmp_lt (pc := 24) (tgt := 29) (off := 5) C (by decide +kernel) (by decide) (if_pos (by decide) : (if imax 0 0 < imin 6 6 then true else false) = true) (fun _ => ?_) (fun h => by cases h)
    refine V_aload_n C 2 (j := 0) (by decide +kernel) rfl ?_
    refine V_iload_n C 3 (j := 1) (by decide +kernel) rfl ?_
    refine V_iload_n C 1 (j := 2) (by decide +kernel) rfl ?_
    refine V_iload_n C 0 (j := 3) (by decide +kernel) rfl ?_
    refine V_callSi C [.ref (g.2.2.2.2 6), .int x, .int 0, .int 6] (c_L_char C.2.2.2.2.2.2.2.1) (by decide) cw_L_95 rfl (Nat.le_of_ble_eq_true rfl) rfl (by decide +kernel) ?_
    exact hR 36 _ (by decide +kernel))
theorem c_S_index2 {l : Launch} (hok : Wok classes (wC g)) {x : Int32} (hx : chr x = true) : CtI classes l y_S_index2 b_S_index2 3 (some .int) 3 (wC g) [.ref (g.2.2.2.2 5), .int x, .int 0] σ (scanN x.toInt8.toInt32 6 0) σ :=
  MetI (by decide +kernel) hok (Nat.le_of_ble_eq_true rfl) (fun E _ C hR => by
    refine V_aload_n C 0 (j := 0) (by decide +kernel) rfl ?_
    refine V_callStr C [] (c_S_isLatin1 C.2.2.2.2.2.2.2.1) (by decide) cw_S_492 rfl rfl (Nat.le_of_ble_eq_true rfl) rfl (by decide +kernel) ?_
    refine V_if_eq (pc := 4) (tgt := 23) C (off := 19) (by decide +kernel) (by decide) (if_neg (by decide) : (if (1 : Int32) = 0 then true else false) = false) (fun h => by cases h) (fun _ => ?_)
    refine V_aload_n C 0 (j := 0) (by decide +kernel) rfl ?_
    refine V_sValue C (by decide +kernel) ?_
    refine V_iload_n C 1 (j := 1) (by decide +kernel) rfl ?_
    refine V_iload_n C 2 (j := 2) (by decide +kernel) rfl ?_
    refine V_aload_n C 0 (j := 0) (by decide +kernel) rfl ?_
    refine V_callStr C [] (c_S_length C.2.2.2.2.2.2.2.1) (by decide) cw_S_505 rfl rfl (Nat.le_of_ble_eq_true rfl) rfl (by decide +kernel) ?_
    refine V_callSi C [.ref (g.2.2.2.2 6), .int x, .int 0, .int 6] (c_L_index C.2.2.2.2.2.2.2.1 hx) (by decide) cw_S_637 rfl (Nat.le_of_ble_eq_true rfl) rfl (by decide +kernel) ?_
    refine V_goto (pc := 20) (tgt := 36) (off := 16) C (by decide +kernel) (by decide) ?_
    exact hR 36 _ (by decide +kernel))
theorem c_S_index1 {l : Launch} (hok : Wok classes (wC g)) {x : Int32} (hx : chr x = true) : CtI classes l y_S_index1 b_S_index1 2 (some .int) 4 (wC g) [.ref (g.2.2.2.2 5), .int x] σ (nameIx x) σ :=
  MetI (by decide +kernel) hok (Nat.le_of_ble_eq_true rfl) (fun E _ C hR => by
    have e : scanN x.toInt8.toInt32 6 0 = nameIx x := by
      obtain ⟨h1, h2⟩ := of_decide_eq_true hx
      obtain ⟨j, hj, rfl⟩ := nI_of (Int32.not_lt.mpr h1)
      have hj2 : j < 256 := by
        by_cases z : j < 256
        · exact z
        · exact absurd h2 (nI_nlt (b := 256) (by omega) hj)
      exact scan_ix ⟨j, hj2⟩
    refine V_aload_n C 0 (j := 0) (by decide +kernel) rfl ?_
    refine V_iload_n C 1 (j := 1) (by decide +kernel) rfl ?_
    refine V_iconst (v := 0) (n := 0) C (by decide +kernel) (by decide) ?_
    refine V_callStr C [.int x, .int 0] (c_S_index2 C.2.2.2.2.2.2.2.1 hx) (by decide) cw_S_633 rfl rfl (Nat.le_of_ble_eq_true rfl) rfl (by decide +kernel) ?_
    rw [e]
    exact hR 6 _ (by decide +kernel))
theorem V_indexOf (C : Cx E classes nL (wC g) cc "WithTheReds$Tape" d) {x : Int32} (hch : chr x = true) (hd : 5 ≤ d) (hcat : (st.map fun v => v.category).sum ≤ 8) (hdg : decode cc pc = .ok (.invokevirtual 82, 3)) (kk : V E classes nL (wC g) σ (pc + 3) lv (.int (nameIx x) :: st)) : V E classes nL (wC g) σ pc lv (.int x :: .ref (g.2.2.2.2 5) :: st) :=
  V_callStr C [.int x] (c_S_index1 C.2.2.2.2.2.2.2.1 hch) hd cw_S_82 rfl rfl hcat rfl hdg kk
end STRT
