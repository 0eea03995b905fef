/-! String.indexOf, walked: the machine's own classes, over the world of the class -/
abbrev b_S_index1 : ByteArray := prog_18_method_79_code
abbrev b_S_index2 : ByteArray := prog_18_method_80_code
abbrev b_S_isLatin1 : ByteArray := prog_18_method_154_code
abbrev b_S_length : ByteArray := prog_18_method_54_code
abbrev b_S_coder : ByteArray := prog_18_method_152_code
abbrev b_L_index : ByteArray := prog_19_method_22_code
abbrev b_L_can : ByteArray := prog_19_method_4_code
abbrev b_L_char : ByteArray := prog_19_method_23_code
def y_S_index1 : MethodName := ⟨"java/lang/String", "indexOf", "(I)I"⟩
def y_S_index2 : MethodName := ⟨"java/lang/String", "indexOf", "(II)I"⟩
def y_S_isLatin1 : MethodName := ⟨"java/lang/String", "isLatin1", "()Z"⟩
def y_S_length : MethodName := ⟨"java/lang/String", "length", "()I"⟩
def y_S_coder : MethodName := ⟨"java/lang/String", "coder", "()B"⟩
def y_L_index : MethodName := ⟨"java/lang/StringLatin1", "indexOf", "([BIII)I"⟩
def y_L_can : MethodName := ⟨"java/lang/StringLatin1", "canEncode", "(I)Z"⟩
def y_L_char : MethodName := ⟨"java/lang/StringLatin1", "indexOfChar", "([BIII)I"⟩
theorem cw_S_82 : CwV "WithTheReds$Tape" 82 y_S_index1 b_S_index1 2 (some .int) 1 := ⟨⟨tt_c1 15 rfl rfl, tt_c3 29 rfl rfl, by decide +kernel, by decide⟩, tt_c3 26 rfl rfl, tt_c3 27 rfl rfl, tt_c3 28 rfl rfl⟩
theorem cw_S_633 : CwV "java/lang/String" 633 y_S_index2 b_S_index2 3 (some .int) 2 := ⟨⟨tt_c1 15 rfl rfl, tt_c3 33 rfl rfl, by decide +kernel, by decide⟩, tt_c3 30 rfl rfl, tt_c3 31 rfl rfl, tt_c3 32 rfl rfl⟩
theorem cw_S_492 : CwV "java/lang/String" 492 y_S_isLatin1 b_S_isLatin1 1 (some .boolean) 0 := ⟨⟨tt_c1 15 rfl rfl, tt_c3 37 rfl rfl, by decide +kernel, by decide⟩, tt_c3 34 rfl rfl, tt_c3 35 rfl rfl, tt_c3 36 rfl rfl⟩
theorem cw_S_505 : CwV "java/lang/String" 505 y_S_length b_S_length 1 (some .int) 0 := ⟨⟨tt_c1 15 rfl rfl, tt_c3 43 rfl rfl, by decide +kernel, by decide⟩, tt_c3 40 rfl rfl, tt_c3 41 rfl rfl, tt_c3 42 rfl rfl⟩
theorem cw_S_335 : CwV "java/lang/String" 335 y_S_coder b_S_coder 1 (some .byte) 0 := ⟨⟨tt_c1 15 rfl rfl, tt_c3 47 rfl rfl, by decide +kernel, by decide⟩, tt_c3 44 rfl rfl, tt_c3 45 rfl rfl, tt_c3 46 rfl rfl⟩
theorem cw_S_637 : CwS "java/lang/String" 637 y_L_index b_L_index 4 (some .int) 4 := ⟨⟨tt_c1 16 rfl rfl, tt_c3 50 rfl rfl, by decide +kernel, by decide⟩, tt_c3 48 rfl rfl, tt_c3 49 rfl rfl⟩
theorem cw_L_88 : CwS "java/lang/StringLatin1" 88 y_L_can b_L_can 1 (some .boolean) 1 := ⟨⟨tt_c1 16 rfl rfl, tt_c3 53 rfl rfl, by decide +kernel, by decide⟩, tt_c3 51 rfl rfl, tt_c3 52 rfl rfl⟩
theorem cw_L_95 : CwS "java/lang/StringLatin1" 95 y_L_char b_L_char 6 (some .int) 4 := ⟨⟨tt_c1 16 rfl rfl, tt_c3 62 rfl rfl, by decide +kernel, by decide⟩, tt_c3 60 rfl rfl, tt_c3 61 rfl rfl⟩
theorem ml_L_92 : Cond.methodLink "java/lang/StringLatin1" 92 Lib.Math.max.name ∈ TT := tt_c3 54 rfl rfl
theorem ml_L_38 : Cond.methodLink "java/lang/StringLatin1" 38 Lib.Math.min.name ∈ TT := tt_c3 57 rfl rfl
theorem fl_S_38 : Cond.fieldLink "java/lang/String" 38 "java/lang/String" "COMPACT_STRINGS" "Z" ∈ TT := tt_c3 38 rfl rfl
theorem fl_S_15 : Cond.fieldLink "java/lang/String" 15 "java/lang/String" "coder" "B" ∈ TT := tt_c8 150 rfl rfl
theorem fl_S_9 : Cond.fieldLink "java/lang/String" 9 "java/lang/String" "value" "[B" ∈ TT := tt_c8 151 rfl rfl
section STRS
variable {E : Ev} {g : Gx} {nL d dd : Nat} {σ σ' : St} {pc : Nat} {lv lv' : List (Nat × Value)} {st st0 : List Value} {cc b : ByteArray} {own : String}
theorem V_callStr (C : Cx E classes nL (wC g) cc own d) (As : List Value) {y : MethodName} {maxL idx n : Nat} {ret : Option FieldType} {r : Int32} (hM : CtI classes E.2.1 y b maxL ret dd (wC g) (.ref (g.2.2.2.2 5) :: As) σ r σ') (hd : dd + 1 ≤ d) (hw : CwV own idx y b maxL ret n) (hcn : y.cls = "java/lang/String") (hn : As.length = n) (hcat : (st.map fun v => v.category).sum ≤ 8) (hst : As.reverse ++ .ref (g.2.2.2.2 5) :: st = st0) (hdg : decode cc pc = .ok (.invokevirtual idx, 3)) (kk : V E classes nL (wC g) σ' (pc + 3) lv (.int r :: st)) : V E classes nL (wC g) σ pc lv st0 := by
  intro H locs ls hP hS hl
  subst hst
  exact va_calli (va_runV (C := y.cls) (As := As) (rest := st) ⟨C.1, C.2.1, C.2.2.1, C.2.2.2.1, C.2.2.2.2.1⟩ hM ⟨cwB C hd hw.1 hw.2.1, C.2.2.2.2.1 _ hw.2.2.1, C.2.2.2.2.1 _ hw.2.2.2⟩ ⟨pcw_blind C.2.2.2.2.2.2.2.1 _, by rw [hcn]; exact vk_recv C.2.2.2.2.2.2.1.2.2.2.1 (i := 0) (by decide) hS, pcw_at C _ hP hS⟩ rfl hn hl.1 rfl (lv_room hcat) hdg C.2.2.2.2.2.2.2.2.2.2) hS (fun q _ h => h) (fun q h => h) (fun r1 u t H1 locs1 ht hvm hpost hB hz hk hS1 => by obtain ⟨rfl, rfl⟩ := hpost; exact kk H1 locs1 ls (by rw [← ht]; exact hB) hS1 hl)
theorem V_sCoder (C : Cx E classes nL (wC g) cc "java/lang/String" d) (hdg : decode cc pc = .ok (.getfield 15, 3)) (kk : V E classes nL (wC g) σ (pc + 3) lv (.int 0 :: st)) : V E classes nL (wC g) σ pc lv (.ref (g.2.2.2.2 5) :: st) := fun H locs ls hP hS hl => vk_getf C.1 C.2.1 (C.2.2.2.2.2.2.1.2.2.2.1.1 0 (by decide)).2.1 hS C.2.2.2.1 (C.2.2.2.2.1 _ fl_S_15) (fun _ h => h) hdg (kk H locs ls hP hS hl)
theorem V_sValue (C : Cx E classes nL (wC g) cc "java/lang/String" d) (hdg : decode cc pc = .ok (.getfield 9, 3)) (kk : V E classes nL (wC g) σ (pc + 3) lv (.ref (g.2.2.2.2 6) :: st)) : V E classes nL (wC g) σ pc lv (.ref (g.2.2.2.2 5) :: st) := fun H locs ls hP hS hl => vk_getf C.1 C.2.1 (C.2.2.2.2.2.2.1.2.2.2.1.1 0 (by decide)).2.2.1 hS C.2.2.2.1 (C.2.2.2.2.1 _ fl_S_9) (fun _ h => h) hdg (kk H locs ls hP hS hl)
theorem V_sLen (C : Cx E classes nL (wC g) cc own d) (hdg : decode cc pc = .ok (.arraylength, 1)) (kk : V E classes nL (wC g) σ (pc + 1) lv (.int 6 :: st)) : V E classes nL (wC g) σ pc lv (.ref (g.2.2.2.2 6) :: st) := fun H locs ls hP hS hl => va_tlen C.1 C.2.1 (C.2.2.2.2.2.2.1.2.2.2.1.1 0 (by decide)).2.2.2 hS rfl hdg (kk H locs ls hP hS hl)
theorem V_sByte {i : Int32} (C : Cx E classes nL (wC g) cc own d) (hi : inb i 6 = true) (hdg : decode cc pc = .ok (.baload, 1)) (kk : V E classes nL (wC g) σ (pc + 1) lv (.int (nmBytes.getD i.toNatClampNeg 0) :: st)) : V E classes nL (wC g) σ pc lv (.int i :: .ref (g.2.2.2.2 6) :: st) := fun H locs ls hP hS hl => va_tb C.1 C.2.1 (C.2.2.2.2.2.2.1.2.2.2.1.1 0 (by decide)).2.2.2 hS (inb_in hi) rfl hdg (kk H locs ls hP hS hl)
theorem V_sCompact (C : Cx E classes nL (wC g) cc "java/lang/String" d) (hdg : decode cc pc = .ok (.getstatic 38, 3)) (kk : V E classes nL (wC g) σ (pc + 3) lv (.int 1 :: st)) : V E classes nL (wC g) σ pc lv st := fun H locs ls hP hS hl => va_gets C.1 C.2.1 C.2.2.2.2.2.2.1.2.2.2.2 hS C.2.2.2.1 (C.2.2.2.2.1 _ fl_S_38) (fun _ h => h) hdg (kk H locs ls hP hS hl)
/-- a method that answers a byte -/
theorem MetB {w : Wx} {l : Launch} {y : MethodName} {maxL : Nat} {av : List Value} {r : Int32} (hy : plainName y.cls = true) (hok : Wok classes w) (hn : (lg_sl av).length ≤ maxL) (hnar : narrow .byte (.int r) = .int r)
    (body : ∀ E : Ev, E.2.1 = l → Cx E classes maxL w b y.cls d → RetI E classes maxL w b r σ' → V E classes maxL w σ 0 (lv_args 0 av) []) : CtI classes l y b maxL (some .byte) d w av σ r σ' := by
  refine Met.ofW (cc := b) (maxL := maxL) (ret := some .byte) hy rfl ?_
  intro p e s m args below meth c s₁ B hml hv
  obtain ⟨rfl, hP, hK, hg⟩ := hv
  have hx := B.exec
  have hb := B.bytes
  have hr := B.returns
  have hts := atoms_spec (ws := Cond.code y b maxL (some .byte) :: TT) B.pre
  have hown : s.vm.findClass y.cls = some m.cls := findClass_of_methodNamed B.named
  have hlocks := B.notSynchronized
  rw [lg_entry_eq]
  have hl := lv_entry av (n := maxL) hn
  refine body (p, l, e, (headSpec (Cond.code y b maxL (some .byte) :: TT) (rmD d)).room, s, m, av.toArray, below, meth, c, MQ below (QcI classes w r σ') av.toArray s 0 0 w.2.2.2.1, 0, 0) rfl ⟨hx, hb, hml, hown, fun x h => hts x (List.mem_cons_of_mem _ h), hK, hg, hok, Nat.le_refl _, Nat.le_refl _, Nat.le_refl _, Nat.le_refl _⟩ ?_ s.heap [] _ hP va_S.rf hl
  intro pc lv hdg H locs ls hP hS hl
  exact W.zret (v := r) hx hb hr hnar (fun t ht hW => ⟨⟨r, σ', rfl, ⟨rfl, rfl⟩, by show va_P _ _ _ t.heap; rw [ht]; exact hP⟩, hS.F ht⟩) hS.2.2 hdg
theorem c_L_can {l : Launch} (hok : Wok classes (wC g)) {x : Int32} (hx : chr x = true) : CtI classes l y_L_can b_L_can 1 (some .boolean) 1 (wC g) [.int x] σ 1 σ :=
  MetZ (by decide +kernel) hok (Nat.le_of_ble_eq_true rfl) (fun E _ C hR => by
    obtain ⟨h1, h2⟩ := of_decide_eq_true hx
    have n1 : ¬ x < 0 := Int32.not_lt.mpr h1
    have n2 : ¬ (255 : Int32) < x := fun z => by
      have a1 := Int32.lt_iff_toInt_lt.mp h2
      have a2 := Int32.lt_iff_toInt_lt.mp z
      have e1 : (256 : Int32).toInt = 256 := by decide
      have e2 : (255 : Int32).toInt = 255 := by decide
      omega
    refine V_iload_n C 0 (j := 0) (by decide +kernel) rfl ?_
    refine V_if_lt (pc := 1) (tgt := 15) C (off := 14) (by decide +kernel) (by decide) (if_neg n1 : (if x < 0 then true else false) = false) (fun h => by cases h) (fun _ => ?_)
    refine V_iload_n C 0 (j := 0) (by decide +kernel) rfl ?_
    refine V_sipush (v := 255) C (n := 255) (by decide +kernel) (by decide) ?_
    refine V_icmp_gt (pc := 8) (tgt := 15) C (off := 7) (by decide +kernel) (by decide) (if_neg n2 : (if (255 : Int32) < x then true else false) = false) (fun h => by cases h) (fun _ => ?_)
    refine V_iconst (v := 1) (n := 1) C (by decide +kernel) (by decide) ?_
    refine V_goto (pc := 12) (tgt := 16) (off := 4) C (by decide +kernel) (by decide) ?_
    exact hR 16 _ rfl (by decide +kernel))
end STRS
