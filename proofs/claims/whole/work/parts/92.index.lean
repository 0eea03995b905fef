/-! String.indexOf, its methods -/
def scanN (xb : Int32) : Nat → Nat → Int32
  | 0, _ => -1
  | k + 1, j => if nmBytes.getD j 0 = xb then nI j else scanN xb k (j + 1)
theorem scanN_s (xb : Int32) (k j : Nat) : scanN xb (k + 1) j = if nmBytes.getD j 0 = xb then nI j else scanN xb k (j + 1) := rfl
theorem scan_ix : ∀ i : Fin 256, scanN (nI i.val).toInt8.toInt32 6 0 = nameIx (nI i.val) := by decide +kernel
section STRT
variable {E : Ev} {g : Gx} {nL d dd : Nat} {σ σ' : St} {pc : Nat} {lv lv' : List (Nat × Value)} {st st0 : List Value} {cc b : ByteArray} {own : String}
theorem c_S_coder {l : Launch} (hok : Wok classes (wC g)) : CtI classes l y_S_coder b_S_coder 1 (some .byte) 1 (wC g) [.ref (g.2.2.2.2 5)] σ 0 σ :=
  MetB (by decide +kernel) hok (Nat.le_of_ble_eq_true rfl) (by decide +kernel) (fun E _ C hR => by
    refine V_sCompact C (by decide +kernel) ?_
    refine V_if_eq (pc := 3) (tgt := 13) C (off := 10) (by decide +kernel) (by decide) (if_neg i10 : (if (1 : Int32) = 0 then true else false) = false) (fun h => by cases h) (fun _ => ?_)
    refine V_aload_n C 0 (j := 0) (by decide +kernel) rfl ?_
    refine V_sCoder C (by decide +kernel) ?_
    refine V_goto (pc := 10) (tgt := 14) (off := 4) C (by decide +kernel) (by decide) ?_
    exact hR 14 _ (by decide +kernel))
theorem c_S_isLatin1 {l : Launch} (hok : Wok classes (wC g)) : CtI classes l y_S_isLatin1 b_S_isLatin1 1 (some .boolean) 1 (wC g) [.ref (g.2.2.2.2 5)] σ 1 σ :=
  MetZ (by decide +kernel) hok (Nat.le_of_ble_eq_true rfl) (fun E _ C hR => by
    refine V_sCompact C (by decide +kernel) ?_
    refine V_if_eq (pc := 3) (tgt := 17) C (off := 14) (by decide +kernel) (by decide) (if_neg i10 : (if (1 : Int32) = 0 then true else false) = false) (fun h => by cases h) (fun _ => ?_)
    refine V_aload_n C 0 (j := 0) (by decide +kernel) rfl ?_
    refine V_sCoder C (by decide +kernel) ?_
    refine V_if_ne (pc := 10) (tgt := 17) C (off := 7) (by decide +kernel) (by decide) (if_pos rfl : (if (0 : Int32) = 0 then true else false) = true) (fun h => by cases h) (fun _ => ?_)
    refine V_iconst (v := 1) (n := 1) C (by decide +kernel) (by decide) ?_
    refine V_goto (pc := 14) (tgt := 18) (off := 4) C (by decide +kernel) (by decide) ?_
    exact hR 18 _ rfl (by decide +kernel))
theorem c_S_length {l : Launch} (hok : Wok classes (wC g)) : CtI classes l y_S_length b_S_length 1 (some .int) 2 (wC g) [.ref (g.2.2.2.2 5)] σ 6 σ :=
  MetI (by decide +kernel) hok (Nat.le_of_ble_eq_true rfl) (fun E _ C hR => by
    refine V_aload_n C 0 (j := 0) (by decide +kernel) rfl ?_
    refine V_sValue C (by decide +kernel) ?_
    refine V_sLen C (by decide +kernel) ?_
    refine V_aload_n C 0 (j := 0) (by decide +kernel) rfl ?_
    refine V_callStr C [] (c_S_coder C.2.2.2.2.2.2.2.1) (by decide) cw_S_335 rfl rfl (Nat.le_of_ble_eq_true rfl) rfl (by decide +kernel) ?_
    refine V_ishr C (by decide +kernel) ?_
    exact hR 10 _ (by decide +kernel))
theorem w_L_char (C : Cx E classes 6 (wC g) b_L_char "java/lang/StringLatin1" 1) {r x xb : Int32} (hR : RetI E classes 6 (wC g) b_L_char r σ) : ∀ (k j : Nat), j + k = 6 → scanN xb k j = r → V E classes 6 (wC g) σ 7 [(5, .int (nI j)), (4, .int xb), (0, .ref (g.2.2.2.2 6)), (1, .int x), (2, .int 0), (3, .int 6)] [] := by
  intro k
  induction k with
  | zero =>
    intro j hj hr
    have e : j = 6 := by omega
    subst e
    refine V_iload C 0 (j := 5) (by decide +kernel) rfl ?_
    refine V_iload_n C 5 (j := 3) (by decide +kernel) rfl ?_
    refine V_icmp_ge (pc := 10) (tgt := 31) (off := 21) C (by decide +kernel) (by decide) (if_pos (by decide) : (if (6 : Int32) ≤ nI 6 then true else false) = true) (fun _ => ?_) (fun h => by cases h)
    refine V_iconst (v := -1) (n := -1) C (by decide +kernel) (by decide) ?_
    have hr' : (-1 : Int32) = r := hr
    rw [hr']
    exact hR 32 _ (by decide +kernel)
  | succ k ih =>
    intro j hj hr
    rw [scanN_s] at hr
    refine V_iload C 0 (j := 5) (by decide +kernel) rfl ?_
    refine V_iload_n C 5 (j := 3) (by decide +kernel) rfl ?_
    refine V_icmp_ge (pc := 10) (tgt := 31) (off := 21) C (by decide +kernel) (by decide) (if_neg (nI_ge (b := 6) (show j < 6 by omega) (by decide)) : (if (6 : Int32) ≤ nI j then true else false) = false) (fun h => by cases h) (fun _ => ?_)
    refine V_aload_n C 2 (j := 0) (by decide +kernel) rfl ?_
    refine V_iload C 0 (j := 5) (by decide +kernel) rfl ?_
    refine V_sByte C (inb_nI (show j < 6 by omega) (by decide)) (by decide +kernel) ?_
    rw [nIt (show j < 2 ^ 31 by omega)]
    refine V_iload C 1 (j := 4) (by decide +kernel) rfl ?_
    refine V_icmp_ne (pc := 19) (tgt := 25) (off := 6) C (by decide +kernel) (by decide) hr (fun hr => ?_) (fun hr => ?_)
    · refine V_iinc (v := nI (j + 1)) C 0 (i := 5) (n := 1) (by decide +kernel) rfl (nI_1 j) (by decide) rfl ?_
      refine V_goto (pc := 28) (tgt := 7) (off := -21) C (by decide +kernel) (by decide) ?_
      exact ih (j + 1) (by omega) hr
    · refine V_iload C 0 (j := 5) (by decide +kernel) rfl ?_
      rw [hr]
      exact hR 24 _ (by decide +kernel)
theorem c_L_char {l : Launch} (hok : Wok classes (wC g)) {x : Int32} : CtI classes l y_L_char b_L_char 6 (some .int) 1 (wC g) [.ref (g.2.2.2.2 6), .int x, .int 0, .int 6] σ (scanN x.toInt8.toInt32 6 0) σ :=
  MetI (by decide +kernel) hok (Nat.le_of_ble_eq_true rfl) (fun E _ C hR => by
    refine V_iload_n C 1 (j := 1) (by decide +kernel) rfl ?_
    refine V_i2b C (by decide +kernel) ?_
    refine V_istore C (j := 4) (by decide +kernel) (by decide) rfl ?_
    refine V_iload_n C 3 (j := 2) (by decide +kernel) rfl ?_
    refine V_istore C (j := 5) (by decide +kernel) (by decide) rfl ?_
    exact w_L_char C hR 6 0 rfl rfl)
theorem c_L_index {l : Launch} (hok : Wok classes (wC g)) {x : Int32} (hx : chr x = true) : CtI classes l y_L_index b_L_index 4 (some .int) 2 (wC g) [.ref (g.2.2.2.2 6), .int x, .int 0, .int 6] σ (scanN x.toInt8.toInt32 6 0) σ :=
  MetI (by decide +kernel) hok (Nat.le_of_ble_eq_true rfl) (fun E _ C hR => by
    refine V_iload_n C 1 (j := 1) (by decide +kernel) rfl ?_
    refine V_callSi C [.int x] (c_L_can C.2.2.2.2.2.2.2.1 hx) (by decide) cw_L_88 rfl (Nat.le_of_ble_eq_true rfl) rfl (by decide +kernel) ?_
    refine V_if_ne (pc := 4) (tgt := 9) C (off := 5) (by decide +kernel) (by decide) (if_neg i10 : (if (1 : Int32) = 0 then true else false) = false) (fun _ => ?_) (fun h => by cases h)
    refine V_iload_n C 2 (j := 2) (by decide +kernel) rfl ?_
    refine V_iconst (v := 0) (n := 0) C (by decide +kernel) (by decide) ?_
    refine V_max C ml_L_92 (by decide) (Nat.le_of_ble_eq_true rfl) (by decide +kernel) ?_
    refine V_istore_n C (j := 2) (by decide +kernel) (by decide) rfl ?_
    refine V_iload_n C 3 (j := 3) (by decide +kernel) rfl ?_
    refine V_aload_n C 1 (j := 0) (by decide +kernel) rfl ?_
    refine V_sLen C (by decide +kernel) ?_
    refine V_min C ml_L_38 (by decide) (Nat.le_of_ble_eq_true rfl) (by decide +kernel) ?_
    refine V_istore_n C (j := 3) (by decide +kernel) (by decide) rfl ?_
    refine V_iload_n C 1 (j := 2) (by decide +kernel) rfl ?_
    refine V_iload_n C 0 (j := 3) (by decide +kernel) rfl ?_
    refine V_icmp_lt (pc := 24) (tgt := 29) (off := 5) C (by decide +kernel) (by decide) (if_pos (by decide) : (if imax 0 0 < imin 6 6 then true else false) = true) (fun _ => ?_) (fun h => by cases h)
    refine V_aload_n C 2 (j := 0) (by decide +kernel) rfl ?_
    refine V_iload_n C 3 (j := 1) (by decide +kernel) rfl ?_
    refine V_iload_n C 1 (j := 2) (by decide +kernel) rfl ?_
    refine V_iload_n C 0 (j := 3) (by decide +kernel) rfl ?_
    refine V_callSi C [.ref (g.2.2.2.2 6), .int x, .int 0, .int 6] (c_L_char C.2.2.2.2.2.2.2.1) (by decide) cw_L_95 rfl (Nat.le_of_ble_eq_true rfl) rfl (by decide +kernel) ?_
    exact hR 36 _ (by decide +kernel))
theorem c_S_index2 {l : Launch} (hok : Wok classes (wC g)) {x : Int32} (hx : chr x = true) : CtI classes l y_S_index2 b_S_index2 3 (some .int) 3 (wC g) [.ref (g.2.2.2.2 5), .int x, .int 0] σ (scanN x.toInt8.toInt32 6 0) σ :=
  MetI (by decide +kernel) hok (Nat.le_of_ble_eq_true rfl) (fun E _ C hR => by
    refine V_aload_n C 0 (j := 0) (by decide +kernel) rfl ?_
    refine V_callStr C [] (c_S_isLatin1 C.2.2.2.2.2.2.2.1) (by decide) cw_S_492 rfl rfl (Nat.le_of_ble_eq_true rfl) rfl (by decide +kernel) ?_
    refine V_if_eq (pc := 4) (tgt := 23) C (off := 19) (by decide +kernel) (by decide) (if_neg i10 : (if (1 : Int32) = 0 then true else false) = false) (fun h => by cases h) (fun _ => ?_)
    refine V_aload_n C 0 (j := 0) (by decide +kernel) rfl ?_
    refine V_sValue C (by decide +kernel) ?_
    refine V_iload_n C 1 (j := 1) (by decide +kernel) rfl ?_
    refine V_iload_n C 2 (j := 2) (by decide +kernel) rfl ?_
    refine V_aload_n C 0 (j := 0) (by decide +kernel) rfl ?_
    refine V_callStr C [] (c_S_length C.2.2.2.2.2.2.2.1) (by decide) cw_S_505 rfl rfl (Nat.le_of_ble_eq_true rfl) rfl (by decide +kernel) ?_
    refine V_callSi C [.ref (g.2.2.2.2 6), .int x, .int 0, .int 6] (c_L_index C.2.2.2.2.2.2.2.1 hx) (by decide) cw_S_637 rfl (Nat.le_of_ble_eq_true rfl) rfl (by decide +kernel) ?_
    refine V_goto (pc := 20) (tgt := 36) (off := 16) C (by decide +kernel) (by decide) ?_
    exact hR 36 _ (by decide +kernel))
theorem c_S_index1 {l : Launch} (hok : Wok classes (wC g)) {x : Int32} (hx : chr x = true) : CtI classes l y_S_index1 b_S_index1 2 (some .int) 4 (wC g) [.ref (g.2.2.2.2 5), .int x] σ (nameIx x) σ :=
  MetI (by decide +kernel) hok (Nat.le_of_ble_eq_true rfl) (fun E _ C hR => by
    have e : scanN x.toInt8.toInt32 6 0 = nameIx x := by
      obtain ⟨h1, h2⟩ := of_decide_eq_true hx
      obtain ⟨j, hj, rfl⟩ := nI_of (Int32.not_lt.mpr h1)
      have hj2 : j < 256 := by
        by_cases z : j < 256
        · exact z
        · exact absurd h2 (nI_nlt (b := 256) (by omega) hj)
      exact scan_ix ⟨j, hj2⟩
    refine V_aload_n C 0 (j := 0) (by decide +kernel) rfl ?_
    refine V_iload_n C 1 (j := 1) (by decide +kernel) rfl ?_
    refine V_iconst (v := 0) (n := 0) C (by decide +kernel) (by decide) ?_
    refine V_callStr C [.int x, .int 0] (c_S_index2 C.2.2.2.2.2.2.2.1 hx) (by decide) cw_S_633 rfl rfl (Nat.le_of_ble_eq_true rfl) rfl (by decide +kernel) ?_
    rw [e]
    exact hR 6 _ (by decide +kernel))
theorem indexOf_new (C : Cx E classes nL (wC g) cc "WithTheReds$Tape" d) {x : Int32} (hch : chr x = true) (hd : 5 ≤ d) (hcat : (st.map fun v => v.category).sum ≤ 8) (hdg : decode cc pc = .ok (.invokevirtual 82, 3)) (kk : V E classes nL (wC g) σ (pc + 3) lv (.int (nameIx x) :: st)) : V E classes nL (wC g) σ pc lv (.int x :: .ref (g.2.2.2.2 5) :: st) :=
  V_callStr C [.int x] (c_S_index1 C.2.2.2.2.2.2.2.1 hch) hd cw_S_82 rfl rfl hcat rfl hdg kk
end STRT
