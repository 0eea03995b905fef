/-! the law's loop -/
section LOOP
variable {E : Ev} {g : Gx} {a : Nat → Nat} {A A' : Nat → Prop} {b L : Nat} {xs : Nat → Int32}
theorem ll_sw : decode code 33 = .ok (.tableswitch 1768 0 45 #[199, 232, 275, 318, 351, 374, 387, 420, 463, 506, 549, 582, 615, 648, 691, 734, 767, 800, 833, 856, 899, 932, 965, 1008, 1061, 1094, 1147, 1180, 1223, 1256, 1279, 1302, 1325, 1338, 1351, 1364, 1377, 1400, 1443, 1466, 1499, 1542, 1615, 1649, 1712, 1745], 199) := by decide +kernel
set_option maxRecDepth 20000 in
theorem ll_case {σ τ : St} {i : Nat} (B : LB E 4 A g a A' code "WithTheRedsLaw" 2048) (hX : va_X b L xs E.2.2.2.2.1 E.2.2.2.2.1.heap) (hbl : b < E.2.2.2.2.1.heap.size) (hin : ∀ k : Nat, k < 6 → vp_in (nI i + nI k) L) (hr : Rel σ τ) (done : ∀ σ' τ' : St, Rel σ' τ' → V E classes 4 (wL A g a A' τ') σ' 1801 (LV g a b i) []) : ∀ j : Nat, j < 46 → V E classes 4 (wL A g a A' τ) σ 33 (LV g a b i) [.int (nI j)] := by
  intro j hj
  match j, hj with
  | 0, _ => exact V_tin (B.1 _) (off := 199) (tgt := 232) ll_sw (by decide) (by decide) (by decide +kernel) (by decide) (lc_0 B hX hbl hin hr done)
  | 1, _ => exact V_tin (B.1 _) (off := 232) (tgt := 265) ll_sw (by decide) (by decide) (by decide +kernel) (by decide) (lc_1 B hX hbl hin hr done)
  | 2, _ => exact V_tin (B.1 _) (off := 275) (tgt := 308) ll_sw (by decide) (by decide) (by decide +kernel) (by decide) (lc_2 B hX hbl hin hr done)
  | 3, _ => exact V_tin (B.1 _) (off := 318) (tgt := 351) ll_sw (by decide) (by decide) (by decide +kernel) (by decide) (lc_3 B hX hbl hin hr done)
  | 4, _ => exact V_tin (B.1 _) (off := 351) (tgt := 384) ll_sw (by decide) (by decide) (by decide +kernel) (by decide) (lc_4 B hX hbl hin hr done)
  | 5, _ => exact V_tin (B.1 _) (off := 374) (tgt := 407) ll_sw (by decide) (by decide) (by decide +kernel) (by decide) (lc_5 B hX hbl hin hr done)
  | 6, _ => exact V_tin (B.1 _) (off := 387) (tgt := 420) ll_sw (by decide) (by decide) (by decide +kernel) (by decide) (lc_6 B hX hbl hin hr done)
  | 7, _ => exact V_tin (B.1 _) (off := 420) (tgt := 453) ll_sw (by decide) (by decide) (by decide +kernel) (by decide) (lc_7 B hX hbl hin hr done)
  | 8, _ => exact V_tin (B.1 _) (off := 463) (tgt := 496) ll_sw (by decide) (by decide) (by decide +kernel) (by decide) (lc_8 B hX hbl hin hr done)
  | 9, _ => exact V_tin (B.1 _) (off := 506) (tgt := 539) ll_sw (by decide) (by decide) (by decide +kernel) (by decide) (lc_9 B hX hbl hin hr done)
  | 10, _ => exact V_tin (B.1 _) (off := 549) (tgt := 582) ll_sw (by decide) (by decide) (by decide +kernel) (by decide) (lc_10 B hX hbl hin hr done)
  | 11, _ => exact V_tin (B.1 _) (off := 582) (tgt := 615) ll_sw (by decide) (by decide) (by decide +kernel) (by decide) (lc_11 B hX hbl hin hr done)
  | 12, _ => exact V_tin (B.1 _) (off := 615) (tgt := 648) ll_sw (by decide) (by decide) (by decide +kernel) (by decide) (lc_12 B hX hbl hin hr done)
  | 13, _ => exact V_tin (B.1 _) (off := 648) (tgt := 681) ll_sw (by decide) (by decide) (by decide +kernel) (by decide) (lc_13 B hX hbl hin hr done)
  | 14, _ => exact V_tin (B.1 _) (off := 691) (tgt := 724) ll_sw (by decide) (by decide) (by decide +kernel) (by decide) (lc_14 B hX hbl hin hr done)
  | 15, _ => exact V_tin (B.1 _) (off := 734) (tgt := 767) ll_sw (by decide) (by decide) (by decide +kernel) (by decide) (lc_15 B hX hbl hin hr done)
  | 16, _ => exact V_tin (B.1 _) (off := 767) (tgt := 800) ll_sw (by decide) (by decide) (by decide +kernel) (by decide) (lc_16 B hX hbl hin hr done)
  | 17, _ => exact V_tin (B.1 _) (off := 800) (tgt := 833) ll_sw (by decide) (by decide) (by decide +kernel) (by decide) (lc_17 B hX hbl hin hr done)
  | 18, _ => exact V_tin (B.1 _) (off := 833) (tgt := 866) ll_sw (by decide) (by decide) (by decide +kernel) (by decide) (lc_18 B hX hbl hin hr done)
  | 19, _ => exact V_tin (B.1 _) (off := 856) (tgt := 889) ll_sw (by decide) (by decide) (by decide +kernel) (by decide) (lc_19 B hX hbl hin hr done)
  | 20, _ => exact V_tin (B.1 _) (off := 899) (tgt := 932) ll_sw (by decide) (by decide) (by decide +kernel) (by decide) (lc_20 B hX hbl hin hr done)
  | 21, _ => exact V_tin (B.1 _) (off := 932) (tgt := 965) ll_sw (by decide) (by decide) (by decide +kernel) (by decide) (lc_21 B hX hbl hin hr done)
  | 22, _ => exact V_tin (B.1 _) (off := 965) (tgt := 998) ll_sw (by decide) (by decide) (by decide +kernel) (by decide) (lc_22 B hX hbl hin hr done)
  | 23, _ => exact V_tin (B.1 _) (off := 1008) (tgt := 1041) ll_sw (by decide) (by decide) (by decide +kernel) (by decide) (lc_23 B hX hbl hin hr done)
  | 24, _ => exact V_tin (B.1 _) (off := 1061) (tgt := 1094) ll_sw (by decide) (by decide) (by decide +kernel) (by decide) (lc_24 B hX hbl hin hr done)
  | 25, _ => exact V_tin (B.1 _) (off := 1094) (tgt := 1127) ll_sw (by decide) (by decide) (by decide +kernel) (by decide) (lc_25 B hX hbl hin hr done)
  | 26, _ => exact V_tin (B.1 _) (off := 1147) (tgt := 1180) ll_sw (by decide) (by decide) (by decide +kernel) (by decide) (lc_26 B hX hbl hin hr done)
  | 27, _ => exact V_tin (B.1 _) (off := 1180) (tgt := 1213) ll_sw (by decide) (by decide) (by decide +kernel) (by decide) (lc_27 B hX hbl hin hr done)
  | 28, _ => exact V_tin (B.1 _) (off := 1223) (tgt := 1256) ll_sw (by decide) (by decide) (by decide +kernel) (by decide) (lc_28 B hX hbl hin hr done)
  | 29, _ => exact V_tin (B.1 _) (off := 1256) (tgt := 1289) ll_sw (by decide) (by decide) (by decide +kernel) (by decide) (lc_29 B hX hbl hin hr done)
  | 30, _ => exact V_tin (B.1 _) (off := 1279) (tgt := 1312) ll_sw (by decide) (by decide) (by decide +kernel) (by decide) (lc_30 B hX hbl hin hr done)
  | 31, _ => exact V_tin (B.1 _) (off := 1302) (tgt := 1335) ll_sw (by decide) (by decide) (by decide +kernel) (by decide) (lc_31 B hX hbl hin hr done)
  | 32, _ => exact V_tin (B.1 _) (off := 1325) (tgt := 1358) ll_sw (by decide) (by decide) (by decide +kernel) (by decide) (lc_32 B hX hbl hin hr done)
  | 33, _ => exact V_tin (B.1 _) (off := 1338) (tgt := 1371) ll_sw (by decide) (by decide) (by decide +kernel) (by decide) (lc_33 B hX hbl hin hr done)
  | 34, _ => exact V_tin (B.1 _) (off := 1351) (tgt := 1384) ll_sw (by decide) (by decide) (by decide +kernel) (by decide) (lc_34 B hX hbl hin hr done)
  | 35, _ => exact V_tin (B.1 _) (off := 1364) (tgt := 1397) ll_sw (by decide) (by decide) (by decide +kernel) (by decide) (lc_35 B hX hbl hin hr done)
  | 36, _ => exact V_tin (B.1 _) (off := 1377) (tgt := 1410) ll_sw (by decide) (by decide) (by decide +kernel) (by decide) (lc_36 B hX hbl hin hr done)
  | 37, _ => exact V_tin (B.1 _) (off := 1400) (tgt := 1433) ll_sw (by decide) (by decide) (by decide +kernel) (by decide) (lc_37 B hX hbl hin hr done)
  | 38, _ => exact V_tin (B.1 _) (off := 1443) (tgt := 1476) ll_sw (by decide) (by decide) (by decide +kernel) (by decide) (lc_38 B hX hbl hin hr done)
  | 39, _ => exact V_tin (B.1 _) (off := 1466) (tgt := 1499) ll_sw (by decide) (by decide) (by decide +kernel) (by decide) (lc_39 B hX hbl hin hr done)
  | 40, _ => exact V_tin (B.1 _) (off := 1499) (tgt := 1532) ll_sw (by decide) (by decide) (by decide +kernel) (by decide) (lc_40 B hX hbl hin hr done)
  | 41, _ => exact V_tin (B.1 _) (off := 1542) (tgt := 1575) ll_sw (by decide) (by decide) (by decide +kernel) (by decide) (lc_41 B hX hbl hin hr done)
  | 42, _ => exact V_tin (B.1 _) (off := 1615) (tgt := 1648) ll_sw (by decide) (by decide) (by decide +kernel) (by decide) (lc_42 B hX hbl hin hr done)
  | 43, _ => exact V_tin (B.1 _) (off := 1649) (tgt := 1682) ll_sw (by decide) (by decide) (by decide +kernel) (by decide) (lc_43 B hX hbl hin hr done)
  | 44, _ => exact V_tin (B.1 _) (off := 1712) (tgt := 1745) ll_sw (by decide) (by decide) (by decide +kernel) (by decide) (lc_44 B hX hbl hin hr done)
  | 45, _ => exact V_tin (B.1 _) (off := 1745) (tgt := 1778) ll_sw (by decide) (by decide) (by decide +kernel) (by decide) (lc_45 B hX hbl hin hr done)
  | k + 46, h => exact absurd h (by omega)
theorem ll_loop (B : LB E 4 A g a A' code "WithTheRedsLaw" 2048) (hX : va_X b L xs E.2.2.2.2.1 E.2.2.2.2.1.heap) (hbl : b < E.2.2.2.2.1.heap.size) (hL : L ≤ 3072) (fin : ∀ (i : Nat) (σ τ : St), Rel σ τ → V E classes 4 (wL A g a A' τ) σ 1807 (LV g a b i) []) : ∀ (n i : Nat) (σ τ : St), L < i + n → i ≤ L → Rel σ τ → V E classes 4 (wL A g a A' τ) σ 18 (LV g a b i) [] := by
  intro n
  induction n with
  | zero => intro i σ τ h1 h2 hr; omega
  | succ n ih =>
    intro i σ τ h1 h2 hr
    refine V_iload_n (B.1 _) 3 (j := 3) (by decide +kernel) rfl ?_
    refine V_aload_n (B.1 _) 0 (j := 0) (by decide +kernel) rfl ?_
    refine L_len B hX hbl (by decide +kernel) ?_
    refine V_bipush (v := nI 6) (n := 6) (B.1 _) (by decide +kernel) (by decide) ?_
    refine V_isub (B.1 _) (by decide +kernel) ?_
    have es : (nI L - nI 6).toInt = (L : Int) - 6 := pk_sub_toInt (by omega) (by omega)
    have ei : (nI i).toInt = (i : Int) := nI_toInt (by omega)
    rcases Nat.lt_or_ge (i + 5) L with hin0 | hout
    · have hng : ¬ (nI L - nI 6 < nI i) := by rw [Int32.lt_iff_toInt_lt, es, ei]; omega
      refine V_icmp_gt (pc := 24) (tgt := 1807) (off := 1783) (B.1 _) (by decide +kernel) (by decide) (if_neg hng : (if nI L - nI 6 < nI i then true else false) = false) (fun h => by cases h) (fun _ => ?_)
      have hin : ∀ k : Nat, k < 6 → vp_in (nI i + nI k) L := fun k hk => by rw [nI_add]; exact vp_in_nI (by omega) (by omega)
      refine V_aload_n (B.1 _) 0 (j := 0) (by decide +kernel) rfl ?_
      refine V_iload_n (B.1 _) 3 (j := 3) (by decide +kernel) rfl ?_
      refine L_ld B hX hbl (vp_in_nI (by omega) (by omega)) (by decide +kernel) ?_
      refine V_bipush (v := 63) (n := 63) (B.1 _) (by decide +kernel) (by decide) ?_
      refine V_iand (B.1 _) (by decide +kernel) ?_
      obtain ⟨j, hj, ej⟩ := pk_andE (xs (nI i).toNatClampNeg) (m := 63) 6 (by decide)
      rw [ej]
      have back : ∀ σ' τ' : St, Rel σ' τ' → V E classes 4 (wL A g a A' τ') σ' 1801 (LV g a b i) [] := fun σ' τ' hr' => by
        refine V_iinc (B.1 _) 3 (i := 3) (n := 6) (x := nI i) (v := nI (i + 6)) (by decide +kernel) rfl (by rw [show Int32.ofInt 6 = nI 6 from by decide]; exact nI_add i 6) (by decide) rfl ?_
        refine V_goto (B.1 _) (off := -1786) (tgt := 18) (by decide +kernel) (by decide) ?_
        exact V.sub [1, 2, 3, 0] rfl (ih (i + 6) σ' τ' (by omega) (by omega) hr')
      rcases Nat.lt_or_ge j 46 with h46 | h46
      · exact ll_case B hX hbl hin hr back j h46
      · exact V_tout (B.1 _) (tgt := 1801) ll_sw (Or.inr (by rw [nI_toInt (by omega)]; omega)) (by decide) (back σ τ hr)
    · have hgt : nI L - nI 6 < nI i := by rw [Int32.lt_iff_toInt_lt, es, ei]; omega
      exact V_icmp_gt (pc := 24) (tgt := 1807) (off := 1783) (B.1 _) (by decide +kernel) (by decide) (if_pos hgt : (if nI L - nI 6 < nI i then true else false) = true) (fun _ => fin i σ τ hr) (fun h => by cases h)
end LOOP
