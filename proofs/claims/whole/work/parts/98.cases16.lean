/-! the law's 46 cases, laid by cases.py -/
section CASES
variable {E : Ev} {g : Gx} {a : Nat → Nat} {A A' : Nat → Prop} {σ τ : St} {b L i : Nat} {xs : Nat → Int32}
set_option maxRecDepth 20000 in
theorem lc_16 (B : LB E 4 A g a A' code "WithTheRedsLaw" 2048) (hX : va_X b L xs E.2.2.2.2.1 E.2.2.2.2.1.heap) (hbl : b < E.2.2.2.2.1.heap.size) (hin : ∀ k : Nat, k < 6 → vp_in (nI i + nI k) L) (hr : Rel σ τ) (done : ∀ σ' τ' : St, Rel σ' τ' → V E classes 4 (wL A g a A' τ') σ' 1801 (LV g a b i) []) : V E classes 4 (wL A g a A' τ) σ 800 (LV g a b i) [] := by
  obtain ⟨r, σ', e1, e2, e3⟩ := e_late hr ((xs (nI i + nI 1).toNatClampNeg)) ((xs (nI i + nI 2).toNatClampNeg))
  refine V_aload_n (B.1 _) 1 (j := 1) (by decide +kernel) rfl ?_
  refine V_aload_n (B.1 _) 0 (j := 0) (by decide +kernel) rfl ?_
  refine V_iload_n (B.1 _) 3 (j := 3) (by decide +kernel) rfl ?_
  refine V_iconst (v := nI 1) (n := 1) (B.1 _) (by decide +kernel) (by decide) ?_
  refine V_iadd (B.1 _) (by decide +kernel) ?_
  refine L_ld B hX hbl (hin 1 (by decide)) (by decide +kernel) ?_
  refine V_aload_n (B.1 _) 0 (j := 0) (by decide +kernel) rfl ?_
  refine V_iload_n (B.1 _) 3 (j := 3) (by decide +kernel) rfl ?_
  refine V_iconst (v := nI 2) (n := 2) (B.1 _) (by decide +kernel) (by decide) ?_
  refine V_iadd (B.1 _) (by decide +kernel) ?_
  refine L_ld B hX hbl (hin 2 (by decide)) (by decide +kernel) ?_
  refine L_callC B [.int (xs (nI i + nI 1).toNatClampNeg), .int (xs (nI i + nI 2).toNatClampNeg)] (c_Top_late B.2.1 e1) (by decide) cw_Lw_81 rfl rfl (Nat.le_of_ble_eq_true rfl) rfl (by decide +kernel) ?_
  refine V_aload_n (B.1 _) 2 (j := 2) (by decide +kernel) rfl ?_
  refine V_aload_n (B.1 _) 0 (j := 0) (by decide +kernel) rfl ?_
  refine V_iload_n (B.1 _) 3 (j := 3) (by decide +kernel) rfl ?_
  refine V_iconst (v := nI 1) (n := 1) (B.1 _) (by decide +kernel) (by decide) ?_
  refine V_iadd (B.1 _) (by decide +kernel) ?_
  refine L_ld B hX hbl (hin 1 (by decide)) (by decide +kernel) ?_
  refine V_aload_n (B.1 _) 0 (j := 0) (by decide +kernel) rfl ?_
  refine V_iload_n (B.1 _) 3 (j := 3) (by decide +kernel) rfl ?_
  refine V_iconst (v := nI 2) (n := 2) (B.1 _) (by decide +kernel) (by decide) ?_
  refine V_iadd (B.1 _) (by decide +kernel) ?_
  refine L_ld B hX hbl (hin 2 (by decide)) (by decide +kernel) ?_
  refine L_callM B [.int (xs (nI i + nI 1).toNatClampNeg), .int (xs (nI i + nI 2).toNatClampNeg)] (c_M_late B.2.2.1 e2) (by decide) cw_Lw_84 rfl rfl (Nat.le_of_ble_eq_true rfl) rfl (by decide +kernel) ?_
  refine V_icmp_eq (pc := 828) (tgt := 1801) (off := 973) (B.1 _) (by decide +kernel) (by decide) (if_pos rfl : (if r = r then true else false) = true) (fun _ => ?_) (fun h => by cases h)
  exact done _ _ e3
set_option maxRecDepth 20000 in
theorem lc_17 (B : LB E 4 A g a A' code "WithTheRedsLaw" 2048) (hX : va_X b L xs E.2.2.2.2.1 E.2.2.2.2.1.heap) (hbl : b < E.2.2.2.2.1.heap.size) (hin : ∀ k : Nat, k < 6 → vp_in (nI i + nI k) L) (hr : Rel σ τ) (done : ∀ σ' τ' : St, Rel σ' τ' → V E classes 4 (wL A g a A' τ') σ' 1801 (LV g a b i) []) : V E classes 4 (wL A g a A' τ) σ 833 (LV g a b i) [] := by
  obtain ⟨r, σ', e1, e2, e3⟩ := e_soon hr ((xs (nI i + nI 1).toNatClampNeg)) ((xs (nI i + nI 2).toNatClampNeg))
  refine V_aload_n (B.1 _) 1 (j := 1) (by decide +kernel) rfl ?_
  refine V_aload_n (B.1 _) 0 (j := 0) (by decide +kernel) rfl ?_
  refine V_iload_n (B.1 _) 3 (j := 3) (by decide +kernel) rfl ?_
  refine V_iconst (v := nI 1) (n := 1) (B.1 _) (by decide +kernel) (by decide) ?_
  refine V_iadd (B.1 _) (by decide +kernel) ?_
  refine L_ld B hX hbl (hin 1 (by decide)) (by decide +kernel) ?_
  refine V_aload_n (B.1 _) 0 (j := 0) (by decide +kernel) rfl ?_
  refine V_iload_n (B.1 _) 3 (j := 3) (by decide +kernel) rfl ?_
  refine V_iconst (v := nI 2) (n := 2) (B.1 _) (by decide +kernel) (by decide) ?_
  refine V_iadd (B.1 _) (by decide +kernel) ?_
  refine L_ld B hX hbl (hin 2 (by decide)) (by decide +kernel) ?_
  refine L_callC B [.int (xs (nI i + nI 1).toNatClampNeg), .int (xs (nI i + nI 2).toNatClampNeg)] (c_Top_soon B.2.1 e1) (by decide) cw_Lw_85 rfl rfl (Nat.le_of_ble_eq_true rfl) rfl (by decide +kernel) ?_
  refine V_aload_n (B.1 _) 2 (j := 2) (by decide +kernel) rfl ?_
  refine V_aload_n (B.1 _) 0 (j := 0) (by decide +kernel) rfl ?_
  refine V_iload_n (B.1 _) 3 (j := 3) (by decide +kernel) rfl ?_
  refine V_iconst (v := nI 1) (n := 1) (B.1 _) (by decide +kernel) (by decide) ?_
  refine V_iadd (B.1 _) (by decide +kernel) ?_
  refine L_ld B hX hbl (hin 1 (by decide)) (by decide +kernel) ?_
  refine V_aload_n (B.1 _) 0 (j := 0) (by decide +kernel) rfl ?_
  refine V_iload_n (B.1 _) 3 (j := 3) (by decide +kernel) rfl ?_
  refine V_iconst (v := nI 2) (n := 2) (B.1 _) (by decide +kernel) (by decide) ?_
  refine V_iadd (B.1 _) (by decide +kernel) ?_
  refine L_ld B hX hbl (hin 2 (by decide)) (by decide +kernel) ?_
  refine L_callM B [.int (xs (nI i + nI 1).toNatClampNeg), .int (xs (nI i + nI 2).toNatClampNeg)] (c_M_soon B.2.2.1 e2) (by decide) cw_Lw_88 rfl rfl (Nat.le_of_ble_eq_true rfl) rfl (by decide +kernel) ?_
  refine V_icmp_eq (pc := 861) (tgt := 1801) (off := 940) (B.1 _) (by decide +kernel) (by decide) (if_pos rfl : (if r = r then true else false) = true) (fun _ => ?_) (fun h => by cases h)
  exact done _ _ e3
set_option maxRecDepth 20000 in
theorem lc_18 (B : LB E 4 A g a A' code "WithTheRedsLaw" 2048) (hX : va_X b L xs E.2.2.2.2.1 E.2.2.2.2.1.heap) (hbl : b < E.2.2.2.2.1.heap.size) (hin : ∀ k : Nat, k < 6 → vp_in (nI i + nI k) L) (hr : Rel σ τ) (done : ∀ σ' τ' : St, Rel σ' τ' → V E classes 4 (wL A g a A' τ') σ' 1801 (LV g a b i) []) : V E classes 4 (wL A g a A' τ) σ 866 (LV g a b i) [] := by
  obtain ⟨r, σ', e1, e2, e3⟩ := e_swap hr ((xs (nI i + nI 1).toNatClampNeg))
  refine V_aload_n (B.1 _) 1 (j := 1) (by decide +kernel) rfl ?_
  refine V_aload_n (B.1 _) 0 (j := 0) (by decide +kernel) rfl ?_
  refine V_iload_n (B.1 _) 3 (j := 3) (by decide +kernel) rfl ?_
  refine V_iconst (v := nI 1) (n := 1) (B.1 _) (by decide +kernel) (by decide) ?_
  refine V_iadd (B.1 _) (by decide +kernel) ?_
  refine L_ld B hX hbl (hin 1 (by decide)) (by decide +kernel) ?_
  refine L_callC B [.int (xs (nI i + nI 1).toNatClampNeg)] (c_Top_swap B.2.1 e1) (by decide) cw_Lw_89 rfl rfl (Nat.le_of_ble_eq_true rfl) rfl (by decide +kernel) ?_
  refine V_aload_n (B.1 _) 2 (j := 2) (by decide +kernel) rfl ?_
  refine V_aload_n (B.1 _) 0 (j := 0) (by decide +kernel) rfl ?_
  refine V_iload_n (B.1 _) 3 (j := 3) (by decide +kernel) rfl ?_
  refine V_iconst (v := nI 1) (n := 1) (B.1 _) (by decide +kernel) (by decide) ?_
  refine V_iadd (B.1 _) (by decide +kernel) ?_
  refine L_ld B hX hbl (hin 1 (by decide)) (by decide +kernel) ?_
  refine L_callM B [.int (xs (nI i + nI 1).toNatClampNeg)] (c_M_swap B.2.2.1 e2) (by decide) cw_Lw_92 rfl rfl (Nat.le_of_ble_eq_true rfl) rfl (by decide +kernel) ?_
  refine V_icmp_eq (pc := 884) (tgt := 1801) (off := 917) (B.1 _) (by decide +kernel) (by decide) (if_pos rfl : (if r = r then true else false) = true) (fun _ => ?_) (fun h => by cases h)
  exact done _ _ e3
set_option maxRecDepth 20000 in
theorem lc_19 (B : LB E 4 A g a A' code "WithTheRedsLaw" 2048) (hX : va_X b L xs E.2.2.2.2.1 E.2.2.2.2.1.heap) (hbl : b < E.2.2.2.2.1.heap.size) (hin : ∀ k : Nat, k < 6 → vp_in (nI i + nI k) L) (hr : Rel σ τ) (done : ∀ σ' τ' : St, Rel σ' τ' → V E classes 4 (wL A g a A' τ') σ' 1801 (LV g a b i) []) : V E classes 4 (wL A g a A' τ) σ 889 (LV g a b i) [] := by
  obtain ⟨r, σ', τ', e1, e2, e3⟩ := e_line hr ((xs (nI i + nI 1).toNatClampNeg)) ((xs (nI i + nI 2).toNatClampNeg)) ((xs (nI i + nI 3).toNatClampNeg))
  refine V_aload_n (B.1 _) 1 (j := 1) (by decide +kernel) rfl ?_
  refine V_aload_n (B.1 _) 0 (j := 0) (by decide +kernel) rfl ?_
  refine V_iload_n (B.1 _) 3 (j := 3) (by decide +kernel) rfl ?_
  refine V_iconst (v := nI 1) (n := 1) (B.1 _) (by decide +kernel) (by decide) ?_
  refine V_iadd (B.1 _) (by decide +kernel) ?_
  refine L_ld B hX hbl (hin 1 (by decide)) (by decide +kernel) ?_
  refine V_aload_n (B.1 _) 0 (j := 0) (by decide +kernel) rfl ?_
  refine V_iload_n (B.1 _) 3 (j := 3) (by decide +kernel) rfl ?_
  refine V_iconst (v := nI 2) (n := 2) (B.1 _) (by decide +kernel) (by decide) ?_
  refine V_iadd (B.1 _) (by decide +kernel) ?_
  refine L_ld B hX hbl (hin 2 (by decide)) (by decide +kernel) ?_
  refine V_aload_n (B.1 _) 0 (j := 0) (by decide +kernel) rfl ?_
  refine V_iload_n (B.1 _) 3 (j := 3) (by decide +kernel) rfl ?_
  refine V_iconst (v := nI 3) (n := 3) (B.1 _) (by decide +kernel) (by decide) ?_
  refine V_iadd (B.1 _) (by decide +kernel) ?_
  refine L_ld B hX hbl (hin 3 (by decide)) (by decide +kernel) ?_
  refine L_callC B [.int (xs (nI i + nI 1).toNatClampNeg), .int (xs (nI i + nI 2).toNatClampNeg), .int (xs (nI i + nI 3).toNatClampNeg)] (c_Top_line B.2.1 e1) (by decide) cw_Lw_93 rfl rfl (Nat.le_of_ble_eq_true rfl) rfl (by decide +kernel) ?_
  refine V_aload_n (B.1 _) 2 (j := 2) (by decide +kernel) rfl ?_
  refine V_aload_n (B.1 _) 0 (j := 0) (by decide +kernel) rfl ?_
  refine V_iload_n (B.1 _) 3 (j := 3) (by decide +kernel) rfl ?_
  refine V_iconst (v := nI 1) (n := 1) (B.1 _) (by decide +kernel) (by decide) ?_
  refine V_iadd (B.1 _) (by decide +kernel) ?_
  refine L_ld B hX hbl (hin 1 (by decide)) (by decide +kernel) ?_
  refine V_aload_n (B.1 _) 0 (j := 0) (by decide +kernel) rfl ?_
  refine V_iload_n (B.1 _) 3 (j := 3) (by decide +kernel) rfl ?_
  refine V_iconst (v := nI 2) (n := 2) (B.1 _) (by decide +kernel) (by decide) ?_
  refine V_iadd (B.1 _) (by decide +kernel) ?_
  refine L_ld B hX hbl (hin 2 (by decide)) (by decide +kernel) ?_
  refine V_aload_n (B.1 _) 0 (j := 0) (by decide +kernel) rfl ?_
  refine V_iload_n (B.1 _) 3 (j := 3) (by decide +kernel) rfl ?_
  refine V_iconst (v := nI 3) (n := 3) (B.1 _) (by decide +kernel) (by decide) ?_
  refine V_iadd (B.1 _) (by decide +kernel) ?_
  refine L_ld B hX hbl (hin 3 (by decide)) (by decide +kernel) ?_
  refine L_callM B [.int (xs (nI i + nI 1).toNatClampNeg), .int (xs (nI i + nI 2).toNatClampNeg), .int (xs (nI i + nI 3).toNatClampNeg)] (c_M_line B.2.2.1 e2) (by decide) cw_Lw_96 rfl rfl (Nat.le_of_ble_eq_true rfl) rfl (by decide +kernel) ?_
  refine V_icmp_eq (pc := 927) (tgt := 1801) (off := 874) (B.1 _) (by decide +kernel) (by decide) (if_pos rfl : (if r = r then true else false) = true) (fun _ => ?_) (fun h => by cases h)
  exact done _ _ e3
set_option maxRecDepth 20000 in
theorem lc_20 (B : LB E 4 A g a A' code "WithTheRedsLaw" 2048) (hX : va_X b L xs E.2.2.2.2.1 E.2.2.2.2.1.heap) (hbl : b < E.2.2.2.2.1.heap.size) (hin : ∀ k : Nat, k < 6 → vp_in (nI i + nI k) L) (hr : Rel σ τ) (done : ∀ σ' τ' : St, Rel σ' τ' → V E classes 4 (wL A g a A' τ') σ' 1801 (LV g a b i) []) : V E classes 4 (wL A g a A' τ) σ 932 (LV g a b i) [] := by
  obtain ⟨r, σ', τ', e1, e2, e3⟩ := e_rain hr ((xs (nI i + nI 1).toNatClampNeg)) ((xs (nI i + nI 2).toNatClampNeg))
  refine V_aload_n (B.1 _) 1 (j := 1) (by decide +kernel) rfl ?_
  refine V_aload_n (B.1 _) 0 (j := 0) (by decide +kernel) rfl ?_
  refine V_iload_n (B.1 _) 3 (j := 3) (by decide +kernel) rfl ?_
  refine V_iconst (v := nI 1) (n := 1) (B.1 _) (by decide +kernel) (by decide) ?_
  refine V_iadd (B.1 _) (by decide +kernel) ?_
  refine L_ld B hX hbl (hin 1 (by decide)) (by decide +kernel) ?_
  refine V_aload_n (B.1 _) 0 (j := 0) (by decide +kernel) rfl ?_
  refine V_iload_n (B.1 _) 3 (j := 3) (by decide +kernel) rfl ?_
  refine V_iconst (v := nI 2) (n := 2) (B.1 _) (by decide +kernel) (by decide) ?_
  refine V_iadd (B.1 _) (by decide +kernel) ?_
  refine L_ld B hX hbl (hin 2 (by decide)) (by decide +kernel) ?_
  refine L_callC B [.int (xs (nI i + nI 1).toNatClampNeg), .int (xs (nI i + nI 2).toNatClampNeg)] (c_Top_rain B.2.1 e1) (by decide) cw_Lw_97 rfl rfl (Nat.le_of_ble_eq_true rfl) rfl (by decide +kernel) ?_
  refine V_aload_n (B.1 _) 2 (j := 2) (by decide +kernel) rfl ?_
  refine V_aload_n (B.1 _) 0 (j := 0) (by decide +kernel) rfl ?_
  refine V_iload_n (B.1 _) 3 (j := 3) (by decide +kernel) rfl ?_
  refine V_iconst (v := nI 1) (n := 1) (B.1 _) (by decide +kernel) (by decide) ?_
  refine V_iadd (B.1 _) (by decide +kernel) ?_
  refine L_ld B hX hbl (hin 1 (by decide)) (by decide +kernel) ?_
  refine V_aload_n (B.1 _) 0 (j := 0) (by decide +kernel) rfl ?_
  refine V_iload_n (B.1 _) 3 (j := 3) (by decide +kernel) rfl ?_
  refine V_iconst (v := nI 2) (n := 2) (B.1 _) (by decide +kernel) (by decide) ?_
  refine V_iadd (B.1 _) (by decide +kernel) ?_
  refine L_ld B hX hbl (hin 2 (by decide)) (by decide +kernel) ?_
  refine L_callM B [.int (xs (nI i + nI 1).toNatClampNeg), .int (xs (nI i + nI 2).toNatClampNeg)] (c_M_rain B.2.2.1 e2) (by decide) cw_Lw_100 rfl rfl (Nat.le_of_ble_eq_true rfl) rfl (by decide +kernel) ?_
  refine V_icmp_eq (pc := 960) (tgt := 1801) (off := 841) (B.1 _) (by decide +kernel) (by decide) (if_pos rfl : (if r = r then true else false) = true) (fun _ => ?_) (fun h => by cases h)
  exact done _ _ e3
set_option maxRecDepth 20000 in
theorem lc_21 (B : LB E 4 A g a A' code "WithTheRedsLaw" 2048) (hX : va_X b L xs E.2.2.2.2.1 E.2.2.2.2.1.heap) (hbl : b < E.2.2.2.2.1.heap.size) (hin : ∀ k : Nat, k < 6 → vp_in (nI i + nI k) L) (hr : Rel σ τ) (done : ∀ σ' τ' : St, Rel σ' τ' → V E classes 4 (wL A g a A' τ') σ' 1801 (LV g a b i) []) : V E classes 4 (wL A g a A' τ) σ 965 (LV g a b i) [] := by
  obtain ⟨r, σ', τ', e1, e2, e3⟩ := e_order hr ((xs (nI i + nI 1).toNatClampNeg)) ((xs (nI i + nI 2).toNatClampNeg))
  refine V_aload_n (B.1 _) 1 (j := 1) (by decide +kernel) rfl ?_
  refine V_aload_n (B.1 _) 0 (j := 0) (by decide +kernel) rfl ?_
  refine V_iload_n (B.1 _) 3 (j := 3) (by decide +kernel) rfl ?_
  refine V_iconst (v := nI 1) (n := 1) (B.1 _) (by decide +kernel) (by decide) ?_
  refine V_iadd (B.1 _) (by decide +kernel) ?_
  refine L_ld B hX hbl (hin 1 (by decide)) (by decide +kernel) ?_
  refine V_aload_n (B.1 _) 0 (j := 0) (by decide +kernel) rfl ?_
  refine V_iload_n (B.1 _) 3 (j := 3) (by decide +kernel) rfl ?_
  refine V_iconst (v := nI 2) (n := 2) (B.1 _) (by decide +kernel) (by decide) ?_
  refine V_iadd (B.1 _) (by decide +kernel) ?_
  refine L_ld B hX hbl (hin 2 (by decide)) (by decide +kernel) ?_
  refine L_callC B [.int (xs (nI i + nI 1).toNatClampNeg), .int (xs (nI i + nI 2).toNatClampNeg)] (c_Top_order B.2.1 e1) (by decide) cw_Lw_101 rfl rfl (Nat.le_of_ble_eq_true rfl) rfl (by decide +kernel) ?_
  refine V_aload_n (B.1 _) 2 (j := 2) (by decide +kernel) rfl ?_
  refine V_aload_n (B.1 _) 0 (j := 0) (by decide +kernel) rfl ?_
  refine V_iload_n (B.1 _) 3 (j := 3) (by decide +kernel) rfl ?_
  refine V_iconst (v := nI 1) (n := 1) (B.1 _) (by decide +kernel) (by decide) ?_
  refine V_iadd (B.1 _) (by decide +kernel) ?_
  refine L_ld B hX hbl (hin 1 (by decide)) (by decide +kernel) ?_
  refine V_aload_n (B.1 _) 0 (j := 0) (by decide +kernel) rfl ?_
  refine V_iload_n (B.1 _) 3 (j := 3) (by decide +kernel) rfl ?_
  refine V_iconst (v := nI 2) (n := 2) (B.1 _) (by decide +kernel) (by decide) ?_
  refine V_iadd (B.1 _) (by decide +kernel) ?_
  refine L_ld B hX hbl (hin 2 (by decide)) (by decide +kernel) ?_
  refine L_callM B [.int (xs (nI i + nI 1).toNatClampNeg), .int (xs (nI i + nI 2).toNatClampNeg)] (c_M_order B.2.2.1 e2) (by decide) cw_Lw_104 rfl rfl (Nat.le_of_ble_eq_true rfl) rfl (by decide +kernel) ?_
  refine V_icmp_eq (pc := 993) (tgt := 1801) (off := 808) (B.1 _) (by decide +kernel) (by decide) (if_pos rfl : (if r = r then true else false) = true) (fun _ => ?_) (fun h => by cases h)
  exact done _ _ e3
set_option maxRecDepth 20000 in
theorem lc_22 (B : LB E 4 A g a A' code "WithTheRedsLaw" 2048) (hX : va_X b L xs E.2.2.2.2.1 E.2.2.2.2.1.heap) (hbl : b < E.2.2.2.2.1.heap.size) (hin : ∀ k : Nat, k < 6 → vp_in (nI i + nI k) L) (hr : Rel σ τ) (done : ∀ σ' τ' : St, Rel σ' τ' → V E classes 4 (wL A g a A' τ') σ' 1801 (LV g a b i) []) : V E classes 4 (wL A g a A' τ) σ 998 (LV g a b i) [] := by
  obtain ⟨r, σ', τ', e1, e2, e3⟩ := e_judge hr ((xs (nI i + nI 1).toNatClampNeg)) ((xs (nI i + nI 2).toNatClampNeg)) ((xs (nI i + nI 3).toNatClampNeg))
  refine V_aload_n (B.1 _) 1 (j := 1) (by decide +kernel) rfl ?_
  refine V_aload_n (B.1 _) 0 (j := 0) (by decide +kernel) rfl ?_
  refine V_iload_n (B.1 _) 3 (j := 3) (by decide +kernel) rfl ?_
  refine V_iconst (v := nI 1) (n := 1) (B.1 _) (by decide +kernel) (by decide) ?_
  refine V_iadd (B.1 _) (by decide +kernel) ?_
  refine L_ld B hX hbl (hin 1 (by decide)) (by decide +kernel) ?_
  refine V_aload_n (B.1 _) 0 (j := 0) (by decide +kernel) rfl ?_
  refine V_iload_n (B.1 _) 3 (j := 3) (by decide +kernel) rfl ?_
  refine V_iconst (v := nI 2) (n := 2) (B.1 _) (by decide +kernel) (by decide) ?_
  refine V_iadd (B.1 _) (by decide +kernel) ?_
  refine L_ld B hX hbl (hin 2 (by decide)) (by decide +kernel) ?_
  refine V_aload_n (B.1 _) 0 (j := 0) (by decide +kernel) rfl ?_
  refine V_iload_n (B.1 _) 3 (j := 3) (by decide +kernel) rfl ?_
  refine V_iconst (v := nI 3) (n := 3) (B.1 _) (by decide +kernel) (by decide) ?_
  refine V_iadd (B.1 _) (by decide +kernel) ?_
  refine L_ld B hX hbl (hin 3 (by decide)) (by decide +kernel) ?_
  refine L_callC B [.int (xs (nI i + nI 1).toNatClampNeg), .int (xs (nI i + nI 2).toNatClampNeg), .int (xs (nI i + nI 3).toNatClampNeg)] (c_Top_judge B.2.1 e1) (by decide) cw_Lw_105 rfl rfl (Nat.le_of_ble_eq_true rfl) rfl (by decide +kernel) ?_
  refine V_aload_n (B.1 _) 2 (j := 2) (by decide +kernel) rfl ?_
  refine V_aload_n (B.1 _) 0 (j := 0) (by decide +kernel) rfl ?_
  refine V_iload_n (B.1 _) 3 (j := 3) (by decide +kernel) rfl ?_
  refine V_iconst (v := nI 1) (n := 1) (B.1 _) (by decide +kernel) (by decide) ?_
  refine V_iadd (B.1 _) (by decide +kernel) ?_
  refine L_ld B hX hbl (hin 1 (by decide)) (by decide +kernel) ?_
  refine V_aload_n (B.1 _) 0 (j := 0) (by decide +kernel) rfl ?_
  refine V_iload_n (B.1 _) 3 (j := 3) (by decide +kernel) rfl ?_
  refine V_iconst (v := nI 2) (n := 2) (B.1 _) (by decide +kernel) (by decide) ?_
  refine V_iadd (B.1 _) (by decide +kernel) ?_
  refine L_ld B hX hbl (hin 2 (by decide)) (by decide +kernel) ?_
  refine V_aload_n (B.1 _) 0 (j := 0) (by decide +kernel) rfl ?_
  refine V_iload_n (B.1 _) 3 (j := 3) (by decide +kernel) rfl ?_
  refine V_iconst (v := nI 3) (n := 3) (B.1 _) (by decide +kernel) (by decide) ?_
  refine V_iadd (B.1 _) (by decide +kernel) ?_
  refine L_ld B hX hbl (hin 3 (by decide)) (by decide +kernel) ?_
  refine L_callM B [.int (xs (nI i + nI 1).toNatClampNeg), .int (xs (nI i + nI 2).toNatClampNeg), .int (xs (nI i + nI 3).toNatClampNeg)] (c_M_judge B.2.2.1 e2) (by decide) cw_Lw_108 rfl rfl (Nat.le_of_ble_eq_true rfl) rfl (by decide +kernel) ?_
  refine V_icmp_eq (pc := 1036) (tgt := 1801) (off := 765) (B.1 _) (by decide +kernel) (by decide) (if_pos rfl : (if r = r then true else false) = true) (fun _ => ?_) (fun h => by cases h)
  exact done _ _ e3
set_option maxRecDepth 20000 in
theorem lc_23 (B : LB E 4 A g a A' code "WithTheRedsLaw" 2048) (hX : va_X b L xs E.2.2.2.2.1 E.2.2.2.2.1.heap) (hbl : b < E.2.2.2.2.1.heap.size) (hin : ∀ k : Nat, k < 6 → vp_in (nI i + nI k) L) (hr : Rel σ τ) (done : ∀ σ' τ' : St, Rel σ' τ' → V E classes 4 (wL A g a A' τ') σ' 1801 (LV g a b i) []) : V E classes 4 (wL A g a A' τ) σ 1041 (LV g a b i) [] := by
  obtain ⟨r, σ', τ', e1, e2, e3⟩ := e_which hr ((xs (nI i + nI 1).toNatClampNeg)) ((xs (nI i + nI 2).toNatClampNeg)) ((xs (nI i + nI 3).toNatClampNeg)) ((xs (nI i + nI 4).toNatClampNeg))
  refine V_aload_n (B.1 _) 1 (j := 1) (by decide +kernel) rfl ?_
  refine V_aload_n (B.1 _) 0 (j := 0) (by decide +kernel) rfl ?_
  refine V_iload_n (B.1 _) 3 (j := 3) (by decide +kernel) rfl ?_
  refine V_iconst (v := nI 1) (n := 1) (B.1 _) (by decide +kernel) (by decide) ?_
  refine V_iadd (B.1 _) (by decide +kernel) ?_
  refine L_ld B hX hbl (hin 1 (by decide)) (by decide +kernel) ?_
  refine V_aload_n (B.1 _) 0 (j := 0) (by decide +kernel) rfl ?_
  refine V_iload_n (B.1 _) 3 (j := 3) (by decide +kernel) rfl ?_
  refine V_iconst (v := nI 2) (n := 2) (B.1 _) (by decide +kernel) (by decide) ?_
  refine V_iadd (B.1 _) (by decide +kernel) ?_
  refine L_ld B hX hbl (hin 2 (by decide)) (by decide +kernel) ?_
  refine V_aload_n (B.1 _) 0 (j := 0) (by decide +kernel) rfl ?_
  refine V_iload_n (B.1 _) 3 (j := 3) (by decide +kernel) rfl ?_
  refine V_iconst (v := nI 3) (n := 3) (B.1 _) (by decide +kernel) (by decide) ?_
  refine V_iadd (B.1 _) (by decide +kernel) ?_
  refine L_ld B hX hbl (hin 3 (by decide)) (by decide +kernel) ?_
  refine V_aload_n (B.1 _) 0 (j := 0) (by decide +kernel) rfl ?_
  refine V_iload_n (B.1 _) 3 (j := 3) (by decide +kernel) rfl ?_
  refine V_iconst (v := nI 4) (n := 4) (B.1 _) (by decide +kernel) (by decide) ?_
  refine V_iadd (B.1 _) (by decide +kernel) ?_
  refine L_ld B hX hbl (hin 4 (by decide)) (by decide +kernel) ?_
  refine L_callC B [.int (xs (nI i + nI 1).toNatClampNeg), .int (xs (nI i + nI 2).toNatClampNeg), .int (xs (nI i + nI 3).toNatClampNeg), .int (xs (nI i + nI 4).toNatClampNeg)] (c_Top_which B.2.1 e1) (by decide) cw_Lw_109 rfl rfl (Nat.le_of_ble_eq_true rfl) rfl (by decide +kernel) ?_
  refine V_aload_n (B.1 _) 2 (j := 2) (by decide +kernel) rfl ?_
  refine V_aload_n (B.1 _) 0 (j := 0) (by decide +kernel) rfl ?_
  refine V_iload_n (B.1 _) 3 (j := 3) (by decide +kernel) rfl ?_
  refine V_iconst (v := nI 1) (n := 1) (B.1 _) (by decide +kernel) (by decide) ?_
  refine V_iadd (B.1 _) (by decide +kernel) ?_
  refine L_ld B hX hbl (hin 1 (by decide)) (by decide +kernel) ?_
  refine V_aload_n (B.1 _) 0 (j := 0) (by decide +kernel) rfl ?_
  refine V_iload_n (B.1 _) 3 (j := 3) (by decide +kernel) rfl ?_
  refine V_iconst (v := nI 2) (n := 2) (B.1 _) (by decide +kernel) (by decide) ?_
  refine V_iadd (B.1 _) (by decide +kernel) ?_
  refine L_ld B hX hbl (hin 2 (by decide)) (by decide +kernel) ?_
  refine V_aload_n (B.1 _) 0 (j := 0) (by decide +kernel) rfl ?_
  refine V_iload_n (B.1 _) 3 (j := 3) (by decide +kernel) rfl ?_
  refine V_iconst (v := nI 3) (n := 3) (B.1 _) (by decide +kernel) (by decide) ?_
  refine V_iadd (B.1 _) (by decide +kernel) ?_
  refine L_ld B hX hbl (hin 3 (by decide)) (by decide +kernel) ?_
  refine V_aload_n (B.1 _) 0 (j := 0) (by decide +kernel) rfl ?_
  refine V_iload_n (B.1 _) 3 (j := 3) (by decide +kernel) rfl ?_
  refine V_iconst (v := nI 4) (n := 4) (B.1 _) (by decide +kernel) (by decide) ?_
  refine V_iadd (B.1 _) (by decide +kernel) ?_
  refine L_ld B hX hbl (hin 4 (by decide)) (by decide +kernel) ?_
  refine L_callM B [.int (xs (nI i + nI 1).toNatClampNeg), .int (xs (nI i + nI 2).toNatClampNeg), .int (xs (nI i + nI 3).toNatClampNeg), .int (xs (nI i + nI 4).toNatClampNeg)] (c_M_which B.2.2.1 e2) (by decide) cw_Lw_113 rfl rfl (Nat.le_of_ble_eq_true rfl) rfl (by decide +kernel) ?_
  refine V_icmp_eq (pc := 1089) (tgt := 1801) (off := 712) (B.1 _) (by decide +kernel) (by decide) (if_pos rfl : (if r = r then true else false) = true) (fun _ => ?_) (fun h => by cases h)
  exact done _ _ e3
set_option maxRecDepth 20000 in
theorem lc_24 (B : LB E 4 A g a A' code "WithTheRedsLaw" 2048) (hX : va_X b L xs E.2.2.2.2.1 E.2.2.2.2.1.heap) (hbl : b < E.2.2.2.2.1.heap.size) (hin : ∀ k : Nat, k < 6 → vp_in (nI i + nI k) L) (hr : Rel σ τ) (done : ∀ σ' τ' : St, Rel σ' τ' → V E classes 4 (wL A g a A' τ') σ' 1801 (LV g a b i) []) : V E classes 4 (wL A g a A' τ) σ 1094 (LV g a b i) [] := by
  obtain ⟨r, σ', τ', e1, e2, e3⟩ := e_heatOfIt hr ((xs (nI i + nI 1).toNatClampNeg)) ((xs (nI i + nI 2).toNatClampNeg))
  refine V_aload_n (B.1 _) 1 (j := 1) (by decide +kernel) rfl ?_
  refine V_aload_n (B.1 _) 0 (j := 0) (by decide +kernel) rfl ?_
  refine V_iload_n (B.1 _) 3 (j := 3) (by decide +kernel) rfl ?_
  refine V_iconst (v := nI 1) (n := 1) (B.1 _) (by decide +kernel) (by decide) ?_
  refine V_iadd (B.1 _) (by decide +kernel) ?_
  refine L_ld B hX hbl (hin 1 (by decide)) (by decide +kernel) ?_
  refine V_aload_n (B.1 _) 0 (j := 0) (by decide +kernel) rfl ?_
  refine V_iload_n (B.1 _) 3 (j := 3) (by decide +kernel) rfl ?_
  refine V_iconst (v := nI 2) (n := 2) (B.1 _) (by decide +kernel) (by decide) ?_
  refine V_iadd (B.1 _) (by decide +kernel) ?_
  refine L_ld B hX hbl (hin 2 (by decide)) (by decide +kernel) ?_
  refine L_callC B [.int (xs (nI i + nI 1).toNatClampNeg), .int (xs (nI i + nI 2).toNatClampNeg)] (c_Top_heatOfIt B.2.1 e1) (by decide) cw_Lw_114 rfl rfl (Nat.le_of_ble_eq_true rfl) rfl (by decide +kernel) ?_
  refine V_aload_n (B.1 _) 2 (j := 2) (by decide +kernel) rfl ?_
  refine V_aload_n (B.1 _) 0 (j := 0) (by decide +kernel) rfl ?_
  refine V_iload_n (B.1 _) 3 (j := 3) (by decide +kernel) rfl ?_
  refine V_iconst (v := nI 1) (n := 1) (B.1 _) (by decide +kernel) (by decide) ?_
  refine V_iadd (B.1 _) (by decide +kernel) ?_
  refine L_ld B hX hbl (hin 1 (by decide)) (by decide +kernel) ?_
  refine V_aload_n (B.1 _) 0 (j := 0) (by decide +kernel) rfl ?_
  refine V_iload_n (B.1 _) 3 (j := 3) (by decide +kernel) rfl ?_
  refine V_iconst (v := nI 2) (n := 2) (B.1 _) (by decide +kernel) (by decide) ?_
  refine V_iadd (B.1 _) (by decide +kernel) ?_
  refine L_ld B hX hbl (hin 2 (by decide)) (by decide +kernel) ?_
  refine L_callM B [.int (xs (nI i + nI 1).toNatClampNeg), .int (xs (nI i + nI 2).toNatClampNeg)] (c_M_heatOfIt B.2.2.1 e2) (by decide) cw_Lw_117 rfl rfl (Nat.le_of_ble_eq_true rfl) rfl (by decide +kernel) ?_
  refine V_icmp_eq (pc := 1122) (tgt := 1801) (off := 679) (B.1 _) (by decide +kernel) (by decide) (if_pos rfl : (if r = r then true else false) = true) (fun _ => ?_) (fun h => by cases h)
  exact done _ _ e3
set_option maxRecDepth 20000 in
theorem lc_25 (B : LB E 4 A g a A' code "WithTheRedsLaw" 2048) (hX : va_X b L xs E.2.2.2.2.1 E.2.2.2.2.1.heap) (hbl : b < E.2.2.2.2.1.heap.size) (hin : ∀ k : Nat, k < 6 → vp_in (nI i + nI k) L) (hr : Rel σ τ) (done : ∀ σ' τ' : St, Rel σ' τ' → V E classes 4 (wL A g a A' τ') σ' 1801 (LV g a b i) []) : V E classes 4 (wL A g a A' τ) σ 1127 (LV g a b i) [] := by
  obtain ⟨r, σ', τ', e1, e2, e3⟩ := e_sock hr ((xs (nI i + nI 1).toNatClampNeg)) ((xs (nI i + nI 2).toNatClampNeg)) ((xs (nI i + nI 3).toNatClampNeg)) ((xs (nI i + nI 4).toNatClampNeg))
  refine V_aload_n (B.1 _) 1 (j := 1) (by decide +kernel) rfl ?_
  refine V_aload_n (B.1 _) 0 (j := 0) (by decide +kernel) rfl ?_
  refine V_iload_n (B.1 _) 3 (j := 3) (by decide +kernel) rfl ?_
  refine V_iconst (v := nI 1) (n := 1) (B.1 _) (by decide +kernel) (by decide) ?_
  refine V_iadd (B.1 _) (by decide +kernel) ?_
  refine L_ld B hX hbl (hin 1 (by decide)) (by decide +kernel) ?_
  refine V_aload_n (B.1 _) 0 (j := 0) (by decide +kernel) rfl ?_
  refine V_iload_n (B.1 _) 3 (j := 3) (by decide +kernel) rfl ?_
  refine V_iconst (v := nI 2) (n := 2) (B.1 _) (by decide +kernel) (by decide) ?_
  refine V_iadd (B.1 _) (by decide +kernel) ?_
  refine L_ld B hX hbl (hin 2 (by decide)) (by decide +kernel) ?_
  refine V_aload_n (B.1 _) 0 (j := 0) (by decide +kernel) rfl ?_
  refine V_iload_n (B.1 _) 3 (j := 3) (by decide +kernel) rfl ?_
  refine V_iconst (v := nI 3) (n := 3) (B.1 _) (by decide +kernel) (by decide) ?_
  refine V_iadd (B.1 _) (by decide +kernel) ?_
  refine L_ld B hX hbl (hin 3 (by decide)) (by decide +kernel) ?_
  refine V_aload_n (B.1 _) 0 (j := 0) (by decide +kernel) rfl ?_
  refine V_iload_n (B.1 _) 3 (j := 3) (by decide +kernel) rfl ?_
  refine V_iconst (v := nI 4) (n := 4) (B.1 _) (by decide +kernel) (by decide) ?_
  refine V_iadd (B.1 _) (by decide +kernel) ?_
  refine L_ld B hX hbl (hin 4 (by decide)) (by decide +kernel) ?_
  refine L_callC B [.int (xs (nI i + nI 1).toNatClampNeg), .int (xs (nI i + nI 2).toNatClampNeg), .int (xs (nI i + nI 3).toNatClampNeg), .int (xs (nI i + nI 4).toNatClampNeg)] (c_Top_sock B.2.1 e1) (by decide) cw_Lw_118 rfl rfl (Nat.le_of_ble_eq_true rfl) rfl (by decide +kernel) ?_
  refine V_aload_n (B.1 _) 2 (j := 2) (by decide +kernel) rfl ?_
  refine V_aload_n (B.1 _) 0 (j := 0) (by decide +kernel) rfl ?_
  refine V_iload_n (B.1 _) 3 (j := 3) (by decide +kernel) rfl ?_
  refine V_iconst (v := nI 1) (n := 1) (B.1 _) (by decide +kernel) (by decide) ?_
  refine V_iadd (B.1 _) (by decide +kernel) ?_
  refine L_ld B hX hbl (hin 1 (by decide)) (by decide +kernel) ?_
  refine V_aload_n (B.1 _) 0 (j := 0) (by decide +kernel) rfl ?_
  refine V_iload_n (B.1 _) 3 (j := 3) (by decide +kernel) rfl ?_
  refine V_iconst (v := nI 2) (n := 2) (B.1 _) (by decide +kernel) (by decide) ?_
  refine V_iadd (B.1 _) (by decide +kernel) ?_
  refine L_ld B hX hbl (hin 2 (by decide)) (by decide +kernel) ?_
  refine V_aload_n (B.1 _) 0 (j := 0) (by decide +kernel) rfl ?_
  refine V_iload_n (B.1 _) 3 (j := 3) (by decide +kernel) rfl ?_
  refine V_iconst (v := nI 3) (n := 3) (B.1 _) (by decide +kernel) (by decide) ?_
  refine V_iadd (B.1 _) (by decide +kernel) ?_
  refine L_ld B hX hbl (hin 3 (by decide)) (by decide +kernel) ?_
  refine V_aload_n (B.1 _) 0 (j := 0) (by decide +kernel) rfl ?_
  refine V_iload_n (B.1 _) 3 (j := 3) (by decide +kernel) rfl ?_
  refine V_iconst (v := nI 4) (n := 4) (B.1 _) (by decide +kernel) (by decide) ?_
  refine V_iadd (B.1 _) (by decide +kernel) ?_
  refine L_ld B hX hbl (hin 4 (by decide)) (by decide +kernel) ?_
  refine L_callM B [.int (xs (nI i + nI 1).toNatClampNeg), .int (xs (nI i + nI 2).toNatClampNeg), .int (xs (nI i + nI 3).toNatClampNeg), .int (xs (nI i + nI 4).toNatClampNeg)] (c_M_sock B.2.2.1 e2) (by decide) cw_Lw_121 rfl rfl (Nat.le_of_ble_eq_true rfl) rfl (by decide +kernel) ?_
  refine V_icmp_eq (pc := 1175) (tgt := 1801) (off := 626) (B.1 _) (by decide +kernel) (by decide) (if_pos rfl : (if r = r then true else false) = true) (fun _ => ?_) (fun h => by cases h)
  exact done _ _ e3
set_option maxRecDepth 20000 in
theorem lc_26 (B : LB E 4 A g a A' code "WithTheRedsLaw" 2048) (hX : va_X b L xs E.2.2.2.2.1 E.2.2.2.2.1.heap) (hbl : b < E.2.2.2.2.1.heap.size) (hin : ∀ k : Nat, k < 6 → vp_in (nI i + nI k) L) (hr : Rel σ τ) (done : ∀ σ' τ' : St, Rel σ' τ' → V E classes 4 (wL A g a A' τ') σ' 1801 (LV g a b i) []) : V E classes 4 (wL A g a A' τ) σ 1180 (LV g a b i) [] := by
  obtain ⟨r, σ', τ', e1, e2, e3⟩ := e_test hr ((xs (nI i + nI 1).toNatClampNeg)) ((xs (nI i + nI 2).toNatClampNeg))
  refine V_aload_n (B.1 _) 1 (j := 1) (by decide +kernel) rfl ?_
  refine V_aload_n (B.1 _) 0 (j := 0) (by decide +kernel) rfl ?_
  refine V_iload_n (B.1 _) 3 (j := 3) (by decide +kernel) rfl ?_
  refine V_iconst (v := nI 1) (n := 1) (B.1 _) (by decide +kernel) (by decide) ?_
  refine V_iadd (B.1 _) (by decide +kernel) ?_
  refine L_ld B hX hbl (hin 1 (by decide)) (by decide +kernel) ?_
  refine V_aload_n (B.1 _) 0 (j := 0) (by decide +kernel) rfl ?_
  refine V_iload_n (B.1 _) 3 (j := 3) (by decide +kernel) rfl ?_
  refine V_iconst (v := nI 2) (n := 2) (B.1 _) (by decide +kernel) (by decide) ?_
  refine V_iadd (B.1 _) (by decide +kernel) ?_
  refine L_ld B hX hbl (hin 2 (by decide)) (by decide +kernel) ?_
  refine L_callC B [.int (xs (nI i + nI 1).toNatClampNeg), .int (xs (nI i + nI 2).toNatClampNeg)] (c_Top_test B.2.1 e1) (by decide) cw_Lw_122 rfl rfl (Nat.le_of_ble_eq_true rfl) rfl (by decide +kernel) ?_
  refine V_aload_n (B.1 _) 2 (j := 2) (by decide +kernel) rfl ?_
  refine V_aload_n (B.1 _) 0 (j := 0) (by decide +kernel) rfl ?_
  refine V_iload_n (B.1 _) 3 (j := 3) (by decide +kernel) rfl ?_
  refine V_iconst (v := nI 1) (n := 1) (B.1 _) (by decide +kernel) (by decide) ?_
  refine V_iadd (B.1 _) (by decide +kernel) ?_
  refine L_ld B hX hbl (hin 1 (by decide)) (by decide +kernel) ?_
  refine V_aload_n (B.1 _) 0 (j := 0) (by decide +kernel) rfl ?_
  refine V_iload_n (B.1 _) 3 (j := 3) (by decide +kernel) rfl ?_
  refine V_iconst (v := nI 2) (n := 2) (B.1 _) (by decide +kernel) (by decide) ?_
  refine V_iadd (B.1 _) (by decide +kernel) ?_
  refine L_ld B hX hbl (hin 2 (by decide)) (by decide +kernel) ?_
  refine L_callM B [.int (xs (nI i + nI 1).toNatClampNeg), .int (xs (nI i + nI 2).toNatClampNeg)] (c_M_test B.2.2.1 e2) (by decide) cw_Lw_125 rfl rfl (Nat.le_of_ble_eq_true rfl) rfl (by decide +kernel) ?_
  refine V_icmp_eq (pc := 1208) (tgt := 1801) (off := 593) (B.1 _) (by decide +kernel) (by decide) (if_pos rfl : (if r = r then true else false) = true) (fun _ => ?_) (fun h => by cases h)
  exact done _ _ e3
set_option maxRecDepth 20000 in
theorem lc_27 (B : LB E 4 A g a A' code "WithTheRedsLaw" 2048) (hX : va_X b L xs E.2.2.2.2.1 E.2.2.2.2.1.heap) (hbl : b < E.2.2.2.2.1.heap.size) (hin : ∀ k : Nat, k < 6 → vp_in (nI i + nI k) L) (hr : Rel σ τ) (done : ∀ σ' τ' : St, Rel σ' τ' → V E classes 4 (wL A g a A' τ') σ' 1801 (LV g a b i) []) : V E classes 4 (wL A g a A' τ) σ 1213 (LV g a b i) [] := by
  obtain ⟨r, σ', τ', e1, e2, e3⟩ := e_drawn hr ((xs (nI i + nI 1).toNatClampNeg)) ((xs (nI i + nI 2).toNatClampNeg)) ((xs (nI i + nI 3).toNatClampNeg))
  refine V_aload_n (B.1 _) 1 (j := 1) (by decide +kernel) rfl ?_
  refine V_aload_n (B.1 _) 0 (j := 0) (by decide +kernel) rfl ?_
  refine V_iload_n (B.1 _) 3 (j := 3) (by decide +kernel) rfl ?_
  refine V_iconst (v := nI 1) (n := 1) (B.1 _) (by decide +kernel) (by decide) ?_
  refine V_iadd (B.1 _) (by decide +kernel) ?_
  refine L_ld B hX hbl (hin 1 (by decide)) (by decide +kernel) ?_
  refine V_aload_n (B.1 _) 0 (j := 0) (by decide +kernel) rfl ?_
  refine V_iload_n (B.1 _) 3 (j := 3) (by decide +kernel) rfl ?_
  refine V_iconst (v := nI 2) (n := 2) (B.1 _) (by decide +kernel) (by decide) ?_
  refine V_iadd (B.1 _) (by decide +kernel) ?_
  refine L_ld B hX hbl (hin 2 (by decide)) (by decide +kernel) ?_
  refine V_aload_n (B.1 _) 0 (j := 0) (by decide +kernel) rfl ?_
  refine V_iload_n (B.1 _) 3 (j := 3) (by decide +kernel) rfl ?_
  refine V_iconst (v := nI 3) (n := 3) (B.1 _) (by decide +kernel) (by decide) ?_
  refine V_iadd (B.1 _) (by decide +kernel) ?_
  refine L_ld B hX hbl (hin 3 (by decide)) (by decide +kernel) ?_
  refine L_callC B [.int (xs (nI i + nI 1).toNatClampNeg), .int (xs (nI i + nI 2).toNatClampNeg), .int (xs (nI i + nI 3).toNatClampNeg)] (c_Top_drawn B.2.1 e1) (by decide) cw_Lw_126 rfl rfl (Nat.le_of_ble_eq_true rfl) rfl (by decide +kernel) ?_
  refine V_aload_n (B.1 _) 2 (j := 2) (by decide +kernel) rfl ?_
  refine V_aload_n (B.1 _) 0 (j := 0) (by decide +kernel) rfl ?_
  refine V_iload_n (B.1 _) 3 (j := 3) (by decide +kernel) rfl ?_
  refine V_iconst (v := nI 1) (n := 1) (B.1 _) (by decide +kernel) (by decide) ?_
  refine V_iadd (B.1 _) (by decide +kernel) ?_
  refine L_ld B hX hbl (hin 1 (by decide)) (by decide +kernel) ?_
  refine V_aload_n (B.1 _) 0 (j := 0) (by decide +kernel) rfl ?_
  refine V_iload_n (B.1 _) 3 (j := 3) (by decide +kernel) rfl ?_
  refine V_iconst (v := nI 2) (n := 2) (B.1 _) (by decide +kernel) (by decide) ?_
  refine V_iadd (B.1 _) (by decide +kernel) ?_
  refine L_ld B hX hbl (hin 2 (by decide)) (by decide +kernel) ?_
  refine V_aload_n (B.1 _) 0 (j := 0) (by decide +kernel) rfl ?_
  refine V_iload_n (B.1 _) 3 (j := 3) (by decide +kernel) rfl ?_
  refine V_iconst (v := nI 3) (n := 3) (B.1 _) (by decide +kernel) (by decide) ?_
  refine V_iadd (B.1 _) (by decide +kernel) ?_
  refine L_ld B hX hbl (hin 3 (by decide)) (by decide +kernel) ?_
  refine L_callM B [.int (xs (nI i + nI 1).toNatClampNeg), .int (xs (nI i + nI 2).toNatClampNeg), .int (xs (nI i + nI 3).toNatClampNeg)] (c_M_drawn B.2.2.1 e2) (by decide) cw_Lw_129 rfl rfl (Nat.le_of_ble_eq_true rfl) rfl (by decide +kernel) ?_
  refine V_icmp_eq (pc := 1251) (tgt := 1801) (off := 550) (B.1 _) (by decide +kernel) (by decide) (if_pos rfl : (if r = r then true else false) = true) (fun _ => ?_) (fun h => by cases h)
  exact done _ _ e3
set_option maxRecDepth 20000 in
theorem lc_28 (B : LB E 4 A g a A' code "WithTheRedsLaw" 2048) (hX : va_X b L xs E.2.2.2.2.1 E.2.2.2.2.1.heap) (hbl : b < E.2.2.2.2.1.heap.size) (hin : ∀ k : Nat, k < 6 → vp_in (nI i + nI k) L) (hr : Rel σ τ) (done : ∀ σ' τ' : St, Rel σ' τ' → V E classes 4 (wL A g a A' τ') σ' 1801 (LV g a b i) []) : V E classes 4 (wL A g a A' τ) σ 1256 (LV g a b i) [] := by
  obtain ⟨r, σ', τ', e1, e2, e3⟩ := e_wash hr ((xs (nI i + nI 1).toNatClampNeg)) ((xs (nI i + nI 2).toNatClampNeg))
  refine V_aload_n (B.1 _) 1 (j := 1) (by decide +kernel) rfl ?_
  refine V_aload_n (B.1 _) 0 (j := 0) (by decide +kernel) rfl ?_
  refine V_iload_n (B.1 _) 3 (j := 3) (by decide +kernel) rfl ?_
  refine V_iconst (v := nI 1) (n := 1) (B.1 _) (by decide +kernel) (by decide) ?_
  refine V_iadd (B.1 _) (by decide +kernel) ?_
  refine L_ld B hX hbl (hin 1 (by decide)) (by decide +kernel) ?_
  refine V_aload_n (B.1 _) 0 (j := 0) (by decide +kernel) rfl ?_
  refine V_iload_n (B.1 _) 3 (j := 3) (by decide +kernel) rfl ?_
  refine V_iconst (v := nI 2) (n := 2) (B.1 _) (by decide +kernel) (by decide) ?_
  refine V_iadd (B.1 _) (by decide +kernel) ?_
  refine L_ld B hX hbl (hin 2 (by decide)) (by decide +kernel) ?_
  refine L_callC B [.int (xs (nI i + nI 1).toNatClampNeg), .int (xs (nI i + nI 2).toNatClampNeg)] (c_Top_wash B.2.1 e1) (by decide) cw_Lw_130 rfl rfl (Nat.le_of_ble_eq_true rfl) rfl (by decide +kernel) ?_
  refine V_aload_n (B.1 _) 2 (j := 2) (by decide +kernel) rfl ?_
  refine V_aload_n (B.1 _) 0 (j := 0) (by decide +kernel) rfl ?_
  refine V_iload_n (B.1 _) 3 (j := 3) (by decide +kernel) rfl ?_
  refine V_iconst (v := nI 1) (n := 1) (B.1 _) (by decide +kernel) (by decide) ?_
  refine V_iadd (B.1 _) (by decide +kernel) ?_
  refine L_ld B hX hbl (hin 1 (by decide)) (by decide +kernel) ?_
  refine V_aload_n (B.1 _) 0 (j := 0) (by decide +kernel) rfl ?_
  refine V_iload_n (B.1 _) 3 (j := 3) (by decide +kernel) rfl ?_
  refine V_iconst (v := nI 2) (n := 2) (B.1 _) (by decide +kernel) (by decide) ?_
  refine V_iadd (B.1 _) (by decide +kernel) ?_
  refine L_ld B hX hbl (hin 2 (by decide)) (by decide +kernel) ?_
  refine L_callM B [.int (xs (nI i + nI 1).toNatClampNeg), .int (xs (nI i + nI 2).toNatClampNeg)] (c_M_wash B.2.2.1 e2) (by decide) cw_Lw_133 rfl rfl (Nat.le_of_ble_eq_true rfl) rfl (by decide +kernel) ?_
  refine V_icmp_eq (pc := 1284) (tgt := 1801) (off := 517) (B.1 _) (by decide +kernel) (by decide) (if_pos rfl : (if r = r then true else false) = true) (fun _ => ?_) (fun h => by cases h)
  exact done _ _ e3
set_option maxRecDepth 20000 in
theorem lc_29 (B : LB E 4 A g a A' code "WithTheRedsLaw" 2048) (hX : va_X b L xs E.2.2.2.2.1 E.2.2.2.2.1.heap) (hbl : b < E.2.2.2.2.1.heap.size) (hin : ∀ k : Nat, k < 6 → vp_in (nI i + nI k) L) (hr : Rel σ τ) (done : ∀ σ' τ' : St, Rel σ' τ' → V E classes 4 (wL A g a A' τ') σ' 1801 (LV g a b i) []) : V E classes 4 (wL A g a A' τ) σ 1289 (LV g a b i) [] := by
  obtain ⟨r, σ', τ', e1, e2, e3⟩ := e_bleach hr ((xs (nI i + nI 1).toNatClampNeg))
  refine V_aload_n (B.1 _) 1 (j := 1) (by decide +kernel) rfl ?_
  refine V_aload_n (B.1 _) 0 (j := 0) (by decide +kernel) rfl ?_
  refine V_iload_n (B.1 _) 3 (j := 3) (by decide +kernel) rfl ?_
  refine V_iconst (v := nI 1) (n := 1) (B.1 _) (by decide +kernel) (by decide) ?_
  refine V_iadd (B.1 _) (by decide +kernel) ?_
  refine L_ld B hX hbl (hin 1 (by decide)) (by decide +kernel) ?_
  refine L_callC B [.int (xs (nI i + nI 1).toNatClampNeg)] (c_Top_bleach B.2.1 e1) (by decide) cw_Lw_134 rfl rfl (Nat.le_of_ble_eq_true rfl) rfl (by decide +kernel) ?_
  refine V_aload_n (B.1 _) 2 (j := 2) (by decide +kernel) rfl ?_
  refine V_aload_n (B.1 _) 0 (j := 0) (by decide +kernel) rfl ?_
  refine V_iload_n (B.1 _) 3 (j := 3) (by decide +kernel) rfl ?_
  refine V_iconst (v := nI 1) (n := 1) (B.1 _) (by decide +kernel) (by decide) ?_
  refine V_iadd (B.1 _) (by decide +kernel) ?_
  refine L_ld B hX hbl (hin 1 (by decide)) (by decide +kernel) ?_
  refine L_callM B [.int (xs (nI i + nI 1).toNatClampNeg)] (c_M_bleach B.2.2.1 e2) (by decide) cw_Lw_137 rfl rfl (Nat.le_of_ble_eq_true rfl) rfl (by decide +kernel) ?_
  refine V_icmp_eq (pc := 1307) (tgt := 1801) (off := 494) (B.1 _) (by decide +kernel) (by decide) (if_pos rfl : (if r = r then true else false) = true) (fun _ => ?_) (fun h => by cases h)
  exact done _ _ e3
set_option maxRecDepth 20000 in
theorem lc_30 (B : LB E 4 A g a A' code "WithTheRedsLaw" 2048) (hX : va_X b L xs E.2.2.2.2.1 E.2.2.2.2.1.heap) (hbl : b < E.2.2.2.2.1.heap.size) (hin : ∀ k : Nat, k < 6 → vp_in (nI i + nI k) L) (hr : Rel σ τ) (done : ∀ σ' τ' : St, Rel σ' τ' → V E classes 4 (wL A g a A' τ') σ' 1801 (LV g a b i) []) : V E classes 4 (wL A g a A' τ) σ 1312 (LV g a b i) [] := by
  obtain ⟨r, σ', τ', e1, e2, e3⟩ := e_throwAway hr ((xs (nI i + nI 1).toNatClampNeg))
  refine V_aload_n (B.1 _) 1 (j := 1) (by decide +kernel) rfl ?_
  refine V_aload_n (B.1 _) 0 (j := 0) (by decide +kernel) rfl ?_
  refine V_iload_n (B.1 _) 3 (j := 3) (by decide +kernel) rfl ?_
  refine V_iconst (v := nI 1) (n := 1) (B.1 _) (by decide +kernel) (by decide) ?_
  refine V_iadd (B.1 _) (by decide +kernel) ?_
  refine L_ld B hX hbl (hin 1 (by decide)) (by decide +kernel) ?_
  refine L_callC B [.int (xs (nI i + nI 1).toNatClampNeg)] (c_Top_throwAway B.2.1 e1) (by decide) cw_Lw_138 rfl rfl (Nat.le_of_ble_eq_true rfl) rfl (by decide +kernel) ?_
  refine V_aload_n (B.1 _) 2 (j := 2) (by decide +kernel) rfl ?_
  refine V_aload_n (B.1 _) 0 (j := 0) (by decide +kernel) rfl ?_
  refine V_iload_n (B.1 _) 3 (j := 3) (by decide +kernel) rfl ?_
  refine V_iconst (v := nI 1) (n := 1) (B.1 _) (by decide +kernel) (by decide) ?_
  refine V_iadd (B.1 _) (by decide +kernel) ?_
  refine L_ld B hX hbl (hin 1 (by decide)) (by decide +kernel) ?_
  refine L_callM B [.int (xs (nI i + nI 1).toNatClampNeg)] (c_M_throwAway B.2.2.1 e2) (by decide) cw_Lw_141 rfl rfl (Nat.le_of_ble_eq_true rfl) rfl (by decide +kernel) ?_
  refine V_icmp_eq (pc := 1330) (tgt := 1801) (off := 471) (B.1 _) (by decide +kernel) (by decide) (if_pos rfl : (if r = r then true else false) = true) (fun _ => ?_) (fun h => by cases h)
  exact done _ _ e3
end CASES
