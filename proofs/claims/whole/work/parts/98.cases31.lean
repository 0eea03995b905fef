/-! the law's 46 cases, laid by cases.py -/
section CASES
variable {E : Ev} {g : Gx} {a : Nat → Nat} {A A' : Nat → Prop} {σ τ : St} {b L i : Nat} {xs : Nat → Int32}
set_option maxRecDepth 20000 in
theorem lc_31 (B : LB E 4 A g a A' code "WithTheRedsLaw" 2048) (hX : va_X b L xs E.2.2.2.2.1 E.2.2.2.2.1.heap) (hbl : b < E.2.2.2.2.1.heap.size) (hin : ∀ k : Nat, k < 6 → vp_in (nI i + nI k) L) (hr : Rel σ τ) (done : ∀ σ' τ' : St, Rel σ' τ' → V E classes 4 (wL A g a A' τ') σ' 1801 (LV g a b i) []) : V E classes 4 (wL A g a A' τ) σ 1335 (LV g a b i) [] := by
  obtain ⟨r, e1, e2⟩ := e_led hr ((xs (nI i + nI 1).toNatClampNeg))
  refine V_aload_n (B.1 _) 1 (j := 1) (by decide +kernel) rfl ?_
  refine V_aload_n (B.1 _) 0 (j := 0) (by decide +kernel) rfl ?_
  refine V_iload_n (B.1 _) 3 (j := 3) (by decide +kernel) rfl ?_
  refine V_iconst (v := nI 1) (n := 1) (B.1 _) (by decide +kernel) (by decide) ?_
  refine V_iadd (B.1 _) (by decide +kernel) ?_
  refine L_ld B hX hbl (hin 1 (by decide)) (by decide +kernel) ?_
  refine L_callC B [.int (xs (nI i + nI 1).toNatClampNeg)] (c_Top_led B.2.1 e1) (by decide) cw_Lw_142 rfl rfl (Nat.le_of_ble_eq_true rfl) rfl (by decide +kernel) ?_
  refine V_aload_n (B.1 _) 2 (j := 2) (by decide +kernel) rfl ?_
  refine V_aload_n (B.1 _) 0 (j := 0) (by decide +kernel) rfl ?_
  refine V_iload_n (B.1 _) 3 (j := 3) (by decide +kernel) rfl ?_
  refine V_iconst (v := nI 1) (n := 1) (B.1 _) (by decide +kernel) (by decide) ?_
  refine V_iadd (B.1 _) (by decide +kernel) ?_
  refine L_ld B hX hbl (hin 1 (by decide)) (by decide +kernel) ?_
  refine L_callM B [.int (xs (nI i + nI 1).toNatClampNeg)] (c_M_led B.2.2.1 e2) (by decide) cw_Lw_145 rfl rfl (Nat.le_of_ble_eq_true rfl) rfl (by decide +kernel) ?_
  refine V_icmp_eq (pc := 1353) (tgt := 1801) (off := 448) (B.1 _) (by decide +kernel) (by decide) (if_pos rfl : (if r = r then true else false) = true) (fun _ => ?_) (fun h => by cases h)
  exact done _ _ hr
set_option maxRecDepth 20000 in
theorem lc_32 (B : LB E 4 A g a A' code "WithTheRedsLaw" 2048) (hX : va_X b L xs E.2.2.2.2.1 E.2.2.2.2.1.heap) (hbl : b < E.2.2.2.2.1.heap.size) (hin : ∀ k : Nat, k < 6 → vp_in (nI i + nI k) L) (hr : Rel σ τ) (done : ∀ σ' τ' : St, Rel σ' τ' → V E classes 4 (wL A g a A' τ') σ' 1801 (LV g a b i) []) : V E classes 4 (wL A g a A' τ) σ 1358 (LV g a b i) [] := by
  obtain ⟨r, σ', τ', e1, e2, e3⟩ := e_image hr
  refine V_aload_n (B.1 _) 1 (j := 1) (by decide +kernel) rfl ?_
  refine L_callC B [] (c_Top_image B.2.1 e1) (by decide) cw_Lw_146 rfl rfl (Nat.le_of_ble_eq_true rfl) rfl (by decide +kernel) ?_
  refine V_aload_n (B.1 _) 2 (j := 2) (by decide +kernel) rfl ?_
  refine L_callM B [] (c_M_image B.2.2.1 e2) (by decide) cw_Lw_149 rfl rfl (Nat.le_of_ble_eq_true rfl) rfl (by decide +kernel) ?_
  refine V_icmp_eq (pc := 1366) (tgt := 1801) (off := 435) (B.1 _) (by decide +kernel) (by decide) (if_pos rfl : (if r = r then true else false) = true) (fun _ => ?_) (fun h => by cases h)
  exact done _ _ e3
set_option maxRecDepth 20000 in
theorem lc_33 (B : LB E 4 A g a A' code "WithTheRedsLaw" 2048) (hX : va_X b L xs E.2.2.2.2.1 E.2.2.2.2.1.heap) (hbl : b < E.2.2.2.2.1.heap.size) (hin : ∀ k : Nat, k < 6 → vp_in (nI i + nI k) L) (hr : Rel σ τ) (done : ∀ σ' τ' : St, Rel σ' τ' → V E classes 4 (wL A g a A' τ') σ' 1801 (LV g a b i) []) : V E classes 4 (wL A g a A' τ) σ 1371 (LV g a b i) [] := by
  obtain ⟨r, σ', τ', e1, e2, e3⟩ := e_back hr
  refine V_aload_n (B.1 _) 1 (j := 1) (by decide +kernel) rfl ?_
  refine L_callC B [] (c_Top_back B.2.1 e1) (by decide) cw_Lw_150 rfl rfl (Nat.le_of_ble_eq_true rfl) rfl (by decide +kernel) ?_
  refine V_aload_n (B.1 _) 2 (j := 2) (by decide +kernel) rfl ?_
  refine L_callM B [] (c_M_back B.2.2.1 e2) (by decide) cw_Lw_153 rfl rfl (Nat.le_of_ble_eq_true rfl) rfl (by decide +kernel) ?_
  refine V_icmp_eq (pc := 1379) (tgt := 1801) (off := 422) (B.1 _) (by decide +kernel) (by decide) (if_pos rfl : (if r = r then true else false) = true) (fun _ => ?_) (fun h => by cases h)
  exact done _ _ e3
set_option maxRecDepth 20000 in
theorem lc_34 (B : LB E 4 A g a A' code "WithTheRedsLaw" 2048) (hX : va_X b L xs E.2.2.2.2.1 E.2.2.2.2.1.heap) (hbl : b < E.2.2.2.2.1.heap.size) (hin : ∀ k : Nat, k < 6 → vp_in (nI i + nI k) L) (hr : Rel σ τ) (done : ∀ σ' τ' : St, Rel σ' τ' → V E classes 4 (wL A g a A' τ') σ' 1801 (LV g a b i) []) : V E classes 4 (wL A g a A' τ) σ 1384 (LV g a b i) [] := by
  obtain ⟨r, σ', τ', e1, e2, e3⟩ := e_undo hr
  refine V_aload_n (B.1 _) 1 (j := 1) (by decide +kernel) rfl ?_
  refine L_callC B [] (c_Top_undo B.2.1 e1) (by decide) cw_Lw_154 rfl rfl (Nat.le_of_ble_eq_true rfl) rfl (by decide +kernel) ?_
  refine V_aload_n (B.1 _) 2 (j := 2) (by decide +kernel) rfl ?_
  refine L_callM B [] (c_M_undo B.2.2.1 e2) (by decide) cw_Lw_157 rfl rfl (Nat.le_of_ble_eq_true rfl) rfl (by decide +kernel) ?_
  refine V_icmp_eq (pc := 1392) (tgt := 1801) (off := 409) (B.1 _) (by decide +kernel) (by decide) (if_pos rfl : (if r = r then true else false) = true) (fun _ => ?_) (fun h => by cases h)
  exact done _ _ e3
set_option maxRecDepth 20000 in
theorem lc_35 (B : LB E 4 A g a A' code "WithTheRedsLaw" 2048) (hX : va_X b L xs E.2.2.2.2.1 E.2.2.2.2.1.heap) (hbl : b < E.2.2.2.2.1.heap.size) (hin : ∀ k : Nat, k < 6 → vp_in (nI i + nI k) L) (hr : Rel σ τ) (done : ∀ σ' τ' : St, Rel σ' τ' → V E classes 4 (wL A g a A' τ') σ' 1801 (LV g a b i) []) : V E classes 4 (wL A g a A' τ) σ 1397 (LV g a b i) [] := by
  obtain ⟨r, σ', τ', e1, e2, e3⟩ := e_redo hr
  refine V_aload_n (B.1 _) 1 (j := 1) (by decide +kernel) rfl ?_
  refine L_callC B [] (c_Top_redo B.2.1 e1) (by decide) cw_Lw_158 rfl rfl (Nat.le_of_ble_eq_true rfl) rfl (by decide +kernel) ?_
  refine V_aload_n (B.1 _) 2 (j := 2) (by decide +kernel) rfl ?_
  refine L_callM B [] (c_M_redo B.2.2.1 e2) (by decide) cw_Lw_161 rfl rfl (Nat.le_of_ble_eq_true rfl) rfl (by decide +kernel) ?_
  refine V_icmp_eq (pc := 1405) (tgt := 1801) (off := 396) (B.1 _) (by decide +kernel) (by decide) (if_pos rfl : (if r = r then true else false) = true) (fun _ => ?_) (fun h => by cases h)
  exact done _ _ e3
set_option maxRecDepth 20000 in
theorem lc_36 (B : LB E 4 A g a A' code "WithTheRedsLaw" 2048) (hX : va_X b L xs E.2.2.2.2.1 E.2.2.2.2.1.heap) (hbl : b < E.2.2.2.2.1.heap.size) (hin : ∀ k : Nat, k < 6 → vp_in (nI i + nI k) L) (hr : Rel σ τ) (done : ∀ σ' τ' : St, Rel σ' τ' → V E classes 4 (wL A g a A' τ') σ' 1801 (LV g a b i) []) : V E classes 4 (wL A g a A' τ) σ 1410 (LV g a b i) [] := by
  obtain ⟨r, σ', τ', e1, e2, e3⟩ := e_body hr ((xs (nI i + nI 1).toNatClampNeg))
  refine V_aload_n (B.1 _) 1 (j := 1) (by decide +kernel) rfl ?_
  refine V_aload_n (B.1 _) 0 (j := 0) (by decide +kernel) rfl ?_
  refine V_iload_n (B.1 _) 3 (j := 3) (by decide +kernel) rfl ?_
  refine V_iconst (v := nI 1) (n := 1) (B.1 _) (by decide +kernel) (by decide) ?_
  refine V_iadd (B.1 _) (by decide +kernel) ?_
  refine L_ld B hX hbl (hin 1 (by decide)) (by decide +kernel) ?_
  refine L_callC B [.int (xs (nI i + nI 1).toNatClampNeg)] (c_Top_body B.2.1 e1) (by decide) cw_Lw_162 rfl rfl (Nat.le_of_ble_eq_true rfl) rfl (by decide +kernel) ?_
  refine V_aload_n (B.1 _) 2 (j := 2) (by decide +kernel) rfl ?_
  refine V_aload_n (B.1 _) 0 (j := 0) (by decide +kernel) rfl ?_
  refine V_iload_n (B.1 _) 3 (j := 3) (by decide +kernel) rfl ?_
  refine V_iconst (v := nI 1) (n := 1) (B.1 _) (by decide +kernel) (by decide) ?_
  refine V_iadd (B.1 _) (by decide +kernel) ?_
  refine L_ld B hX hbl (hin 1 (by decide)) (by decide +kernel) ?_
  refine L_callM B [.int (xs (nI i + nI 1).toNatClampNeg)] (c_M_body B.2.2.1 e2) (by decide) cw_Lw_165 rfl rfl (Nat.le_of_ble_eq_true rfl) rfl (by decide +kernel) ?_
  refine V_icmp_eq (pc := 1428) (tgt := 1801) (off := 373) (B.1 _) (by decide +kernel) (by decide) (if_pos rfl : (if r = r then true else false) = true) (fun _ => ?_) (fun h => by cases h)
  exact done _ _ e3
set_option maxRecDepth 20000 in
theorem lc_37 (B : LB E 4 A g a A' code "WithTheRedsLaw" 2048) (hX : va_X b L xs E.2.2.2.2.1 E.2.2.2.2.1.heap) (hbl : b < E.2.2.2.2.1.heap.size) (hin : ∀ k : Nat, k < 6 → vp_in (nI i + nI k) L) (hr : Rel σ τ) (done : ∀ σ' τ' : St, Rel σ' τ' → V E classes 4 (wL A g a A' τ') σ' 1801 (LV g a b i) []) : V E classes 4 (wL A g a A' τ) σ 1433 (LV g a b i) [] := by
  obtain ⟨r, σ', τ', e1, e2, e3⟩ := e_act hr ((xs (nI i + nI 1).toNatClampNeg)) ((xs (nI i + nI 2).toNatClampNeg)) ((xs (nI i + nI 3).toNatClampNeg))
  refine V_aload_n (B.1 _) 1 (j := 1) (by decide +kernel) rfl ?_
  refine V_aload_n (B.1 _) 0 (j := 0) (by decide +kernel) rfl ?_
  refine V_iload_n (B.1 _) 3 (j := 3) (by decide +kernel) rfl ?_
  refine V_iconst (v := nI 1) (n := 1) (B.1 _) (by decide +kernel) (by decide) ?_
  refine V_iadd (B.1 _) (by decide +kernel) ?_
  refine L_ld B hX hbl (hin 1 (by decide)) (by decide +kernel) ?_
  refine V_aload_n (B.1 _) 0 (j := 0) (by decide +kernel) rfl ?_
  refine V_iload_n (B.1 _) 3 (j := 3) (by decide +kernel) rfl ?_
  refine V_iconst (v := nI 2) (n := 2) (B.1 _) (by decide +kernel) (by decide) ?_
  refine V_iadd (B.1 _) (by decide +kernel) ?_
  refine L_ld B hX hbl (hin 2 (by decide)) (by decide +kernel) ?_
  refine V_aload_n (B.1 _) 0 (j := 0) (by decide +kernel) rfl ?_
  refine V_iload_n (B.1 _) 3 (j := 3) (by decide +kernel) rfl ?_
  refine V_iconst (v := nI 3) (n := 3) (B.1 _) (by decide +kernel) (by decide) ?_
  refine V_iadd (B.1 _) (by decide +kernel) ?_
  refine L_ld B hX hbl (hin 3 (by decide)) (by decide +kernel) ?_
  refine L_callC B [.int (xs (nI i + nI 1).toNatClampNeg), .int (xs (nI i + nI 2).toNatClampNeg), .int (xs (nI i + nI 3).toNatClampNeg)] (c_Top_act B.2.1 e1) (by decide) cw_Lw_166 rfl rfl (Nat.le_of_ble_eq_true rfl) rfl (by decide +kernel) ?_
  refine V_aload_n (B.1 _) 2 (j := 2) (by decide +kernel) rfl ?_
  refine V_aload_n (B.1 _) 0 (j := 0) (by decide +kernel) rfl ?_
  refine V_iload_n (B.1 _) 3 (j := 3) (by decide +kernel) rfl ?_
  refine V_iconst (v := nI 1) (n := 1) (B.1 _) (by decide +kernel) (by decide) ?_
  refine V_iadd (B.1 _) (by decide +kernel) ?_
  refine L_ld B hX hbl (hin 1 (by decide)) (by decide +kernel) ?_
  refine V_aload_n (B.1 _) 0 (j := 0) (by decide +kernel) rfl ?_
  refine V_iload_n (B.1 _) 3 (j := 3) (by decide +kernel) rfl ?_
  refine V_iconst (v := nI 2) (n := 2) (B.1 _) (by decide +kernel) (by decide) ?_
  refine V_iadd (B.1 _) (by decide +kernel) ?_
  refine L_ld B hX hbl (hin 2 (by decide)) (by decide +kernel) ?_
  refine V_aload_n (B.1 _) 0 (j := 0) (by decide +kernel) rfl ?_
  refine V_iload_n (B.1 _) 3 (j := 3) (by decide +kernel) rfl ?_
  refine V_iconst (v := nI 3) (n := 3) (B.1 _) (by decide +kernel) (by decide) ?_
  refine V_iadd (B.1 _) (by decide +kernel) ?_
  refine L_ld B hX hbl (hin 3 (by decide)) (by decide +kernel) ?_
  refine L_callM B [.int (xs (nI i + nI 1).toNatClampNeg), .int (xs (nI i + nI 2).toNatClampNeg), .int (xs (nI i + nI 3).toNatClampNeg)] (c_M_act B.2.2.1 e2) (by decide) cw_Lw_169 rfl rfl (Nat.le_of_ble_eq_true rfl) rfl (by decide +kernel) ?_
  refine V_icmp_eq (pc := 1471) (tgt := 1801) (off := 330) (B.1 _) (by decide +kernel) (by decide) (if_pos rfl : (if r = r then true else false) = true) (fun _ => ?_) (fun h => by cases h)
  exact done _ _ e3
set_option maxRecDepth 20000 in
theorem lc_38 (B : LB E 4 A g a A' code "WithTheRedsLaw" 2048) (hX : va_X b L xs E.2.2.2.2.1 E.2.2.2.2.1.heap) (hbl : b < E.2.2.2.2.1.heap.size) (hin : ∀ k : Nat, k < 6 → vp_in (nI i + nI k) L) (hr : Rel σ τ) (done : ∀ σ' τ' : St, Rel σ' τ' → V E classes 4 (wL A g a A' τ') σ' 1801 (LV g a b i) []) : V E classes 4 (wL A g a A' τ) σ 1476 (LV g a b i) [] := by
  obtain ⟨r, e1, e2⟩ := e_trace hr ((xs (nI i + nI 1).toNatClampNeg))
  refine V_aload_n (B.1 _) 1 (j := 1) (by decide +kernel) rfl ?_
  refine V_aload_n (B.1 _) 0 (j := 0) (by decide +kernel) rfl ?_
  refine V_iload_n (B.1 _) 3 (j := 3) (by decide +kernel) rfl ?_
  refine V_iconst (v := nI 1) (n := 1) (B.1 _) (by decide +kernel) (by decide) ?_
  refine V_iadd (B.1 _) (by decide +kernel) ?_
  refine L_ld B hX hbl (hin 1 (by decide)) (by decide +kernel) ?_
  refine L_callC B [.int (xs (nI i + nI 1).toNatClampNeg)] (c_Top_trace B.2.1 e1) (by decide) cw_Lw_170 rfl rfl (Nat.le_of_ble_eq_true rfl) rfl (by decide +kernel) ?_
  refine V_aload_n (B.1 _) 2 (j := 2) (by decide +kernel) rfl ?_
  refine V_aload_n (B.1 _) 0 (j := 0) (by decide +kernel) rfl ?_
  refine V_iload_n (B.1 _) 3 (j := 3) (by decide +kernel) rfl ?_
  refine V_iconst (v := nI 1) (n := 1) (B.1 _) (by decide +kernel) (by decide) ?_
  refine V_iadd (B.1 _) (by decide +kernel) ?_
  refine L_ld B hX hbl (hin 1 (by decide)) (by decide +kernel) ?_
  refine L_callM B [.int (xs (nI i + nI 1).toNatClampNeg)] (c_M_trace B.2.2.1 e2) (by decide) cw_Lw_173 rfl rfl (Nat.le_of_ble_eq_true rfl) rfl (by decide +kernel) ?_
  refine V_icmp_eq (pc := 1494) (tgt := 1801) (off := 307) (B.1 _) (by decide +kernel) (by decide) (if_pos rfl : (if r = r then true else false) = true) (fun _ => ?_) (fun h => by cases h)
  exact done _ _ hr
set_option maxRecDepth 20000 in
theorem lc_39 (B : LB E 4 A g a A' code "WithTheRedsLaw" 2048) (hX : va_X b L xs E.2.2.2.2.1 E.2.2.2.2.1.heap) (hbl : b < E.2.2.2.2.1.heap.size) (hin : ∀ k : Nat, k < 6 → vp_in (nI i + nI k) L) (hr : Rel σ τ) (done : ∀ σ' τ' : St, Rel σ' τ' → V E classes 4 (wL A g a A' τ') σ' 1801 (LV g a b i) []) : V E classes 4 (wL A g a A' τ) σ 1499 (LV g a b i) [] := by
  obtain ⟨r, σ', τ', e1, e2, e3⟩ := e_keep hr ((xs (nI i + nI 1).toNatClampNeg)) ((xs (nI i + nI 2).toNatClampNeg))
  refine V_aload_n (B.1 _) 1 (j := 1) (by decide +kernel) rfl ?_
  refine V_aload_n (B.1 _) 0 (j := 0) (by decide +kernel) rfl ?_
  refine V_iload_n (B.1 _) 3 (j := 3) (by decide +kernel) rfl ?_
  refine V_iconst (v := nI 1) (n := 1) (B.1 _) (by decide +kernel) (by decide) ?_
  refine V_iadd (B.1 _) (by decide +kernel) ?_
  refine L_ld B hX hbl (hin 1 (by decide)) (by decide +kernel) ?_
  refine V_aload_n (B.1 _) 0 (j := 0) (by decide +kernel) rfl ?_
  refine V_iload_n (B.1 _) 3 (j := 3) (by decide +kernel) rfl ?_
  refine V_iconst (v := nI 2) (n := 2) (B.1 _) (by decide +kernel) (by decide) ?_
  refine V_iadd (B.1 _) (by decide +kernel) ?_
  refine L_ld B hX hbl (hin 2 (by decide)) (by decide +kernel) ?_
  refine L_callC B [.int (xs (nI i + nI 1).toNatClampNeg), .int (xs (nI i + nI 2).toNatClampNeg)] (c_Top_keep B.2.1 e1) (by decide) cw_Lw_174 rfl rfl (Nat.le_of_ble_eq_true rfl) rfl (by decide +kernel) ?_
  refine V_aload_n (B.1 _) 2 (j := 2) (by decide +kernel) rfl ?_
  refine V_aload_n (B.1 _) 0 (j := 0) (by decide +kernel) rfl ?_
  refine V_iload_n (B.1 _) 3 (j := 3) (by decide +kernel) rfl ?_
  refine V_iconst (v := nI 1) (n := 1) (B.1 _) (by decide +kernel) (by decide) ?_
  refine V_iadd (B.1 _) (by decide +kernel) ?_
  refine L_ld B hX hbl (hin 1 (by decide)) (by decide +kernel) ?_
  refine V_aload_n (B.1 _) 0 (j := 0) (by decide +kernel) rfl ?_
  refine V_iload_n (B.1 _) 3 (j := 3) (by decide +kernel) rfl ?_
  refine V_iconst (v := nI 2) (n := 2) (B.1 _) (by decide +kernel) (by decide) ?_
  refine V_iadd (B.1 _) (by decide +kernel) ?_
  refine L_ld B hX hbl (hin 2 (by decide)) (by decide +kernel) ?_
  refine L_callM B [.int (xs (nI i + nI 1).toNatClampNeg), .int (xs (nI i + nI 2).toNatClampNeg)] (c_M_keep B.2.2.1 e2) (by decide) cw_Lw_177 rfl rfl (Nat.le_of_ble_eq_true rfl) rfl (by decide +kernel) ?_
  refine V_icmp_eq (pc := 1527) (tgt := 1801) (off := 274) (B.1 _) (by decide +kernel) (by decide) (if_pos rfl : (if r = r then true else false) = true) (fun _ => ?_) (fun h => by cases h)
  exact done _ _ e3
set_option maxRecDepth 20000 in
theorem lc_40 (B : LB E 4 A g a A' code "WithTheRedsLaw" 2048) (hX : va_X b L xs E.2.2.2.2.1 E.2.2.2.2.1.heap) (hbl : b < E.2.2.2.2.1.heap.size) (hin : ∀ k : Nat, k < 6 → vp_in (nI i + nI k) L) (hr : Rel σ τ) (done : ∀ σ' τ' : St, Rel σ' τ' → V E classes 4 (wL A g a A' τ') σ' 1801 (LV g a b i) []) : V E classes 4 (wL A g a A' τ) σ 1532 (LV g a b i) [] := by
  obtain ⟨r, σ', τ', e1, e2, e3⟩ := e_row hr ((xs (nI i + nI 1).toNatClampNeg)) ((xs (nI i + nI 2).toNatClampNeg)) ((xs (nI i + nI 3).toNatClampNeg))
  refine V_aload_n (B.1 _) 1 (j := 1) (by decide +kernel) rfl ?_
  refine V_aload_n (B.1 _) 0 (j := 0) (by decide +kernel) rfl ?_
  refine V_iload_n (B.1 _) 3 (j := 3) (by decide +kernel) rfl ?_
  refine V_iconst (v := nI 1) (n := 1) (B.1 _) (by decide +kernel) (by decide) ?_
  refine V_iadd (B.1 _) (by decide +kernel) ?_
  refine L_ld B hX hbl (hin 1 (by decide)) (by decide +kernel) ?_
  refine V_aload_n (B.1 _) 0 (j := 0) (by decide +kernel) rfl ?_
  refine V_iload_n (B.1 _) 3 (j := 3) (by decide +kernel) rfl ?_
  refine V_iconst (v := nI 2) (n := 2) (B.1 _) (by decide +kernel) (by decide) ?_
  refine V_iadd (B.1 _) (by decide +kernel) ?_
  refine L_ld B hX hbl (hin 2 (by decide)) (by decide +kernel) ?_
  refine V_aload_n (B.1 _) 0 (j := 0) (by decide +kernel) rfl ?_
  refine V_iload_n (B.1 _) 3 (j := 3) (by decide +kernel) rfl ?_
  refine V_iconst (v := nI 3) (n := 3) (B.1 _) (by decide +kernel) (by decide) ?_
  refine V_iadd (B.1 _) (by decide +kernel) ?_
  refine L_ld B hX hbl (hin 3 (by decide)) (by decide +kernel) ?_
  refine L_callC B [.int (xs (nI i + nI 1).toNatClampNeg), .int (xs (nI i + nI 2).toNatClampNeg), .int (xs (nI i + nI 3).toNatClampNeg)] (c_Top_row B.2.1 e1) (by decide) cw_Lw_178 rfl rfl (Nat.le_of_ble_eq_true rfl) rfl (by decide +kernel) ?_
  refine V_aload_n (B.1 _) 2 (j := 2) (by decide +kernel) rfl ?_
  refine V_aload_n (B.1 _) 0 (j := 0) (by decide +kernel) rfl ?_
  refine V_iload_n (B.1 _) 3 (j := 3) (by decide +kernel) rfl ?_
  refine V_iconst (v := nI 1) (n := 1) (B.1 _) (by decide +kernel) (by decide) ?_
  refine V_iadd (B.1 _) (by decide +kernel) ?_
  refine L_ld B hX hbl (hin 1 (by decide)) (by decide +kernel) ?_
  refine V_aload_n (B.1 _) 0 (j := 0) (by decide +kernel) rfl ?_
  refine V_iload_n (B.1 _) 3 (j := 3) (by decide +kernel) rfl ?_
  refine V_iconst (v := nI 2) (n := 2) (B.1 _) (by decide +kernel) (by decide) ?_
  refine V_iadd (B.1 _) (by decide +kernel) ?_
  refine L_ld B hX hbl (hin 2 (by decide)) (by decide +kernel) ?_
  refine V_aload_n (B.1 _) 0 (j := 0) (by decide +kernel) rfl ?_
  refine V_iload_n (B.1 _) 3 (j := 3) (by decide +kernel) rfl ?_
  refine V_iconst (v := nI 3) (n := 3) (B.1 _) (by decide +kernel) (by decide) ?_
  refine V_iadd (B.1 _) (by decide +kernel) ?_
  refine L_ld B hX hbl (hin 3 (by decide)) (by decide +kernel) ?_
  refine L_callM B [.int (xs (nI i + nI 1).toNatClampNeg), .int (xs (nI i + nI 2).toNatClampNeg), .int (xs (nI i + nI 3).toNatClampNeg)] (c_M_row B.2.2.1 e2) (by decide) cw_Lw_181 rfl rfl (Nat.le_of_ble_eq_true rfl) rfl (by decide +kernel) ?_
  refine V_icmp_eq (pc := 1570) (tgt := 1801) (off := 231) (B.1 _) (by decide +kernel) (by decide) (if_pos rfl : (if r = r then true else false) = true) (fun _ => ?_) (fun h => by cases h)
  exact done _ _ e3
set_option maxRecDepth 20000 in
theorem lc_41 (B : LB E 4 A g a A' code "WithTheRedsLaw" 2048) (hX : va_X b L xs E.2.2.2.2.1 E.2.2.2.2.1.heap) (hbl : b < E.2.2.2.2.1.heap.size) (hin : ∀ k : Nat, k < 6 → vp_in (nI i + nI k) L) (hr : Rel σ τ) (done : ∀ σ' τ' : St, Rel σ' τ' → V E classes 4 (wL A g a A' τ') σ' 1801 (LV g a b i) []) : V E classes 4 (wL A g a A' τ) σ 1575 (LV g a b i) [] := by
  obtain ⟨r, σ', τ', e1, e2, e3⟩ := e_put hr ((xs (nI i + nI 1).toNatClampNeg)) ((xs (nI i + nI 2).toNatClampNeg)) (((((xs (nI i + nI 3).toNatClampNeg)).toInt64 <<< ((32 : Int32).toInt64 &&& 63)) ||| (((xs (nI i + nI 4).toNatClampNeg)).toInt64 &&& (4294967295 : Int64))))
  refine V_aload_n (B.1 _) 1 (j := 1) (by decide +kernel) rfl ?_
  refine V_aload_n (B.1 _) 0 (j := 0) (by decide +kernel) rfl ?_
  refine V_iload_n (B.1 _) 3 (j := 3) (by decide +kernel) rfl ?_
  refine V_iconst (v := nI 1) (n := 1) (B.1 _) (by decide +kernel) (by decide) ?_
  refine V_iadd (B.1 _) (by decide +kernel) ?_
  refine L_ld B hX hbl (hin 1 (by decide)) (by decide +kernel) ?_
  refine V_aload_n (B.1 _) 0 (j := 0) (by decide +kernel) rfl ?_
  refine V_iload_n (B.1 _) 3 (j := 3) (by decide +kernel) rfl ?_
  refine V_iconst (v := nI 2) (n := 2) (B.1 _) (by decide +kernel) (by decide) ?_
  refine V_iadd (B.1 _) (by decide +kernel) ?_
  refine L_ld B hX hbl (hin 2 (by decide)) (by decide +kernel) ?_
  refine V_aload_n (B.1 _) 0 (j := 0) (by decide +kernel) rfl ?_
  refine V_iload_n (B.1 _) 3 (j := 3) (by decide +kernel) rfl ?_
  refine V_iconst (v := nI 3) (n := 3) (B.1 _) (by decide +kernel) (by decide) ?_
  refine V_iadd (B.1 _) (by decide +kernel) ?_
  refine L_ld B hX hbl (hin 3 (by decide)) (by decide +kernel) ?_
  refine V_i2l (B.1 _) (by decide +kernel) ?_
  refine V_bipush (v := 32) (n := 32) (B.1 _) (by decide +kernel) (by decide) ?_
  refine V_lshl (B.1 _) (by decide +kernel) ?_
  refine V_aload_n (B.1 _) 0 (j := 0) (by decide +kernel) rfl ?_
  refine V_iload_n (B.1 _) 3 (j := 3) (by decide +kernel) rfl ?_
  refine V_iconst (v := nI 4) (n := 4) (B.1 _) (by decide +kernel) (by decide) ?_
  refine V_iadd (B.1 _) (by decide +kernel) ?_
  refine L_ld B hX hbl (hin 4 (by decide)) (by decide +kernel) ?_
  refine V_i2l (B.1 _) (by decide +kernel) ?_
  refine V_ldc2 (v := 4294967295) (B.1 _) (tt_c8 149 rfl rfl) (by decide +kernel) ?_
  refine V_land (B.1 _) (by decide +kernel) ?_
  refine V_lor (B.1 _) (by decide +kernel) ?_
  refine L_callC B [.int (xs (nI i + nI 1).toNatClampNeg), .int (xs (nI i + nI 2).toNatClampNeg), .long ((((xs (nI i + nI 3).toNatClampNeg)).toInt64 <<< ((32 : Int32).toInt64 &&& 63)) ||| (((xs (nI i + nI 4).toNatClampNeg)).toInt64 &&& (4294967295 : Int64)))] (c_Top_put B.2.1 e1) (by decide) cw_Lw_184 rfl rfl (Nat.le_of_ble_eq_true rfl) rfl (by decide +kernel) ?_
  refine V_aload_n (B.1 _) 2 (j := 2) (by decide +kernel) rfl ?_
  refine V_aload_n (B.1 _) 0 (j := 0) (by decide +kernel) rfl ?_
  refine V_iload_n (B.1 _) 3 (j := 3) (by decide +kernel) rfl ?_
  refine V_iconst (v := nI 1) (n := 1) (B.1 _) (by decide +kernel) (by decide) ?_
  refine V_iadd (B.1 _) (by decide +kernel) ?_
  refine L_ld B hX hbl (hin 1 (by decide)) (by decide +kernel) ?_
  refine V_aload_n (B.1 _) 0 (j := 0) (by decide +kernel) rfl ?_
  refine V_iload_n (B.1 _) 3 (j := 3) (by decide +kernel) rfl ?_
  refine V_iconst (v := nI 2) (n := 2) (B.1 _) (by decide +kernel) (by decide) ?_
  refine V_iadd (B.1 _) (by decide +kernel) ?_
  refine L_ld B hX hbl (hin 2 (by decide)) (by decide +kernel) ?_
  refine V_aload_n (B.1 _) 0 (j := 0) (by decide +kernel) rfl ?_
  refine V_iload_n (B.1 _) 3 (j := 3) (by decide +kernel) rfl ?_
  refine V_iconst (v := nI 3) (n := 3) (B.1 _) (by decide +kernel) (by decide) ?_
  refine V_iadd (B.1 _) (by decide +kernel) ?_
  refine L_ld B hX hbl (hin 3 (by decide)) (by decide +kernel) ?_
  refine V_i2l (B.1 _) (by decide +kernel) ?_
  refine V_bipush (v := 32) (n := 32) (B.1 _) (by decide +kernel) (by decide) ?_
  refine V_lshl (B.1 _) (by decide +kernel) ?_
  refine V_aload_n (B.1 _) 0 (j := 0) (by decide +kernel) rfl ?_
  refine V_iload_n (B.1 _) 3 (j := 3) (by decide +kernel) rfl ?_
  refine V_iconst (v := nI 4) (n := 4) (B.1 _) (by decide +kernel) (by decide) ?_
  refine V_iadd (B.1 _) (by decide +kernel) ?_
  refine L_ld B hX hbl (hin 4 (by decide)) (by decide +kernel) ?_
  refine V_i2l (B.1 _) (by decide +kernel) ?_
  refine V_ldc2 (v := 4294967295) (B.1 _) (tt_c8 149 rfl rfl) (by decide +kernel) ?_
  refine V_land (B.1 _) (by decide +kernel) ?_
  refine V_lor (B.1 _) (by decide +kernel) ?_
  refine L_callM B [.int (xs (nI i + nI 1).toNatClampNeg), .int (xs (nI i + nI 2).toNatClampNeg), .long ((((xs (nI i + nI 3).toNatClampNeg)).toInt64 <<< ((32 : Int32).toInt64 &&& 63)) ||| (((xs (nI i + nI 4).toNatClampNeg)).toInt64 &&& (4294967295 : Int64)))] (c_M_put B.2.2.1 e2) (by decide) cw_Lw_188 rfl rfl (Nat.le_of_ble_eq_true rfl) rfl (by decide +kernel) ?_
  refine V_icmp_eq (pc := 1643) (tgt := 1801) (off := 158) (B.1 _) (by decide +kernel) (by decide) (if_pos rfl : (if r = r then true else false) = true) (fun _ => ?_) (fun h => by cases h)
  exact done _ _ e3
set_option maxRecDepth 20000 in
theorem lc_42 (B : LB E 4 A g a A' code "WithTheRedsLaw" 2048) (hX : va_X b L xs E.2.2.2.2.1 E.2.2.2.2.1.heap) (hbl : b < E.2.2.2.2.1.heap.size) (hin : ∀ k : Nat, k < 6 → vp_in (nI i + nI k) L) (hr : Rel σ τ) (done : ∀ σ' τ' : St, Rel σ' τ' → V E classes 4 (wL A g a A' τ') σ' 1801 (LV g a b i) []) : V E classes 4 (wL A g a A' τ) σ 1648 (LV g a b i) [] := by
  obtain ⟨r, e1, e2⟩ := e_element hr ((xs (nI i + nI 1).toNatClampNeg)) ((xs (nI i + nI 2).toNatClampNeg))
  refine V_aload_n (B.1 _) 1 (j := 1) (by decide +kernel) rfl ?_
  refine V_aload_n (B.1 _) 0 (j := 0) (by decide +kernel) rfl ?_
  refine V_iload_n (B.1 _) 3 (j := 3) (by decide +kernel) rfl ?_
  refine V_iconst (v := nI 1) (n := 1) (B.1 _) (by decide +kernel) (by decide) ?_
  refine V_iadd (B.1 _) (by decide +kernel) ?_
  refine L_ld B hX hbl (hin 1 (by decide)) (by decide +kernel) ?_
  refine V_aload_n (B.1 _) 0 (j := 0) (by decide +kernel) rfl ?_
  refine V_iload_n (B.1 _) 3 (j := 3) (by decide +kernel) rfl ?_
  refine V_iconst (v := nI 2) (n := 2) (B.1 _) (by decide +kernel) (by decide) ?_
  refine V_iadd (B.1 _) (by decide +kernel) ?_
  refine L_ld B hX hbl (hin 2 (by decide)) (by decide +kernel) ?_
  refine L_callCl B [.int (xs (nI i + nI 1).toNatClampNeg), .int (xs (nI i + nI 2).toNatClampNeg)] (c_Top_element B.2.1 e1) (by decide) cw_Lw_189 rfl rfl (Nat.le_of_ble_eq_true rfl) rfl (by decide +kernel) ?_
  refine V_aload_n (B.1 _) 2 (j := 2) (by decide +kernel) rfl ?_
  refine V_aload_n (B.1 _) 0 (j := 0) (by decide +kernel) rfl ?_
  refine V_iload_n (B.1 _) 3 (j := 3) (by decide +kernel) rfl ?_
  refine V_iconst (v := nI 1) (n := 1) (B.1 _) (by decide +kernel) (by decide) ?_
  refine V_iadd (B.1 _) (by decide +kernel) ?_
  refine L_ld B hX hbl (hin 1 (by decide)) (by decide +kernel) ?_
  refine V_aload_n (B.1 _) 0 (j := 0) (by decide +kernel) rfl ?_
  refine V_iload_n (B.1 _) 3 (j := 3) (by decide +kernel) rfl ?_
  refine V_iconst (v := nI 2) (n := 2) (B.1 _) (by decide +kernel) (by decide) ?_
  refine V_iadd (B.1 _) (by decide +kernel) ?_
  refine L_ld B hX hbl (hin 2 (by decide)) (by decide +kernel) ?_
  refine L_callMl B [.int (xs (nI i + nI 1).toNatClampNeg), .int (xs (nI i + nI 2).toNatClampNeg)] (c_M_element B.2.2.1 e2) (by decide) cw_Lw_193 rfl rfl (Nat.le_of_ble_eq_true rfl) rfl (by decide +kernel) ?_
  refine V_lcmp (B.1 _) (by decide +kernel) ?_
  refine V_if_eq (pc := 1677) (tgt := 1801) (off := 124) (B.1 _) (by decide +kernel) (by decide) (if_pos (lg_rf r) : (if lg_cmp r r = 0 then true else false) = true) (fun _ => ?_) (fun h => by cases h)
  exact done _ _ hr
set_option maxRecDepth 20000 in
theorem lc_43 (B : LB E 4 A g a A' code "WithTheRedsLaw" 2048) (hX : va_X b L xs E.2.2.2.2.1 E.2.2.2.2.1.heap) (hbl : b < E.2.2.2.2.1.heap.size) (hin : ∀ k : Nat, k < 6 → vp_in (nI i + nI k) L) (hr : Rel σ τ) (done : ∀ σ' τ' : St, Rel σ' τ' → V E classes 4 (wL A g a A' τ') σ' 1801 (LV g a b i) []) : V E classes 4 (wL A g a A' τ) σ 1682 (LV g a b i) [] := by
  obtain ⟨r, σ', τ', e1, e2, e3⟩ := e_shift hr ((xs (nI i + nI 1).toNatClampNeg)) ((xs (nI i + nI 2).toNatClampNeg)) ((xs (nI i + nI 3).toNatClampNeg)) ((xs (nI i + nI 4).toNatClampNeg)) ((xs (nI i + nI 5).toNatClampNeg))
  refine V_aload_n (B.1 _) 1 (j := 1) (by decide +kernel) rfl ?_
  refine V_aload_n (B.1 _) 0 (j := 0) (by decide +kernel) rfl ?_
  refine V_iload_n (B.1 _) 3 (j := 3) (by decide +kernel) rfl ?_
  refine V_iconst (v := nI 1) (n := 1) (B.1 _) (by decide +kernel) (by decide) ?_
  refine V_iadd (B.1 _) (by decide +kernel) ?_
  refine L_ld B hX hbl (hin 1 (by decide)) (by decide +kernel) ?_
  refine V_aload_n (B.1 _) 0 (j := 0) (by decide +kernel) rfl ?_
  refine V_iload_n (B.1 _) 3 (j := 3) (by decide +kernel) rfl ?_
  refine V_iconst (v := nI 2) (n := 2) (B.1 _) (by decide +kernel) (by decide) ?_
  refine V_iadd (B.1 _) (by decide +kernel) ?_
  refine L_ld B hX hbl (hin 2 (by decide)) (by decide +kernel) ?_
  refine V_aload_n (B.1 _) 0 (j := 0) (by decide +kernel) rfl ?_
  refine V_iload_n (B.1 _) 3 (j := 3) (by decide +kernel) rfl ?_
  refine V_iconst (v := nI 3) (n := 3) (B.1 _) (by decide +kernel) (by decide) ?_
  refine V_iadd (B.1 _) (by decide +kernel) ?_
  refine L_ld B hX hbl (hin 3 (by decide)) (by decide +kernel) ?_
  refine V_aload_n (B.1 _) 0 (j := 0) (by decide +kernel) rfl ?_
  refine V_iload_n (B.1 _) 3 (j := 3) (by decide +kernel) rfl ?_
  refine V_iconst (v := nI 4) (n := 4) (B.1 _) (by decide +kernel) (by decide) ?_
  refine V_iadd (B.1 _) (by decide +kernel) ?_
  refine L_ld B hX hbl (hin 4 (by decide)) (by decide +kernel) ?_
  refine V_aload_n (B.1 _) 0 (j := 0) (by decide +kernel) rfl ?_
  refine V_iload_n (B.1 _) 3 (j := 3) (by decide +kernel) rfl ?_
  refine V_iconst (v := nI 5) (n := 5) (B.1 _) (by decide +kernel) (by decide) ?_
  refine V_iadd (B.1 _) (by decide +kernel) ?_
  refine L_ld B hX hbl (hin 5 (by decide)) (by decide +kernel) ?_
  refine L_callC B [.int (xs (nI i + nI 1).toNatClampNeg), .int (xs (nI i + nI 2).toNatClampNeg), .int (xs (nI i + nI 3).toNatClampNeg), .int (xs (nI i + nI 4).toNatClampNeg), .int (xs (nI i + nI 5).toNatClampNeg)] (c_Top_shift B.2.1 e1) (by decide) cw_Lw_194 rfl rfl (Nat.le_of_ble_eq_true rfl) rfl (by decide +kernel) ?_
  refine V_aload_n (B.1 _) 2 (j := 2) (by decide +kernel) rfl ?_
  refine V_aload_n (B.1 _) 0 (j := 0) (by decide +kernel) rfl ?_
  refine V_iload_n (B.1 _) 3 (j := 3) (by decide +kernel) rfl ?_
  refine V_iconst (v := nI 1) (n := 1) (B.1 _) (by decide +kernel) (by decide) ?_
  refine V_iadd (B.1 _) (by decide +kernel) ?_
  refine L_ld B hX hbl (hin 1 (by decide)) (by decide +kernel) ?_
  refine V_aload_n (B.1 _) 0 (j := 0) (by decide +kernel) rfl ?_
  refine V_iload_n (B.1 _) 3 (j := 3) (by decide +kernel) rfl ?_
  refine V_iconst (v := nI 2) (n := 2) (B.1 _) (by decide +kernel) (by decide) ?_
  refine V_iadd (B.1 _) (by decide +kernel) ?_
  refine L_ld B hX hbl (hin 2 (by decide)) (by decide +kernel) ?_
  refine V_aload_n (B.1 _) 0 (j := 0) (by decide +kernel) rfl ?_
  refine V_iload_n (B.1 _) 3 (j := 3) (by decide +kernel) rfl ?_
  refine V_iconst (v := nI 3) (n := 3) (B.1 _) (by decide +kernel) (by decide) ?_
  refine V_iadd (B.1 _) (by decide +kernel) ?_
  refine L_ld B hX hbl (hin 3 (by decide)) (by decide +kernel) ?_
  refine V_aload_n (B.1 _) 0 (j := 0) (by decide +kernel) rfl ?_
  refine V_iload_n (B.1 _) 3 (j := 3) (by decide +kernel) rfl ?_
  refine V_iconst (v := nI 4) (n := 4) (B.1 _) (by decide +kernel) (by decide) ?_
  refine V_iadd (B.1 _) (by decide +kernel) ?_
  refine L_ld B hX hbl (hin 4 (by decide)) (by decide +kernel) ?_
  refine V_aload_n (B.1 _) 0 (j := 0) (by decide +kernel) rfl ?_
  refine V_iload_n (B.1 _) 3 (j := 3) (by decide +kernel) rfl ?_
  refine V_iconst (v := nI 5) (n := 5) (B.1 _) (by decide +kernel) (by decide) ?_
  refine V_iadd (B.1 _) (by decide +kernel) ?_
  refine L_ld B hX hbl (hin 5 (by decide)) (by decide +kernel) ?_
  refine L_callM B [.int (xs (nI i + nI 1).toNatClampNeg), .int (xs (nI i + nI 2).toNatClampNeg), .int (xs (nI i + nI 3).toNatClampNeg), .int (xs (nI i + nI 4).toNatClampNeg), .int (xs (nI i + nI 5).toNatClampNeg)] (c_M_shift B.2.2.1 e2) (by decide) cw_Lw_198 rfl rfl (Nat.le_of_ble_eq_true rfl) rfl (by decide +kernel) ?_
  refine V_icmp_eq (pc := 1740) (tgt := 1801) (off := 61) (B.1 _) (by decide +kernel) (by decide) (if_pos rfl : (if r = r then true else false) = true) (fun _ => ?_) (fun h => by cases h)
  exact done _ _ e3
set_option maxRecDepth 20000 in
theorem lc_44 (B : LB E 4 A g a A' code "WithTheRedsLaw" 2048) (hX : va_X b L xs E.2.2.2.2.1 E.2.2.2.2.1.heap) (hbl : b < E.2.2.2.2.1.heap.size) (hin : ∀ k : Nat, k < 6 → vp_in (nI i + nI k) L) (hr : Rel σ τ) (done : ∀ σ' τ' : St, Rel σ' τ' → V E classes 4 (wL A g a A' τ') σ' 1801 (LV g a b i) []) : V E classes 4 (wL A g a A' τ) σ 1745 (LV g a b i) [] := by
  obtain ⟨r, e1, e2⟩ := e_taken hr ((xs (nI i + nI 1).toNatClampNeg)) ((xs (nI i + nI 2).toNatClampNeg))
  refine V_aload_n (B.1 _) 1 (j := 1) (by decide +kernel) rfl ?_
  refine V_aload_n (B.1 _) 0 (j := 0) (by decide +kernel) rfl ?_
  refine V_iload_n (B.1 _) 3 (j := 3) (by decide +kernel) rfl ?_
  refine V_iconst (v := nI 1) (n := 1) (B.1 _) (by decide +kernel) (by decide) ?_
  refine V_iadd (B.1 _) (by decide +kernel) ?_
  refine L_ld B hX hbl (hin 1 (by decide)) (by decide +kernel) ?_
  refine V_aload_n (B.1 _) 0 (j := 0) (by decide +kernel) rfl ?_
  refine V_iload_n (B.1 _) 3 (j := 3) (by decide +kernel) rfl ?_
  refine V_iconst (v := nI 2) (n := 2) (B.1 _) (by decide +kernel) (by decide) ?_
  refine V_iadd (B.1 _) (by decide +kernel) ?_
  refine L_ld B hX hbl (hin 2 (by decide)) (by decide +kernel) ?_
  refine L_callC B [.int (xs (nI i + nI 1).toNatClampNeg), .int (xs (nI i + nI 2).toNatClampNeg)] (c_Top_taken B.2.1 e1) (by decide) cw_Lw_199 rfl rfl (Nat.le_of_ble_eq_true rfl) rfl (by decide +kernel) ?_
  refine V_aload_n (B.1 _) 2 (j := 2) (by decide +kernel) rfl ?_
  refine V_aload_n (B.1 _) 0 (j := 0) (by decide +kernel) rfl ?_
  refine V_iload_n (B.1 _) 3 (j := 3) (by decide +kernel) rfl ?_
  refine V_iconst (v := nI 1) (n := 1) (B.1 _) (by decide +kernel) (by decide) ?_
  refine V_iadd (B.1 _) (by decide +kernel) ?_
  refine L_ld B hX hbl (hin 1 (by decide)) (by decide +kernel) ?_
  refine V_aload_n (B.1 _) 0 (j := 0) (by decide +kernel) rfl ?_
  refine V_iload_n (B.1 _) 3 (j := 3) (by decide +kernel) rfl ?_
  refine V_iconst (v := nI 2) (n := 2) (B.1 _) (by decide +kernel) (by decide) ?_
  refine V_iadd (B.1 _) (by decide +kernel) ?_
  refine L_ld B hX hbl (hin 2 (by decide)) (by decide +kernel) ?_
  refine L_callM B [.int (xs (nI i + nI 1).toNatClampNeg), .int (xs (nI i + nI 2).toNatClampNeg)] (c_M_taken B.2.2.1 e2) (by decide) cw_Lw_202 rfl rfl (Nat.le_of_ble_eq_true rfl) rfl (by decide +kernel) ?_
  refine V_icmp_eq (pc := 1773) (tgt := 1801) (off := 28) (B.1 _) (by decide +kernel) (by decide) (if_pos rfl : (if r = r then true else false) = true) (fun _ => ?_) (fun h => by cases h)
  exact done _ _ hr
set_option maxRecDepth 20000 in
theorem lc_45 (B : LB E 4 A g a A' code "WithTheRedsLaw" 2048) (hX : va_X b L xs E.2.2.2.2.1 E.2.2.2.2.1.heap) (hbl : b < E.2.2.2.2.1.heap.size) (hin : ∀ k : Nat, k < 6 → vp_in (nI i + nI k) L) (hr : Rel σ τ) (done : ∀ σ' τ' : St, Rel σ' τ' → V E classes 4 (wL A g a A' τ') σ' 1801 (LV g a b i) []) : V E classes 4 (wL A g a A' τ) σ 1778 (LV g a b i) [] := by
  obtain ⟨r, e1, e2⟩ := e_count hr ((xs (nI i + nI 1).toNatClampNeg))
  refine V_aload_n (B.1 _) 1 (j := 1) (by decide +kernel) rfl ?_
  refine V_aload_n (B.1 _) 0 (j := 0) (by decide +kernel) rfl ?_
  refine V_iload_n (B.1 _) 3 (j := 3) (by decide +kernel) rfl ?_
  refine V_iconst (v := nI 1) (n := 1) (B.1 _) (by decide +kernel) (by decide) ?_
  refine V_iadd (B.1 _) (by decide +kernel) ?_
  refine L_ld B hX hbl (hin 1 (by decide)) (by decide +kernel) ?_
  refine L_callC B [.int (xs (nI i + nI 1).toNatClampNeg)] (c_Top_count B.2.1 e1) (by decide) cw_Lw_203 rfl rfl (Nat.le_of_ble_eq_true rfl) rfl (by decide +kernel) ?_
  refine V_aload_n (B.1 _) 2 (j := 2) (by decide +kernel) rfl ?_
  refine V_aload_n (B.1 _) 0 (j := 0) (by decide +kernel) rfl ?_
  refine V_iload_n (B.1 _) 3 (j := 3) (by decide +kernel) rfl ?_
  refine V_iconst (v := nI 1) (n := 1) (B.1 _) (by decide +kernel) (by decide) ?_
  refine V_iadd (B.1 _) (by decide +kernel) ?_
  refine L_ld B hX hbl (hin 1 (by decide)) (by decide +kernel) ?_
  refine L_callM B [.int (xs (nI i + nI 1).toNatClampNeg)] (c_M_count B.2.2.1 e2) (by decide) cw_Lw_206 rfl rfl (Nat.le_of_ble_eq_true rfl) rfl (by decide +kernel) ?_
  refine V_icmp_eq (pc := 1796) (tgt := 1801) (off := 5) (B.1 _) (by decide +kernel) (by decide) (if_pos rfl : (if r = r then true else false) = true) (fun _ => ?_) (fun h => by cases h)
  exact done _ _ hr
end CASES
