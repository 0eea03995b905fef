/-! the law's 46 cases, laid by cases.py -/
abbrev LV (g : Gx) (a : Nat → Nat) (b i : Nat) : List (Nat × Value) := [(0, .ref b), (1, .ref (g.2.1 0)), (2, .ref (a 0)), (3, .int (nI i))]
section CASES
variable {E : Ev} {g : Gx} {a : Nat → Nat} {A A' : Nat → Prop} {σ τ : St} {b L i : Nat} {xs : Nat → Int32}
set_option maxRecDepth 20000 in
theorem lc_0 (B : LB E 4 A g a A' code "WithTheRedsLaw" 2048) (hX : va_X b L xs E.2.2.2.2.1 E.2.2.2.2.1.heap) (hbl : b < E.2.2.2.2.1.heap.size) (hin : ∀ k : Nat, k < 6 → vp_in (nI i + nI k) L) (hr : Rel σ τ) (done : ∀ σ' τ' : St, Rel σ' τ' → V E classes 4 (wL A g a A' τ') σ' 1801 (LV g a b i) []) : V E classes 4 (wL A g a A' τ) σ 232 (LV g a b i) [] := by
  obtain ⟨r, σ', τ', e1, e2, e3⟩ := e_thing hr ((xs (nI i + nI 1).toNatClampNeg)) ((xs (nI i + nI 2).toNatClampNeg))
  refine V_aload_n (B.1 _) 1 (j := 1) (by decide +kernel) rfl ?_
  refine V_aload_n (B.1 _) 0 (j := 0) (by decide +kernel) rfl ?_
  refine V_iload_n (B.1 _) 3 (j := 3) (by decide +kernel) rfl ?_
  refine V_iconst (v := nI 1) (n := 1) (B.1 _) (by decide +kernel) (by decide) ?_
  refine V_iadd (B.1 _) (by decide +kernel) ?_
  refine L_ld B hX hbl (hin 1 (by decide)) (by decide +kernel) ?_
  refine V_aload_n (B.1 _) 0 (j := 0) (by decide +kernel) rfl ?_
  refine V_iload_n (B.1 _) 3 (j := 3) (by decide +kernel) rfl ?_
  refine V_iconst (v := nI 2) (n := 2) (B.1 _) (by decide +kernel) (by decide) ?_
  refine V_iadd (B.1 _) (by decide +kernel) ?_
  refine L_ld B hX hbl (hin 2 (by decide)) (by decide +kernel) ?_
  refine L_callC B [.int (xs (nI i + nI 1).toNatClampNeg), .int (xs (nI i + nI 2).toNatClampNeg)] (c_Top_thing B.2.1 e1) (by decide) cw_Lw_13 rfl rfl (Nat.le_of_ble_eq_true rfl) rfl (by decide +kernel) ?_
  refine V_aload_n (B.1 _) 2 (j := 2) (by decide +kernel) rfl ?_
  refine V_aload_n (B.1 _) 0 (j := 0) (by decide +kernel) rfl ?_
  refine V_iload_n (B.1 _) 3 (j := 3) (by decide +kernel) rfl ?_
  refine V_iconst (v := nI 1) (n := 1) (B.1 _) (by decide +kernel) (by decide) ?_
  refine V_iadd (B.1 _) (by decide +kernel) ?_
  refine L_ld B hX hbl (hin 1 (by decide)) (by decide +kernel) ?_
  refine V_aload_n (B.1 _) 0 (j := 0) (by decide +kernel) rfl ?_
  refine V_iload_n (B.1 _) 3 (j := 3) (by decide +kernel) rfl ?_
  refine V_iconst (v := nI 2) (n := 2) (B.1 _) (by decide +kernel) (by decide) ?_
  refine V_iadd (B.1 _) (by decide +kernel) ?_
  refine L_ld B hX hbl (hin 2 (by decide)) (by decide +kernel) ?_
  refine L_callM B [.int (xs (nI i + nI 1).toNatClampNeg), .int (xs (nI i + nI 2).toNatClampNeg)] (c_M_thing B.2.2.1 e2) (by decide) cw_Lw_17 rfl rfl (Nat.le_of_ble_eq_true rfl) rfl (by decide +kernel) ?_
  refine V_icmp_eq (pc := 260) (tgt := 1801) (off := 1541) (B.1 _) (by decide +kernel) (by decide) (if_pos rfl : (if r = r then true else false) = true) (fun _ => ?_) (fun h => by cases h)
  exact done _ _ e3
set_option maxRecDepth 20000 in
theorem lc_1 (B : LB E 4 A g a A' code "WithTheRedsLaw" 2048) (hX : va_X b L xs E.2.2.2.2.1 E.2.2.2.2.1.heap) (hbl : b < E.2.2.2.2.1.heap.size) (hin : ∀ k : Nat, k < 6 → vp_in (nI i + nI k) L) (hr : Rel σ τ) (done : ∀ σ' τ' : St, Rel σ' τ' → V E classes 4 (wL A g a A' τ') σ' 1801 (LV g a b i) []) : V E classes 4 (wL A g a A' τ) σ 265 (LV g a b i) [] := by
  obtain ⟨r, σ', τ', e1, e2, e3⟩ := e_things hr ((xs (nI i + nI 1).toNatClampNeg)) ((xs (nI i + nI 2).toNatClampNeg)) ((xs (nI i + nI 3).toNatClampNeg))
  refine V_aload_n (B.1 _) 1 (j := 1) (by decide +kernel) rfl ?_
  refine V_aload_n (B.1 _) 0 (j := 0) (by decide +kernel) rfl ?_
  refine V_iload_n (B.1 _) 3 (j := 3) (by decide +kernel) rfl ?_
  refine V_iconst (v := nI 1) (n := 1) (B.1 _) (by decide +kernel) (by decide) ?_
  refine V_iadd (B.1 _) (by decide +kernel) ?_
  refine L_ld B hX hbl (hin 1 (by decide)) (by decide +kernel) ?_
  refine V_aload_n (B.1 _) 0 (j := 0) (by decide +kernel) rfl ?_
  refine V_iload_n (B.1 _) 3 (j := 3) (by decide +kernel) rfl ?_
  refine V_iconst (v := nI 2) (n := 2) (B.1 _) (by decide +kernel) (by decide) ?_
  refine V_iadd (B.1 _) (by decide +kernel) ?_
  refine L_ld B hX hbl (hin 2 (by decide)) (by decide +kernel) ?_
  refine V_aload_n (B.1 _) 0 (j := 0) (by decide +kernel) rfl ?_
  refine V_iload_n (B.1 _) 3 (j := 3) (by decide +kernel) rfl ?_
  refine V_iconst (v := nI 3) (n := 3) (B.1 _) (by decide +kernel) (by decide) ?_
  refine V_iadd (B.1 _) (by decide +kernel) ?_
  refine L_ld B hX hbl (hin 3 (by decide)) (by decide +kernel) ?_
  refine L_callC B [.int (xs (nI i + nI 1).toNatClampNeg), .int (xs (nI i + nI 2).toNatClampNeg), .int (xs (nI i + nI 3).toNatClampNeg)] (c_Top_things B.2.1 e1) (by decide) cw_Lw_18 rfl rfl (Nat.le_of_ble_eq_true rfl) rfl (by decide +kernel) ?_
  refine V_aload_n (B.1 _) 2 (j := 2) (by decide +kernel) rfl ?_
  refine V_aload_n (B.1 _) 0 (j := 0) (by decide +kernel) rfl ?_
  refine V_iload_n (B.1 _) 3 (j := 3) (by decide +kernel) rfl ?_
  refine V_iconst (v := nI 1) (n := 1) (B.1 _) (by decide +kernel) (by decide) ?_
  refine V_iadd (B.1 _) (by decide +kernel) ?_
  refine L_ld B hX hbl (hin 1 (by decide)) (by decide +kernel) ?_
  refine V_aload_n (B.1 _) 0 (j := 0) (by decide +kernel) rfl ?_
  refine V_iload_n (B.1 _) 3 (j := 3) (by decide +kernel) rfl ?_
  refine V_iconst (v := nI 2) (n := 2) (B.1 _) (by decide +kernel) (by decide) ?_
  refine V_iadd (B.1 _) (by decide +kernel) ?_
  refine L_ld B hX hbl (hin 2 (by decide)) (by decide +kernel) ?_
  refine V_aload_n (B.1 _) 0 (j := 0) (by decide +kernel) rfl ?_
  refine V_iload_n (B.1 _) 3 (j := 3) (by decide +kernel) rfl ?_
  refine V_iconst (v := nI 3) (n := 3) (B.1 _) (by decide +kernel) (by decide) ?_
  refine V_iadd (B.1 _) (by decide +kernel) ?_
  refine L_ld B hX hbl (hin 3 (by decide)) (by decide +kernel) ?_
  refine L_callM B [.int (xs (nI i + nI 1).toNatClampNeg), .int (xs (nI i + nI 2).toNatClampNeg), .int (xs (nI i + nI 3).toNatClampNeg)] (c_M_things B.2.2.1 e2) (by decide) cw_Lw_22 rfl rfl (Nat.le_of_ble_eq_true rfl) rfl (by decide +kernel) ?_
  refine V_icmp_eq (pc := 303) (tgt := 1801) (off := 1498) (B.1 _) (by decide +kernel) (by decide) (if_pos rfl : (if r = r then true else false) = true) (fun _ => ?_) (fun h => by cases h)
  exact done _ _ e3
set_option maxRecDepth 20000 in
theorem lc_2 (B : LB E 4 A g a A' code "WithTheRedsLaw" 2048) (hX : va_X b L xs E.2.2.2.2.1 E.2.2.2.2.1.heap) (hbl : b < E.2.2.2.2.1.heap.size) (hin : ∀ k : Nat, k < 6 → vp_in (nI i + nI k) L) (hr : Rel σ τ) (done : ∀ σ' τ' : St, Rel σ' τ' → V E classes 4 (wL A g a A' τ') σ' 1801 (LV g a b i) []) : V E classes 4 (wL A g a A' τ) σ 308 (LV g a b i) [] := by
  obtain ⟨r, σ', τ', e1, e2, e3⟩ := e_mend hr ((xs (nI i + nI 1).toNatClampNeg)) ((xs (nI i + nI 2).toNatClampNeg)) ((xs (nI i + nI 3).toNatClampNeg))
  refine V_aload_n (B.1 _) 1 (j := 1) (by decide +kernel) rfl ?_
  refine V_aload_n (B.1 _) 0 (j := 0) (by decide +kernel) rfl ?_
  refine V_iload_n (B.1 _) 3 (j := 3) (by decide +kernel) rfl ?_
  refine V_iconst (v := nI 1) (n := 1) (B.1 _) (by decide +kernel) (by decide) ?_
  refine V_iadd (B.1 _) (by decide +kernel) ?_
  refine L_ld B hX hbl (hin 1 (by decide)) (by decide +kernel) ?_
  refine V_aload_n (B.1 _) 0 (j := 0) (by decide +kernel) rfl ?_
  refine V_iload_n (B.1 _) 3 (j := 3) (by decide +kernel) rfl ?_
  refine V_iconst (v := nI 2) (n := 2) (B.1 _) (by decide +kernel) (by decide) ?_
  refine V_iadd (B.1 _) (by decide +kernel) ?_
  refine L_ld B hX hbl (hin 2 (by decide)) (by decide +kernel) ?_
  refine V_aload_n (B.1 _) 0 (j := 0) (by decide +kernel) rfl ?_
  refine V_iload_n (B.1 _) 3 (j := 3) (by decide +kernel) rfl ?_
  refine V_iconst (v := nI 3) (n := 3) (B.1 _) (by decide +kernel) (by decide) ?_
  refine V_iadd (B.1 _) (by decide +kernel) ?_
  refine L_ld B hX hbl (hin 3 (by decide)) (by decide +kernel) ?_
  refine L_callC B [.int (xs (nI i + nI 1).toNatClampNeg), .int (xs (nI i + nI 2).toNatClampNeg), .int (xs (nI i + nI 3).toNatClampNeg)] (c_Top_mend B.2.1 e1) (by decide) cw_Lw_23 rfl rfl (Nat.le_of_ble_eq_true rfl) rfl (by decide +kernel) ?_
  refine V_aload_n (B.1 _) 2 (j := 2) (by decide +kernel) rfl ?_
  refine V_aload_n (B.1 _) 0 (j := 0) (by decide +kernel) rfl ?_
  refine V_iload_n (B.1 _) 3 (j := 3) (by decide +kernel) rfl ?_
  refine V_iconst (v := nI 1) (n := 1) (B.1 _) (by decide +kernel) (by decide) ?_
  refine V_iadd (B.1 _) (by decide +kernel) ?_
  refine L_ld B hX hbl (hin 1 (by decide)) (by decide +kernel) ?_
  refine V_aload_n (B.1 _) 0 (j := 0) (by decide +kernel) rfl ?_
  refine V_iload_n (B.1 _) 3 (j := 3) (by decide +kernel) rfl ?_
  refine V_iconst (v := nI 2) (n := 2) (B.1 _) (by decide +kernel) (by decide) ?_
  refine V_iadd (B.1 _) (by decide +kernel) ?_
  refine L_ld B hX hbl (hin 2 (by decide)) (by decide +kernel) ?_
  refine V_aload_n (B.1 _) 0 (j := 0) (by decide +kernel) rfl ?_
  refine V_iload_n (B.1 _) 3 (j := 3) (by decide +kernel) rfl ?_
  refine V_iconst (v := nI 3) (n := 3) (B.1 _) (by decide +kernel) (by decide) ?_
  refine V_iadd (B.1 _) (by decide +kernel) ?_
  refine L_ld B hX hbl (hin 3 (by decide)) (by decide +kernel) ?_
  refine L_callM B [.int (xs (nI i + nI 1).toNatClampNeg), .int (xs (nI i + nI 2).toNatClampNeg), .int (xs (nI i + nI 3).toNatClampNeg)] (c_M_mend B.2.2.1 e2) (by decide) cw_Lw_26 rfl rfl (Nat.le_of_ble_eq_true rfl) rfl (by decide +kernel) ?_
  refine V_icmp_eq (pc := 346) (tgt := 1801) (off := 1455) (B.1 _) (by decide +kernel) (by decide) (if_pos rfl : (if r = r then true else false) = true) (fun _ => ?_) (fun h => by cases h)
  exact done _ _ e3
set_option maxRecDepth 20000 in
theorem lc_3 (B : LB E 4 A g a A' code "WithTheRedsLaw" 2048) (hX : va_X b L xs E.2.2.2.2.1 E.2.2.2.2.1.heap) (hbl : b < E.2.2.2.2.1.heap.size) (hin : ∀ k : Nat, k < 6 → vp_in (nI i + nI k) L) (hr : Rel σ τ) (done : ∀ σ' τ' : St, Rel σ' τ' → V E classes 4 (wL A g a A' τ') σ' 1801 (LV g a b i) []) : V E classes 4 (wL A g a A' τ) σ 351 (LV g a b i) [] := by
  obtain ⟨r, e1, e2⟩ := e_of hr ((xs (nI i + nI 1).toNatClampNeg)) ((xs (nI i + nI 2).toNatClampNeg))
  refine V_aload_n (B.1 _) 1 (j := 1) (by decide +kernel) rfl ?_
  refine V_aload_n (B.1 _) 0 (j := 0) (by decide +kernel) rfl ?_
  refine V_iload_n (B.1 _) 3 (j := 3) (by decide +kernel) rfl ?_
  refine V_iconst (v := nI 1) (n := 1) (B.1 _) (by decide +kernel) (by decide) ?_
  refine V_iadd (B.1 _) (by decide +kernel) ?_
  refine L_ld B hX hbl (hin 1 (by decide)) (by decide +kernel) ?_
  refine V_aload_n (B.1 _) 0 (j := 0) (by decide +kernel) rfl ?_
  refine V_iload_n (B.1 _) 3 (j := 3) (by decide +kernel) rfl ?_
  refine V_iconst (v := nI 2) (n := 2) (B.1 _) (by decide +kernel) (by decide) ?_
  refine V_iadd (B.1 _) (by decide +kernel) ?_
  refine L_ld B hX hbl (hin 2 (by decide)) (by decide +kernel) ?_
  refine L_callC B [.int (xs (nI i + nI 1).toNatClampNeg), .int (xs (nI i + nI 2).toNatClampNeg)] (c_Top_of B.2.1 e1) (by decide) cw_Lw_27 rfl rfl (Nat.le_of_ble_eq_true rfl) rfl (by decide +kernel) ?_
  refine V_aload_n (B.1 _) 2 (j := 2) (by decide +kernel) rfl ?_
  refine V_aload_n (B.1 _) 0 (j := 0) (by decide +kernel) rfl ?_
  refine V_iload_n (B.1 _) 3 (j := 3) (by decide +kernel) rfl ?_
  refine V_iconst (v := nI 1) (n := 1) (B.1 _) (by decide +kernel) (by decide) ?_
  refine V_iadd (B.1 _) (by decide +kernel) ?_
  refine L_ld B hX hbl (hin 1 (by decide)) (by decide +kernel) ?_
  refine V_aload_n (B.1 _) 0 (j := 0) (by decide +kernel) rfl ?_
  refine V_iload_n (B.1 _) 3 (j := 3) (by decide +kernel) rfl ?_
  refine V_iconst (v := nI 2) (n := 2) (B.1 _) (by decide +kernel) (by decide) ?_
  refine V_iadd (B.1 _) (by decide +kernel) ?_
  refine L_ld B hX hbl (hin 2 (by decide)) (by decide +kernel) ?_
  refine L_callM B [.int (xs (nI i + nI 1).toNatClampNeg), .int (xs (nI i + nI 2).toNatClampNeg)] (c_M_of B.2.2.1 e2) (by decide) cw_Lw_30 rfl rfl (Nat.le_of_ble_eq_true rfl) rfl (by decide +kernel) ?_
  refine V_icmp_eq (pc := 379) (tgt := 1801) (off := 1422) (B.1 _) (by decide +kernel) (by decide) (if_pos rfl : (if r = r then true else false) = true) (fun _ => ?_) (fun h => by cases h)
  exact done _ _ hr
set_option maxRecDepth 20000 in
theorem lc_4 (B : LB E 4 A g a A' code "WithTheRedsLaw" 2048) (hX : va_X b L xs E.2.2.2.2.1 E.2.2.2.2.1.heap) (hbl : b < E.2.2.2.2.1.heap.size) (hin : ∀ k : Nat, k < 6 → vp_in (nI i + nI k) L) (hr : Rel σ τ) (done : ∀ σ' τ' : St, Rel σ' τ' → V E classes 4 (wL A g a A' τ') σ' 1801 (LV g a b i) []) : V E classes 4 (wL A g a A' τ) σ 384 (LV g a b i) [] := by
  obtain ⟨r, σ', τ', e1, e2, e3⟩ := e_feed hr ((xs (nI i + nI 1).toNatClampNeg))
  refine V_aload_n (B.1 _) 1 (j := 1) (by decide +kernel) rfl ?_
  refine V_aload_n (B.1 _) 0 (j := 0) (by decide +kernel) rfl ?_
  refine V_iload_n (B.1 _) 3 (j := 3) (by decide +kernel) rfl ?_
  refine V_iconst (v := nI 1) (n := 1) (B.1 _) (by decide +kernel) (by decide) ?_
  refine V_iadd (B.1 _) (by decide +kernel) ?_
  refine L_ld B hX hbl (hin 1 (by decide)) (by decide +kernel) ?_
  refine L_callC B [.int (xs (nI i + nI 1).toNatClampNeg)] (c_Top_feed B.2.1 e1) (by decide) cw_Lw_31 rfl rfl (Nat.le_of_ble_eq_true rfl) rfl (by decide +kernel) ?_
  refine V_aload_n (B.1 _) 2 (j := 2) (by decide +kernel) rfl ?_
  refine V_aload_n (B.1 _) 0 (j := 0) (by decide +kernel) rfl ?_
  refine V_iload_n (B.1 _) 3 (j := 3) (by decide +kernel) rfl ?_
  refine V_iconst (v := nI 1) (n := 1) (B.1 _) (by decide +kernel) (by decide) ?_
  refine V_iadd (B.1 _) (by decide +kernel) ?_
  refine L_ld B hX hbl (hin 1 (by decide)) (by decide +kernel) ?_
  refine L_callM B [.int (xs (nI i + nI 1).toNatClampNeg)] (c_M_feed B.2.2.1 e2) (by decide) cw_Lw_35 rfl rfl (Nat.le_of_ble_eq_true rfl) rfl (by decide +kernel) ?_
  refine V_icmp_eq (pc := 402) (tgt := 1801) (off := 1399) (B.1 _) (by decide +kernel) (by decide) (if_pos rfl : (if r = r then true else false) = true) (fun _ => ?_) (fun h => by cases h)
  exact done _ _ e3
set_option maxRecDepth 20000 in
theorem lc_5 (B : LB E 4 A g a A' code "WithTheRedsLaw" 2048) (hX : va_X b L xs E.2.2.2.2.1 E.2.2.2.2.1.heap) (hbl : b < E.2.2.2.2.1.heap.size) (hin : ∀ k : Nat, k < 6 → vp_in (nI i + nI k) L) (hr : Rel σ τ) (done : ∀ σ' τ' : St, Rel σ' τ' → V E classes 4 (wL A g a A' τ') σ' 1801 (LV g a b i) []) : V E classes 4 (wL A g a A' τ) σ 407 (LV g a b i) [] := by
  obtain ⟨r, σ', τ', e1, e2, e3⟩ := e_law hr
  refine V_aload_n (B.1 _) 1 (j := 1) (by decide +kernel) rfl ?_
  refine L_callC B [] (c_Top_law B.2.1 e1) (by decide) cw_Lw_36 rfl rfl (Nat.le_of_ble_eq_true rfl) rfl (by decide +kernel) ?_
  refine V_aload_n (B.1 _) 2 (j := 2) (by decide +kernel) rfl ?_
  refine L_callM B [] (c_M_law B.2.2.1 e2) (by decide) cw_Lw_40 rfl rfl (Nat.le_of_ble_eq_true rfl) rfl (by decide +kernel) ?_
  refine V_icmp_eq (pc := 415) (tgt := 1801) (off := 1386) (B.1 _) (by decide +kernel) (by decide) (if_pos rfl : (if r = r then true else false) = true) (fun _ => ?_) (fun h => by cases h)
  exact done _ _ e3
set_option maxRecDepth 20000 in
theorem lc_6 (B : LB E 4 A g a A' code "WithTheRedsLaw" 2048) (hX : va_X b L xs E.2.2.2.2.1 E.2.2.2.2.1.heap) (hbl : b < E.2.2.2.2.1.heap.size) (hin : ∀ k : Nat, k < 6 → vp_in (nI i + nI k) L) (hr : Rel σ τ) (done : ∀ σ' τ' : St, Rel σ' τ' → V E classes 4 (wL A g a A' τ') σ' 1801 (LV g a b i) []) : V E classes 4 (wL A g a A' τ) σ 420 (LV g a b i) [] := by
  obtain ⟨r, σ', τ', e1, e2, e3⟩ := e_gives hr ((xs (nI i + nI 1).toNatClampNeg)) ((xs (nI i + nI 2).toNatClampNeg))
  refine V_aload_n (B.1 _) 1 (j := 1) (by decide +kernel) rfl ?_
  refine V_aload_n (B.1 _) 0 (j := 0) (by decide +kernel) rfl ?_
  refine V_iload_n (B.1 _) 3 (j := 3) (by decide +kernel) rfl ?_
  refine V_iconst (v := nI 1) (n := 1) (B.1 _) (by decide +kernel) (by decide) ?_
  refine V_iadd (B.1 _) (by decide +kernel) ?_
  refine L_ld B hX hbl (hin 1 (by decide)) (by decide +kernel) ?_
  refine V_aload_n (B.1 _) 0 (j := 0) (by decide +kernel) rfl ?_
  refine V_iload_n (B.1 _) 3 (j := 3) (by decide +kernel) rfl ?_
  refine V_iconst (v := nI 2) (n := 2) (B.1 _) (by decide +kernel) (by decide) ?_
  refine V_iadd (B.1 _) (by decide +kernel) ?_
  refine L_ld B hX hbl (hin 2 (by decide)) (by decide +kernel) ?_
  refine L_callC B [.int (xs (nI i + nI 1).toNatClampNeg), .int (xs (nI i + nI 2).toNatClampNeg)] (c_Top_gives B.2.1 e1) (by decide) cw_Lw_41 rfl rfl (Nat.le_of_ble_eq_true rfl) rfl (by decide +kernel) ?_
  refine V_aload_n (B.1 _) 2 (j := 2) (by decide +kernel) rfl ?_
  refine V_aload_n (B.1 _) 0 (j := 0) (by decide +kernel) rfl ?_
  refine V_iload_n (B.1 _) 3 (j := 3) (by decide +kernel) rfl ?_
  refine V_iconst (v := nI 1) (n := 1) (B.1 _) (by decide +kernel) (by decide) ?_
  refine V_iadd (B.1 _) (by decide +kernel) ?_
  refine L_ld B hX hbl (hin 1 (by decide)) (by decide +kernel) ?_
  refine V_aload_n (B.1 _) 0 (j := 0) (by decide +kernel) rfl ?_
  refine V_iload_n (B.1 _) 3 (j := 3) (by decide +kernel) rfl ?_
  refine V_iconst (v := nI 2) (n := 2) (B.1 _) (by decide +kernel) (by decide) ?_
  refine V_iadd (B.1 _) (by decide +kernel) ?_
  refine L_ld B hX hbl (hin 2 (by decide)) (by decide +kernel) ?_
  refine L_callM B [.int (xs (nI i + nI 1).toNatClampNeg), .int (xs (nI i + nI 2).toNatClampNeg)] (c_M_gives B.2.2.1 e2) (by decide) cw_Lw_44 rfl rfl (Nat.le_of_ble_eq_true rfl) rfl (by decide +kernel) ?_
  refine V_icmp_eq (pc := 448) (tgt := 1801) (off := 1353) (B.1 _) (by decide +kernel) (by decide) (if_pos rfl : (if r = r then true else false) = true) (fun _ => ?_) (fun h => by cases h)
  exact done _ _ e3
set_option maxRecDepth 20000 in
theorem lc_7 (B : LB E 4 A g a A' code "WithTheRedsLaw" 2048) (hX : va_X b L xs E.2.2.2.2.1 E.2.2.2.2.1.heap) (hbl : b < E.2.2.2.2.1.heap.size) (hin : ∀ k : Nat, k < 6 → vp_in (nI i + nI k) L) (hr : Rel σ τ) (done : ∀ σ' τ' : St, Rel σ' τ' → V E classes 4 (wL A g a A' τ') σ' 1801 (LV g a b i) []) : V E classes 4 (wL A g a A' τ) σ 453 (LV g a b i) [] := by
  obtain ⟨r, σ', τ', e1, e2, e3⟩ := e_run hr ((xs (nI i + nI 1).toNatClampNeg)) ((xs (nI i + nI 2).toNatClampNeg)) ((xs (nI i + nI 3).toNatClampNeg))
  refine V_aload_n (B.1 _) 1 (j := 1) (by decide +kernel) rfl ?_
  refine V_aload_n (B.1 _) 0 (j := 0) (by decide +kernel) rfl ?_
  refine V_iload_n (B.1 _) 3 (j := 3) (by decide +kernel) rfl ?_
  refine V_iconst (v := nI 1) (n := 1) (B.1 _) (by decide +kernel) (by decide) ?_
  refine V_iadd (B.1 _) (by decide +kernel) ?_
  refine L_ld B hX hbl (hin 1 (by decide)) (by decide +kernel) ?_
  refine V_aload_n (B.1 _) 0 (j := 0) (by decide +kernel) rfl ?_
  refine V_iload_n (B.1 _) 3 (j := 3) (by decide +kernel) rfl ?_
  refine V_iconst (v := nI 2) (n := 2) (B.1 _) (by decide +kernel) (by decide) ?_
  refine V_iadd (B.1 _) (by decide +kernel) ?_
  refine L_ld B hX hbl (hin 2 (by decide)) (by decide +kernel) ?_
  refine V_aload_n (B.1 _) 0 (j := 0) (by decide +kernel) rfl ?_
  refine V_iload_n (B.1 _) 3 (j := 3) (by decide +kernel) rfl ?_
  refine V_iconst (v := nI 3) (n := 3) (B.1 _) (by decide +kernel) (by decide) ?_
  refine V_iadd (B.1 _) (by decide +kernel) ?_
  refine L_ld B hX hbl (hin 3 (by decide)) (by decide +kernel) ?_
  refine L_callC B [.int (xs (nI i + nI 1).toNatClampNeg), .int (xs (nI i + nI 2).toNatClampNeg), .int (xs (nI i + nI 3).toNatClampNeg)] (c_Top_run B.2.1 e1) (by decide) cw_Lw_45 rfl rfl (Nat.le_of_ble_eq_true rfl) rfl (by decide +kernel) ?_
  refine V_aload_n (B.1 _) 2 (j := 2) (by decide +kernel) rfl ?_
  refine V_aload_n (B.1 _) 0 (j := 0) (by decide +kernel) rfl ?_
  refine V_iload_n (B.1 _) 3 (j := 3) (by decide +kernel) rfl ?_
  refine V_iconst (v := nI 1) (n := 1) (B.1 _) (by decide +kernel) (by decide) ?_
  refine V_iadd (B.1 _) (by decide +kernel) ?_
  refine L_ld B hX hbl (hin 1 (by decide)) (by decide +kernel) ?_
  refine V_aload_n (B.1 _) 0 (j := 0) (by decide +kernel) rfl ?_
  refine V_iload_n (B.1 _) 3 (j := 3) (by decide +kernel) rfl ?_
  refine V_iconst (v := nI 2) (n := 2) (B.1 _) (by decide +kernel) (by decide) ?_
  refine V_iadd (B.1 _) (by decide +kernel) ?_
  refine L_ld B hX hbl (hin 2 (by decide)) (by decide +kernel) ?_
  refine V_aload_n (B.1 _) 0 (j := 0) (by decide +kernel) rfl ?_
  refine V_iload_n (B.1 _) 3 (j := 3) (by decide +kernel) rfl ?_
  refine V_iconst (v := nI 3) (n := 3) (B.1 _) (by decide +kernel) (by decide) ?_
  refine V_iadd (B.1 _) (by decide +kernel) ?_
  refine L_ld B hX hbl (hin 3 (by decide)) (by decide +kernel) ?_
  refine L_callM B [.int (xs (nI i + nI 1).toNatClampNeg), .int (xs (nI i + nI 2).toNatClampNeg), .int (xs (nI i + nI 3).toNatClampNeg)] (c_M_run B.2.2.1 e2) (by decide) cw_Lw_48 rfl rfl (Nat.le_of_ble_eq_true rfl) rfl (by decide +kernel) ?_
  refine V_icmp_eq (pc := 491) (tgt := 1801) (off := 1310) (B.1 _) (by decide +kernel) (by decide) (if_pos rfl : (if r = r then true else false) = true) (fun _ => ?_) (fun h => by cases h)
  exact done _ _ e3
set_option maxRecDepth 20000 in
theorem lc_8 (B : LB E 4 A g a A' code "WithTheRedsLaw" 2048) (hX : va_X b L xs E.2.2.2.2.1 E.2.2.2.2.1.heap) (hbl : b < E.2.2.2.2.1.heap.size) (hin : ∀ k : Nat, k < 6 → vp_in (nI i + nI k) L) (hr : Rel σ τ) (done : ∀ σ' τ' : St, Rel σ' τ' → V E classes 4 (wL A g a A' τ') σ' 1801 (LV g a b i) []) : V E classes 4 (wL A g a A' τ) σ 496 (LV g a b i) [] := by
  obtain ⟨r, σ', τ', e1, e2, e3⟩ := e_tint hr ((xs (nI i + nI 1).toNatClampNeg)) ((xs (nI i + nI 2).toNatClampNeg)) ((xs (nI i + nI 3).toNatClampNeg))
  refine V_aload_n (B.1 _) 1 (j := 1) (by decide +kernel) rfl ?_
  refine V_aload_n (B.1 _) 0 (j := 0) (by decide +kernel) rfl ?_
  refine V_iload_n (B.1 _) 3 (j := 3) (by decide +kernel) rfl ?_
  refine V_iconst (v := nI 1) (n := 1) (B.1 _) (by decide +kernel) (by decide) ?_
  refine V_iadd (B.1 _) (by decide +kernel) ?_
  refine L_ld B hX hbl (hin 1 (by decide)) (by decide +kernel) ?_
  refine V_aload_n (B.1 _) 0 (j := 0) (by decide +kernel) rfl ?_
  refine V_iload_n (B.1 _) 3 (j := 3) (by decide +kernel) rfl ?_
  refine V_iconst (v := nI 2) (n := 2) (B.1 _) (by decide +kernel) (by decide) ?_
  refine V_iadd (B.1 _) (by decide +kernel) ?_
  refine L_ld B hX hbl (hin 2 (by decide)) (by decide +kernel) ?_
  refine V_aload_n (B.1 _) 0 (j := 0) (by decide +kernel) rfl ?_
  refine V_iload_n (B.1 _) 3 (j := 3) (by decide +kernel) rfl ?_
  refine V_iconst (v := nI 3) (n := 3) (B.1 _) (by decide +kernel) (by decide) ?_
  refine V_iadd (B.1 _) (by decide +kernel) ?_
  refine L_ld B hX hbl (hin 3 (by decide)) (by decide +kernel) ?_
  refine L_callC B [.int (xs (nI i + nI 1).toNatClampNeg), .int (xs (nI i + nI 2).toNatClampNeg), .int (xs (nI i + nI 3).toNatClampNeg)] (c_Top_tint B.2.1 e1) (by decide) cw_Lw_49 rfl rfl (Nat.le_of_ble_eq_true rfl) rfl (by decide +kernel) ?_
  refine V_aload_n (B.1 _) 2 (j := 2) (by decide +kernel) rfl ?_
  refine V_aload_n (B.1 _) 0 (j := 0) (by decide +kernel) rfl ?_
  refine V_iload_n (B.1 _) 3 (j := 3) (by decide +kernel) rfl ?_
  refine V_iconst (v := nI 1) (n := 1) (B.1 _) (by decide +kernel) (by decide) ?_
  refine V_iadd (B.1 _) (by decide +kernel) ?_
  refine L_ld B hX hbl (hin 1 (by decide)) (by decide +kernel) ?_
  refine V_aload_n (B.1 _) 0 (j := 0) (by decide +kernel) rfl ?_
  refine V_iload_n (B.1 _) 3 (j := 3) (by decide +kernel) rfl ?_
  refine V_iconst (v := nI 2) (n := 2) (B.1 _) (by decide +kernel) (by decide) ?_
  refine V_iadd (B.1 _) (by decide +kernel) ?_
  refine L_ld B hX hbl (hin 2 (by decide)) (by decide +kernel) ?_
  refine V_aload_n (B.1 _) 0 (j := 0) (by decide +kernel) rfl ?_
  refine V_iload_n (B.1 _) 3 (j := 3) (by decide +kernel) rfl ?_
  refine V_iconst (v := nI 3) (n := 3) (B.1 _) (by decide +kernel) (by decide) ?_
  refine V_iadd (B.1 _) (by decide +kernel) ?_
  refine L_ld B hX hbl (hin 3 (by decide)) (by decide +kernel) ?_
  refine L_callM B [.int (xs (nI i + nI 1).toNatClampNeg), .int (xs (nI i + nI 2).toNatClampNeg), .int (xs (nI i + nI 3).toNatClampNeg)] (c_M_tint B.2.2.1 e2) (by decide) cw_Lw_52 rfl rfl (Nat.le_of_ble_eq_true rfl) rfl (by decide +kernel) ?_
  refine V_icmp_eq (pc := 534) (tgt := 1801) (off := 1267) (B.1 _) (by decide +kernel) (by decide) (if_pos rfl : (if r = r then true else false) = true) (fun _ => ?_) (fun h => by cases h)
  exact done _ _ e3
set_option maxRecDepth 20000 in
theorem lc_9 (B : LB E 4 A g a A' code "WithTheRedsLaw" 2048) (hX : va_X b L xs E.2.2.2.2.1 E.2.2.2.2.1.heap) (hbl : b < E.2.2.2.2.1.heap.size) (hin : ∀ k : Nat, k < 6 → vp_in (nI i + nI k) L) (hr : Rel σ τ) (done : ∀ σ' τ' : St, Rel σ' τ' → V E classes 4 (wL A g a A' τ') σ' 1801 (LV g a b i) []) : V E classes 4 (wL A g a A' τ) σ 539 (LV g a b i) [] := by
  obtain ⟨r, σ', τ', e1, e2, e3⟩ := e_safe hr ((xs (nI i + nI 1).toNatClampNeg)) ((xs (nI i + nI 2).toNatClampNeg)) ((xs (nI i + nI 3).toNatClampNeg))
  refine V_aload_n (B.1 _) 1 (j := 1) (by decide +kernel) rfl ?_
  refine V_aload_n (B.1 _) 0 (j := 0) (by decide +kernel) rfl ?_
  refine V_iload_n (B.1 _) 3 (j := 3) (by decide +kernel) rfl ?_
  refine V_iconst (v := nI 1) (n := 1) (B.1 _) (by decide +kernel) (by decide) ?_
  refine V_iadd (B.1 _) (by decide +kernel) ?_
  refine L_ld B hX hbl (hin 1 (by decide)) (by decide +kernel) ?_
  refine V_aload_n (B.1 _) 0 (j := 0) (by decide +kernel) rfl ?_
  refine V_iload_n (B.1 _) 3 (j := 3) (by decide +kernel) rfl ?_
  refine V_iconst (v := nI 2) (n := 2) (B.1 _) (by decide +kernel) (by decide) ?_
  refine V_iadd (B.1 _) (by decide +kernel) ?_
  refine L_ld B hX hbl (hin 2 (by decide)) (by decide +kernel) ?_
  refine V_aload_n (B.1 _) 0 (j := 0) (by decide +kernel) rfl ?_
  refine V_iload_n (B.1 _) 3 (j := 3) (by decide +kernel) rfl ?_
  refine V_iconst (v := nI 3) (n := 3) (B.1 _) (by decide +kernel) (by decide) ?_
  refine V_iadd (B.1 _) (by decide +kernel) ?_
  refine L_ld B hX hbl (hin 3 (by decide)) (by decide +kernel) ?_
  refine L_callC B [.int (xs (nI i + nI 1).toNatClampNeg), .int (xs (nI i + nI 2).toNatClampNeg), .int (xs (nI i + nI 3).toNatClampNeg)] (c_Top_safe B.2.1 e1) (by decide) cw_Lw_53 rfl rfl (Nat.le_of_ble_eq_true rfl) rfl (by decide +kernel) ?_
  refine V_aload_n (B.1 _) 2 (j := 2) (by decide +kernel) rfl ?_
  refine V_aload_n (B.1 _) 0 (j := 0) (by decide +kernel) rfl ?_
  refine V_iload_n (B.1 _) 3 (j := 3) (by decide +kernel) rfl ?_
  refine V_iconst (v := nI 1) (n := 1) (B.1 _) (by decide +kernel) (by decide) ?_
  refine V_iadd (B.1 _) (by decide +kernel) ?_
  refine L_ld B hX hbl (hin 1 (by decide)) (by decide +kernel) ?_
  refine V_aload_n (B.1 _) 0 (j := 0) (by decide +kernel) rfl ?_
  refine V_iload_n (B.1 _) 3 (j := 3) (by decide +kernel) rfl ?_
  refine V_iconst (v := nI 2) (n := 2) (B.1 _) (by decide +kernel) (by decide) ?_
  refine V_iadd (B.1 _) (by decide +kernel) ?_
  refine L_ld B hX hbl (hin 2 (by decide)) (by decide +kernel) ?_
  refine V_aload_n (B.1 _) 0 (j := 0) (by decide +kernel) rfl ?_
  refine V_iload_n (B.1 _) 3 (j := 3) (by decide +kernel) rfl ?_
  refine V_iconst (v := nI 3) (n := 3) (B.1 _) (by decide +kernel) (by decide) ?_
  refine V_iadd (B.1 _) (by decide +kernel) ?_
  refine L_ld B hX hbl (hin 3 (by decide)) (by decide +kernel) ?_
  refine L_callM B [.int (xs (nI i + nI 1).toNatClampNeg), .int (xs (nI i + nI 2).toNatClampNeg), .int (xs (nI i + nI 3).toNatClampNeg)] (c_M_safe B.2.2.1 e2) (by decide) cw_Lw_56 rfl rfl (Nat.le_of_ble_eq_true rfl) rfl (by decide +kernel) ?_
  refine V_icmp_eq (pc := 577) (tgt := 1801) (off := 1224) (B.1 _) (by decide +kernel) (by decide) (if_pos rfl : (if r = r then true else false) = true) (fun _ => ?_) (fun h => by cases h)
  exact done _ _ e3
set_option maxRecDepth 20000 in
theorem lc_10 (B : LB E 4 A g a A' code "WithTheRedsLaw" 2048) (hX : va_X b L xs E.2.2.2.2.1 E.2.2.2.2.1.heap) (hbl : b < E.2.2.2.2.1.heap.size) (hin : ∀ k : Nat, k < 6 → vp_in (nI i + nI k) L) (hr : Rel σ τ) (done : ∀ σ' τ' : St, Rel σ' τ' → V E classes 4 (wL A g a A' τ') σ' 1801 (LV g a b i) []) : V E classes 4 (wL A g a A' τ) σ 582 (LV g a b i) [] := by
  obtain ⟨r, σ', τ', e1, e2, e3⟩ := e_together hr ((xs (nI i + nI 1).toNatClampNeg)) ((xs (nI i + nI 2).toNatClampNeg))
  refine V_aload_n (B.1 _) 1 (j := 1) (by decide +kernel) rfl ?_
  refine V_aload_n (B.1 _) 0 (j := 0) (by decide +kernel) rfl ?_
  refine V_iload_n (B.1 _) 3 (j := 3) (by decide +kernel) rfl ?_
  refine V_iconst (v := nI 1) (n := 1) (B.1 _) (by decide +kernel) (by decide) ?_
  refine V_iadd (B.1 _) (by decide +kernel) ?_
  refine L_ld B hX hbl (hin 1 (by decide)) (by decide +kernel) ?_
  refine V_aload_n (B.1 _) 0 (j := 0) (by decide +kernel) rfl ?_
  refine V_iload_n (B.1 _) 3 (j := 3) (by decide +kernel) rfl ?_
  refine V_iconst (v := nI 2) (n := 2) (B.1 _) (by decide +kernel) (by decide) ?_
  refine V_iadd (B.1 _) (by decide +kernel) ?_
  refine L_ld B hX hbl (hin 2 (by decide)) (by decide +kernel) ?_
  refine L_callC B [.int (xs (nI i + nI 1).toNatClampNeg), .int (xs (nI i + nI 2).toNatClampNeg)] (c_Top_together B.2.1 e1) (by decide) cw_Lw_57 rfl rfl (Nat.le_of_ble_eq_true rfl) rfl (by decide +kernel) ?_
  refine V_aload_n (B.1 _) 2 (j := 2) (by decide +kernel) rfl ?_
  refine V_aload_n (B.1 _) 0 (j := 0) (by decide +kernel) rfl ?_
  refine V_iload_n (B.1 _) 3 (j := 3) (by decide +kernel) rfl ?_
  refine V_iconst (v := nI 1) (n := 1) (B.1 _) (by decide +kernel) (by decide) ?_
  refine V_iadd (B.1 _) (by decide +kernel) ?_
  refine L_ld B hX hbl (hin 1 (by decide)) (by decide +kernel) ?_
  refine V_aload_n (B.1 _) 0 (j := 0) (by decide +kernel) rfl ?_
  refine V_iload_n (B.1 _) 3 (j := 3) (by decide +kernel) rfl ?_
  refine V_iconst (v := nI 2) (n := 2) (B.1 _) (by decide +kernel) (by decide) ?_
  refine V_iadd (B.1 _) (by decide +kernel) ?_
  refine L_ld B hX hbl (hin 2 (by decide)) (by decide +kernel) ?_
  refine L_callM B [.int (xs (nI i + nI 1).toNatClampNeg), .int (xs (nI i + nI 2).toNatClampNeg)] (c_M_together B.2.2.1 e2) (by decide) cw_Lw_60 rfl rfl (Nat.le_of_ble_eq_true rfl) rfl (by decide +kernel) ?_
  refine V_icmp_eq (pc := 610) (tgt := 1801) (off := 1191) (B.1 _) (by decide +kernel) (by decide) (if_pos rfl : (if r = r then true else false) = true) (fun _ => ?_) (fun h => by cases h)
  exact done _ _ e3
set_option maxRecDepth 20000 in
theorem lc_11 (B : LB E 4 A g a A' code "WithTheRedsLaw" 2048) (hX : va_X b L xs E.2.2.2.2.1 E.2.2.2.2.1.heap) (hbl : b < E.2.2.2.2.1.heap.size) (hin : ∀ k : Nat, k < 6 → vp_in (nI i + nI k) L) (hr : Rel σ τ) (done : ∀ σ' τ' : St, Rel σ' τ' → V E classes 4 (wL A g a A' τ') σ' 1801 (LV g a b i) []) : V E classes 4 (wL A g a A' τ) σ 615 (LV g a b i) [] := by
  obtain ⟨r, σ', τ', e1, e2, e3⟩ := e_heat hr ((xs (nI i + nI 1).toNatClampNeg)) ((xs (nI i + nI 2).toNatClampNeg))
  refine V_aload_n (B.1 _) 1 (j := 1) (by decide +kernel) rfl ?_
  refine V_aload_n (B.1 _) 0 (j := 0) (by decide +kernel) rfl ?_
  refine V_iload_n (B.1 _) 3 (j := 3) (by decide +kernel) rfl ?_
  refine V_iconst (v := nI 1) (n := 1) (B.1 _) (by decide +kernel) (by decide) ?_
  refine V_iadd (B.1 _) (by decide +kernel) ?_
  refine L_ld B hX hbl (hin 1 (by decide)) (by decide +kernel) ?_
  refine V_aload_n (B.1 _) 0 (j := 0) (by decide +kernel) rfl ?_
  refine V_iload_n (B.1 _) 3 (j := 3) (by decide +kernel) rfl ?_
  refine V_iconst (v := nI 2) (n := 2) (B.1 _) (by decide +kernel) (by decide) ?_
  refine V_iadd (B.1 _) (by decide +kernel) ?_
  refine L_ld B hX hbl (hin 2 (by decide)) (by decide +kernel) ?_
  refine L_callC B [.int (xs (nI i + nI 1).toNatClampNeg), .int (xs (nI i + nI 2).toNatClampNeg)] (c_Top_heat B.2.1 e1) (by decide) cw_Lw_61 rfl rfl (Nat.le_of_ble_eq_true rfl) rfl (by decide +kernel) ?_
  refine V_aload_n (B.1 _) 2 (j := 2) (by decide +kernel) rfl ?_
  refine V_aload_n (B.1 _) 0 (j := 0) (by decide +kernel) rfl ?_
  refine V_iload_n (B.1 _) 3 (j := 3) (by decide +kernel) rfl ?_
  refine V_iconst (v := nI 1) (n := 1) (B.1 _) (by decide +kernel) (by decide) ?_
  refine V_iadd (B.1 _) (by decide +kernel) ?_
  refine L_ld B hX hbl (hin 1 (by decide)) (by decide +kernel) ?_
  refine V_aload_n (B.1 _) 0 (j := 0) (by decide +kernel) rfl ?_
  refine V_iload_n (B.1 _) 3 (j := 3) (by decide +kernel) rfl ?_
  refine V_iconst (v := nI 2) (n := 2) (B.1 _) (by decide +kernel) (by decide) ?_
  refine V_iadd (B.1 _) (by decide +kernel) ?_
  refine L_ld B hX hbl (hin 2 (by decide)) (by decide +kernel) ?_
  refine L_callM B [.int (xs (nI i + nI 1).toNatClampNeg), .int (xs (nI i + nI 2).toNatClampNeg)] (c_M_heat B.2.2.1 e2) (by decide) cw_Lw_64 rfl rfl (Nat.le_of_ble_eq_true rfl) rfl (by decide +kernel) ?_
  refine V_icmp_eq (pc := 643) (tgt := 1801) (off := 1158) (B.1 _) (by decide +kernel) (by decide) (if_pos rfl : (if r = r then true else false) = true) (fun _ => ?_) (fun h => by cases h)
  exact done _ _ e3
set_option maxRecDepth 20000 in
theorem lc_12 (B : LB E 4 A g a A' code "WithTheRedsLaw" 2048) (hX : va_X b L xs E.2.2.2.2.1 E.2.2.2.2.1.heap) (hbl : b < E.2.2.2.2.1.heap.size) (hin : ∀ k : Nat, k < 6 → vp_in (nI i + nI k) L) (hr : Rel σ τ) (done : ∀ σ' τ' : St, Rel σ' τ' → V E classes 4 (wL A g a A' τ') σ' 1801 (LV g a b i) []) : V E classes 4 (wL A g a A' τ) σ 648 (LV g a b i) [] := by
  obtain ⟨r, σ', τ', e1, e2, e3⟩ := e_cloths hr ((xs (nI i + nI 1).toNatClampNeg)) ((xs (nI i + nI 2).toNatClampNeg))
  refine V_aload_n (B.1 _) 1 (j := 1) (by decide +kernel) rfl ?_
  refine V_aload_n (B.1 _) 0 (j := 0) (by decide +kernel) rfl ?_
  refine V_iload_n (B.1 _) 3 (j := 3) (by decide +kernel) rfl ?_
  refine V_iconst (v := nI 1) (n := 1) (B.1 _) (by decide +kernel) (by decide) ?_
  refine V_iadd (B.1 _) (by decide +kernel) ?_
  refine L_ld B hX hbl (hin 1 (by decide)) (by decide +kernel) ?_
  refine V_aload_n (B.1 _) 0 (j := 0) (by decide +kernel) rfl ?_
  refine V_iload_n (B.1 _) 3 (j := 3) (by decide +kernel) rfl ?_
  refine V_iconst (v := nI 2) (n := 2) (B.1 _) (by decide +kernel) (by decide) ?_
  refine V_iadd (B.1 _) (by decide +kernel) ?_
  refine L_ld B hX hbl (hin 2 (by decide)) (by decide +kernel) ?_
  refine L_callC B [.int (xs (nI i + nI 1).toNatClampNeg), .int (xs (nI i + nI 2).toNatClampNeg)] (c_Top_cloths B.2.1 e1) (by decide) cw_Lw_65 rfl rfl (Nat.le_of_ble_eq_true rfl) rfl (by decide +kernel) ?_
  refine V_aload_n (B.1 _) 2 (j := 2) (by decide +kernel) rfl ?_
  refine V_aload_n (B.1 _) 0 (j := 0) (by decide +kernel) rfl ?_
  refine V_iload_n (B.1 _) 3 (j := 3) (by decide +kernel) rfl ?_
  refine V_iconst (v := nI 1) (n := 1) (B.1 _) (by decide +kernel) (by decide) ?_
  refine V_iadd (B.1 _) (by decide +kernel) ?_
  refine L_ld B hX hbl (hin 1 (by decide)) (by decide +kernel) ?_
  refine V_aload_n (B.1 _) 0 (j := 0) (by decide +kernel) rfl ?_
  refine V_iload_n (B.1 _) 3 (j := 3) (by decide +kernel) rfl ?_
  refine V_iconst (v := nI 2) (n := 2) (B.1 _) (by decide +kernel) (by decide) ?_
  refine V_iadd (B.1 _) (by decide +kernel) ?_
  refine L_ld B hX hbl (hin 2 (by decide)) (by decide +kernel) ?_
  refine L_callM B [.int (xs (nI i + nI 1).toNatClampNeg), .int (xs (nI i + nI 2).toNatClampNeg)] (c_M_cloths B.2.2.1 e2) (by decide) cw_Lw_68 rfl rfl (Nat.le_of_ble_eq_true rfl) rfl (by decide +kernel) ?_
  refine V_icmp_eq (pc := 676) (tgt := 1801) (off := 1125) (B.1 _) (by decide +kernel) (by decide) (if_pos rfl : (if r = r then true else false) = true) (fun _ => ?_) (fun h => by cases h)
  exact done _ _ e3
set_option maxRecDepth 20000 in
theorem lc_13 (B : LB E 4 A g a A' code "WithTheRedsLaw" 2048) (hX : va_X b L xs E.2.2.2.2.1 E.2.2.2.2.1.heap) (hbl : b < E.2.2.2.2.1.heap.size) (hin : ∀ k : Nat, k < 6 → vp_in (nI i + nI k) L) (hr : Rel σ τ) (done : ∀ σ' τ' : St, Rel σ' τ' → V E classes 4 (wL A g a A' τ') σ' 1801 (LV g a b i) []) : V E classes 4 (wL A g a A' τ) σ 681 (LV g a b i) [] := by
  obtain ⟨r, σ', τ', e1, e2, e3⟩ := e_heaps hr ((xs (nI i + nI 1).toNatClampNeg)) ((xs (nI i + nI 2).toNatClampNeg)) ((xs (nI i + nI 3).toNatClampNeg))
  refine V_aload_n (B.1 _) 1 (j := 1) (by decide +kernel) rfl ?_
  refine V_aload_n (B.1 _) 0 (j := 0) (by decide +kernel) rfl ?_
  refine V_iload_n (B.1 _) 3 (j := 3) (by decide +kernel) rfl ?_
  refine V_iconst (v := nI 1) (n := 1) (B.1 _) (by decide +kernel) (by decide) ?_
  refine V_iadd (B.1 _) (by decide +kernel) ?_
  refine L_ld B hX hbl (hin 1 (by decide)) (by decide +kernel) ?_
  refine V_aload_n (B.1 _) 0 (j := 0) (by decide +kernel) rfl ?_
  refine V_iload_n (B.1 _) 3 (j := 3) (by decide +kernel) rfl ?_
  refine V_iconst (v := nI 2) (n := 2) (B.1 _) (by decide +kernel) (by decide) ?_
  refine V_iadd (B.1 _) (by decide +kernel) ?_
  refine L_ld B hX hbl (hin 2 (by decide)) (by decide +kernel) ?_
  refine V_aload_n (B.1 _) 0 (j := 0) (by decide +kernel) rfl ?_
  refine V_iload_n (B.1 _) 3 (j := 3) (by decide +kernel) rfl ?_
  refine V_iconst (v := nI 3) (n := 3) (B.1 _) (by decide +kernel) (by decide) ?_
  refine V_iadd (B.1 _) (by decide +kernel) ?_
  refine L_ld B hX hbl (hin 3 (by decide)) (by decide +kernel) ?_
  refine L_callC B [.int (xs (nI i + nI 1).toNatClampNeg), .int (xs (nI i + nI 2).toNatClampNeg), .int (xs (nI i + nI 3).toNatClampNeg)] (c_Top_heaps B.2.1 e1) (by decide) cw_Lw_69 rfl rfl (Nat.le_of_ble_eq_true rfl) rfl (by decide +kernel) ?_
  refine V_aload_n (B.1 _) 2 (j := 2) (by decide +kernel) rfl ?_
  refine V_aload_n (B.1 _) 0 (j := 0) (by decide +kernel) rfl ?_
  refine V_iload_n (B.1 _) 3 (j := 3) (by decide +kernel) rfl ?_
  refine V_iconst (v := nI 1) (n := 1) (B.1 _) (by decide +kernel) (by decide) ?_
  refine V_iadd (B.1 _) (by decide +kernel) ?_
  refine L_ld B hX hbl (hin 1 (by decide)) (by decide +kernel) ?_
  refine V_aload_n (B.1 _) 0 (j := 0) (by decide +kernel) rfl ?_
  refine V_iload_n (B.1 _) 3 (j := 3) (by decide +kernel) rfl ?_
  refine V_iconst (v := nI 2) (n := 2) (B.1 _) (by decide +kernel) (by decide) ?_
  refine V_iadd (B.1 _) (by decide +kernel) ?_
  refine L_ld B hX hbl (hin 2 (by decide)) (by decide +kernel) ?_
  refine V_aload_n (B.1 _) 0 (j := 0) (by decide +kernel) rfl ?_
  refine V_iload_n (B.1 _) 3 (j := 3) (by decide +kernel) rfl ?_
  refine V_iconst (v := nI 3) (n := 3) (B.1 _) (by decide +kernel) (by decide) ?_
  refine V_iadd (B.1 _) (by decide +kernel) ?_
  refine L_ld B hX hbl (hin 3 (by decide)) (by decide +kernel) ?_
  refine L_callM B [.int (xs (nI i + nI 1).toNatClampNeg), .int (xs (nI i + nI 2).toNatClampNeg), .int (xs (nI i + nI 3).toNatClampNeg)] (c_M_heaps B.2.2.1 e2) (by decide) cw_Lw_72 rfl rfl (Nat.le_of_ble_eq_true rfl) rfl (by decide +kernel) ?_
  refine V_icmp_eq (pc := 719) (tgt := 1801) (off := 1082) (B.1 _) (by decide +kernel) (by decide) (if_pos rfl : (if r = r then true else false) = true) (fun _ => ?_) (fun h => by cases h)
  exact done _ _ e3
set_option maxRecDepth 20000 in
theorem lc_14 (B : LB E 4 A g a A' code "WithTheRedsLaw" 2048) (hX : va_X b L xs E.2.2.2.2.1 E.2.2.2.2.1.heap) (hbl : b < E.2.2.2.2.1.heap.size) (hin : ∀ k : Nat, k < 6 → vp_in (nI i + nI k) L) (hr : Rel σ τ) (done : ∀ σ' τ' : St, Rel σ' τ' → V E classes 4 (wL A g a A' τ') σ' 1801 (LV g a b i) []) : V E classes 4 (wL A g a A' τ) σ 724 (LV g a b i) [] := by
  obtain ⟨r, σ', τ', e1, e2, e3⟩ := e_cost hr ((xs (nI i + nI 1).toNatClampNeg)) ((xs (nI i + nI 2).toNatClampNeg)) ((xs (nI i + nI 3).toNatClampNeg))
  refine V_aload_n (B.1 _) 1 (j := 1) (by decide +kernel) rfl ?_
  refine V_aload_n (B.1 _) 0 (j := 0) (by decide +kernel) rfl ?_
  refine V_iload_n (B.1 _) 3 (j := 3) (by decide +kernel) rfl ?_
  refine V_iconst (v := nI 1) (n := 1) (B.1 _) (by decide +kernel) (by decide) ?_
  refine V_iadd (B.1 _) (by decide +kernel) ?_
  refine L_ld B hX hbl (hin 1 (by decide)) (by decide +kernel) ?_
  refine V_aload_n (B.1 _) 0 (j := 0) (by decide +kernel) rfl ?_
  refine V_iload_n (B.1 _) 3 (j := 3) (by decide +kernel) rfl ?_
  refine V_iconst (v := nI 2) (n := 2) (B.1 _) (by decide +kernel) (by decide) ?_
  refine V_iadd (B.1 _) (by decide +kernel) ?_
  refine L_ld B hX hbl (hin 2 (by decide)) (by decide +kernel) ?_
  refine V_aload_n (B.1 _) 0 (j := 0) (by decide +kernel) rfl ?_
  refine V_iload_n (B.1 _) 3 (j := 3) (by decide +kernel) rfl ?_
  refine V_iconst (v := nI 3) (n := 3) (B.1 _) (by decide +kernel) (by decide) ?_
  refine V_iadd (B.1 _) (by decide +kernel) ?_
  refine L_ld B hX hbl (hin 3 (by decide)) (by decide +kernel) ?_
  refine L_callC B [.int (xs (nI i + nI 1).toNatClampNeg), .int (xs (nI i + nI 2).toNatClampNeg), .int (xs (nI i + nI 3).toNatClampNeg)] (c_Top_cost B.2.1 e1) (by decide) cw_Lw_73 rfl rfl (Nat.le_of_ble_eq_true rfl) rfl (by decide +kernel) ?_
  refine V_aload_n (B.1 _) 2 (j := 2) (by decide +kernel) rfl ?_
  refine V_aload_n (B.1 _) 0 (j := 0) (by decide +kernel) rfl ?_
  refine V_iload_n (B.1 _) 3 (j := 3) (by decide +kernel) rfl ?_
  refine V_iconst (v := nI 1) (n := 1) (B.1 _) (by decide +kernel) (by decide) ?_
  refine V_iadd (B.1 _) (by decide +kernel) ?_
  refine L_ld B hX hbl (hin 1 (by decide)) (by decide +kernel) ?_
  refine V_aload_n (B.1 _) 0 (j := 0) (by decide +kernel) rfl ?_
  refine V_iload_n (B.1 _) 3 (j := 3) (by decide +kernel) rfl ?_
  refine V_iconst (v := nI 2) (n := 2) (B.1 _) (by decide +kernel) (by decide) ?_
  refine V_iadd (B.1 _) (by decide +kernel) ?_
  refine L_ld B hX hbl (hin 2 (by decide)) (by decide +kernel) ?_
  refine V_aload_n (B.1 _) 0 (j := 0) (by decide +kernel) rfl ?_
  refine V_iload_n (B.1 _) 3 (j := 3) (by decide +kernel) rfl ?_
  refine V_iconst (v := nI 3) (n := 3) (B.1 _) (by decide +kernel) (by decide) ?_
  refine V_iadd (B.1 _) (by decide +kernel) ?_
  refine L_ld B hX hbl (hin 3 (by decide)) (by decide +kernel) ?_
  refine L_callM B [.int (xs (nI i + nI 1).toNatClampNeg), .int (xs (nI i + nI 2).toNatClampNeg), .int (xs (nI i + nI 3).toNatClampNeg)] (c_M_cost B.2.2.1 e2) (by decide) cw_Lw_76 rfl rfl (Nat.le_of_ble_eq_true rfl) rfl (by decide +kernel) ?_
  refine V_icmp_eq (pc := 762) (tgt := 1801) (off := 1039) (B.1 _) (by decide +kernel) (by decide) (if_pos rfl : (if r = r then true else false) = true) (fun _ => ?_) (fun h => by cases h)
  exact done _ _ e3
set_option maxRecDepth 20000 in
theorem lc_15 (B : LB E 4 A g a A' code "WithTheRedsLaw" 2048) (hX : va_X b L xs E.2.2.2.2.1 E.2.2.2.2.1.heap) (hbl : b < E.2.2.2.2.1.heap.size) (hin : ∀ k : Nat, k < 6 → vp_in (nI i + nI k) L) (hr : Rel σ τ) (done : ∀ σ' τ' : St, Rel σ' τ' → V E classes 4 (wL A g a A' τ') σ' 1801 (LV g a b i) []) : V E classes 4 (wL A g a A' τ) σ 767 (LV g a b i) [] := by
  obtain ⟨r, σ', τ', e1, e2, e3⟩ := e_alone hr ((xs (nI i + nI 1).toNatClampNeg)) ((xs (nI i + nI 2).toNatClampNeg))
  refine V_aload_n (B.1 _) 1 (j := 1) (by decide +kernel) rfl ?_
  refine V_aload_n (B.1 _) 0 (j := 0) (by decide +kernel) rfl ?_
  refine V_iload_n (B.1 _) 3 (j := 3) (by decide +kernel) rfl ?_
  refine V_iconst (v := nI 1) (n := 1) (B.1 _) (by decide +kernel) (by decide) ?_
  refine V_iadd (B.1 _) (by decide +kernel) ?_
  refine L_ld B hX hbl (hin 1 (by decide)) (by decide +kernel) ?_
  refine V_aload_n (B.1 _) 0 (j := 0) (by decide +kernel) rfl ?_
  refine V_iload_n (B.1 _) 3 (j := 3) (by decide +kernel) rfl ?_
  refine V_iconst (v := nI 2) (n := 2) (B.1 _) (by decide +kernel) (by decide) ?_
  refine V_iadd (B.1 _) (by decide +kernel) ?_
  refine L_ld B hX hbl (hin 2 (by decide)) (by decide +kernel) ?_
  refine L_callC B [.int (xs (nI i + nI 1).toNatClampNeg), .int (xs (nI i + nI 2).toNatClampNeg)] (c_Top_alone B.2.1 e1) (by decide) cw_Lw_77 rfl rfl (Nat.le_of_ble_eq_true rfl) rfl (by decide +kernel) ?_
  refine V_aload_n (B.1 _) 2 (j := 2) (by decide +kernel) rfl ?_
  refine V_aload_n (B.1 _) 0 (j := 0) (by decide +kernel) rfl ?_
  refine V_iload_n (B.1 _) 3 (j := 3) (by decide +kernel) rfl ?_
  refine V_iconst (v := nI 1) (n := 1) (B.1 _) (by decide +kernel) (by decide) ?_
  refine V_iadd (B.1 _) (by decide +kernel) ?_
  refine L_ld B hX hbl (hin 1 (by decide)) (by decide +kernel) ?_
  refine V_aload_n (B.1 _) 0 (j := 0) (by decide +kernel) rfl ?_
  refine V_iload_n (B.1 _) 3 (j := 3) (by decide +kernel) rfl ?_
  refine V_iconst (v := nI 2) (n := 2) (B.1 _) (by decide +kernel) (by decide) ?_
  refine V_iadd (B.1 _) (by decide +kernel) ?_
  refine L_ld B hX hbl (hin 2 (by decide)) (by decide +kernel) ?_
  refine L_callM B [.int (xs (nI i + nI 1).toNatClampNeg), .int (xs (nI i + nI 2).toNatClampNeg)] (c_M_alone B.2.2.1 e2) (by decide) cw_Lw_80 rfl rfl (Nat.le_of_ble_eq_true rfl) rfl (by decide +kernel) ?_
  refine V_icmp_eq (pc := 795) (tgt := 1801) (off := 1006) (B.1 _) (by decide +kernel) (by decide) (if_pos rfl : (if r = r then true else false) = true) (fun _ => ?_) (fun h => by cases h)
  exact done _ _ e3
end CASES
