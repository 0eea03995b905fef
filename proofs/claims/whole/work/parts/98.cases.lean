/-! the law's 46 cases, laid by cases.py -/
abbrev LV (g : Gx) (a : Nat → Nat) (b i : Nat) : List (Nat × Value) := [(0, .ref b), (1, .ref (g.2.1 0)), (2, .ref (a 0)), (3, .int (nI i))]
section CASES
variable {E : Ev} {g : Gx} {a : Nat → Nat} {A A' : Nat → Prop} {σ τ : St} {b L i : Nat} {xs : Nat → Int32}
set_option maxRecDepth 20000 in
theorem lc_0 (B : LB E 4 A g a A' code "WithTheRedsLaw" 2048) (hX : va_X b L xs E.2.2.2.2.1 E.2.2.2.2.1.heap) (hbl : b < E.2.2.2.2.1.heap.size) (hin : ∀ k : Nat, k < 6 → vp_in (nI i + nI k) L) (hr : Rel σ τ) (done : ∀ σ' τ' : St, Rel σ' τ' → V E classes 4 (wL A g a A' τ') σ' 1801 (LV g a b i) []) : V E classes 4 (wL A g a A' τ) σ 232 (LV g a b i) [] := by
  obtain ⟨r, σ', τ', e1, e2, e3⟩ := e_thing hr ((xs (nI i + nI 1).toNatClampNeg)) ((xs (nI i + nI 2).toNatClampNeg))
  refine V_aload_n (B.1 _) 1 (j := 1) (by decide +kernel) rfl ?_
  refine V_aload_n (B.1 _) 0 (j := 0) (by decide +kernel) rfl ?_
  refine V_iload_n (B.1 _) 3 (j := 3) (by decide +kernel) rfl ?_
  refine V_iconst (v := nI 1) (n := 1) (B.1 _) (by decide +kernel) (by decide) ?_
  refine V_iadd (B.1 _) (by decide +kernel) ?_
  refine L_ld B hX hbl (hin 1 (by decide)) (by decide +kernel) ?_
  refine V_aload_n (B.1 _) 0 (j := 0) (by decide +kernel) rfl ?_
  refine V_iload_n (B.1 _) 3 (j := 3) (by decide +kernel) rfl ?_
  refine V_iconst (v := nI 2) (n := 2) (B.1 _) (by decide +kernel) (by decide) ?_
  refine V_iadd (B.1 _) (by decide +kernel) ?_
  refine L_ld B hX hbl (hin 2 (by decide)) (by decide +kernel) ?_
  refine L_callC B [.int (xs (nI i + nI 1).toNatClampNeg), .int (xs (nI i + nI 2).toNatClampNeg)] (c_Top_thing B.2.1 e1) (by decide) cw_Lw_13 rfl rfl (Nat.le_of_ble_eq_true rfl) rfl (by decide +kernel) ?_
  refine V_aload_n (B.1 _) 2 (j := 2) (by decide +kernel) rfl ?_
  refine V_aload_n (B.1 _) 0 (j := 0) (by decide +kernel) rfl ?_
  refine V_iload_n (B.1 _) 3 (j := 3) (by decide +kernel) rfl ?_
  refine V_iconst (v := nI 1) (n := 1) (B.1 _) (by decide +kernel) (by decide) ?_
  refine V_iadd (B.1 _) (by decide +kernel) ?_
  refine L_ld B hX hbl (hin 1 (by decide)) (by decide +kernel) ?_
  refine V_aload_n (B.1 _) 0 (j := 0) (by decide +kernel) rfl ?_
  refine V_iload_n (B.1 _) 3 (j := 3) (by decide +kernel) rfl ?_
  refine V_iconst (v := nI 2) (n := 2) (B.1 _) (by decide +kernel) (by decide) ?_
  refine V_iadd (B.1 _) (by decide +kernel) ?_
  refine L_ld B hX hbl (hin 2 (by decide)) (by decide +kernel) ?_
  refine L_callM B [.int (xs (nI i + nI 1).toNatClampNeg), .int (xs (nI i + nI 2).toNatClampNeg)] (c_M_thing B.2.2.1 e2) (by decide) cw_Lw_17 rfl rfl (Nat.le_of_ble_eq_true rfl) rfl (by decide +kernel) ?_
  refine V_icmp_eq (pc := 260) (tgt := 1801) (off := 1541) (B.1 _) (by decide +kernel) (by decide) (if_pos rfl : (if r = r then true else false) = true) (fun _ => ?_) (fun h => by cases h)
  exact done _ _ e3
end CASES
