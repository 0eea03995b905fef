/-! what the statement gives of the start -/
theorem tn_c1 {w : Cond} (i : Nat) (h : tables_1_1[i]? = some w) : w ∈ lw_tbl := List.mem_append_right _ (List.mem_append_left _ (List.mem_of_getElem? h))
theorem tn_c2 {w : Cond} (i : Nat) (h : tables_1_2[i]? = some w) : w ∈ lw_tbl := List.mem_append_right _ (List.mem_append_right _ (List.mem_append_left _ (List.mem_of_getElem? h)))
theorem tn_c3 {w : Cond} (i : Nat) (h : tables_1_3[i]? = some w) : w ∈ lw_tbl := List.mem_append_right _ (List.mem_append_right _ (List.mem_append_right _ (List.mem_append_left _ (List.mem_of_getElem? h))))
theorem tn_c4 {w : Cond} (i : Nat) (h : tables_1_4[i]? = some w) : w ∈ lw_tbl := List.mem_append_right _ (List.mem_append_right _ (List.mem_append_right _ (List.mem_append_right _ (List.mem_append_left _ (List.mem_of_getElem? h)))))
theorem tn_c5 {w : Cond} (i : Nat) (h : tables_1_5[i]? = some w) : w ∈ lw_tbl := List.mem_append_right _ (List.mem_append_right _ (List.mem_append_right _ (List.mem_append_right _ (List.mem_append_right _ (List.mem_append_left _ (List.mem_of_getElem? h))))))
theorem tn_c6 {w : Cond} (i : Nat) (h : tables_1_6[i]? = some w) : w ∈ lw_tbl := List.mem_append_right _ (List.mem_append_right _ (List.mem_append_right _ (List.mem_append_right _ (List.mem_append_right _ (List.mem_append_right _ (List.mem_append_left _ (List.mem_of_getElem? h)))))))
theorem tn_c7 {w : Cond} (i : Nat) (h : tables_1_7[i]? = some w) : w ∈ lw_tbl := List.mem_append_right _ (List.mem_append_right _ (List.mem_append_right _ (List.mem_append_right _ (List.mem_append_right _ (List.mem_append_right _ (List.mem_append_right _ (List.mem_append_left _ (List.mem_of_getElem? h))))))))
theorem tn_c8 {w : Cond} (i : Nat) (h : tables_1_8[i]? = some w) : w ∈ lw_tbl := List.mem_append_right _ (List.mem_append_right _ (List.mem_append_right _ (List.mem_append_right _ (List.mem_append_right _ (List.mem_append_right _ (List.mem_append_right _ (List.mem_append_right _ (List.mem_of_getElem? h))))))))
def pmF : List Cond := flatC (Cond.and given_1 narrow_1)
section PREM
variable {s : State} {args : Array Value}
theorem pm_at (hgv : (Cond.and given_1 narrow_1).before args s = true) {w : Cond} (i : Nat) (h : pmF[i]? = some w) : w.before args s = true := flat_of_before _ hgv _ (List.mem_of_getElem? h)
set_option maxRecDepth 100000 in
theorem pf_LEAST : ∀ j : Nat, j < 12 → pmF[22 + j]? = some (Cond.eq (.elem (.static "WithTheReds$Basket" "LEAST" "[I") (.int (Int32.ofNat j))) (.int (tb_LEAST j))) := by decide +kernel
theorem pq_LEAST (hts : ∀ w ∈ lw_tbl, w.before args s = true) (hgv : (Cond.and given_1 narrow_1).before args s = true) : ∃ t : Nat, va_Z "WithTheReds$Basket" "LEAST" "[I" (.ref t) (fun q => s.heap.size ≤ q) s s.heap ∧ va_T .int t 12 (fun j => .int (tb_LEAST j)) (fun q => s.heap.size ≤ q) s s.heap := by
  obtain ⟨t, h1, h2⟩ := va_Tof (tm := .static "WithTheReds$Basket" "LEAST" "[I") (ty := .int) (N := 12) (f := fun j => .int (tb_LEAST j)) (A := fun q => s.heap.size ≤ q) (by decide) (pm_at hgv 20 (by decide +kernel)) (va_eqt (pm_at hgv 21 (by decide +kernel))) (fun j hj => va_eqt (pm_at hgv (22 + j) (pf_LEAST j hj))) (fun a h => Nat.not_le.mpr h)
  exact ⟨t, va_Zof (hts _ (tn_c2 145 rfl)) (hts _ (tn_c1 2 rfl)) h1 (fun a h => Nat.not_le.mpr h), h2⟩
set_option maxRecDepth 100000 in
theorem pf_MOST : ∀ j : Nat, j < 12 → pmF[37 + j]? = some (Cond.eq (.elem (.static "WithTheReds$Basket" "MOST" "[I") (.int (Int32.ofNat j))) (.int (tb_MOST j))) := by decide +kernel
theorem pq_MOST (hts : ∀ w ∈ lw_tbl, w.before args s = true) (hgv : (Cond.and given_1 narrow_1).before args s = true) : ∃ t : Nat, va_Z "WithTheReds$Basket" "MOST" "[I" (.ref t) (fun q => s.heap.size ≤ q) s s.heap ∧ va_T .int t 12 (fun j => .int (tb_MOST j)) (fun q => s.heap.size ≤ q) s s.heap := by
  obtain ⟨t, h1, h2⟩ := va_Tof (tm := .static "WithTheReds$Basket" "MOST" "[I") (ty := .int) (N := 12) (f := fun j => .int (tb_MOST j)) (A := fun q => s.heap.size ≤ q) (by decide) (pm_at hgv 35 (by decide +kernel)) (va_eqt (pm_at hgv 36 (by decide +kernel))) (fun j hj => va_eqt (pm_at hgv (37 + j) (pf_MOST j hj))) (fun a h => Nat.not_le.mpr h)
  exact ⟨t, va_Zof (hts _ (tn_c2 147 rfl)) (hts _ (tn_c1 2 rfl)) h1 (fun a h => Nat.not_le.mpr h), h2⟩
set_option maxRecDepth 100000 in
theorem pf_FIRST : ∀ j : Nat, j < 12 → pmF[7 + j]? = some (Cond.eq (.elem (.static "WithTheReds$Basket" "FIRST" "[I") (.int (Int32.ofNat j))) (.int (tb_FIRST j))) := by decide +kernel
theorem pq_FIRST (hts : ∀ w ∈ lw_tbl, w.before args s = true) (hgv : (Cond.and given_1 narrow_1).before args s = true) : ∃ t : Nat, va_Z "WithTheReds$Basket" "FIRST" "[I" (.ref t) (fun q => s.heap.size ≤ q) s s.heap ∧ va_T .int t 12 (fun j => .int (tb_FIRST j)) (fun q => s.heap.size ≤ q) s s.heap := by
  obtain ⟨t, h1, h2⟩ := va_Tof (tm := .static "WithTheReds$Basket" "FIRST" "[I") (ty := .int) (N := 12) (f := fun j => .int (tb_FIRST j)) (A := fun q => s.heap.size ≤ q) (by decide) (pm_at hgv 5 (by decide +kernel)) (va_eqt (pm_at hgv 6 (by decide +kernel))) (fun j hj => va_eqt (pm_at hgv (7 + j) (pf_FIRST j hj))) (fun a h => Nat.not_le.mpr h)
  exact ⟨t, va_Zof (hts _ (tn_c1 37 rfl)) (hts _ (tn_c1 2 rfl)) h1 (fun a h => Nat.not_le.mpr h), h2⟩
set_option maxRecDepth 100000 in
theorem pf_ABOVE : ∀ j : Nat, j < 8 → pmF[92 + j]? = some (Cond.eq (.elem (.static "WithTheReds$Socks" "ABOVE" "[I") (.int (Int32.ofNat j))) (.int (tb_ABOVE j))) := by decide +kernel
theorem pq_ABOVE (hts : ∀ w ∈ lw_tbl, w.before args s = true) (hgv : (Cond.and given_1 narrow_1).before args s = true) : ∃ t : Nat, va_Z "WithTheReds$Socks" "ABOVE" "[I" (.ref t) (fun q => s.heap.size ≤ q) s s.heap ∧ va_T .int t 8 (fun j => .int (tb_ABOVE j)) (fun q => s.heap.size ≤ q) s s.heap := by
  obtain ⟨t, h1, h2⟩ := va_Tof (tm := .static "WithTheReds$Socks" "ABOVE" "[I") (ty := .int) (N := 8) (f := fun j => .int (tb_ABOVE j)) (A := fun q => s.heap.size ≤ q) (by decide) (pm_at hgv 90 (by decide +kernel)) (va_eqt (pm_at hgv 91 (by decide +kernel))) (fun j hj => va_eqt (pm_at hgv (92 + j) (pf_ABOVE j hj))) (fun a h => Nat.not_le.mpr h)
  exact ⟨t, va_Zof (hts _ (tn_c5 135 rfl)) (hts _ (tn_c1 12 rfl)) h1 (fun a h => Nat.not_le.mpr h), h2⟩
set_option maxRecDepth 100000 in
theorem pf_OWN : ∀ j : Nat, j < 32 → pmF[57 + j]? = some (Cond.eq (.elem (.static "WithTheReds$Socks" "OWN" "[I") (.int (Int32.ofNat j))) (.int (tb_OWN j))) := by decide +kernel
theorem pq_OWN (hts : ∀ w ∈ lw_tbl, w.before args s = true) (hgv : (Cond.and given_1 narrow_1).before args s = true) : ∃ t : Nat, va_Z "WithTheReds$Socks" "OWN" "[I" (.ref t) (fun q => s.heap.size ≤ q) s s.heap ∧ va_T .int t 32 (fun j => .int (tb_OWN j)) (fun q => s.heap.size ≤ q) s s.heap := by
  obtain ⟨t, h1, h2⟩ := va_Tof (tm := .static "WithTheReds$Socks" "OWN" "[I") (ty := .int) (N := 32) (f := fun j => .int (tb_OWN j)) (A := fun q => s.heap.size ≤ q) (by decide) (pm_at hgv 55 (by decide +kernel)) (va_eqt (pm_at hgv 56 (by decide +kernel))) (fun j hj => va_eqt (pm_at hgv (57 + j) (pf_OWN j hj))) (fun a h => Nat.not_le.mpr h)
  exact ⟨t, va_Zof (hts _ (tn_c5 133 rfl)) (hts _ (tn_c1 12 rfl)) h1 (fun a h => Nat.not_le.mpr h), h2⟩
set_option maxRecDepth 100000 in
theorem pf_nm : ∀ j : Nat, j < 6 → pmF[104 + j]? = some (Cond.eq (.elem (.field (.string "WithTheReds$Tape" 80) "java/lang/String" "value" "[B") (.int (Int32.ofNat j))) (.int (nmBytes.getD j 0))) := by decide +kernel
theorem pq_nm (hts : ∀ w ∈ lw_tbl, w.before args s = true) (hgv : (Cond.and given_1 narrow_1).before args s = true) : ∃ a v : Nat, vk_R "WithTheReds$Tape" 80 "rnhcsb" a s ∧ vk_S 1 [6] [nmBytes] (fun _ => a) (fun _ => v) (fun q => s.heap.size ≤ q) s s.heap := by
  obtain ⟨adK, adV, h1, h2⟩ := vk_Sof (N := 1) (tm := fun _ => .string "WithTheReds$Tape" 80) (len := [6]) (byt := [nmBytes]) (A := fun q => s.heap.size ≤ q)
    (fun i hi => by obtain rfl : i = 0 := Nat.lt_one_iff.mp hi; decide)
    (fun i hi => pm_at hgv 100 (by decide +kernel))
    (fun i hi => pm_at hgv 101 (by decide +kernel))
    (fun i hi => pm_at hgv 102 (by decide +kernel))
    (fun i hi => by obtain rfl : i = 0 := Nat.lt_one_iff.mp hi; exact pm_at hgv 103 (by decide +kernel))
    (fun i hi j hj => by obtain rfl : i = 0 := Nat.lt_one_iff.mp hi; exact pm_at hgv (104 + j) (pf_nm j hj))
    (fun i j hi hj hne => absurd ((Nat.lt_one_iff.mp hi).trans (Nat.lt_one_iff.mp hj).symm) hne)
    (fun a h => Nat.not_le.mpr h)
  refine ⟨adK 0, adV 0, vk_R.of (hts _ (tn_c3 25 rfl)) (h2 0 (by decide)), ⟨fun i hi => ?_, fun i j hi hj _ => by omega⟩⟩
  obtain rfl : i = 0 := Nat.lt_one_iff.mp hi
  exact h1.1 0 (by decide)
theorem pq_nw (hts : ∀ w ∈ lw_tbl, w.before args s = true) : gxN s := ⟨va_Nw.of rfl (hts _ (tn_c2 141 rfl)), va_Nw.of rfl (hts _ (tn_c3 4 rfl)), va_Nw.of rfl (hts _ (tn_c3 229 rfl)), va_Nw.of rfl (hts _ (tn_c4 69 rfl)), va_Nw.of rfl (hts _ (tn_c4 121 rfl)), va_Nw.of rfl (hts _ (tn_c4 167 rfl)), va_Nw.of rfl (hts _ (tn_c5 35 rfl)), va_Nw.of rfl (hts _ (tn_c5 116 rfl))⟩
def ttF (f : List Nat) : Nat → Nat := fun k => f.getD k 0
theorem pq_gx (hts : ∀ w ∈ lw_tbl, w.before args s = true) (hgv : (Cond.and given_1 narrow_1).before args s = true) : ∃ tt : Nat → Nat, ∀ (G : va_G) (ad : Nat → Nat) (c : Nat → ClassId), gxC (G, ad, c, (fun q => s.heap.size ≤ q), tt) s s.heap := by
  obtain ⟨t0, a0, b0⟩ := pq_LEAST hts hgv
  obtain ⟨t1, a1, b1⟩ := pq_MOST hts hgv
  obtain ⟨t2, a2, b2⟩ := pq_FIRST hts hgv
  obtain ⟨t3, a3, b3⟩ := pq_ABOVE hts hgv
  obtain ⟨t4, a4, b4⟩ := pq_OWN hts hgv
  obtain ⟨t5, t6, a5, b5⟩ := pq_nm hts hgv
  have h0 := va_Zof (C := "java/lang/String") (n := "COMPACT_STRINGS") (d := "Z") (v := .int 1) (A := fun q => s.heap.size ≤ q) (hts _ (tn_c3 39 rfl)) (hts _ (tn_c1 15 rfl)) (va_eqi (pm_at hgv 49 (by decide +kernel))) (fun a h => Nat.not_le.mpr h)
  exact ⟨ttF [t0, t1, t2, t3, t4, t5, t6], fun G ad c => ⟨pq_nw hts, ⟨⟨a0, b0⟩, ⟨a1, b1⟩, ⟨a2, b2⟩, ⟨a3, b3⟩, ⟨a4, b4⟩⟩, ⟨a5, b5, h0⟩⟩⟩
/-! what a start gives goes on holding -/
theorem gx_narrow {G : va_G} {ad : Nat → Nat} {c : Nat → ClassId} {A B : Nat → Prop} {tt : Nat → Nat} {U : State} {H : Heap} (h : gxC (G, ad, c, A, tt) U H) (hAB : ∀ q, B q → A q) : gxC (G, ad, c, B, tt) U H := by
  obtain ⟨hn, ⟨⟨a0, b0⟩, ⟨a1, b1⟩, ⟨a2, b2⟩, ⟨a3, b3⟩, ⟨a4, b4⟩⟩, ⟨a5, b5, h0⟩⟩ := h
  exact ⟨hn, ⟨⟨a0.narrow hAB, b0.narrow hAB⟩, ⟨a1.narrow hAB, b1.narrow hAB⟩, ⟨a2.narrow hAB, b2.narrow hAB⟩, ⟨a3.narrow hAB, b3.narrow hAB⟩, ⟨a4.narrow hAB, b4.narrow hAB⟩⟩, ⟨a5, b5.narrow hAB, h0.narrow hAB⟩⟩
theorem gx_warm {g : Gx} {s U : State} {H : Heap} {locs : List Loc} (h : gxC g s s.heap) (hS : va_S g.2.2.2.1 s.heap H locs) (hW : s.WarmedH U.vm) : gxC g U H := by
  obtain ⟨⟨n0, n1, n2, n3, n4, n5, n6, n7⟩, ⟨⟨a0, b0⟩, ⟨a1, b1⟩, ⟨a2, b2⟩, ⟨a3, b3⟩, ⟨a4, b4⟩⟩, ⟨a5, b5, h0⟩⟩ := h
  have k := hS.2.1
  have v := hW.alike
  exact ⟨⟨n0.warmM hW, n1.warmM hW, n2.warmM hW, n3.warmM hW, n4.warmM hW, n5.warmM hW, n6.warmM hW, n7.warmM hW⟩, ⟨⟨(a0.kept k).moved v, (b0.kept k).moved v⟩, ⟨(a1.kept k).moved v, (b1.kept k).moved v⟩, ⟨(a2.kept k).moved v, (b2.kept k).moved v⟩, ⟨(a3.kept k).moved v, (b3.kept k).moved v⟩, ⟨(a4.kept k).moved v, (b4.kept k).moved v⟩⟩, ⟨a5.warm hW, (b5.kept k).moved v, (h0.kept k).moved v⟩⟩
theorem gx_call {g : Gx} {U : State} (gf : JFrame) (mk : MethodId) (av : Array Value) (h : gxC g U U.heap) : gxC g (U.calling gf mk av) U.heap := by
  obtain ⟨⟨n0, n1, n2, n3, n4, n5, n6, n7⟩, ⟨⟨a0, b0⟩, ⟨a1, b1⟩, ⟨a2, b2⟩, ⟨a3, b3⟩, ⟨a4, b4⟩⟩, ⟨a5, b5, h0⟩⟩ := h
  have v : U.vm.Alike (U.calling gf mk av).vm := Vm.Alike.refl U.vm
  have e : U.vm = (U.calling gf mk av).vm := rfl
  exact ⟨⟨n0.same rfl e, n1.same rfl e, n2.same rfl e, n3.same rfl e, n4.same rfl e, n5.same rfl e, n6.same rfl e, n7.same rfl e⟩, ⟨⟨a0.moved v, b0.moved v⟩, ⟨a1.moved v, b1.moved v⟩, ⟨a2.moved v, b2.moved v⟩, ⟨a3.moved v, b3.moved v⟩, ⟨a4.moved v, b4.moved v⟩⟩, ⟨a5.same e.symm, b5.moved v, h0.moved v⟩⟩
theorem pq_XT {t : Nat} (hts : ∀ w ∈ lw_tbl, w.before args s = true) (h1 : va_Z "WithTheReds$Basket" "FIRST" "[I" (.ref t) (fun q => s.heap.size ≤ q) s s.heap) (h2 : va_T .int t 12 (fun j => .int (tb_FIRST j)) (fun q => s.heap.size ≤ q) s s.heap) : XT t (fun q => s.heap.size ≤ q) s s.heap := ⟨⟨h1, h2⟩, va_Nw.of rfl (hts _ (tn_c1 68 rfl)), va_Nw.of rfl (hts _ (tn_c1 111 rfl)), va_Nw.of rfl (hts _ (tn_c2 30 rfl)), va_Nw.of rfl (hts _ (tn_c2 54 rfl)), va_Nw.of rfl (hts _ (tn_c2 78 rfl)), va_AO.of (hts _ (tn_c2 76 rfl))⟩
theorem xt_warm {t : Nat} {A B : Nat → Prop} {s U : State} {H : Heap} {locs : List Loc} (h : XT t A s s.heap) (hS : va_S A s.heap H locs) (hAB : ∀ q, B q → A q) (hW : s.WarmedH U.vm) : XT t B U H :=
  ⟨⟨((h.1.1.kept hS.2.1).narrow hAB).moved hW.alike, ((h.1.2.kept hS.2.1).narrow hAB).moved hW.alike⟩, h.2.1.warmM hW, h.2.2.1.warmM hW, h.2.2.2.1.warmM hW, h.2.2.2.2.1.warmM hW, h.2.2.2.2.2.1.warmM hW, h.2.2.2.2.2.2.moved hW.alike⟩
theorem xt_call {t : Nat} {A : Nat → Prop} {U : State} (gf : JFrame) (mk : MethodId) (av : Array Value) (h : XT t A U U.heap) : XT t A (U.calling gf mk av) U.heap := by
  have v : U.vm.Alike (U.calling gf mk av).vm := Vm.Alike.refl U.vm
  have e : U.vm = (U.calling gf mk av).vm := rfl
  exact ⟨⟨h.1.1.moved v, h.1.2.moved v⟩, h.2.1.same rfl e, h.2.2.1.same rfl e, h.2.2.2.1.same rfl e, h.2.2.2.2.1.same rfl e, h.2.2.2.2.2.1.same rfl e, h.2.2.2.2.2.2.moved v⟩
/-! the numbers of classes -/
theorem pq_arr {ty : FieldType} (h : (Cond.arrayClass ty).before args s = true) : ∃ cA : ClassId, ArrOfT s cA ty ∧ s.vm.findClass ("[" ++ ty.toString) = some cA := by
  obtain ⟨c, k, comp, h1, h2, h3⟩ := Cond.arrayClass_spec h
  exact ⟨c, fun n z => ⟨fun k h => (by cases h), k, h2, comp, h3⟩, h1⟩
theorem pq_tys (hts : ∀ w ∈ lw_tbl, w.before args s = true) : ∃ c : Nat → ClassId, ∀ (k : Nat) (q : ClassId × FieldType), (tysC c)[k]? = some q → ArrOfT s q.1 q.2 ∧ va_RA s q.1 q.2 := by
  obtain ⟨c0, a0, b0⟩ := pq_arr (ty := .int) (hts _ (tn_c1 64 rfl))
  obtain ⟨c1, a1, b1⟩ := pq_arr (ty := .boolean) (hts _ (tn_c1 65 rfl))
  obtain ⟨c2, a2, b2⟩ := pq_arr (ty := .byte) (hts _ (tn_c3 149 rfl))
  obtain ⟨c3, a3, b3⟩ := pq_arr (ty := .short) (hts _ (tn_c6 167 rfl))
  obtain ⟨c4, a4, b4⟩ := pq_arr (ty := .long) (hts _ (tn_c2 99 rfl))
  obtain ⟨comp, c5, k5, h1, h2, h3, h4, h5⟩ := Cond.arrayOver_spec (hts _ (tn_c2 76 rfl))
  refine ⟨fun k => ([c0, c1, c2, c3, c4, c5] : List ClassId).getD k c0, fun k q hq => ?_⟩
  match k, hq with
  | 0, hq => cases hq; exact ⟨a0, b0⟩
  | 1, hq => cases hq; exact ⟨a1, b1⟩
  | 2, hq => cases hq; exact ⟨a2, b2⟩
  | 3, hq => cases hq; exact ⟨a3, b3⟩
  | 4, hq => cases hq; exact ⟨a4, b4⟩
  | 5, hq => cases hq; exact ⟨fun n z => ⟨fun k h => (by cases h), k5, h3, comp, h4⟩, k5, comp, h3, h4, h1, h5⟩
  | k + 6, hq => cases hq
theorem pq_cls (hts : ∀ w ∈ lw_tbl, w.before args s = true) : ∃ G : va_G, ∀ (k : Nat) (q : vw_C), classes[k]? = some q → u_Kn s q.1 q.2.1 q.2.2 (G.1 k) (G.2 k) := by
  have htt : ∀ w ∈ TT, w.before args s = true := fun w h => hts w (tt_sub h)
  obtain ⟨c0, f0, h0⟩ := u_known (C := "WithTheReds$Basket") (T := F_Basket) (N := 4) (n := 4) htt i_Basket (hts (.instantiable "WithTheReds$Basket" 4) (tn_c1 31 rfl))
  obtain ⟨c1, f1, h1⟩ := u_known (C := "WithTheReds$Changes") (T := F_Changes) (N := 5) (n := 5) htt i_Changes (hts (.instantiable "WithTheReds$Changes" 5) (tn_c2 29 rfl))
  obtain ⟨c2, f2, h2⟩ := u_known (C := "WithTheReds$Deeds") (T := F_Deeds) (N := 7) (n := 7) htt i_Deeds (hts (.instantiable "WithTheReds$Deeds" 7) (tn_c2 0 rfl))
  obtain ⟨c3, f3, h3⟩ := u_known (C := "WithTheReds$Heaps") (T := F_Heaps) (N := 9) (n := 9) htt i_Heaps (hts (.instantiable "WithTheReds$Heaps" 9) (tn_c1 159 rfl))
  obtain ⟨c4, f4, h4⟩ := u_known (C := "WithTheReds$Law") (T := F_Law) (N := 5) (n := 5) htt i_Law (hts (.instantiable "WithTheReds$Law" 5) (tn_c1 110 rfl))
  obtain ⟨c5, f5, h5⟩ := u_known (C := "WithTheReds$Plan") (T := F_Plan) (N := 2) (n := 2) htt i_Plan (hts (.instantiable "WithTheReds$Plan" 2) (tn_c1 194 rfl))
  obtain ⟨c6, f6, h6⟩ := u_known (C := "WithTheReds$Rope") (T := F_Rope) (N := 7) (n := 7) htt i_Rope (hts (.instantiable "WithTheReds$Rope" 7) (tn_c1 207 rfl))
  obtain ⟨c7, f7, h7⟩ := u_known (C := "WithTheReds$Shelf") (T := F_Shelf) (N := 4) (n := 4) htt i_Shelf (hts (.instantiable "WithTheReds$Shelf" 4) (tn_c2 77 rfl))
  obtain ⟨c8, f8, h8⟩ := u_known (C := "WithTheReds$Socks") (T := F_Socks) (N := 4) (n := 4) htt i_Socks (hts (.instantiable "WithTheReds$Socks" 4) (tn_c2 53 rfl))
  obtain ⟨c9, f9, h9⟩ := u_known (C := "WithTheReds$Tape") (T := F_Tape) (N := 11) (n := 11) htt i_Tape (hts (.instantiable "WithTheReds$Tape" 11) (tn_c1 67 rfl))
  obtain ⟨c10, f10, h10⟩ := u_known (C := "WithTheReds$Tub") (T := F_Tub) (N := 6) (n := 6) htt i_Tub (hts (.instantiable "WithTheReds$Tub" 6) (tn_c1 132 rfl))
  obtain ⟨c11, f11, h11⟩ := u_known (C := "WithTheReds") (T := F_Top) (N := 11) (n := 11) htt i_Top (hts (.instantiable "WithTheReds" 11) (tn_c1 23 rfl))
  obtain ⟨c12, f12, h12⟩ := u_known (C := "WithTheRedsModel") (T := F_M) (N := 62) (n := 62) htt i_M (hts (.instantiable "WithTheRedsModel" 62) (tn_c5 216 rfl))
  refine ⟨(fun k => ([c0, c1, c2, c3, c4, c5, c6, c7, c8, c9, c10, c11, c12] : List ClassId).getD k c0, fun k => ([f0, f1, f2, f3, f4, f5, f6, f7, f8, f9, f10, f11, f12] : List (Nat → Nat)).getD k f0), fun k q hq => ?_⟩
  match k, hq with
  | 0, hq => cases hq; exact h0
  | 1, hq => cases hq; exact h1
  | 2, hq => cases hq; exact h2
  | 3, hq => cases hq; exact h3
  | 4, hq => cases hq; exact h4
  | 5, hq => cases hq; exact h5
  | 6, hq => cases hq; exact h6
  | 7, hq => cases hq; exact h7
  | 8, hq => cases hq; exact h8
  | 9, hq => cases hq; exact h9
  | 10, hq => cases hq; exact h10
  | 11, hq => cases hq; exact h11
  | 12, hq => cases hq; exact h12
  | k + 13, hq => cases hq
end PREM
