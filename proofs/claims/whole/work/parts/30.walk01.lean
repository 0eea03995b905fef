set_option maxRecDepth 4000 in
theorem w_Top_heat_23 {E : Ev} {g : Gx} {r : Int32} {σ' : St} (C : Cx E classes 4 (wC g) b_Top_heat "WithTheReds" 6) (hR : RetI E classes 4 (wC g) b_Top_heat r σ') : ∀ (n : Nat) (σ : St) (x1 : Int32) (x2 : Int32) (x3 : Int32), f_Top_heat_23 n σ x1 x2 x3 = some (r, σ') → V E classes 4 (wC g) σ 23 [(0, .ref (g.2.1 0)), (1, .int x1), (2, .int x2), (3, .int x3)] [] := by
  intro n
  induction n with
  | zero => intro σ x1 x2 x3 hf; exact absurd hf (by unfold f_Top_heat_23; exact nofun)
  | succ n ih =>
    intro σ x1 x2 x3 hf
    unfold f_Top_heat_23 at hf
    refine V_iload_n C 3 d_Top_heat_23 rfl ?_
    refine V_iconst (v := 3) C d_Top_heat_24 (by decide) ?_
    refine V_icmp_lt (pc := 25) (tgt := 64) C d_Top_heat_25 (by decide) hf (fun hf => ?_) (fun hf => ?_)
    · refine V_bipush (v := -2) C d_Top_heat_64 (by decide) ?_
      exact V_iretW hR hf d_Top_heat_66
    · refine V_aload_n C 0 d_Top_heat_28 rfl ?_
      refine gC_Top_tub C fl_Top_35 d_Top_heat_29 ?_
      refine V_iload_n C 3 d_Top_heat_32 rfl ?_
      obtain ⟨σ33_1, hg, hf⟩ := bd hf
      refine V_callVv C [.int x3] (c_Tub_warm C.2.2.2.2.2.2.2.1 hg) (by decide) cw_Top_194 39 rfl rfl rfl rfl (Nat.le_of_ble_eq_true rfl) rfl d_Top_heat_33 ?_
      refine V_aload_n C 0 d_Top_heat_36 rfl ?_
      refine gC_Top_tub C fl_Top_35 d_Top_heat_37 ?_
      refine V_iload_n C 1 d_Top_heat_40 rfl ?_
      refine V_iconst (v := 0) C d_Top_heat_41 (by decide) ?_
      obtain ⟨σ42_2, hg, hf⟩ := bd hf
      refine V_callVv C [.int x1, .int (0 : Int32)] (c_Tub_fill C.2.2.2.2.2.2.2.1 hg) (by decide) cw_Top_201 39 rfl rfl rfl rfl (Nat.le_of_ble_eq_true rfl) rfl d_Top_heat_42 ?_
      refine V_aload_n C 0 d_Top_heat_45 rfl ?_
      refine gC_Top_tub C fl_Top_35 d_Top_heat_46 ?_
      refine V_iload_n C 2 d_Top_heat_49 rfl ?_
      obtain ⟨r50_3, hg, hf⟩ := bd hf
      refine V_callVi C [.int x2] (c_Tub_isSafe C.2.2.2.2.2.2.2.1 hg) (by decide) cw_Top_188 39 rfl rfl rfl rfl (Nat.le_of_ble_eq_true rfl) rfl d_Top_heat_50 ?_
      refine V_if_eq (pc := 53) (tgt := 58) C d_Top_heat_53 (by decide) hf (fun hf => ?_) (fun hf => ?_)
      · refine V_iinc (v := x3 + (-1 : Int32)) C 3 d_Top_heat_58 rfl rfl (by decide) rfl ?_
        refine V_goto (pc := 61) (tgt := 23) C d_Top_heat_61 (by decide) ?_
        refine V.sub [1, 2, 3, 0] rfl ?_
        exact ih σ42_2 x1 x2 (x3 + (-1 : Int32)) hf
      · refine V_iload_n C 3 d_Top_heat_56 rfl ?_
        exact V_iretW hR hf d_Top_heat_57
set_option maxRecDepth 4000 in
theorem w_Top_heat {E : Ev} {g : Gx} {r : Int32} {σ' : St} (C : Cx E classes 4 (wC g) b_Top_heat "WithTheReds" 6) (hR : RetI E classes 4 (wC g) b_Top_heat r σ') {σ : St} {a1 : Int32} {a2 : Int32} (hf : f_Top_heat σ a1 a2 = some (r, σ')) : V E classes 4 (wC g) σ 0 [(0, .ref (g.2.1 0)), (1, .int a1), (2, .int a2)] [] := by
  unfold f_Top_heat at hf
  refine V_aload_n C 0 d_Top_heat_0 rfl ?_
  refine V_iload_n C 1 d_Top_heat_1 rfl ?_
  obtain ⟨r2_1, hg, hf⟩ := bd hf
  refine V_callVi C [.int a1] (c_Top_isSet C.2.2.2.2.2.2.2.1 hg) (by decide) cw_Top_160 0 rfl rfl rfl rfl (Nat.le_of_ble_eq_true rfl) rfl d_Top_heat_2 ?_
  refine V_if_eq (pc := 5) (tgt := 18) C d_Top_heat_5 (by decide) hf (fun hf => ?_) (fun hf => ?_)
  · refine V_iconst (v := -1) C d_Top_heat_18 (by decide) ?_
    exact V_iretW hR hf d_Top_heat_19
  · refine V_iload_n C 2 d_Top_heat_8 rfl ?_
    refine V_iconst (v := 0) C d_Top_heat_9 (by decide) ?_
    refine V_bipush (v := 99) C d_Top_heat_10 (by decide) ?_
    obtain ⟨r12_2, hg, hf⟩ := bd hf
    refine V_callSi C [.int a2, .int (0 : Int32), .int (99 : Int32)] (c_Top_within C.2.2.2.2.2.2.2.1 hg) (by decide) cw_Top_108 rfl (Nat.le_of_ble_eq_true rfl) rfl d_Top_heat_12 ?_
    refine V_if_ne (pc := 15) (tgt := 20) C d_Top_heat_15 (by decide) hf (fun hf => ?_) (fun hf => ?_)
    · refine V_bipush (v := 9) C d_Top_heat_20 (by decide) ?_
      refine V_istore_n C d_Top_heat_22 (by decide) rfl ?_
      refine V.sub [1, 2, 3, 0] rfl ?_
      exact w_Top_heat_23 C hR FU σ a1 a2 (9 : Int32) hf
    · refine V_iconst (v := -1) C d_Top_heat_18 (by decide) ?_
      exact V_iretW hR hf d_Top_heat_19
theorem c_Top_heat {l : Launch} {g : Gx} (hok : Wok classes (wC g)) {σ : St} {a1 : Int32} {a2 : Int32} {r : Int32} {σ' : St} (hf : f_Top_heat σ a1 a2 = some (r, σ')) : CtI classes l y_Top_heat b_Top_heat 4 (some .int) 6 (wC g) [.ref (g.2.1 0), .int a1, .int a2] σ r σ' :=
  MetI (by decide +kernel) hok (Nat.le_of_ble_eq_true rfl) (fun E _ C hR => w_Top_heat C hR hf)
set_option maxRecDepth 4000 in
theorem w_Top_rowRefusal {E : Ev} {g : Gx} {r : Int32} {σ : St} (C : Cx E classes 3 (wC g) b_Top_rowRefusal "WithTheReds" 3) (hR : RetI E classes 3 (wC g) b_Top_rowRefusal r σ) {a1 : Int32} {a2 : Int32} (hf : f_Top_rowRefusal σ a1 a2 = some r) : V E classes 3 (wC g) σ 0 [(0, .ref (g.2.1 0)), (1, .int a1), (2, .int a2)] [] := by
  unfold f_Top_rowRefusal at hf
  refine V_iload_n C 1 d_Top_rowRefusal_0 rfl ?_
  obtain ⟨r1_1, hg, hf⟩ := bd hf
  refine V_callSi C [.int a1] (c_Top_isShelf C.2.2.2.2.2.2.2.1 hg) (by decide) cw_Top_104 rfl (Nat.le_of_ble_eq_true rfl) rfl d_Top_rowRefusal_1 ?_
  refine V_if_ne (pc := 4) (tgt := 9) C d_Top_rowRefusal_4 (by decide) hf (fun hf => ?_) (fun hf => ?_)
  · refine V_aload_n C 0 d_Top_rowRefusal_9 rfl ?_
    refine gC_Top_shelves C fl_Top_87 d_Top_rowRefusal_10 ?_
    refine V_iload_n C 1 d_Top_rowRefusal_13 rfl ?_
    obtain ⟨hi14_2, hf⟩ := gu hf
    refine V_shelves C hi14_2 d_Top_rowRefusal_14 ?_
    refine gC_Shelf_sort (v := σ.1 (4201 + 200 * (a1.toNatClampNeg))) C (inb6 hi14_2) fl_Top_368 rfl d_Top_rowRefusal_15 ?_
    refine V_bipush (v := -2) C d_Top_rowRefusal_18 (by decide) ?_
    refine V_icmp_ne (pc := 20) (tgt := 26) C d_Top_rowRefusal_20 (by decide) hf (fun hf => ?_) (fun hf => ?_)
    · refine V_aload_n C 0 d_Top_rowRefusal_26 rfl ?_
      refine gC_Top_shelves C fl_Top_87 d_Top_rowRefusal_27 ?_
      refine V_iload_n C 1 d_Top_rowRefusal_30 rfl ?_
      obtain ⟨hi31_3, hf⟩ := gu hf
      refine V_shelves C hi31_3 d_Top_rowRefusal_31 ?_
      refine gC_Shelf_sort (v := σ.1 (4201 + 200 * (a1.toNatClampNeg))) C (inb6 hi31_3) fl_Top_368 rfl d_Top_rowRefusal_32 ?_
      refine V_iload_n C 2 d_Top_rowRefusal_35 rfl ?_
      refine V_icmp_ne (pc := 36) (tgt := 43) C d_Top_rowRefusal_36 (by decide) hf (fun hf => ?_) (fun hf => ?_)
      · refine V_bipush (v := -12) C d_Top_rowRefusal_43 (by decide) ?_
        exact V_iret hR hf d_Top_rowRefusal_45
      · refine V_iconst (v := 0) C d_Top_rowRefusal_39 (by decide) ?_
        refine V_goto (pc := 40) (tgt := 45) C d_Top_rowRefusal_40 (by decide) ?_
        exact V_iret hR hf d_Top_rowRefusal_45
    · refine V_bipush (v := -11) C d_Top_rowRefusal_23 (by decide) ?_
      exact V_iret hR hf d_Top_rowRefusal_25
  · refine V_iconst (v := -1) C d_Top_rowRefusal_7 (by decide) ?_
    exact V_iret hR hf d_Top_rowRefusal_8
theorem c_Top_rowRefusal {l : Launch} {g : Gx} (hok : Wok classes (wC g)) {σ : St} {a1 : Int32} {a2 : Int32} {r : Int32} (hf : f_Top_rowRefusal σ a1 a2 = some r) : CtI classes l y_Top_rowRefusal b_Top_rowRefusal 3 (some .int) 3 (wC g) [.ref (g.2.1 0), .int a1, .int a2] σ r σ :=
  MetI (by decide +kernel) hok (Nat.le_of_ble_eq_true rfl) (fun E _ C hR => w_Top_rowRefusal C hR hf)
set_option maxRecDepth 4000 in
theorem w_Top_heatOfIt_31 {E : Ev} {g : Gx} {r : Int32} {σ' : St} (C : Cx E classes 5 (wC g) b_Top_heatOfIt "WithTheReds" 6) (hR : RetI E classes 5 (wC g) b_Top_heatOfIt r σ') : ∀ (n : Nat) (σ : St) (x1 : Int32) (x2 : Int32) (x4 : Int32), f_Top_heatOfIt_31 n σ x1 x2 x4 = some (r, σ') → V E classes 5 (wC g) σ 31 [(0, .ref (g.2.1 0)), (1, .int x1), (2, .int x2), (4, .int x4)] [] := by
  intro n
  induction n with
  | zero => intro σ x1 x2 x4 hf; exact absurd hf (by unfold f_Top_heatOfIt_31; exact nofun)
  | succ n ih =>
    intro σ x1 x2 x4 hf
    unfold f_Top_heatOfIt_31 at hf
    refine V_iload C 3 d_Top_heatOfIt_31 rfl ?_
    refine V_bipush (v := 9) C d_Top_heatOfIt_33 (by decide) ?_
    refine V_icmp_gt (pc := 35) (tgt := 81) C d_Top_heatOfIt_35 (by decide) hf (fun hf => ?_) (fun hf => ?_)
    · refine V_bipush (v := -2) C d_Top_heatOfIt_81 (by decide) ?_
      exact V_iretW hR hf d_Top_heatOfIt_83
    · refine V_aload_n C 0 d_Top_heatOfIt_38 rfl ?_
      refine gC_Top_tub C fl_Top_35 d_Top_heatOfIt_39 ?_
      refine V_iload C 3 d_Top_heatOfIt_42 rfl ?_
      obtain ⟨σ44_1, hg, hf⟩ := bd hf
      refine V_callVv C [.int x4] (c_Tub_warm C.2.2.2.2.2.2.2.1 hg) (by decide) cw_Top_194 39 rfl rfl rfl rfl (Nat.le_of_ble_eq_true rfl) rfl d_Top_heatOfIt_44 ?_
      refine V_aload_n C 0 d_Top_heatOfIt_47 rfl ?_
      refine gC_Top_tub C fl_Top_35 d_Top_heatOfIt_48 ?_
      refine V_iload_n C 2 d_Top_heatOfIt_51 rfl ?_
      refine V_iconst (v := 0) C d_Top_heatOfIt_52 (by decide) ?_
      obtain ⟨σ53_2, hg, hf⟩ := bd hf
      refine V_callVv C [.int x2, .int (0 : Int32)] (c_Tub_fill C.2.2.2.2.2.2.2.1 hg) (by decide) cw_Top_201 39 rfl rfl rfl rfl (Nat.le_of_ble_eq_true rfl) rfl d_Top_heatOfIt_53 ?_
      refine V_aload_n C 0 d_Top_heatOfIt_56 rfl ?_
      refine V_aload_n C 0 d_Top_heatOfIt_57 rfl ?_
      refine gC_Top_shelves C fl_Top_87 d_Top_heatOfIt_58 ?_
      refine V_iload_n C 1 d_Top_heatOfIt_61 rfl ?_
      obtain ⟨hi62_3, hf⟩ := gu hf
      refine V_shelves C hi62_3 d_Top_heatOfIt_62 ?_
      refine V_iload_n C 2 d_Top_heatOfIt_63 rfl ?_
      obtain ⟨r64_4, hg, hf⟩ := bd hf
      refine V_callVi C [.ref (g.2.1 (42 + 2 * (x1.toNatClampNeg))), .int x2] (c_Top_firstUnlike C.2.2.2.2.2.2.2.1 (inb6 hi62_3) hg) (by decide) cw_Top_280 0 rfl rfl rfl rfl (Nat.le_of_ble_eq_true rfl) rfl d_Top_heatOfIt_64 ?_
      refine V_bipush (v := -2) C d_Top_heatOfIt_67 (by decide) ?_
      refine V_icmp_ne (pc := 69) (tgt := 75) C d_Top_heatOfIt_69 (by decide) hf (fun hf => ?_) (fun hf => ?_)
      · refine V_iinc (v := x4 + (1 : Int32)) C 3 d_Top_heatOfIt_75 rfl rfl (by decide) rfl ?_
        refine V_goto (pc := 78) (tgt := 31) C d_Top_heatOfIt_78 (by decide) ?_
        refine V.sub [1, 2, 3, 0] rfl ?_
        exact ih σ53_2 x1 x2 (x4 + (1 : Int32)) hf
      · refine V_iload C 3 d_Top_heatOfIt_72 rfl ?_
        exact V_iretW hR hf d_Top_heatOfIt_74
set_option maxRecDepth 4000 in
theorem w_Top_heatOfIt {E : Ev} {g : Gx} {r : Int32} {σ' : St} (C : Cx E classes 5 (wC g) b_Top_heatOfIt "WithTheReds" 6) (hR : RetI E classes 5 (wC g) b_Top_heatOfIt r σ') {σ : St} {a1 : Int32} {a2 : Int32} (hf : f_Top_heatOfIt σ a1 a2 = some (r, σ')) : V E classes 5 (wC g) σ 0 [(0, .ref (g.2.1 0)), (1, .int a1), (2, .int a2)] [] := by
  unfold f_Top_heatOfIt at hf
  refine V_aload_n C 0 d_Top_heatOfIt_0 rfl ?_
  refine V_iload_n C 1 d_Top_heatOfIt_1 rfl ?_
  refine V_iconst (v := 1) C d_Top_heatOfIt_2 (by decide) ?_
  obtain ⟨r3_1, hg, hf⟩ := bd hf
  refine V_callVi C [.int a1, .int (1 : Int32)] (c_Top_rowRefusal C.2.2.2.2.2.2.2.1 hg) (by decide) cw_Top_112 0 rfl rfl rfl rfl (Nat.le_of_ble_eq_true rfl) rfl d_Top_heatOfIt_3 ?_
  refine V_istore_n C d_Top_heatOfIt_6 (by decide) rfl ?_
  refine V_iload_n C 0 d_Top_heatOfIt_7 rfl ?_
  refine V_iconst (v := -1) C d_Top_heatOfIt_8 (by decide) ?_
  refine V_icmp_eq (pc := 9) (tgt := 20) C d_Top_heatOfIt_9 (by decide) hf (fun hf => ?_) (fun hf => ?_)
  · refine V_iconst (v := -1) C d_Top_heatOfIt_20 (by decide) ?_
    exact V_iretW hR hf d_Top_heatOfIt_21
  · refine V_aload_n C 1 d_Top_heatOfIt_12 rfl ?_
    refine V_iload_n C 3 d_Top_heatOfIt_13 rfl ?_
    obtain ⟨r14_2, hg, hf⟩ := bd hf
    refine V_callVi C [.int a2] (c_Top_isSet C.2.2.2.2.2.2.2.1 hg) (by decide) cw_Top_160 0 rfl rfl rfl rfl (Nat.le_of_ble_eq_true rfl) rfl d_Top_heatOfIt_14 ?_
    refine V_if_ne (pc := 17) (tgt := 22) C d_Top_heatOfIt_17 (by decide) hf (fun hf => ?_) (fun hf => ?_)
    · refine V_iload_n C 0 d_Top_heatOfIt_22 rfl ?_
      refine V_if_eq (pc := 23) (tgt := 28) C d_Top_heatOfIt_23 (by decide) hf (fun hf => ?_) (fun hf => ?_)
      · refine V_iconst (v := 3) C d_Top_heatOfIt_28 (by decide) ?_
        refine V_istore C d_Top_heatOfIt_29 (by decide) rfl ?_
        refine V.sub [2, 3, 4, 0] rfl ?_
        exact w_Top_heatOfIt_31 C hR FU σ a1 a2 (3 : Int32) hf
      · refine V_iload_n C 0 d_Top_heatOfIt_26 rfl ?_
        exact V_iretW hR hf d_Top_heatOfIt_27
    · refine V_iconst (v := -1) C d_Top_heatOfIt_20 (by decide) ?_
      exact V_iretW hR hf d_Top_heatOfIt_21
theorem c_Top_heatOfIt {l : Launch} {g : Gx} (hok : Wok classes (wC g)) {σ : St} {a1 : Int32} {a2 : Int32} {r : Int32} {σ' : St} (hf : f_Top_heatOfIt σ a1 a2 = some (r, σ')) : CtI classes l y_Top_heatOfIt b_Top_heatOfIt 5 (some .int) 6 (wC g) [.ref (g.2.1 0), .int a1, .int a2] σ r σ' :=
  MetI (by decide +kernel) hok (Nat.le_of_ble_eq_true rfl) (fun E _ C hR => w_Top_heatOfIt C hR hf)
set_option maxRecDepth 4000 in
theorem w_Deeds_keepImage_27 {E : Ev} {g : Gx} {σ' : St} (C : Cx E classes 2 (wC g) b_Deeds_keepImage "WithTheReds$Deeds" 2) (hR : RetV E classes 2 (wC g) b_Deeds_keepImage σ') : ∀ (n : Nat) (σ : St) (x1 : Int32), f_Deeds_keepImage_27 n σ x1 = some σ' → V E classes 2 (wC g) σ 27 [(0, .ref (g.2.1 9)), (1, .int x1)] [] := by
  intro n
  induction n with
  | zero => intro σ x1 hf; exact absurd hf (by unfold f_Deeds_keepImage_27; exact nofun)
  | succ n ih =>
    intro σ x1 hf
    unfold f_Deeds_keepImage_27 at hf
    refine V_iload_n C 1 d_Deeds_keepImage_27 rfl ?_
    refine V_aload_n C 0 d_Deeds_keepImage_28 rfl ?_
    refine gC_Deeds_basket C fl_Deeds_32 d_Deeds_keepImage_29 ?_
    refine gC_Basket_things (v := σ.1 103) C fl_Deeds_51 rfl d_Deeds_keepImage_32 ?_
    refine V_icmp_ge (pc := 35) (tgt := 89) C d_Deeds_keepImage_35 (by decide) hf (fun hf => ?_) (fun hf => ?_)
    · exact V_vret hR hf d_Deeds_keepImage_89
    · refine V_aload_n C 0 d_Deeds_keepImage_38 rfl ?_
      refine gC_Deeds_keptWashed C fl_Deeds_18 d_Deeds_keepImage_39 ?_
      refine V_iload_n C 1 d_Deeds_keepImage_42 rfl ?_
      refine V_aload_n C 0 d_Deeds_keepImage_43 rfl ?_
      refine gC_Deeds_basket C fl_Deeds_32 d_Deeds_keepImage_44 ?_
      refine V_iload_n C 1 d_Deeds_keepImage_47 rfl ?_
      refine V_iconst (v := 2) C d_Deeds_keepImage_48 (by decide) ?_
      obtain ⟨r49_1, hg, hf⟩ := bd hf
      refine V_callVi C [.int x1, .int (2 : Int32)] (c_Basket_told C.2.2.2.2.2.2.2.1 hg) (by decide) cw_Deeds_75 1 rfl rfl rfl rfl (Nat.le_of_ble_eq_true rfl) rfl d_Deeds_keepImage_49 ?_
      obtain ⟨hi52_2, hf⟩ := gu hf
      refine sC_12 C hi52_2 d_Deeds_keepImage_52 ?_
      refine V_aload_n C 0 d_Deeds_keepImage_53 rfl ?_
      refine gC_Deeds_keptTints C fl_Deeds_21 d_Deeds_keepImage_54 ?_
      refine V_iload_n C 1 d_Deeds_keepImage_57 rfl ?_
      refine V_aload_n C 0 d_Deeds_keepImage_58 rfl ?_
      refine gC_Deeds_basket C fl_Deeds_32 d_Deeds_keepImage_59 ?_
      refine gC_Basket_tints C fl_Deeds_63 d_Deeds_keepImage_62 ?_
      refine V_iload_n C 1 d_Deeds_keepImage_65 rfl ?_
      obtain ⟨hi66_3, hf⟩ := gu hf
      refine aC_3 (v := σ.2.1 3 x1.toNatClampNeg) C hi66_3 rfl d_Deeds_keepImage_66 ?_
      obtain ⟨hi67_4, hf⟩ := gu hf
      refine sC_13 C hi67_4 d_Deeds_keepImage_67 ?_
      refine V_aload_n C 0 d_Deeds_keepImage_68 rfl ?_
      refine gC_Deeds_keptGone C fl_Deeds_24 d_Deeds_keepImage_69 ?_
      refine V_iload_n C 1 d_Deeds_keepImage_72 rfl ?_
      refine V_aload_n C 0 d_Deeds_keepImage_73 rfl ?_
      refine gC_Deeds_basket C fl_Deeds_32 d_Deeds_keepImage_74 ?_
      refine gC_Basket_gone C fl_Deeds_91 d_Deeds_keepImage_77 ?_
      refine V_iload_n C 1 d_Deeds_keepImage_80 rfl ?_
      obtain ⟨hi81_5, hf⟩ := gu hf
      refine aC_4 (v := σ.2.1 4 x1.toNatClampNeg) C hi81_5 rfl d_Deeds_keepImage_81 ?_
      obtain ⟨hi82_6, hf⟩ := gu hf
      refine sC_14 C hi82_6 d_Deeds_keepImage_82 ?_
      refine V_iinc (v := x1 + (1 : Int32)) C 1 d_Deeds_keepImage_83 rfl rfl (by decide) rfl ?_
      refine V_goto (pc := 86) (tgt := 27) C d_Deeds_keepImage_86 (by decide) ?_
      refine V.sub [1, 0] rfl ?_
      exact ih (upA (upA (upA σ 12 x1.toNatClampNeg r49_1) 13 x1.toNatClampNeg (σ.2.1 3 x1.toNatClampNeg)) 14 x1.toNatClampNeg (vp_nar .boolean (σ.2.1 4 x1.toNatClampNeg))) (x1 + (1 : Int32)) hf
set_option maxRecDepth 4000 in
theorem w_Deeds_keepImage {E : Ev} {g : Gx} {σ' : St} (C : Cx E classes 2 (wC g) b_Deeds_keepImage "WithTheReds$Deeds" 2) (hR : RetV E classes 2 (wC g) b_Deeds_keepImage σ') {σ : St} (hf : f_Deeds_keepImage σ = some σ') : V E classes 2 (wC g) σ 0 [(0, .ref (g.2.1 9))] [] := by
  unfold f_Deeds_keepImage at hf
  refine V_aload_n C 0 d_Deeds_keepImage_0 rfl ?_
  refine V_aload_n C 0 d_Deeds_keepImage_1 rfl ?_
  refine gC_Deeds_basket C fl_Deeds_32 d_Deeds_keepImage_2 ?_
  refine gC_Basket_things (v := σ.1 103) C fl_Deeds_51 rfl d_Deeds_keepImage_5 ?_
  refine pC_Deeds_keptThings C fl_Deeds_28 d_Deeds_keepImage_8 ?_
  refine V_aload_n C 0 d_Deeds_keepImage_11 rfl ?_
  refine gC_Deeds_led C fl_Deeds_11 d_Deeds_keepImage_12 ?_
  refine V_iconst (v := 0) C d_Deeds_keepImage_15 (by decide) ?_
  refine V_aload_n C 0 d_Deeds_keepImage_16 rfl ?_
  refine gC_Deeds_keptLed C fl_Deeds_15 d_Deeds_keepImage_17 ?_
  refine V_iconst (v := 0) C d_Deeds_keepImage_20 (by decide) ?_
  refine V_iconst (v := 4) C d_Deeds_keepImage_21 (by decide) ?_
  obtain ⟨hcp, hf⟩ := gu hf
  refine V_cpA (σ' := (stA (upI σ 906 (σ.1 103)) 11 (va_cpy (σ.2.1 10) (σ.2.1 11) (0 : Int32).toNatClampNeg (0 : Int32).toNatClampNeg (4 : Int32).toNatClampNeg))) C 10 11 rfl rfl rfl rfl rfl hcp (by decide) (Nat.le_of_ble_eq_true rfl) al_Deeds_85 d_Deeds_keepImage_22 ?_
  refine V_iconst (v := 0) C d_Deeds_keepImage_25 (by decide) ?_
  refine V_istore_n C d_Deeds_keepImage_26 (by decide) rfl ?_
  refine V.sub [1, 0] rfl ?_
  exact w_Deeds_keepImage_27 C hR FU (stA (upI σ 906 (σ.1 103)) 11 (va_cpy (σ.2.1 10) (σ.2.1 11) (0 : Int32).toNatClampNeg (0 : Int32).toNatClampNeg (4 : Int32).toNatClampNeg)) (0 : Int32) hf
theorem c_Deeds_keepImage {l : Launch} {g : Gx} (hok : Wok classes (wC g)) {σ : St} {σ' : St} (hf : f_Deeds_keepImage σ = some σ') : CtV classes l y_Deeds_keepImage b_Deeds_keepImage 2 none 2 (wC g) [.ref (g.2.1 9)] σ σ' :=
  MetV (by decide +kernel) hok (Nat.le_of_ble_eq_true rfl) (fun E _ C hR => w_Deeds_keepImage C hR hf)
set_option maxRecDepth 4000 in
theorem w_Top_image {E : Ev} {g : Gx} {r : Int32} {σ' : St} (C : Cx E classes 1 (wC g) b_Top_image "WithTheReds" 3) (hR : RetI E classes 1 (wC g) b_Top_image r σ') {σ : St} (hf : f_Top_image σ = some (r, σ')) : V E classes 1 (wC g) σ 0 [(0, .ref (g.2.1 0))] [] := by
  unfold f_Top_image at hf
  refine V_aload_n C 0 d_Top_image_0 rfl ?_
  refine gC_Top_deeds C fl_Top_67 d_Top_image_1 ?_
  obtain ⟨σ4_1, hg, hf⟩ := bd hf
  refine V_callVv C [] (c_Deeds_keepImage C.2.2.2.2.2.2.2.1 hg) (by decide) cw_Top_313 9 rfl rfl rfl rfl (Nat.le_of_ble_eq_true rfl) rfl d_Top_image_4 ?_
  refine V_aload_n C 0 d_Top_image_7 rfl ?_
  refine gC_Top_deeds C fl_Top_67 d_Top_image_8 ?_
  refine gC_Deeds_led C fl_Top_310 d_Top_image_11 ?_
  refine V_iconst (v := 0) C d_Top_image_14 (by decide) ?_
  refine aC_10 (v := σ4_1.2.1 10 (0 : Int32).toNatClampNeg) C rfl rfl d_Top_image_15 ?_
  exact V_iretW hR hf d_Top_image_16
theorem c_Top_image {l : Launch} {g : Gx} (hok : Wok classes (wC g)) {σ : St} {r : Int32} {σ' : St} (hf : f_Top_image σ = some (r, σ')) : CtI classes l y_Top_image b_Top_image 1 (some .int) 3 (wC g) [.ref (g.2.1 0)] σ r σ' :=
  MetI (by decide +kernel) hok (Nat.le_of_ble_eq_true rfl) (fun E _ C hR => w_Top_image C hR hf)
set_option maxRecDepth 4000 in
theorem w_Top_isHeatAndCloth {E : Ev} {g : Gx} {r : Int32} {σ : St} (C : Cx E classes 1 (wC g) b_Top_isHeatAndCloth "WithTheReds" 3) (hR : RetZ E classes 1 (wC g) b_Top_isHeatAndCloth r σ) {a0 : Int32} (hf : f_Top_isHeatAndCloth a0 = some r) : V E classes 1 (wC g) σ 0 [(0, .int a0)] [] := by
  unfold f_Top_isHeatAndCloth at hf
  refine V_iload_n C 0 d_Top_isHeatAndCloth_0 rfl ?_
  refine V_bipush (v := 10) C d_Top_isHeatAndCloth_1 (by decide) ?_
  refine V_idiv C d_Top_isHeatAndCloth_3 (by decide) ?_
  obtain ⟨r4_1, hg, hf⟩ := bd hf
  refine V_callSi C [.int (a0 / (10 : Int32))] (c_Top_isHeat C.2.2.2.2.2.2.2.1 hg) (by decide) cw_Top_154 rfl (Nat.le_of_ble_eq_true rfl) rfl d_Top_isHeatAndCloth_4 ?_
  refine V_if_eq (pc := 7) (tgt := 26) C d_Top_isHeatAndCloth_7 (by decide) hf (fun hf => ?_) (fun hf => ?_)
  · refine V_iconst (v := 0) C d_Top_isHeatAndCloth_26 (by decide) ?_
    exact V_zret hR hf rfl d_Top_isHeatAndCloth_27
  · refine V_iload_n C 0 d_Top_isHeatAndCloth_10 rfl ?_
    refine V_bipush (v := 10) C d_Top_isHeatAndCloth_11 (by decide) ?_
    refine V_irem C d_Top_isHeatAndCloth_13 (by decide) ?_
    refine V_iconst (v := 0) C d_Top_isHeatAndCloth_14 (by decide) ?_
    refine V_iconst (v := 1) C d_Top_isHeatAndCloth_15 (by decide) ?_
    obtain ⟨r16_2, hg, hf⟩ := bd hf
    refine V_callSi C [.int (irem a0 (10 : Int32)), .int (0 : Int32), .int (1 : Int32)] (c_Top_within C.2.2.2.2.2.2.2.1 hg) (by decide) cw_Top_108 rfl (Nat.le_of_ble_eq_true rfl) rfl d_Top_isHeatAndCloth_16 ?_
    refine V_if_eq (pc := 19) (tgt := 26) C d_Top_isHeatAndCloth_19 (by decide) hf (fun hf => ?_) (fun hf => ?_)
    · refine V_iconst (v := 0) C d_Top_isHeatAndCloth_26 (by decide) ?_
      exact V_zret hR hf rfl d_Top_isHeatAndCloth_27
    · refine V_iconst (v := 1) C d_Top_isHeatAndCloth_22 (by decide) ?_
      refine V_goto (pc := 23) (tgt := 27) C d_Top_isHeatAndCloth_23 (by decide) ?_
      exact V_zret hR hf rfl d_Top_isHeatAndCloth_27
theorem c_Top_isHeatAndCloth {l : Launch} {g : Gx} (hok : Wok classes (wC g)) {σ : St} {a0 : Int32} {r : Int32} (hf : f_Top_isHeatAndCloth a0 = some r) : CtI classes l y_Top_isHeatAndCloth b_Top_isHeatAndCloth 1 (some .boolean) 3 (wC g) [.int a0] σ r σ :=
  MetZ (by decide +kernel) hok (Nat.le_of_ble_eq_true rfl) (fun E _ C hR => w_Top_isHeatAndCloth C hR hf)
set_option maxRecDepth 4000 in
theorem w_Tub_load {E : Ev} {g : Gx} {σ' : St} (C : Cx E classes 3 (wC g) b_Tub_load "WithTheReds$Tub" 6) (hR : RetV E classes 3 (wC g) b_Tub_load σ') {σ : St} {a1 : Int32} {a2 : Int32} (hf : f_Tub_load σ a1 a2 = some σ') : V E classes 3 (wC g) σ 0 [(0, .ref (g.2.1 39)), (1, .int a1), (2, .int a2)] [] := by
  unfold f_Tub_load at hf
  refine V_aload_n C 0 d_Tub_load_0 rfl ?_
  refine V_iload_n C 2 d_Tub_load_1 rfl ?_
  refine V_bipush (v := 10) C d_Tub_load_2 (by decide) ?_
  refine V_idiv C d_Tub_load_4 (by decide) ?_
  obtain ⟨σ5_1, hg, hf⟩ := bd hf
  refine V_callVv C [.int (a2 / (10 : Int32))] (c_Tub_warm C.2.2.2.2.2.2.2.1 hg) (by decide) cw_Tub_66 39 rfl rfl rfl rfl (Nat.le_of_ble_eq_true rfl) rfl d_Tub_load_5 ?_
  refine V_aload_n C 0 d_Tub_load_8 rfl ?_
  refine V_iload_n C 1 d_Tub_load_9 rfl ?_
  refine V_aload_n C 0 d_Tub_load_10 rfl ?_
  refine V_iload_n C 2 d_Tub_load_11 rfl ?_
  refine V_bipush (v := 10) C d_Tub_load_12 (by decide) ?_
  refine V_irem C d_Tub_load_14 (by decide) ?_
  obtain ⟨r15_2, hg, hf⟩ := bd hf
  refine V_callVi C [.int (irem a2 (10 : Int32))] (c_Tub_caughtBy C.2.2.2.2.2.2.2.1 hg) (by decide) cw_Tub_70 39 rfl rfl rfl rfl (Nat.le_of_ble_eq_true rfl) rfl d_Tub_load_15 ?_
  obtain ⟨σ18_3, hg, hf⟩ := bd hf
  refine V_callVv C [.int a1, .int r15_2] (c_Tub_fill C.2.2.2.2.2.2.2.1 hg) (by decide) cw_Tub_74 39 rfl rfl rfl rfl (Nat.le_of_ble_eq_true rfl) rfl d_Tub_load_18 ?_
  exact V_vret hR hf d_Tub_load_21
theorem c_Tub_load {l : Launch} {g : Gx} (hok : Wok classes (wC g)) {σ : St} {a1 : Int32} {a2 : Int32} {σ' : St} (hf : f_Tub_load σ a1 a2 = some σ') : CtV classes l y_Tub_load b_Tub_load 3 none 6 (wC g) [.ref (g.2.1 39), .int a1, .int a2] σ σ' :=
  MetV (by decide +kernel) hok (Nat.le_of_ble_eq_true rfl) (fun E _ C hR => w_Tub_load C hR hf)
set_option maxRecDepth 4000 in
theorem w_Top_judge {E : Ev} {g : Gx} {r : Int32} {σ' : St} (C : Cx E classes 5 (wC g) b_Top_judge "WithTheReds" 7) (hR : RetI E classes 5 (wC g) b_Top_judge r σ') {σ : St} {a1 : Int32} {a2 : Int32} {a3 : Int32} (hf : f_Top_judge σ a1 a2 a3 = some (r, σ')) : V E classes 5 (wC g) σ 0 [(0, .ref (g.2.1 0)), (1, .int a1), (2, .int a2), (3, .int a3)] [] := by
  unfold f_Top_judge at hf
  refine V_aload_n C 0 d_Top_judge_0 rfl ?_
  refine V_iload_n C 1 d_Top_judge_1 rfl ?_
  refine V_iconst (v := 1) C d_Top_judge_2 (by decide) ?_
  obtain ⟨r3_1, hg, hf⟩ := bd hf
  refine V_callVi C [.int a1, .int (1 : Int32)] (c_Top_rowRefusal C.2.2.2.2.2.2.2.1 hg) (by decide) cw_Top_112 0 rfl rfl rfl rfl (Nat.le_of_ble_eq_true rfl) rfl d_Top_judge_3 ?_
  refine V_istore C d_Top_judge_6 (by decide) rfl ?_
  refine V_iload C 0 d_Top_judge_8 rfl ?_
  refine V_iconst (v := -1) C d_Top_judge_10 (by decide) ?_
  refine V_icmp_eq (pc := 11) (tgt := 29) C d_Top_judge_11 (by decide) hf (fun hf => ?_) (fun hf => ?_)
  · refine V_iconst (v := -1) C d_Top_judge_29 (by decide) ?_
    exact V_iretW hR hf d_Top_judge_30
  · refine V_aload_n C 1 d_Top_judge_14 rfl ?_
    refine V_iload_n C 3 d_Top_judge_15 rfl ?_
    obtain ⟨r16_2, hg, hf⟩ := bd hf
    refine V_callVi C [.int a2] (c_Top_isSet C.2.2.2.2.2.2.2.1 hg) (by decide) cw_Top_160 0 rfl rfl rfl rfl (Nat.le_of_ble_eq_true rfl) rfl d_Top_judge_16 ?_
    refine V_if_eq (pc := 19) (tgt := 29) C d_Top_judge_19 (by decide) hf (fun hf => ?_) (fun hf => ?_)
    · refine V_iconst (v := -1) C d_Top_judge_29 (by decide) ?_
      exact V_iretW hR hf d_Top_judge_30
    · refine V_iload_n C 4 d_Top_judge_22 rfl ?_
      obtain ⟨r23_3, hg, hf⟩ := bd hf
      refine V_callSi C [.int a3] (c_Top_isHeatAndCloth C.2.2.2.2.2.2.2.1 hg) (by decide) cw_Top_163 rfl (Nat.le_of_ble_eq_true rfl) rfl d_Top_judge_23 ?_
      refine V_if_ne (pc := 26) (tgt := 31) C d_Top_judge_26 (by decide) hf (fun hf => ?_) (fun hf => ?_)
      · refine V_iload C 0 d_Top_judge_31 rfl ?_
        refine V_if_eq (pc := 33) (tgt := 39) C d_Top_judge_33 (by decide) hf (fun hf => ?_) (fun hf => ?_)
        · refine V_aload_n C 1 d_Top_judge_39 rfl ?_
          refine gC_Top_tub C fl_Top_35 d_Top_judge_40 ?_
          refine V_iload_n C 3 d_Top_judge_43 rfl ?_
          refine V_iload_n C 4 d_Top_judge_44 rfl ?_
          obtain ⟨σ45_4, hg, hf⟩ := bd hf
          refine V_callVv C [.int a2, .int a3] (c_Tub_load C.2.2.2.2.2.2.2.1 hg) (by decide) cw_Top_166 39 rfl rfl rfl rfl (Nat.le_of_ble_eq_true rfl) rfl d_Top_judge_45 ?_
          refine V_aload_n C 1 d_Top_judge_48 rfl ?_
          refine V_aload_n C 1 d_Top_judge_49 rfl ?_
          refine gC_Top_shelves C fl_Top_87 d_Top_judge_50 ?_
          refine V_iload_n C 2 d_Top_judge_53 rfl ?_
          obtain ⟨hi54_5, hf⟩ := gu hf
          refine V_shelves C hi54_5 d_Top_judge_54 ?_
          refine V_iload_n C 3 d_Top_judge_55 rfl ?_
          obtain ⟨r56_6, hg, hf⟩ := bd hf
          refine V_callVi C [.ref (g.2.1 (42 + 2 * (a1.toNatClampNeg))), .int a2] (c_Top_firstUnlike C.2.2.2.2.2.2.2.1 (inb6 hi54_5) hg) (by decide) cw_Top_280 0 rfl rfl rfl rfl (Nat.le_of_ble_eq_true rfl) rfl d_Top_judge_56 ?_
          exact V_iretW hR hf d_Top_judge_59
        · refine V_iload C 0 d_Top_judge_36 rfl ?_
          exact V_iretW hR hf d_Top_judge_38
      · refine V_iconst (v := -1) C d_Top_judge_29 (by decide) ?_
        exact V_iretW hR hf d_Top_judge_30
theorem c_Top_judge {l : Launch} {g : Gx} (hok : Wok classes (wC g)) {σ : St} {a1 : Int32} {a2 : Int32} {a3 : Int32} {r : Int32} {σ' : St} (hf : f_Top_judge σ a1 a2 a3 = some (r, σ')) : CtI classes l y_Top_judge b_Top_judge 5 (some .int) 7 (wC g) [.ref (g.2.1 0), .int a1, .int a2, .int a3] σ r σ' :=
  MetI (by decide +kernel) hok (Nat.le_of_ble_eq_true rfl) (fun E _ C hR => w_Top_judge C hR hf)
set_option maxRecDepth 4000 in
theorem w_Shelf_hold {E : Ev} {g : Gx} {σ' : St} (C : Cx E classes 2 (wC g) b_Shelf_hold "WithTheReds$Shelf" 1) (hR : RetV E classes 2 (wC g) b_Shelf_hold σ') {σ : St} {j0 : Nat} {a1 : Int32} (hj0 : j0 < 6) (hf : f_Shelf_hold σ j0 a1 = some σ') : V E classes 2 (wC g) σ 0 [(0, .ref (g.2.1 (42 + 2 * j0))), (1, .int a1)] [] := by
  unfold f_Shelf_hold at hf
  refine V_aload_n C 0 d_Shelf_hold_0 rfl ?_
  refine V_iload_n C 1 d_Shelf_hold_1 rfl ?_
  refine V_iconst (v := -1) C d_Shelf_hold_2 (by decide) ?_
  refine V_icmp_ne (pc := 3) (tgt := 11) C d_Shelf_hold_3 (by decide) hf (fun hf => ?_) (fun hf => ?_)
  · refine V_iconst (v := -1) C d_Shelf_hold_11 (by decide) ?_
    refine pC_Shelf_sort C hj0 fl_Shelf_15 d_Shelf_hold_12 ?_
    refine V_aload_n C 0 d_Shelf_hold_15 rfl ?_
    refine V_iload_n C 1 d_Shelf_hold_16 rfl ?_
    refine pC_Shelf_body C hj0 fl_Shelf_19 d_Shelf_hold_17 ?_
    refine V_aload_n C 0 d_Shelf_hold_20 rfl ?_
    refine V_iconst (v := 0) C d_Shelf_hold_21 (by decide) ?_
    refine pC_Shelf_length C hj0 fl_Shelf_26 d_Shelf_hold_22 ?_
    exact V_vret hR hf d_Shelf_hold_25
  · refine V_bipush (v := -2) C d_Shelf_hold_6 (by decide) ?_
    refine V_goto (pc := 8) (tgt := 12) C d_Shelf_hold_8 (by decide) ?_
    refine pC_Shelf_sort C hj0 fl_Shelf_15 d_Shelf_hold_12 ?_
    refine V_aload_n C 0 d_Shelf_hold_15 rfl ?_
    refine V_iload_n C 1 d_Shelf_hold_16 rfl ?_
    refine pC_Shelf_body C hj0 fl_Shelf_19 d_Shelf_hold_17 ?_
    refine V_aload_n C 0 d_Shelf_hold_20 rfl ?_
    refine V_iconst (v := 0) C d_Shelf_hold_21 (by decide) ?_
    refine pC_Shelf_length C hj0 fl_Shelf_26 d_Shelf_hold_22 ?_
    exact V_vret hR hf d_Shelf_hold_25
theorem c_Shelf_hold {l : Launch} {g : Gx} (hok : Wok classes (wC g)) {σ : St} {j0 : Nat} {a1 : Int32} {σ' : St} (hj0 : j0 < 6) (hf : f_Shelf_hold σ j0 a1 = some σ') : CtV classes l y_Shelf_hold b_Shelf_hold 2 none 1 (wC g) [.ref (g.2.1 (42 + 2 * j0)), .int a1] σ σ' :=
  MetV (by decide +kernel) hok (Nat.le_of_ble_eq_true rfl) (fun E _ C hR => w_Shelf_hold C hR hj0 hf)
set_option maxRecDepth 4000 in
theorem w_Top_keep {E : Ev} {g : Gx} {r : Int32} {σ' : St} (C : Cx E classes 3 (wC g) b_Top_keep "WithTheReds" 3) (hR : RetI E classes 3 (wC g) b_Top_keep r σ') {σ : St} {a1 : Int32} {a2 : Int32} (hf : f_Top_keep σ a1 a2 = some (r, σ')) : V E classes 3 (wC g) σ 0 [(0, .ref (g.2.1 0)), (1, .int a1), (2, .int a2)] [] := by
  unfold f_Top_keep at hf
  refine V_iload_n C 1 d_Top_keep_0 rfl ?_
  obtain ⟨r1_1, hg, hf⟩ := bd hf
  refine V_callSi C [.int a1] (c_Top_isShelf C.2.2.2.2.2.2.2.1 hg) (by decide) cw_Top_104 rfl (Nat.le_of_ble_eq_true rfl) rfl d_Top_keep_1 ?_
  refine V_if_eq (pc := 4) (tgt := 23) C d_Top_keep_4 (by decide) hf (fun hf => ?_) (fun hf => ?_)
  · refine V_iconst (v := -1) C d_Top_keep_23 (by decide) ?_
    exact V_iretW hR hf d_Top_keep_24
  · refine V_iload_n C 2 d_Top_keep_7 rfl ?_
    refine V_iconst (v := -1) C d_Top_keep_8 (by decide) ?_
    refine V_icmp_eq (pc := 9) (tgt := 25) C d_Top_keep_9 (by decide) hf (fun hf => ?_) (fun hf => ?_)
    · refine V_aload_n C 0 d_Top_keep_25 rfl ?_
      refine gC_Top_shelves C fl_Top_87 d_Top_keep_26 ?_
      refine V_iload_n C 1 d_Top_keep_29 rfl ?_
      obtain ⟨hi30_2, hf⟩ := gu hf
      refine V_shelves C hi30_2 d_Top_keep_30 ?_
      refine V_iload_n C 2 d_Top_keep_31 rfl ?_
      obtain ⟨σ32_3, hg, hf⟩ := bd hf
      refine V_callVv C [.int a2] (c_Shelf_hold C.2.2.2.2.2.2.2.1 (inb6 hi30_2) hg) (by decide) cw_Top_348 (42 + 2 * (a1.toNatClampNeg)) (sh_at (inb6 hi30_2)) rfl rfl rfl (Nat.le_of_ble_eq_true rfl) rfl d_Top_keep_32 ?_
      refine V_iconst (v := 1) C d_Top_keep_35 (by decide) ?_
      exact V_iretW hR hf d_Top_keep_36
    · refine V_aload_n C 0 d_Top_keep_12 rfl ?_
      refine gC_Top_socks C fl_Top_81 d_Top_keep_13 ?_
      refine V_iload_n C 2 d_Top_keep_16 rfl ?_
      obtain ⟨r17_4, hg, hf⟩ := bd hf
      refine V_callVi C [.int a2] (c_Socks_isBody C.2.2.2.2.2.2.2.1 hg) (by decide) cw_Top_345 32 rfl rfl rfl rfl (Nat.le_of_ble_eq_true rfl) rfl d_Top_keep_17 ?_
      refine V_if_ne (pc := 20) (tgt := 25) C d_Top_keep_20 (by decide) hf (fun hf => ?_) (fun hf => ?_)
      · refine V_aload_n C 0 d_Top_keep_25 rfl ?_
        refine gC_Top_shelves C fl_Top_87 d_Top_keep_26 ?_
        refine V_iload_n C 1 d_Top_keep_29 rfl ?_
        obtain ⟨hi30_5, hf⟩ := gu hf
        refine V_shelves C hi30_5 d_Top_keep_30 ?_
        refine V_iload_n C 2 d_Top_keep_31 rfl ?_
        obtain ⟨σ32_6, hg, hf⟩ := bd hf
        refine V_callVv C [.int a2] (c_Shelf_hold C.2.2.2.2.2.2.2.1 (inb6 hi30_5) hg) (by decide) cw_Top_348 (42 + 2 * (a1.toNatClampNeg)) (sh_at (inb6 hi30_5)) rfl rfl rfl (Nat.le_of_ble_eq_true rfl) rfl d_Top_keep_32 ?_
        refine V_iconst (v := 1) C d_Top_keep_35 (by decide) ?_
        exact V_iretW hR hf d_Top_keep_36
      · refine V_iconst (v := -1) C d_Top_keep_23 (by decide) ?_
        exact V_iretW hR hf d_Top_keep_24
theorem c_Top_keep {l : Launch} {g : Gx} (hok : Wok classes (wC g)) {σ : St} {a1 : Int32} {a2 : Int32} {r : Int32} {σ' : St} (hf : f_Top_keep σ a1 a2 = some (r, σ')) : CtI classes l y_Top_keep b_Top_keep 3 (some .int) 3 (wC g) [.ref (g.2.1 0), .int a1, .int a2] σ r σ' :=
  MetI (by decide +kernel) hok (Nat.le_of_ble_eq_true rfl) (fun E _ C hR => w_Top_keep C hR hf)
set_option maxRecDepth 4000 in
theorem w_Plan_dayOf {E : Ev} {g : Gx} {r : Int32} {σ : St} (C : Cx E classes 3 (wC g) b_Plan_dayOf "WithTheReds$Plan" 2) (hR : RetI E classes 3 (wC g) b_Plan_dayOf r σ) {a1 : Int32} (hf : f_Plan_dayOf σ a1 = some r) : V E classes 3 (wC g) σ 0 [(0, .ref (g.2.1 25)), (1, .int a1)] [] := by
  unfold f_Plan_dayOf at hf
  refine V_aload_n C 0 d_Plan_dayOf_0 rfl ?_
  refine gC_Plan_basket C fl_Plan_15 d_Plan_dayOf_1 ?_
  refine V_bipush (v := 10) C d_Plan_dayOf_4 (by decide) ?_
  obtain ⟨r6_1, hg, hf⟩ := bd hf
  refine V_callVi C [.int (10 : Int32)] (c_Basket_toldOfHouse C.2.2.2.2.2.2.2.1 hg) (by decide) cw_Plan_59 1 rfl rfl rfl rfl (Nat.le_of_ble_eq_true rfl) rfl d_Plan_dayOf_6 ?_
  refine V_istore_n C d_Plan_dayOf_9 (by decide) rfl ?_
  refine V_iload_n C 0 d_Plan_dayOf_10 rfl ?_
  refine V_if_le (pc := 11) (tgt := 20) C d_Plan_dayOf_11 (by decide) hf (fun hf => ?_) (fun hf => ?_)
  · refine V_iconst (v := 0) C d_Plan_dayOf_20 (by decide) ?_
    exact V_iret hR hf d_Plan_dayOf_21
  · refine V_iload_n C 2 d_Plan_dayOf_14 rfl ?_
    refine V_iload_n C 0 d_Plan_dayOf_15 rfl ?_
    obtain ⟨hz, hf⟩ := gu hf
    refine V_idiv C d_Plan_dayOf_16 (nz_ne hz) ?_
    refine V_goto (pc := 17) (tgt := 21) C d_Plan_dayOf_17 (by decide) ?_
    exact V_iret hR hf d_Plan_dayOf_21
theorem c_Plan_dayOf {l : Launch} {g : Gx} (hok : Wok classes (wC g)) {σ : St} {a1 : Int32} {r : Int32} (hf : f_Plan_dayOf σ a1 = some r) : CtI classes l y_Plan_dayOf b_Plan_dayOf 3 (some .int) 2 (wC g) [.ref (g.2.1 25), .int a1] σ r σ :=
  MetI (by decide +kernel) hok (Nat.le_of_ble_eq_true rfl) (fun E _ C hR => w_Plan_dayOf C hR hf)
set_option maxRecDepth 4000 in
theorem w_Plan_exchanged {E : Ev} {g : Gx} {r : Int32} {σ : St} (C : Cx E classes 3 (wC g) b_Plan_exchanged "WithTheReds$Plan" 1) (hR : RetI E classes 3 (wC g) b_Plan_exchanged r σ) {a0 : Int32} {a1 : Int32} {a2 : Int32} (hf : f_Plan_exchanged a0 a1 a2 = some r) : V E classes 3 (wC g) σ 0 [(0, .int a0), (1, .int a1), (2, .int a2)] [] := by
  unfold f_Plan_exchanged at hf
  refine V_iload_n C 0 d_Plan_exchanged_0 rfl ?_
  refine V_iload_n C 1 d_Plan_exchanged_1 rfl ?_
  refine V_icmp_ne (pc := 2) (tgt := 7) C d_Plan_exchanged_2 (by decide) hf (fun hf => ?_) (fun hf => ?_)
  · refine V_iload_n C 0 d_Plan_exchanged_7 rfl ?_
    refine V_iload_n C 2 d_Plan_exchanged_8 rfl ?_
    refine V_icmp_ne (pc := 9) (tgt := 16) C d_Plan_exchanged_9 (by decide) hf (fun hf => ?_) (fun hf => ?_)
    · refine V_iload_n C 0 d_Plan_exchanged_16 rfl ?_
      exact V_iret hR hf d_Plan_exchanged_17
    · refine V_iload_n C 1 d_Plan_exchanged_12 rfl ?_
      refine V_goto (pc := 13) (tgt := 17) C d_Plan_exchanged_13 (by decide) ?_
      exact V_iret hR hf d_Plan_exchanged_17
  · refine V_iload_n C 2 d_Plan_exchanged_5 rfl ?_
    exact V_iret hR hf d_Plan_exchanged_6
theorem c_Plan_exchanged {l : Launch} {g : Gx} (hok : Wok classes (wC g)) {σ : St} {a0 : Int32} {a1 : Int32} {a2 : Int32} {r : Int32} (hf : f_Plan_exchanged a0 a1 a2 = some r) : CtI classes l y_Plan_exchanged b_Plan_exchanged 3 (some .int) 1 (wC g) [.int a0, .int a1, .int a2] σ r σ :=
  MetI (by decide +kernel) hok (Nat.le_of_ble_eq_true rfl) (fun E _ C hR => w_Plan_exchanged C hR hf)
set_option maxRecDepth 4000 in
theorem w_Plan_daysLate_5 {E : Ev} {g : Gx} {r : Int32} {σ : St} (C : Cx E classes 6 (wC g) b_Plan_daysLate "WithTheReds$Plan" 3) (hR : RetI E classes 6 (wC g) b_Plan_daysLate r σ) : ∀ (n : Nat) (x1 : Int32) (x2 : Int32) (x3 : Int32) (x4 : Int32), f_Plan_daysLate_5 n σ x1 x2 x3 x4 = some r → V E classes 6 (wC g) σ 5 [(0, .ref (g.2.1 25)), (1, .int x1), (2, .int x2), (3, .int x3), (4, .int x4)] [] := by
  intro n
  induction n with
  | zero => intro x1 x2 x3 x4 hf; exact absurd hf (by unfold f_Plan_daysLate_5; exact nofun)
  | succ n ih =>
    intro x1 x2 x3 x4 hf
    unfold f_Plan_daysLate_5 at hf
    refine V_iload C 4 d_Plan_daysLate_5 rfl ?_
    refine V_aload_n C 0 d_Plan_daysLate_7 rfl ?_
    refine gC_Plan_basket C fl_Plan_15 d_Plan_daysLate_8 ?_
    refine gC_Basket_things (v := σ.1 103) C fl_Plan_19 rfl d_Plan_daysLate_11 ?_
    refine V_icmp_ge (pc := 14) (tgt := 73) C d_Plan_daysLate_14 (by decide) hf (fun hf => ?_) (fun hf => ?_)
    · refine V_iload_n C 3 d_Plan_daysLate_73 rfl ?_
      exact V_iret hR hf d_Plan_daysLate_74
    · refine V_aload_n C 0 d_Plan_daysLate_17 rfl ?_
      refine gC_Plan_runs C fl_Plan_9 d_Plan_daysLate_18 ?_
      refine V_iload C 4 d_Plan_daysLate_21 rfl ?_
      obtain ⟨hi23_1, hf⟩ := gu hf
      refine aC_26 (v := σ.2.1 26 x4.toNatClampNeg) C hi23_1 rfl d_Plan_daysLate_23 ?_
      refine V_iconst (v := -1) C d_Plan_daysLate_24 (by decide) ?_
      refine V_icmp_eq (pc := 25) (tgt := 67) C d_Plan_daysLate_25 (by decide) hf (fun hf => ?_) (fun hf => ?_)
      · refine V_iinc (v := x4 + (1 : Int32)) C 4 d_Plan_daysLate_67 rfl rfl (by decide) rfl ?_
        refine V_goto (pc := 70) (tgt := 5) C d_Plan_daysLate_70 (by decide) ?_
        refine V.sub [1, 2, 3, 4, 0] rfl ?_
        exact ih x1 x2 x3 (x4 + (1 : Int32)) hf
      · refine V_aload_n C 0 d_Plan_daysLate_28 rfl ?_
        refine V_aload_n C 0 d_Plan_daysLate_29 rfl ?_
        refine gC_Plan_runs C fl_Plan_9 d_Plan_daysLate_30 ?_
        refine V_iload C 4 d_Plan_daysLate_33 rfl ?_
        obtain ⟨hi35_2, hf⟩ := gu hf
        refine aC_26 (v := σ.2.1 26 x4.toNatClampNeg) C hi35_2 rfl d_Plan_daysLate_35 ?_
        refine V_iload_n C 1 d_Plan_daysLate_36 rfl ?_
        refine V_iload_n C 2 d_Plan_daysLate_37 rfl ?_
        obtain ⟨r38_3, hg, hf⟩ := bd hf
        refine V_callSi C [.int (σ.2.1 26 x4.toNatClampNeg), .int x1, .int x2] (c_Plan_exchanged C.2.2.2.2.2.2.2.1 hg) (by decide) cw_Plan_47 rfl (Nat.le_of_ble_eq_true rfl) rfl d_Plan_daysLate_38 ?_
        obtain ⟨r41_4, hg, hf⟩ := bd hf
        refine V_callVi C [.int r38_3] (c_Plan_dayOf C.2.2.2.2.2.2.2.1 hg) (by decide) cw_Plan_39 25 rfl rfl rfl rfl (Nat.le_of_ble_eq_true rfl) rfl d_Plan_daysLate_41 ?_
        refine V_istore C d_Plan_daysLate_44 (by decide) rfl ?_
        refine V_iload_n C 4 d_Plan_daysLate_46 rfl ?_
        refine V_iconst (v := 0) C d_Plan_daysLate_47 (by decide) ?_
        refine V_iload C 0 d_Plan_daysLate_48 rfl ?_
        refine V_aload_n C 1 d_Plan_daysLate_50 rfl ?_
        refine gC_Plan_basket C fl_Plan_15 d_Plan_daysLate_51 ?_
        refine V_iload C 5 d_Plan_daysLate_54 rfl ?_
        refine V_bipush (v := 7) C d_Plan_daysLate_56 (by decide) ?_
        obtain ⟨r58_5, hg, hf⟩ := bd hf
        refine V_callVi C [.int x4, .int (7 : Int32)] (c_Basket_told C.2.2.2.2.2.2.2.1 hg) (by decide) cw_Plan_43 1 rfl rfl rfl rfl (Nat.le_of_ble_eq_true rfl) rfl d_Plan_daysLate_58 ?_
        refine V_isub C d_Plan_daysLate_61 ?_
        refine V_max C ml_Plan_51 (by decide) (Nat.le_of_ble_eq_true rfl) d_Plan_daysLate_62 ?_
        refine V_iadd C d_Plan_daysLate_65 ?_
        refine V_istore_n C d_Plan_daysLate_66 (by decide) rfl ?_
        refine V_iinc (v := x4 + (1 : Int32)) C 5 d_Plan_daysLate_67 rfl rfl (by decide) rfl ?_
        refine V_goto (pc := 70) (tgt := 5) C d_Plan_daysLate_70 (by decide) ?_
        refine V.sub [3, 4, 5, 1, 0] rfl ?_
        exact ih x1 x2 (x3 + (imax (0 : Int32) (r41_4 - r58_5))) (x4 + (1 : Int32)) hf
set_option maxRecDepth 4000 in
theorem w_Plan_daysLate {E : Ev} {g : Gx} {r : Int32} {σ : St} (C : Cx E classes 6 (wC g) b_Plan_daysLate "WithTheReds$Plan" 3) (hR : RetI E classes 6 (wC g) b_Plan_daysLate r σ) {a1 : Int32} {a2 : Int32} (hf : f_Plan_daysLate σ a1 a2 = some r) : V E classes 6 (wC g) σ 0 [(0, .ref (g.2.1 25)), (1, .int a1), (2, .int a2)] [] := by
  unfold f_Plan_daysLate at hf
  refine V_iconst (v := 0) C d_Plan_daysLate_0 (by decide) ?_
  refine V_istore_n C d_Plan_daysLate_1 (by decide) rfl ?_
  refine V_iconst (v := 0) C d_Plan_daysLate_2 (by decide) ?_
  refine V_istore C d_Plan_daysLate_3 (by decide) rfl ?_
  refine V.sub [2, 3, 4, 1, 0] rfl ?_
  exact w_Plan_daysLate_5 C hR FU a1 a2 (0 : Int32) (0 : Int32) hf
theorem c_Plan_daysLate {l : Launch} {g : Gx} (hok : Wok classes (wC g)) {σ : St} {a1 : Int32} {a2 : Int32} {r : Int32} (hf : f_Plan_daysLate σ a1 a2 = some r) : CtI classes l y_Plan_daysLate b_Plan_daysLate 6 (some .int) 3 (wC g) [.ref (g.2.1 25), .int a1, .int a2] σ r σ :=
  MetI (by decide +kernel) hok (Nat.le_of_ble_eq_true rfl) (fun E _ C hR => w_Plan_daysLate C hR hf)
set_option maxRecDepth 4000 in
theorem w_Plan_lateThings_4 {E : Ev} {g : Gx} {r : Int32} {σ : St} (C : Cx E classes 3 (wC g) b_Plan_lateThings "WithTheReds$Plan" 3) (hR : RetI E classes 3 (wC g) b_Plan_lateThings r σ) : ∀ (n : Nat) (x1 : Int32) (x2 : Int32), f_Plan_lateThings_4 n σ x1 x2 = some r → V E classes 3 (wC g) σ 4 [(0, .ref (g.2.1 25)), (1, .int x1), (2, .int x2)] [] := by
  intro n
  induction n with
  | zero => intro x1 x2 hf; exact absurd hf (by unfold f_Plan_lateThings_4; exact nofun)
  | succ n ih =>
    intro x1 x2 hf
    unfold f_Plan_lateThings_4 at hf
    refine V_iload_n C 2 d_Plan_lateThings_4 rfl ?_
    refine V_aload_n C 0 d_Plan_lateThings_5 rfl ?_
    refine gC_Plan_basket C fl_Plan_15 d_Plan_lateThings_6 ?_
    refine gC_Basket_things (v := σ.1 103) C fl_Plan_19 rfl d_Plan_lateThings_9 ?_
    refine V_icmp_ge (pc := 12) (tgt := 60) C d_Plan_lateThings_12 (by decide) hf (fun hf => ?_) (fun hf => ?_)
    · refine V_iload_n C 1 d_Plan_lateThings_60 rfl ?_
      exact V_iret hR hf d_Plan_lateThings_61
    · refine V_aload_n C 0 d_Plan_lateThings_15 rfl ?_
      refine gC_Plan_runs C fl_Plan_9 d_Plan_lateThings_16 ?_
      refine V_iload_n C 2 d_Plan_lateThings_19 rfl ?_
      obtain ⟨hi20_1, hf⟩ := gu hf
      refine aC_26 (v := σ.2.1 26 x2.toNatClampNeg) C hi20_1 rfl d_Plan_lateThings_20 ?_
      refine V_iconst (v := -1) C d_Plan_lateThings_21 (by decide) ?_
      refine V_icmp_eq (pc := 22) (tgt := 48) C d_Plan_lateThings_22 (by decide) hf (fun hf => ?_) (fun hf => ?_)
      · refine V_iload_n C 1 d_Plan_lateThings_48 rfl ?_
        refine V_iconst (v := 1) C d_Plan_lateThings_49 (by decide) ?_
        refine V_iload_n C 2 d_Plan_lateThings_50 rfl ?_
        refine V_ishl C d_Plan_lateThings_51 ?_
        refine V_ior C d_Plan_lateThings_52 ?_
        refine V_istore_n C d_Plan_lateThings_53 (by decide) rfl ?_
        refine V_iinc (v := x2 + (1 : Int32)) C 2 d_Plan_lateThings_54 rfl rfl (by decide) rfl ?_
        refine V_goto (pc := 57) (tgt := 4) C d_Plan_lateThings_57 (by decide) ?_
        refine V.sub [2, 1, 0] rfl ?_
        exact ih (x1 ||| ((1 : Int32) <<< (x2 &&& 31))) (x2 + (1 : Int32)) hf
      · refine V_aload_n C 0 d_Plan_lateThings_25 rfl ?_
        refine V_aload_n C 0 d_Plan_lateThings_26 rfl ?_
        refine gC_Plan_runs C fl_Plan_9 d_Plan_lateThings_27 ?_
        refine V_iload_n C 2 d_Plan_lateThings_30 rfl ?_
        obtain ⟨hi31_2, hf⟩ := gu hf
        refine aC_26 (v := σ.2.1 26 x2.toNatClampNeg) C hi31_2 rfl d_Plan_lateThings_31 ?_
        obtain ⟨r32_3, hg, hf⟩ := bd hf
        refine V_callVi C [.int (σ.2.1 26 x2.toNatClampNeg)] (c_Plan_dayOf C.2.2.2.2.2.2.2.1 hg) (by decide) cw_Plan_39 25 rfl rfl rfl rfl (Nat.le_of_ble_eq_true rfl) rfl d_Plan_lateThings_32 ?_
        refine V_aload_n C 0 d_Plan_lateThings_35 rfl ?_
        refine gC_Plan_basket C fl_Plan_15 d_Plan_lateThings_36 ?_
        refine V_iload_n C 2 d_Plan_lateThings_39 rfl ?_
        refine V_bipush (v := 7) C d_Plan_lateThings_40 (by decide) ?_
        obtain ⟨r42_4, hg, hf⟩ := bd hf
        refine V_callVi C [.int x2, .int (7 : Int32)] (c_Basket_told C.2.2.2.2.2.2.2.1 hg) (by decide) cw_Plan_43 1 rfl rfl rfl rfl (Nat.le_of_ble_eq_true rfl) rfl d_Plan_lateThings_42 ?_
        refine V_icmp_le (pc := 45) (tgt := 54) C d_Plan_lateThings_45 (by decide) hf (fun hf => ?_) (fun hf => ?_)
        · refine V_iinc (v := x2 + (1 : Int32)) C 2 d_Plan_lateThings_54 rfl rfl (by decide) rfl ?_
          refine V_goto (pc := 57) (tgt := 4) C d_Plan_lateThings_57 (by decide) ?_
          refine V.sub [1, 2, 0] rfl ?_
          exact ih x1 (x2 + (1 : Int32)) hf
        · refine V_iload_n C 1 d_Plan_lateThings_48 rfl ?_
          refine V_iconst (v := 1) C d_Plan_lateThings_49 (by decide) ?_
          refine V_iload_n C 2 d_Plan_lateThings_50 rfl ?_
          refine V_ishl C d_Plan_lateThings_51 ?_
          refine V_ior C d_Plan_lateThings_52 ?_
          refine V_istore_n C d_Plan_lateThings_53 (by decide) rfl ?_
          refine V_iinc (v := x2 + (1 : Int32)) C 2 d_Plan_lateThings_54 rfl rfl (by decide) rfl ?_
          refine V_goto (pc := 57) (tgt := 4) C d_Plan_lateThings_57 (by decide) ?_
          refine V.sub [2, 1, 0] rfl ?_
          exact ih (x1 ||| ((1 : Int32) <<< (x2 &&& 31))) (x2 + (1 : Int32)) hf
set_option maxRecDepth 4000 in
theorem w_Plan_lateThings {E : Ev} {g : Gx} {r : Int32} {σ : St} (C : Cx E classes 3 (wC g) b_Plan_lateThings "WithTheReds$Plan" 3) (hR : RetI E classes 3 (wC g) b_Plan_lateThings r σ) (hf : f_Plan_lateThings σ = some r) : V E classes 3 (wC g) σ 0 [(0, .ref (g.2.1 25))] [] := by
  unfold f_Plan_lateThings at hf
  refine V_iconst (v := 0) C d_Plan_lateThings_0 (by decide) ?_
  refine V_istore_n C d_Plan_lateThings_1 (by decide) rfl ?_
  refine V_iconst (v := 0) C d_Plan_lateThings_2 (by decide) ?_
  refine V_istore_n C d_Plan_lateThings_3 (by decide) rfl ?_
  refine V.sub [2, 1, 0] rfl ?_
  exact w_Plan_lateThings_4 C hR FU (0 : Int32) (0 : Int32) hf
theorem c_Plan_lateThings {l : Launch} {g : Gx} (hok : Wok classes (wC g)) {σ : St} {r : Int32} (hf : f_Plan_lateThings σ = some r) : CtI classes l y_Plan_lateThings b_Plan_lateThings 3 (some .int) 3 (wC g) [.ref (g.2.1 25)] σ r σ :=
  MetI (by decide +kernel) hok (Nat.le_of_ble_eq_true rfl) (fun E _ C hR => w_Plan_lateThings C hR hf)
set_option maxRecDepth 4000 in
theorem w_Plan_read_33 {E : Ev} {g : Gx} {σ' : St} (C : Cx E classes 5 (wC g) b_Plan_read "WithTheReds$Plan" 3) (hR : RetV E classes 5 (wC g) b_Plan_read σ') {k2 : St → Nat → Int32 → Option St} (hk2 : ∀ (σ : St) (jx1 : Nat) (x2 : Int32) (hjx1 : jx1 < 6), k2 σ jx1 x2 = some σ' → V E classes 5 (wC g) σ 2 [(0, .ref (g.2.1 25)), (1, .ref (g.2.1 (42 + 2 * jx1))), (2, .int x2)] []) : ∀ (σ : St) (jx1 : Nat) (x2 : Int32) (y0 : Int64) (hjx1 : jx1 < 6), f_Plan_read_33 k2 σ jx1 x2 y0 = some σ' → V E classes 5 (wC g) σ 33 [(0, .ref (g.2.1 25)), (1, .ref (g.2.1 (42 + 2 * jx1))), (2, .int x2)] [.long y0] := by
  intro σ jx1 x2 y0 hjx1 hf
  unfold f_Plan_read_33 at hf
  refine V_lstore_n C d_Plan_read_33 (by decide) rfl ?_
  refine V_aload_n C 1 d_Plan_read_34 rfl ?_
  refine gC_Plan_runs C fl_Plan_9 d_Plan_read_35 ?_
  refine V_iload_n C 3 d_Plan_read_38 rfl ?_
  refine V_lload_n C 0 d_Plan_read_39 rfl ?_
  refine V_lconst (v := 0) C d_Plan_read_40 (by decide) ?_
  refine V_lcmp C d_Plan_read_41 ?_
  refine V_if_lt (pc := 42) (tgt := 58) C d_Plan_read_42 (by decide) hf (fun hf => ?_) (fun hf => ?_)
  · refine V_iconst (v := -1) C d_Plan_read_58 (by decide) ?_
    obtain ⟨hi59_1, hf⟩ := gu hf
    refine sC_26 C hi59_1 d_Plan_read_59 ?_
    refine V_iinc (v := x2 + (1 : Int32)) C 3 d_Plan_read_60 rfl rfl (by decide) rfl ?_
    refine V_goto (pc := 63) (tgt := 2) C d_Plan_read_63 (by decide) ?_
    refine V.sub [2, 3, 0] rfl ?_
    exact hk2 (upA σ 26 x2.toNatClampNeg (-1 : Int32)) jx1 (x2 + (1 : Int32)) hjx1 hf
  · refine V_lload_n C 0 d_Plan_read_45 rfl ?_
    refine V_ldc2 C kc_Plan_37 d_Plan_read_46 ?_
    refine V_lcmp C d_Plan_read_49 ?_
    refine V_if_ge (pc := 50) (tgt := 58) C d_Plan_read_50 (by decide) hf (fun hf => ?_) (fun hf => ?_)
    · refine V_iconst (v := -1) C d_Plan_read_58 (by decide) ?_
      obtain ⟨hi59_2, hf⟩ := gu hf
      refine sC_26 C hi59_2 d_Plan_read_59 ?_
      refine V_iinc (v := x2 + (1 : Int32)) C 3 d_Plan_read_60 rfl rfl (by decide) rfl ?_
      refine V_goto (pc := 63) (tgt := 2) C d_Plan_read_63 (by decide) ?_
      refine V.sub [2, 3, 0] rfl ?_
      exact hk2 (upA σ 26 x2.toNatClampNeg (-1 : Int32)) jx1 (x2 + (1 : Int32)) hjx1 hf
    · refine V_lload_n C 0 d_Plan_read_53 rfl ?_
      refine V_l2i C d_Plan_read_54 ?_
      refine V_goto (pc := 55) (tgt := 59) C d_Plan_read_55 (by decide) ?_
      obtain ⟨hi59_3, hf⟩ := gu hf
      refine sC_26 C hi59_3 d_Plan_read_59 ?_
      refine V_iinc (v := x2 + (1 : Int32)) C 3 d_Plan_read_60 rfl rfl (by decide) rfl ?_
      refine V_goto (pc := 63) (tgt := 2) C d_Plan_read_63 (by decide) ?_
      refine V.sub [2, 3, 0] rfl ?_
      exact hk2 (upA σ 26 x2.toNatClampNeg (y0.toInt32)) jx1 (x2 + (1 : Int32)) hjx1 hf
set_option maxRecDepth 4000 in
theorem w_Plan_read_2 {E : Ev} {g : Gx} {σ' : St} (C : Cx E classes 5 (wC g) b_Plan_read "WithTheReds$Plan" 3) (hR : RetV E classes 5 (wC g) b_Plan_read σ') : ∀ (n : Nat) (σ : St) (jx1 : Nat) (x2 : Int32) (hjx1 : jx1 < 6), f_Plan_read_2 n σ jx1 x2 = some σ' → V E classes 5 (wC g) σ 2 [(0, .ref (g.2.1 25)), (1, .ref (g.2.1 (42 + 2 * jx1))), (2, .int x2)] [] := by
  intro n
  induction n with
  | zero => intro σ jx1 x2 hjx1 hf; exact absurd hf (by unfold f_Plan_read_2; exact nofun)
  | succ n ih =>
    intro σ jx1 x2 hjx1 hf
    unfold f_Plan_read_2 at hf
    refine V_iload_n C 2 d_Plan_read_2 rfl ?_
    refine V_aload_n C 0 d_Plan_read_3 rfl ?_
    refine gC_Plan_basket C fl_Plan_15 d_Plan_read_4 ?_
    refine gC_Basket_things (v := σ.1 103) C fl_Plan_19 rfl d_Plan_read_7 ?_
    refine V_icmp_ge (pc := 10) (tgt := 66) C d_Plan_read_10 (by decide) hf (fun hf => ?_) (fun hf => ?_)
    · exact V_vret hR hf d_Plan_read_66
    · refine V_aload_n C 1 d_Plan_read_13 rfl ?_
      refine V_iload_n C 2 d_Plan_read_14 rfl ?_
      obtain ⟨r15_1, hg, hf⟩ := bd hf
      refine V_callVi C [.int x2] (c_Shelf_hasPlace C.2.2.2.2.2.2.2.1 hjx1 hg) (by decide) cw_Plan_25 (42 + 2 * jx1) (sh_at hjx1) rfl rfl rfl (Nat.le_of_ble_eq_true rfl) rfl d_Plan_read_15 ?_
      refine V_if_eq (pc := 18) (tgt := 30) C d_Plan_read_18 (by decide) hf (fun hf => ?_) (fun hf => ?_)
      · refine V_ldc2 C kc_Plan_35 d_Plan_read_30 ?_
        exact w_Plan_read_33 C hR ih σ jx1 x2 (-1 : Int64) hjx1 hf
      · refine V_aload_n C 1 d_Plan_read_21 rfl ?_
        refine gC_Shelf_elements C hjx1 fl_Plan_31 d_Plan_read_22 ?_
        refine V_iload_n C 2 d_Plan_read_25 rfl ?_
        obtain ⟨hi26_2, hf⟩ := gu hf
        refine aC_she (v := σ.2.2 (43 + 2 * jx1) x2.toNatClampNeg) C hjx1 hi26_2 rfl d_Plan_read_26 ?_
        refine V_goto (pc := 27) (tgt := 33) C d_Plan_read_27 (by decide) ?_
        exact w_Plan_read_33 C hR ih σ jx1 x2 (σ.2.2 (43 + 2 * jx1) x2.toNatClampNeg) hjx1 hf
set_option maxRecDepth 4000 in
theorem w_Plan_read {E : Ev} {g : Gx} {σ' : St} (C : Cx E classes 5 (wC g) b_Plan_read "WithTheReds$Plan" 3) (hR : RetV E classes 5 (wC g) b_Plan_read σ') {σ : St} {j1 : Nat} (hj1 : j1 < 6) (hf : f_Plan_read σ j1 = some σ') : V E classes 5 (wC g) σ 0 [(0, .ref (g.2.1 25)), (1, .ref (g.2.1 (42 + 2 * j1)))] [] := by
  unfold f_Plan_read at hf
  refine V_iconst (v := 0) C d_Plan_read_0 (by decide) ?_
  refine V_istore_n C d_Plan_read_1 (by decide) rfl ?_
  refine V.sub [1, 2, 0] rfl ?_
  exact w_Plan_read_2 C hR FU σ j1 (0 : Int32) hj1 hf
theorem c_Plan_read {l : Launch} {g : Gx} (hok : Wok classes (wC g)) {σ : St} {j1 : Nat} {σ' : St} (hj1 : j1 < 6) (hf : f_Plan_read σ j1 = some σ') : CtV classes l y_Plan_read b_Plan_read 5 none 3 (wC g) [.ref (g.2.1 25), .ref (g.2.1 (42 + 2 * j1))] σ σ' :=
  MetV (by decide +kernel) hok (Nat.le_of_ble_eq_true rfl) (fun E _ C hR => w_Plan_read C hR hj1 hf)
set_option maxRecDepth 4000 in
theorem w_Top_late {E : Ev} {g : Gx} {r : Int32} {σ' : St} (C : Cx E classes 4 (wC g) b_Top_late "WithTheReds" 4) (hR : RetI E classes 4 (wC g) b_Top_late r σ') {σ : St} {a1 : Int32} {a2 : Int32} (hf : f_Top_late σ a1 a2 = some (r, σ')) : V E classes 4 (wC g) σ 0 [(0, .ref (g.2.1 0)), (1, .int a1), (2, .int a2)] [] := by
  unfold f_Top_late at hf
  refine V_aload_n C 0 d_Top_late_0 rfl ?_
  refine V_iload_n C 1 d_Top_late_1 rfl ?_
  refine V_iconst (v := 0) C d_Top_late_2 (by decide) ?_
  obtain ⟨r3_1, hg, hf⟩ := bd hf
  refine V_callVi C [.int a1, .int (0 : Int32)] (c_Top_rowRefusal C.2.2.2.2.2.2.2.1 hg) (by decide) cw_Top_112 0 rfl rfl rfl rfl (Nat.le_of_ble_eq_true rfl) rfl d_Top_late_3 ?_
  refine V_istore_n C d_Top_late_6 (by decide) rfl ?_
  refine V_iload_n C 0 d_Top_late_7 rfl ?_
  refine V_iconst (v := -1) C d_Top_late_8 (by decide) ?_
  refine V_icmp_eq (pc := 9) (tgt := 21) C d_Top_late_9 (by decide) hf (fun hf => ?_) (fun hf => ?_)
  · refine V_iconst (v := -1) C d_Top_late_21 (by decide) ?_
    exact V_iretW hR hf d_Top_late_22
  · refine V_iload_n C 3 d_Top_late_12 rfl ?_
    refine V_iconst (v := 0) C d_Top_late_13 (by decide) ?_
    refine V_iconst (v := 1) C d_Top_late_14 (by decide) ?_
    obtain ⟨r15_2, hg, hf⟩ := bd hf
    refine V_callSi C [.int a2, .int (0 : Int32), .int (1 : Int32)] (c_Top_within C.2.2.2.2.2.2.2.1 hg) (by decide) cw_Top_108 rfl (Nat.le_of_ble_eq_true rfl) rfl d_Top_late_15 ?_
    refine V_if_ne (pc := 18) (tgt := 23) C d_Top_late_18 (by decide) hf (fun hf => ?_) (fun hf => ?_)
    · refine V_iload_n C 0 d_Top_late_23 rfl ?_
      refine V_if_eq (pc := 24) (tgt := 29) C d_Top_late_24 (by decide) hf (fun hf => ?_) (fun hf => ?_)
      · refine V_aload_n C 1 d_Top_late_29 rfl ?_
        refine gC_Top_plan C fl_Top_53 d_Top_late_30 ?_
        refine V_aload_n C 1 d_Top_late_33 rfl ?_
        refine gC_Top_shelves C fl_Top_87 d_Top_late_34 ?_
        refine V_iload_n C 2 d_Top_late_37 rfl ?_
        obtain ⟨hi38_3, hf⟩ := gu hf
        refine V_shelves C hi38_3 d_Top_late_38 ?_
        obtain ⟨σ39_4, hg, hf⟩ := bd hf
        refine V_callVv C [.ref (g.2.1 (42 + 2 * (a1.toNatClampNeg)))] (c_Plan_read C.2.2.2.2.2.2.2.1 (inb6 hi38_3) hg) (by decide) cw_Top_234 25 rfl rfl rfl rfl (Nat.le_of_ble_eq_true rfl) rfl d_Top_late_39 ?_
        refine V_iload_n C 3 d_Top_late_42 rfl ?_
        refine V_if_ne (pc := 43) (tgt := 56) C d_Top_late_43 (by decide) hf (fun hf => ?_) (fun hf => ?_)
        · refine V_aload_n C 1 d_Top_late_56 rfl ?_
          refine gC_Top_plan C fl_Top_53 d_Top_late_57 ?_
          refine V_iconst (v := 0) C d_Top_late_60 (by decide) ?_
          refine V_iconst (v := 0) C d_Top_late_61 (by decide) ?_
          obtain ⟨r62_5, hg, hf⟩ := bd hf
          refine V_callVi C [.int (0 : Int32), .int (0 : Int32)] (c_Plan_daysLate C.2.2.2.2.2.2.2.1 hg) (by decide) cw_Top_240 25 rfl rfl rfl rfl (Nat.le_of_ble_eq_true rfl) rfl d_Top_late_62 ?_
          exact V_iretW hR hf d_Top_late_65
        · refine V_aload_n C 1 d_Top_late_46 rfl ?_
          refine gC_Top_plan C fl_Top_53 d_Top_late_47 ?_
          obtain ⟨r50_6, hg, hf⟩ := bd hf
          refine V_callVi C [] (c_Plan_lateThings C.2.2.2.2.2.2.2.1 hg) (by decide) cw_Top_237 25 rfl rfl rfl rfl (Nat.le_of_ble_eq_true rfl) rfl d_Top_late_50 ?_
          refine V_goto (pc := 53) (tgt := 65) C d_Top_late_53 (by decide) ?_
          exact V_iretW hR hf d_Top_late_65
      · refine V_iload_n C 0 d_Top_late_27 rfl ?_
        exact V_iretW hR hf d_Top_late_28
    · refine V_iconst (v := -1) C d_Top_late_21 (by decide) ?_
      exact V_iretW hR hf d_Top_late_22
theorem c_Top_late {l : Launch} {g : Gx} (hok : Wok classes (wC g)) {σ : St} {a1 : Int32} {a2 : Int32} {r : Int32} {σ' : St} (hf : f_Top_late σ a1 a2 = some (r, σ')) : CtI classes l y_Top_late b_Top_late 4 (some .int) 4 (wC g) [.ref (g.2.1 0), .int a1, .int a2] σ r σ' :=
  MetI (by decide +kernel) hok (Nat.le_of_ble_eq_true rfl) (fun E _ C hR => w_Top_late C hR hf)
set_option maxRecDepth 4000 in
theorem w_Law_become {E : Ev} {g : Gx} {σ' : St} (C : Cx E classes 2 (wC g) b_Law_become "WithTheReds$Law" 1) (hR : RetV E classes 2 (wC g) b_Law_become σ') {σ : St} (hf : f_Law_become σ = some σ') : V E classes 2 (wC g) σ 0 [(0, .ref (g.2.1 21)), (1, .ref (g.2.1 35))] [] := by
  unfold f_Law_become at hf
  refine V_aload_n C 0 d_Law_become_0 rfl ?_
  refine V_aload_n C 1 d_Law_become_1 rfl ?_
  refine gC_Tape_written (v := σ.1 3504) C fl_Law_21 rfl d_Law_become_2 ?_
  refine V_bipush (v := 121) C d_Law_become_5 (by decide) ?_
  refine V_min C ml_Law_25 (by decide) (Nat.le_of_ble_eq_true rfl) d_Law_become_7 ?_
  refine pC_Law_length C fl_Law_31 d_Law_become_10 ?_
  refine V_aload_n C 1 d_Law_become_13 rfl ?_
  refine gC_Tape_steps C fl_Law_34 d_Law_become_14 ?_
  refine V_iconst (v := 0) C d_Law_become_17 (by decide) ?_
  refine V_aload_n C 0 d_Law_become_18 rfl ?_
  refine gC_Law_steps C fl_Law_11 d_Law_become_19 ?_
  refine V_iconst (v := 0) C d_Law_become_22 (by decide) ?_
  refine V_aload_n C 0 d_Law_become_23 rfl ?_
  refine gC_Law_length (v := (imin (σ.1 3504) (121 : Int32))) C fl_Law_31 rfl d_Law_become_24 ?_
  obtain ⟨hcp, hf⟩ := gu hf
  refine V_cpA (σ' := (stA (upI σ 2103 (imin (σ.1 3504) (121 : Int32))) 22 (va_cpy (σ.2.1 37) (σ.2.1 22) (0 : Int32).toNatClampNeg (0 : Int32).toNatClampNeg (imin (σ.1 3504) (121 : Int32)).toNatClampNeg))) C 37 22 rfl rfl rfl rfl rfl hcp (by decide) (Nat.le_of_ble_eq_true rfl) al_Law_35 d_Law_become_27 ?_
  exact V_vret hR hf d_Law_become_30
theorem c_Law_become {l : Launch} {g : Gx} (hok : Wok classes (wC g)) {σ : St} {σ' : St} (hf : f_Law_become σ = some σ') : CtV classes l y_Law_become b_Law_become 2 none 1 (wC g) [.ref (g.2.1 21), .ref (g.2.1 35)] σ σ' :=
  MetV (by decide +kernel) hok (Nat.le_of_ble_eq_true rfl) (fun E _ C hR => w_Law_become C hR hf)
set_option maxRecDepth 4000 in
theorem w_Tape_clear {E : Ev} {g : Gx} {σ' : St} (C : Cx E classes 1 (wC g) b_Tape_clear "WithTheReds$Tape" 1) (hR : RetV E classes 1 (wC g) b_Tape_clear σ') {σ : St} (hf : f_Tape_clear σ = some σ') : V E classes 1 (wC g) σ 0 [(0, .ref (g.2.1 35))] [] := by
  unfold f_Tape_clear at hf
  refine V_aload_n C 0 d_Tape_clear_0 rfl ?_
  refine V_iconst (v := 0) C d_Tape_clear_1 (by decide) ?_
  refine pC_Tape_length C fl_Tape_23 d_Tape_clear_2 ?_
  exact V_vret hR hf d_Tape_clear_5
theorem c_Tape_clear {l : Launch} {g : Gx} (hok : Wok classes (wC g)) {σ : St} {σ' : St} (hf : f_Tape_clear σ = some σ') : CtV classes l y_Tape_clear b_Tape_clear 1 none 1 (wC g) [.ref (g.2.1 35)] σ σ' :=
  MetV (by decide +kernel) hok (Nat.le_of_ble_eq_true rfl) (fun E _ C hR => w_Tape_clear C hR hf)
set_option maxRecDepth 4000 in
theorem w_Tape_lastWaiting {E : Ev} {g : Gx} {r : Int32} {σ : St} (C : Cx E classes 1 (wC g) b_Tape_lastWaiting "WithTheReds$Tape" 1) (hR : RetI E classes 1 (wC g) b_Tape_lastWaiting r σ) (hf : f_Tape_lastWaiting σ = some r) : V E classes 1 (wC g) σ 0 [(0, .ref (g.2.1 35))] [] := by
  unfold f_Tape_lastWaiting at hf
  refine V_aload_n C 0 d_Tape_lastWaiting_0 rfl ?_
  refine gC_Tape_waits (v := σ.1 3505) C fl_Tape_34 rfl d_Tape_lastWaiting_1 ?_
  refine V_if_le (pc := 4) (tgt := 30) C d_Tape_lastWaiting_4 (by decide) hf (fun hf => ?_) (fun hf => ?_)
  · refine V_iconst (v := 0) C d_Tape_lastWaiting_30 (by decide) ?_
    exact V_iret hR hf d_Tape_lastWaiting_31
  · refine V_aload_n C 0 d_Tape_lastWaiting_7 rfl ?_
    refine gC_Tape_waits (v := σ.1 3505) C fl_Tape_34 rfl d_Tape_lastWaiting_8 ?_
    refine V_bipush (v := 120) C d_Tape_lastWaiting_11 (by decide) ?_
    refine V_icmp_gt (pc := 13) (tgt := 30) C d_Tape_lastWaiting_13 (by decide) hf (fun hf => ?_) (fun hf => ?_)
    · refine V_iconst (v := 0) C d_Tape_lastWaiting_30 (by decide) ?_
      exact V_iret hR hf d_Tape_lastWaiting_31
    · refine V_aload_n C 0 d_Tape_lastWaiting_16 rfl ?_
      refine gC_Tape_waiting C fl_Tape_20 d_Tape_lastWaiting_17 ?_
      refine V_aload_n C 0 d_Tape_lastWaiting_20 rfl ?_
      refine gC_Tape_waits (v := σ.1 3505) C fl_Tape_34 rfl d_Tape_lastWaiting_21 ?_
      refine V_iconst (v := 1) C d_Tape_lastWaiting_24 (by decide) ?_
      refine V_isub C d_Tape_lastWaiting_25 ?_
      obtain ⟨hi26_1, hf⟩ := gu hf
      refine aC_38 (v := σ.2.1 38 ((σ.1 3505) - (1 : Int32)).toNatClampNeg) C hi26_1 rfl d_Tape_lastWaiting_26 ?_
      refine V_goto (pc := 27) (tgt := 31) C d_Tape_lastWaiting_27 (by decide) ?_
      exact V_iret hR hf d_Tape_lastWaiting_31
theorem c_Tape_lastWaiting {l : Launch} {g : Gx} (hok : Wok classes (wC g)) {σ : St} {r : Int32} (hf : f_Tape_lastWaiting σ = some r) : CtI classes l y_Tape_lastWaiting b_Tape_lastWaiting 1 (some .int) 1 (wC g) [.ref (g.2.1 35)] σ r σ :=
  MetI (by decide +kernel) hok (Nat.le_of_ble_eq_true rfl) (fun E _ C hR => w_Tape_lastWaiting C hR hf)
set_option maxRecDepth 4000 in
theorem w_Tape_rank {E : Ev} {g : Gx} {r : Int32} {σ : St} (C : Cx E classes 1 (wC g) b_Tape_rank "WithTheReds$Tape" 1) (hR : RetI E classes 1 (wC g) b_Tape_rank r σ) {a0 : Int32} (hf : f_Tape_rank a0 = some r) : V E classes 1 (wC g) σ 0 [(0, .int a0)] [] := by
  unfold f_Tape_rank at hf
  refine V_iload_n C 0 d_Tape_rank_0 rfl ?_
  by_cases hc0 : a0 = 37
  · have hf := ite_t hf hc0
    refine V_lk (off := 99) (tgt := 100) C d_Tape_rank_1 (by decide) (by rw [hc0]; decide) (by decide) ?_
    refine V_iconst (v := 5) C d_Tape_rank_100 (by decide) ?_
    exact V_iret hR hf d_Tape_rank_101
  have hf := ite_f hf hc0
  by_cases hc1 : a0 = 38
  · have hf := ite_t hf hc1
    refine V_lk (off := 93) (tgt := 94) C d_Tape_rank_1 (by decide) (by rw [hc1]; decide) (by decide) ?_
    refine V_iconst (v := 2) C d_Tape_rank_94 (by decide) ?_
    exact V_iret hR hf d_Tape_rank_95
  have hf := ite_f hf hc1
  by_cases hc2 : a0 = 42
  · have hf := ite_t hf hc2
    refine V_lk (off := 99) (tgt := 100) C d_Tape_rank_1 (by decide) (by rw [hc2]; decide) (by decide) ?_
    refine V_iconst (v := 5) C d_Tape_rank_100 (by decide) ?_
    exact V_iret hR hf d_Tape_rank_101
  have hf := ite_f hf hc2
  by_cases hc3 : a0 = 43
  · have hf := ite_t hf hc3
    refine V_lk (off := 97) (tgt := 98) C d_Tape_rank_1 (by decide) (by rw [hc3]; decide) (by decide) ?_
    refine V_iconst (v := 4) C d_Tape_rank_98 (by decide) ?_
    exact V_iret hR hf d_Tape_rank_99
  have hf := ite_f hf hc3
  by_cases hc4 : a0 = 45
  · have hf := ite_t hf hc4
    refine V_lk (off := 97) (tgt := 98) C d_Tape_rank_1 (by decide) (by rw [hc4]; decide) (by decide) ?_
    refine V_iconst (v := 4) C d_Tape_rank_98 (by decide) ?_
    exact V_iret hR hf d_Tape_rank_99
  have hf := ite_f hf hc4
  by_cases hc5 : a0 = 47
  · have hf := ite_t hf hc5
    refine V_lk (off := 99) (tgt := 100) C d_Tape_rank_1 (by decide) (by rw [hc5]; decide) (by decide) ?_
    refine V_iconst (v := 5) C d_Tape_rank_100 (by decide) ?_
    exact V_iret hR hf d_Tape_rank_101
  have hf := ite_f hf hc5
  by_cases hc6 : a0 = 60
  · have hf := ite_t hf hc6
    refine V_lk (off := 95) (tgt := 96) C d_Tape_rank_1 (by decide) (by rw [hc6]; decide) (by decide) ?_
    refine V_iconst (v := 3) C d_Tape_rank_96 (by decide) ?_
    exact V_iret hR hf d_Tape_rank_97
  have hf := ite_f hf hc6
  by_cases hc7 : a0 = 61
  · have hf := ite_t hf hc7
    refine V_lk (off := 95) (tgt := 96) C d_Tape_rank_1 (by decide) (by rw [hc7]; decide) (by decide) ?_
    refine V_iconst (v := 3) C d_Tape_rank_96 (by decide) ?_
    exact V_iret hR hf d_Tape_rank_97
  have hf := ite_f hf hc7
  by_cases hc8 : a0 = 62
  · have hf := ite_t hf hc8
    refine V_lk (off := 95) (tgt := 96) C d_Tape_rank_1 (by decide) (by rw [hc8]; decide) (by decide) ?_
    refine V_iconst (v := 3) C d_Tape_rank_96 (by decide) ?_
    exact V_iret hR hf d_Tape_rank_97
  have hf := ite_f hf hc8
  by_cases hc9 : a0 = 124
  · have hf := ite_t hf hc9
    refine V_lk (off := 91) (tgt := 92) C d_Tape_rank_1 (by decide) (by rw [hc9]; decide) (by decide) ?_
    refine V_iconst (v := 1) C d_Tape_rank_92 (by decide) ?_
    exact V_iret hR hf d_Tape_rank_93
  have hf := ite_f hf hc9
  refine V_lk (off := 101) (tgt := 102) C d_Tape_rank_1 (by decide) (by show Op.lookupswitch.offset [(37, 99), (38, 93), (42, 99), (43, 97), (45, 97), (47, 99), (60, 95), (61, 95), (62, 95), (124, 91)] _ _ = _; rw [lv_osw hc0 (by decide), lv_osw hc1 (by decide), lv_osw hc2 (by decide), lv_osw hc3 (by decide), lv_osw hc4 (by decide), lv_osw hc5 (by decide), lv_osw hc6 (by decide), lv_osw hc7 (by decide), lv_osw hc8 (by decide), lv_osw hc9 (by decide)]; rfl) (by decide) ?_
  refine V_iconst (v := 0) C d_Tape_rank_102 (by decide) ?_
  exact V_iret hR hf d_Tape_rank_103
theorem c_Tape_rank {l : Launch} {g : Gx} (hok : Wok classes (wC g)) {σ : St} {a0 : Int32} {r : Int32} (hf : f_Tape_rank a0 = some r) : CtI classes l y_Tape_rank b_Tape_rank 1 (some .int) 1 (wC g) [.int a0] σ r σ :=
  MetI (by decide +kernel) hok (Nat.le_of_ble_eq_true rfl) (fun E _ C hR => w_Tape_rank C hR hf)
set_option maxRecDepth 4000 in
theorem w_Tape_writeStep {E : Ev} {g : Gx} {σ' : St} (C : Cx E classes 2 (wC g) b_Tape_writeStep "WithTheReds$Tape" 1) (hR : RetV E classes 2 (wC g) b_Tape_writeStep σ') {σ : St} {a1 : Int32} (hf : f_Tape_writeStep σ a1 = some σ') : V E classes 2 (wC g) σ 0 [(0, .ref (g.2.1 35)), (1, .int a1)] [] := by
  unfold f_Tape_writeStep at hf
  refine V_aload_n C 0 d_Tape_writeStep_0 rfl ?_
  refine gC_Tape_written (v := σ.1 3504) C fl_Tape_31 rfl d_Tape_writeStep_1 ?_
  refine V_bipush (v := 121) C d_Tape_writeStep_4 (by decide) ?_
  refine V_icmp_ge (pc := 6) (tgt := 29) C d_Tape_writeStep_6 (by decide) hf (fun hf => ?_) (fun hf => ?_)
  · exact V_vret hR hf d_Tape_writeStep_29
  · refine V_aload_n C 0 d_Tape_writeStep_9 rfl ?_
    refine gC_Tape_steps C fl_Tape_17 d_Tape_writeStep_10 ?_
    refine V_aload_n C 0 d_Tape_writeStep_13 rfl ?_
    refine gC_Tape_written (v := σ.1 3504) C fl_Tape_31 rfl d_Tape_writeStep_14 ?_
    refine V_iload_n C 1 d_Tape_writeStep_17 rfl ?_
    obtain ⟨hi18_1, hf⟩ := gu hf
    refine sC_37 C hi18_1 d_Tape_writeStep_18 ?_
    refine V_aload_n C 0 d_Tape_writeStep_19 rfl ?_
    refine V_dup C d_Tape_writeStep_20 rfl ?_
    refine gC_Tape_written (v := σ.1 3504) C fl_Tape_31 rfl d_Tape_writeStep_21 ?_
    refine V_iconst (v := 1) C d_Tape_writeStep_24 (by decide) ?_
    refine V_iadd C d_Tape_writeStep_25 ?_
    refine pC_Tape_written C fl_Tape_31 d_Tape_writeStep_26 ?_
    exact V_vret hR hf d_Tape_writeStep_29
theorem c_Tape_writeStep {l : Launch} {g : Gx} (hok : Wok classes (wC g)) {σ : St} {a1 : Int32} {σ' : St} (hf : f_Tape_writeStep σ a1 = some σ') : CtV classes l y_Tape_writeStep b_Tape_writeStep 2 none 1 (wC g) [.ref (g.2.1 35), .int a1] σ σ' :=
  MetV (by decide +kernel) hok (Nat.le_of_ble_eq_true rfl) (fun E _ C hR => w_Tape_writeStep C hR hf)
set_option maxRecDepth 4000 in
theorem w_Tape_release_0 {E : Ev} {g : Gx} {σ' : St} (C : Cx E classes 2 (wC g) b_Tape_release "WithTheReds$Tape" 2) (hR : RetV E classes 2 (wC g) b_Tape_release σ') : ∀ (n : Nat) (σ : St) (x1 : Int32), f_Tape_release_0 n σ x1 = some σ' → V E classes 2 (wC g) σ 0 [(0, .ref (g.2.1 35)), (1, .int x1)] [] := by
  intro n
  induction n with
  | zero => intro σ x1 hf; exact absurd hf (by unfold f_Tape_release_0; exact nofun)
  | succ n ih =>
    intro σ x1 hf
    unfold f_Tape_release_0 at hf
    refine V_aload_n C 0 d_Tape_release_0 rfl ?_
    refine gC_Tape_waits (v := σ.1 3505) C fl_Tape_34 rfl d_Tape_release_1 ?_
    refine V_if_le (pc := 4) (tgt := 40) C d_Tape_release_4 (by decide) hf (fun hf => ?_) (fun hf => ?_)
    · exact V_vret hR hf d_Tape_release_40
    · refine V_aload_n C 0 d_Tape_release_7 rfl ?_
      obtain ⟨r8_1, hg, hf⟩ := bd hf
      refine V_callVi C [] (c_Tape_lastWaiting C.2.2.2.2.2.2.2.1 hg) (by decide) cw_Tape_103 35 rfl rfl rfl rfl (Nat.le_of_ble_eq_true rfl) rfl d_Tape_release_8 ?_
      obtain ⟨r11_2, hg, hf⟩ := bd hf
      refine V_callSi C [.int r8_1] (c_Tape_rank C.2.2.2.2.2.2.2.1 hg) (by decide) cw_Tape_91 rfl (Nat.le_of_ble_eq_true rfl) rfl d_Tape_release_11 ?_
      refine V_iload_n C 1 d_Tape_release_14 rfl ?_
      refine V_icmp_lt (pc := 15) (tgt := 40) C d_Tape_release_15 (by decide) hf (fun hf => ?_) (fun hf => ?_)
      · exact V_vret hR hf d_Tape_release_40
      · refine V_aload_n C 0 d_Tape_release_18 rfl ?_
        refine V_aload_n C 0 d_Tape_release_19 rfl ?_
        obtain ⟨r20_3, hg, hf⟩ := bd hf
        refine V_callVi C [] (c_Tape_lastWaiting C.2.2.2.2.2.2.2.1 hg) (by decide) cw_Tape_103 35 rfl rfl rfl rfl (Nat.le_of_ble_eq_true rfl) rfl d_Tape_release_20 ?_
        refine V_ineg C d_Tape_release_23 ?_
        obtain ⟨σ24_4, hg, hf⟩ := bd hf
        refine V_callVv C [.int (-r20_3)] (c_Tape_writeStep C.2.2.2.2.2.2.2.1 hg) (by decide) cw_Tape_73 35 rfl rfl rfl rfl (Nat.le_of_ble_eq_true rfl) rfl d_Tape_release_24 ?_
        refine V_aload_n C 0 d_Tape_release_27 rfl ?_
        refine V_dup C d_Tape_release_28 rfl ?_
        refine gC_Tape_waits (v := σ24_4.1 3505) C fl_Tape_34 rfl d_Tape_release_29 ?_
        refine V_iconst (v := 1) C d_Tape_release_32 (by decide) ?_
        refine V_isub C d_Tape_release_33 ?_
        refine pC_Tape_waits C fl_Tape_34 d_Tape_release_34 ?_
        refine V_goto (pc := 37) (tgt := 0) C d_Tape_release_37 (by decide) ?_
        exact ih (upI σ24_4 3505 ((σ24_4.1 3505) - (1 : Int32))) x1 hf
set_option maxRecDepth 4000 in
theorem w_Tape_release {E : Ev} {g : Gx} {σ' : St} (C : Cx E classes 2 (wC g) b_Tape_release "WithTheReds$Tape" 2) (hR : RetV E classes 2 (wC g) b_Tape_release σ') {σ : St} {a1 : Int32} (hf : f_Tape_release σ a1 = some σ') : V E classes 2 (wC g) σ 0 [(0, .ref (g.2.1 35)), (1, .int a1)] [] := by
  unfold f_Tape_release at hf
  exact w_Tape_release_0 C hR FU σ a1 hf
theorem c_Tape_release {l : Launch} {g : Gx} (hok : Wok classes (wC g)) {σ : St} {a1 : Int32} {σ' : St} (hf : f_Tape_release σ a1 = some σ') : CtV classes l y_Tape_release b_Tape_release 2 none 2 (wC g) [.ref (g.2.1 35), .int a1] σ σ' :=
  MetV (by decide +kernel) hok (Nat.le_of_ble_eq_true rfl) (fun E _ C hR => w_Tape_release C hR hf)
set_option maxRecDepth 4000 in
theorem w_Tape_endLine {E : Ev} {g : Gx} {σ' : St} (C : Cx E classes 1 (wC g) b_Tape_endLine "WithTheReds$Tape" 3) (hR : RetV E classes 1 (wC g) b_Tape_endLine σ') {σ : St} (hf : f_Tape_endLine σ = some σ') : V E classes 1 (wC g) σ 0 [(0, .ref (g.2.1 35))] [] := by
  unfold f_Tape_endLine at hf
  refine V_aload_n C 0 d_Tape_endLine_0 rfl ?_
  refine V_iconst (v := 1) C d_Tape_endLine_1 (by decide) ?_
  obtain ⟨σ2_1, hg, hf⟩ := bd hf
  refine V_callVv C [.int (1 : Int32)] (c_Tape_release C.2.2.2.2.2.2.2.1 hg) (by decide) cw_Tape_100 35 rfl rfl rfl rfl (Nat.le_of_ble_eq_true rfl) rfl d_Tape_endLine_2 ?_
  refine V_aload_n C 0 d_Tape_endLine_5 rfl ?_
  refine V_aload_n C 0 d_Tape_endLine_6 rfl ?_
  refine gC_Tape_isSecond (v := σ2_1.1 3510) C fl_Tape_47 rfl d_Tape_endLine_7 ?_
  refine V_if_eq (pc := 10) (tgt := 18) C d_Tape_endLine_10 (by decide) hf (fun hf => ?_) (fun hf => ?_)
  · refine V_bipush (v := -59) C d_Tape_endLine_18 (by decide) ?_
    obtain ⟨σ20_2, hg, hf⟩ := bd hf
    refine V_callVv C [.int (-59 : Int32)] (c_Tape_writeStep C.2.2.2.2.2.2.2.1 hg) (by decide) cw_Tape_73 35 rfl rfl rfl rfl (Nat.le_of_ble_eq_true rfl) rfl d_Tape_endLine_20 ?_
    refine V_aload_n C 0 d_Tape_endLine_23 rfl ?_
    refine V_iconst (v := 0) C d_Tape_endLine_24 (by decide) ?_
    refine pC_Tape_isSecond C rfl fl_Tape_47 d_Tape_endLine_25 ?_
    refine V_aload_n C 0 d_Tape_endLine_28 rfl ?_
    refine V_iconst (v := 1) C d_Tape_endLine_29 (by decide) ?_
    refine pC_Tape_wantsOperand C rfl fl_Tape_43 d_Tape_endLine_30 ?_
    exact V_vret hR hf d_Tape_endLine_33
  · refine V_bipush (v := -63) C d_Tape_endLine_13 (by decide) ?_
    refine V_goto (pc := 15) (tgt := 20) C d_Tape_endLine_15 (by decide) ?_
    obtain ⟨σ20_3, hg, hf⟩ := bd hf
    refine V_callVv C [.int (-63 : Int32)] (c_Tape_writeStep C.2.2.2.2.2.2.2.1 hg) (by decide) cw_Tape_73 35 rfl rfl rfl rfl (Nat.le_of_ble_eq_true rfl) rfl d_Tape_endLine_20 ?_
    refine V_aload_n C 0 d_Tape_endLine_23 rfl ?_
    refine V_iconst (v := 0) C d_Tape_endLine_24 (by decide) ?_
    refine pC_Tape_isSecond C rfl fl_Tape_47 d_Tape_endLine_25 ?_
    refine V_aload_n C 0 d_Tape_endLine_28 rfl ?_
    refine V_iconst (v := 1) C d_Tape_endLine_29 (by decide) ?_
    refine pC_Tape_wantsOperand C rfl fl_Tape_43 d_Tape_endLine_30 ?_
    exact V_vret hR hf d_Tape_endLine_33
theorem c_Tape_endLine {l : Launch} {g : Gx} (hok : Wok classes (wC g)) {σ : St} {σ' : St} (hf : f_Tape_endLine σ = some σ') : CtV classes l y_Tape_endLine b_Tape_endLine 1 none 3 (wC g) [.ref (g.2.1 35)] σ σ' :=
  MetV (by decide +kernel) hok (Nat.le_of_ble_eq_true rfl) (fun E _ C hR => w_Tape_endLine C hR hf)
set_option maxRecDepth 4000 in
theorem w_Tape_endOperand_30 {E : Ev} {g : Gx} {σ' : St} (C : Cx E classes 1 (wC g) b_Tape_endOperand "WithTheReds$Tape" 2) (hR : RetV E classes 1 (wC g) b_Tape_endOperand σ') {k5 : St → Option St} (hk5 : ∀ (σ : St), k5 σ = some σ' → V E classes 1 (wC g) σ 5 [(0, .ref (g.2.1 35))] []) : ∀ (σ : St), f_Tape_endOperand_30 k5 σ = some σ' → V E classes 1 (wC g) σ 30 [(0, .ref (g.2.1 35))] [] := by
  intro σ hf
  unfold f_Tape_endOperand_30 at hf
  refine V_aload_n C 0 d_Tape_endOperand_30 rfl ?_
  refine V_aload_n C 0 d_Tape_endOperand_31 rfl ?_
  obtain ⟨r32_1, hg, hf⟩ := bd hf
  refine V_callVi C [] (c_Tape_lastWaiting C.2.2.2.2.2.2.2.1 hg) (by decide) cw_Tape_103 35 rfl rfl rfl rfl (Nat.le_of_ble_eq_true rfl) rfl d_Tape_endOperand_32 ?_
  refine V_ineg C d_Tape_endOperand_35 ?_
  obtain ⟨σ36_2, hg, hf⟩ := bd hf
  refine V_callVv C [.int (-r32_1)] (c_Tape_writeStep C.2.2.2.2.2.2.2.1 hg) (by decide) cw_Tape_73 35 rfl rfl rfl rfl (Nat.le_of_ble_eq_true rfl) rfl d_Tape_endOperand_36 ?_
  refine V_aload_n C 0 d_Tape_endOperand_39 rfl ?_
  refine V_dup C d_Tape_endOperand_40 rfl ?_
  refine gC_Tape_waits (v := σ36_2.1 3505) C fl_Tape_34 rfl d_Tape_endOperand_41 ?_
  refine V_iconst (v := 1) C d_Tape_endOperand_44 (by decide) ?_
  refine V_isub C d_Tape_endOperand_45 ?_
  refine pC_Tape_waits C fl_Tape_34 d_Tape_endOperand_46 ?_
  refine V_aload_n C 0 d_Tape_endOperand_49 rfl ?_
  refine V_dup C d_Tape_endOperand_50 rfl ?_
  refine gC_Tape_open (v := σ36_2.1 3506) C fl_Tape_37 rfl d_Tape_endOperand_51 ?_
  refine V_iconst (v := 1) C d_Tape_endOperand_54 (by decide) ?_
  refine V_isub C d_Tape_endOperand_55 ?_
  refine pC_Tape_open C fl_Tape_37 d_Tape_endOperand_56 ?_
  refine V_goto (pc := 59) (tgt := 5) C d_Tape_endOperand_59 (by decide) ?_
  exact hk5 (upI (upI σ36_2 3505 ((σ36_2.1 3505) - (1 : Int32))) 3506 ((σ36_2.1 3506) - (1 : Int32))) hf
set_option maxRecDepth 4000 in
theorem w_Tape_endOperand_5 {E : Ev} {g : Gx} {σ' : St} (C : Cx E classes 1 (wC g) b_Tape_endOperand "WithTheReds$Tape" 2) (hR : RetV E classes 1 (wC g) b_Tape_endOperand σ') : ∀ (n : Nat) (σ : St), f_Tape_endOperand_5 n σ = some σ' → V E classes 1 (wC g) σ 5 [(0, .ref (g.2.1 35))] [] := by
  intro n
  induction n with
  | zero => intro σ hf; exact absurd hf (by unfold f_Tape_endOperand_5; exact nofun)
  | succ n ih =>
    intro σ hf
    unfold f_Tape_endOperand_5 at hf
    refine V_aload_n C 0 d_Tape_endOperand_5 rfl ?_
    refine gC_Tape_waits (v := σ.1 3505) C fl_Tape_34 rfl d_Tape_endOperand_6 ?_
    refine V_if_le (pc := 9) (tgt := 62) C d_Tape_endOperand_9 (by decide) hf (fun hf => ?_) (fun hf => ?_)
    · exact V_vret hR hf d_Tape_endOperand_62
    · refine V_aload_n C 0 d_Tape_endOperand_12 rfl ?_
      obtain ⟨r13_1, hg, hf⟩ := bd hf
      refine V_callVi C [] (c_Tape_lastWaiting C.2.2.2.2.2.2.2.1 hg) (by decide) cw_Tape_103 35 rfl rfl rfl rfl (Nat.le_of_ble_eq_true rfl) rfl d_Tape_endOperand_13 ?_
      refine V_bipush (v := 33) C d_Tape_endOperand_16 (by decide) ?_
      refine V_icmp_eq (pc := 18) (tgt := 30) C d_Tape_endOperand_18 (by decide) hf (fun hf => ?_) (fun hf => ?_)
      · exact w_Tape_endOperand_30 C hR ih σ hf
      · refine V_aload_n C 0 d_Tape_endOperand_21 rfl ?_
        obtain ⟨r22_2, hg, hf⟩ := bd hf
        refine V_callVi C [] (c_Tape_lastWaiting C.2.2.2.2.2.2.2.1 hg) (by decide) cw_Tape_103 35 rfl rfl rfl rfl (Nat.le_of_ble_eq_true rfl) rfl d_Tape_endOperand_22 ?_
        refine V_bipush (v := 126) C d_Tape_endOperand_25 (by decide) ?_
        refine V_icmp_ne (pc := 27) (tgt := 62) C d_Tape_endOperand_27 (by decide) hf (fun hf => ?_) (fun hf => ?_)
        · exact V_vret hR hf d_Tape_endOperand_62
        · exact w_Tape_endOperand_30 C hR ih σ hf
set_option maxRecDepth 4000 in
theorem w_Tape_endOperand {E : Ev} {g : Gx} {σ' : St} (C : Cx E classes 1 (wC g) b_Tape_endOperand "WithTheReds$Tape" 2) (hR : RetV E classes 1 (wC g) b_Tape_endOperand σ') {σ : St} (hf : f_Tape_endOperand σ = some σ') : V E classes 1 (wC g) σ 0 [(0, .ref (g.2.1 35))] [] := by
  unfold f_Tape_endOperand at hf
  refine V_aload_n C 0 d_Tape_endOperand_0 rfl ?_
  refine V_iconst (v := 0) C d_Tape_endOperand_1 (by decide) ?_
  refine pC_Tape_wantsOperand C rfl fl_Tape_43 d_Tape_endOperand_2 ?_
  exact w_Tape_endOperand_5 C hR FU (upI σ 3509 (0 : Int32)) hf
theorem c_Tape_endOperand {l : Launch} {g : Gx} (hok : Wok classes (wC g)) {σ : St} {σ' : St} (hf : f_Tape_endOperand σ = some σ') : CtV classes l y_Tape_endOperand b_Tape_endOperand 1 none 2 (wC g) [.ref (g.2.1 35)] σ σ' :=
  MetV (by decide +kernel) hok (Nat.le_of_ble_eq_true rfl) (fun E _ C hR => w_Tape_endOperand C hR hf)
set_option maxRecDepth 4000 in
theorem w_Tape_takesDigit {E : Ev} {g : Gx} {r : Int32} {σ' : St} (C : Cx E classes 2 (wC g) b_Tape_takesDigit "WithTheReds$Tape" 3) (hR : RetZ E classes 2 (wC g) b_Tape_takesDigit r σ') {σ : St} {a1 : Int32} (hf : f_Tape_takesDigit σ a1 = some (r, σ')) : V E classes 2 (wC g) σ 0 [(0, .ref (g.2.1 35)), (1, .int a1)] [] := by
  unfold f_Tape_takesDigit at hf
  refine V_aload_n C 0 d_Tape_takesDigit_0 rfl ?_
  refine gC_Tape_wantsOperand (v := σ.1 3509) C fl_Tape_43 rfl d_Tape_takesDigit_1 ?_
  refine V_if_eq (pc := 4) (tgt := 31) C d_Tape_takesDigit_4 (by decide) hf (fun hf => ?_) (fun hf => ?_)
  · refine V_aload_n C 0 d_Tape_takesDigit_31 rfl ?_
    refine gC_Tape_digits (v := σ.1 3507) C fl_Tape_40 rfl d_Tape_takesDigit_32 ?_
    refine V_if_eq (pc := 35) (tgt := 63) C d_Tape_takesDigit_35 (by decide) hf (fun hf => ?_) (fun hf => ?_)
    · refine V_iconst (v := 0) C d_Tape_takesDigit_63 (by decide) ?_
      exact V_zretW hR hf rfl d_Tape_takesDigit_64
    · refine V_aload_n C 0 d_Tape_takesDigit_38 rfl ?_
      refine gC_Tape_digits (v := σ.1 3507) C fl_Tape_40 rfl d_Tape_takesDigit_39 ?_
      refine V_iconst (v := 4) C d_Tape_takesDigit_42 (by decide) ?_
      refine V_icmp_ge (pc := 43) (tgt := 63) C d_Tape_takesDigit_43 (by decide) hf (fun hf => ?_) (fun hf => ?_)
      · refine V_iconst (v := 0) C d_Tape_takesDigit_63 (by decide) ?_
        exact V_zretW hR hf rfl d_Tape_takesDigit_64
      · refine V_aload_n C 0 d_Tape_takesDigit_46 rfl ?_
        refine gC_Tape_numberAt (v := σ.1 3508) C fl_Tape_70 rfl d_Tape_takesDigit_47 ?_
        refine V_iconst (v := 0) C d_Tape_takesDigit_50 (by decide) ?_
        refine V_aload_n C 0 d_Tape_takesDigit_51 rfl ?_
        refine gC_Tape_written (v := σ.1 3504) C fl_Tape_31 rfl d_Tape_takesDigit_52 ?_
        refine V_iconst (v := 1) C d_Tape_takesDigit_55 (by decide) ?_
        refine V_isub C d_Tape_takesDigit_56 ?_
        obtain ⟨r57_1, hg, hf⟩ := bd hf
        refine V_callNi C [.int (σ.1 3508), .int (0 : Int32), .int ((σ.1 3504) - (1 : Int32))] (c_Top_within C.2.2.2.2.2.2.2.1 hg) (by decide) cw_Tape_57 nw_Tape_57 rfl (Nat.le_of_ble_eq_true rfl) rfl d_Tape_takesDigit_57 ?_
        refine V_if_ne (pc := 60) (tgt := 65) C d_Tape_takesDigit_60 (by decide) hf (fun hf => ?_) (fun hf => ?_)
        · refine V_aload_n C 0 d_Tape_takesDigit_65 rfl ?_
          refine gC_Tape_steps C fl_Tape_17 d_Tape_takesDigit_66 ?_
          refine V_aload_n C 0 d_Tape_takesDigit_69 rfl ?_
          refine gC_Tape_numberAt (v := σ.1 3508) C fl_Tape_70 rfl d_Tape_takesDigit_70 ?_
          refine V_aload_n C 0 d_Tape_takesDigit_73 rfl ?_
          refine gC_Tape_steps C fl_Tape_17 d_Tape_takesDigit_74 ?_
          refine V_aload_n C 0 d_Tape_takesDigit_77 rfl ?_
          refine gC_Tape_numberAt (v := σ.1 3508) C fl_Tape_70 rfl d_Tape_takesDigit_78 ?_
          obtain ⟨hi81_2, hf⟩ := gu hf
          refine aC_37 (v := σ.2.1 37 (σ.1 3508).toNatClampNeg) C hi81_2 rfl d_Tape_takesDigit_81 ?_
          refine V_bipush (v := 10) C d_Tape_takesDigit_82 (by decide) ?_
          refine V_imul C d_Tape_takesDigit_84 ?_
          refine V_iload_n C 1 d_Tape_takesDigit_85 rfl ?_
          refine V_iadd C d_Tape_takesDigit_86 ?_
          obtain ⟨hi87_3, hf⟩ := gu hf
          refine sC_37 C hi87_3 d_Tape_takesDigit_87 ?_
          refine V_aload_n C 0 d_Tape_takesDigit_88 rfl ?_
          refine V_dup C d_Tape_takesDigit_89 rfl ?_
          refine gC_Tape_digits (v := σ.1 3507) C fl_Tape_40 rfl d_Tape_takesDigit_90 ?_
          refine V_iconst (v := 1) C d_Tape_takesDigit_93 (by decide) ?_
          refine V_iadd C d_Tape_takesDigit_94 ?_
          refine pC_Tape_digits C fl_Tape_40 d_Tape_takesDigit_95 ?_
          refine V_iconst (v := 1) C d_Tape_takesDigit_98 (by decide) ?_
          exact V_zretW hR hf rfl d_Tape_takesDigit_99
        · refine V_iconst (v := 0) C d_Tape_takesDigit_63 (by decide) ?_
          exact V_zretW hR hf rfl d_Tape_takesDigit_64
  · refine V_aload_n C 0 d_Tape_takesDigit_7 rfl ?_
    refine V_aload_n C 0 d_Tape_takesDigit_8 rfl ?_
    refine gC_Tape_written (v := σ.1 3504) C fl_Tape_31 rfl d_Tape_takesDigit_9 ?_
    refine pC_Tape_numberAt C fl_Tape_70 d_Tape_takesDigit_12 ?_
    refine V_aload_n C 0 d_Tape_takesDigit_15 rfl ?_
    refine V_iconst (v := 1) C d_Tape_takesDigit_16 (by decide) ?_
    refine pC_Tape_digits C fl_Tape_40 d_Tape_takesDigit_17 ?_
    refine V_aload_n C 0 d_Tape_takesDigit_20 rfl ?_
    refine V_iload_n C 1 d_Tape_takesDigit_21 rfl ?_
    obtain ⟨σ22_4, hg, hf⟩ := bd hf
    refine V_callVv C [.int a1] (c_Tape_writeStep C.2.2.2.2.2.2.2.1 hg) (by decide) cw_Tape_73 35 rfl rfl rfl rfl (Nat.le_of_ble_eq_true rfl) rfl d_Tape_takesDigit_22 ?_
    refine V_aload_n C 0 d_Tape_takesDigit_25 rfl ?_
    obtain ⟨σ26_5, hg, hf⟩ := bd hf
    refine V_callVv C [] (c_Tape_endOperand C.2.2.2.2.2.2.2.1 hg) (by decide) cw_Tape_77 35 rfl rfl rfl rfl (Nat.le_of_ble_eq_true rfl) rfl d_Tape_takesDigit_26 ?_
    refine V_iconst (v := 1) C d_Tape_takesDigit_29 (by decide) ?_
    exact V_zretW hR hf rfl d_Tape_takesDigit_30
theorem c_Tape_takesDigit {l : Launch} {g : Gx} (hok : Wok classes (wC g)) {σ : St} {a1 : Int32} {r : Int32} {σ' : St} (hf : f_Tape_takesDigit σ a1 = some (r, σ')) : CtI classes l y_Tape_takesDigit b_Tape_takesDigit 2 (some .boolean) 3 (wC g) [.ref (g.2.1 35), .int a1] σ r σ' :=
  MetZ (by decide +kernel) hok (Nat.le_of_ble_eq_true rfl) (fun E _ C hR => w_Tape_takesDigit C hR hf)
set_option maxRecDepth 4000 in
theorem w_Tape_pushWaiting {E : Ev} {g : Gx} {σ' : St} (C : Cx E classes 2 (wC g) b_Tape_pushWaiting "WithTheReds$Tape" 1) (hR : RetV E classes 2 (wC g) b_Tape_pushWaiting σ') {σ : St} {a1 : Int32} (hf : f_Tape_pushWaiting σ a1 = some σ') : V E classes 2 (wC g) σ 0 [(0, .ref (g.2.1 35)), (1, .int a1)] [] := by
  unfold f_Tape_pushWaiting at hf
  refine V_aload_n C 0 d_Tape_pushWaiting_0 rfl ?_
  refine gC_Tape_waits (v := σ.1 3505) C fl_Tape_34 rfl d_Tape_pushWaiting_1 ?_
  refine V_bipush (v := 120) C d_Tape_pushWaiting_4 (by decide) ?_
  refine V_icmp_ge (pc := 6) (tgt := 29) C d_Tape_pushWaiting_6 (by decide) hf (fun hf => ?_) (fun hf => ?_)
  · exact V_vret hR hf d_Tape_pushWaiting_29
  · refine V_aload_n C 0 d_Tape_pushWaiting_9 rfl ?_
    refine gC_Tape_waiting C fl_Tape_20 d_Tape_pushWaiting_10 ?_
    refine V_aload_n C 0 d_Tape_pushWaiting_13 rfl ?_
    refine gC_Tape_waits (v := σ.1 3505) C fl_Tape_34 rfl d_Tape_pushWaiting_14 ?_
    refine V_iload_n C 1 d_Tape_pushWaiting_17 rfl ?_
    obtain ⟨hi18_1, hf⟩ := gu hf
    refine sC_38 C hi18_1 d_Tape_pushWaiting_18 ?_
    refine V_aload_n C 0 d_Tape_pushWaiting_19 rfl ?_
    refine V_dup C d_Tape_pushWaiting_20 rfl ?_
    refine gC_Tape_waits (v := σ.1 3505) C fl_Tape_34 rfl d_Tape_pushWaiting_21 ?_
    refine V_iconst (v := 1) C d_Tape_pushWaiting_24 (by decide) ?_
    refine V_iadd C d_Tape_pushWaiting_25 ?_
    refine pC_Tape_waits C fl_Tape_34 d_Tape_pushWaiting_26 ?_
    exact V_vret hR hf d_Tape_pushWaiting_29
theorem c_Tape_pushWaiting {l : Launch} {g : Gx} (hok : Wok classes (wC g)) {σ : St} {a1 : Int32} {σ' : St} (hf : f_Tape_pushWaiting σ a1 = some σ') : CtV classes l y_Tape_pushWaiting b_Tape_pushWaiting 2 none 1 (wC g) [.ref (g.2.1 35), .int a1] σ σ' :=
  MetV (by decide +kernel) hok (Nat.le_of_ble_eq_true rfl) (fun E _ C hR => w_Tape_pushWaiting C hR hf)
set_option maxRecDepth 4000 in
theorem w_Tape_takesOperand_43 {E : Ev} {g : Gx} {r : Int32} {σ' : St} (C : Cx E classes 3 (wC g) b_Tape_takesOperand "WithTheReds$Tape" 5) (hR : RetZ E classes 3 (wC g) b_Tape_takesOperand r σ') : ∀ (σ : St) (x1 : Int32), f_Tape_takesOperand_43 σ x1 = some (r, σ') → V E classes 3 (wC g) σ 43 [(0, .ref (g.2.1 35)), (1, .int x1)] [] := by
  intro σ x1 hf
  unfold f_Tape_takesOperand_43 at hf
  refine V_aload_n C 0 d_Tape_takesOperand_43 rfl ?_
  refine gC_Tape_open (v := σ.1 3506) C fl_Tape_37 rfl d_Tape_takesOperand_44 ?_
  refine V_bipush (v := 6) C d_Tape_takesOperand_47 (by decide) ?_
  refine V_icmp_lt (pc := 49) (tgt := 54) C d_Tape_takesOperand_49 (by decide) hf (fun hf => ?_) (fun hf => ?_)
  · refine V_aload_n C 0 d_Tape_takesOperand_54 rfl ?_
    refine V_dup C d_Tape_takesOperand_55 rfl ?_
    refine gC_Tape_open (v := σ.1 3506) C fl_Tape_37 rfl d_Tape_takesOperand_56 ?_
    refine V_iconst (v := 1) C d_Tape_takesOperand_59 (by decide) ?_
    refine V_iadd C d_Tape_takesOperand_60 ?_
    refine pC_Tape_open C fl_Tape_37 d_Tape_takesOperand_61 ?_
    refine V_aload_n C 0 d_Tape_takesOperand_64 rfl ?_
    refine V_iload_n C 1 d_Tape_takesOperand_65 rfl ?_
    refine V_bipush (v := 45) C d_Tape_takesOperand_66 (by decide) ?_
    refine V_icmp_ne (pc := 68) (tgt := 76) C d_Tape_takesOperand_68 (by decide) hf (fun hf => ?_) (fun hf => ?_)
    · refine V_iload_n C 1 d_Tape_takesOperand_76 rfl ?_
      obtain ⟨σ77_1, hg, hf⟩ := bd hf
      refine V_callVv C [.int x1] (c_Tape_pushWaiting C.2.2.2.2.2.2.2.1 hg) (by decide) cw_Tape_88 35 rfl rfl rfl rfl (Nat.le_of_ble_eq_true rfl) rfl d_Tape_takesOperand_77 ?_
      refine V_iconst (v := 1) C d_Tape_takesOperand_80 (by decide) ?_
      exact V_zretW hR hf rfl d_Tape_takesOperand_81
    · refine V_bipush (v := 126) C d_Tape_takesOperand_71 (by decide) ?_
      refine V_goto (pc := 73) (tgt := 77) C d_Tape_takesOperand_73 (by decide) ?_
      obtain ⟨σ77_2, hg, hf⟩ := bd hf
      refine V_callVv C [.int (126 : Int32)] (c_Tape_pushWaiting C.2.2.2.2.2.2.2.1 hg) (by decide) cw_Tape_88 35 rfl rfl rfl rfl (Nat.le_of_ble_eq_true rfl) rfl d_Tape_takesOperand_77 ?_
      refine V_iconst (v := 1) C d_Tape_takesOperand_80 (by decide) ?_
      exact V_zretW hR hf rfl d_Tape_takesOperand_81
  · refine V_iconst (v := 0) C d_Tape_takesOperand_52 (by decide) ?_
    exact V_zretW hR hf rfl d_Tape_takesOperand_53
set_option maxRecDepth 4000 in
theorem w_Tape_takesOperand {E : Ev} {g : Gx} {r : Int32} {σ' : St} (C : Cx E classes 3 (wC g) b_Tape_takesOperand "WithTheReds$Tape" 5) (hR : RetZ E classes 3 (wC g) b_Tape_takesOperand r σ') {σ : St} {a1 : Int32} (hf : f_Tape_takesOperand σ a1 = some (r, σ')) : V E classes 3 (wC g) σ 0 [(0, .ref (g.2.1 35)), (1, .int a1)] [] := by
  unfold f_Tape_takesOperand at hf
  refine V_ldcS C d_Tape_takesOperand_0 ?_
  refine V_iload_n C 1 d_Tape_takesOperand_2 rfl ?_
  refine V_i2c C d_Tape_takesOperand_3 ?_
  obtain ⟨hch, hf⟩ := gu hf
  refine V_indexOf C hch (by decide) (Nat.le_of_ble_eq_true rfl) d_Tape_takesOperand_4 ?_
  refine V_istore_n C d_Tape_takesOperand_7 (by decide) rfl ?_
  refine V_iload_n C 0 d_Tape_takesOperand_8 rfl ?_
  refine V_if_lt (pc := 9) (tgt := 25) C d_Tape_takesOperand_9 (by decide) hf (fun hf => ?_) (fun hf => ?_)
  · refine V_iload_n C 2 d_Tape_takesOperand_25 rfl ?_
    refine V_bipush (v := 40) C d_Tape_takesOperand_26 (by decide) ?_
    refine V_icmp_eq (pc := 28) (tgt := 43) C d_Tape_takesOperand_28 (by decide) hf (fun hf => ?_) (fun hf => ?_)
    · refine V.sub [1, 2] rfl ?_
      exact w_Tape_takesOperand_43 C hR σ a1 hf
    · refine V_iload_n C 2 d_Tape_takesOperand_31 rfl ?_
      refine V_bipush (v := 33) C d_Tape_takesOperand_32 (by decide) ?_
      refine V_icmp_eq (pc := 34) (tgt := 43) C d_Tape_takesOperand_34 (by decide) hf (fun hf => ?_) (fun hf => ?_)
      · refine V.sub [1, 2] rfl ?_
        exact w_Tape_takesOperand_43 C hR σ a1 hf
      · refine V_iload_n C 2 d_Tape_takesOperand_37 rfl ?_
        refine V_bipush (v := 45) C d_Tape_takesOperand_38 (by decide) ?_
        refine V_icmp_ne (pc := 40) (tgt := 52) C d_Tape_takesOperand_40 (by decide) hf (fun hf => ?_) (fun hf => ?_)
        · refine V_iconst (v := 0) C d_Tape_takesOperand_52 (by decide) ?_
          exact V_zretW hR hf rfl d_Tape_takesOperand_53
        · refine V.sub [1, 2] rfl ?_
          exact w_Tape_takesOperand_43 C hR σ a1 hf
  · refine V_aload_n C 1 d_Tape_takesOperand_12 rfl ?_
    refine V_iconst (v := -1) C d_Tape_takesOperand_13 (by decide) ?_
    refine V_iload_n C 0 d_Tape_takesOperand_14 rfl ?_
    refine V_isub C d_Tape_takesOperand_15 ?_
    obtain ⟨σ16_1, hg, hf⟩ := bd hf
    refine V_callVv C [.int ((-1 : Int32) - (nameIx ((a1.toUInt32 % 65536).toInt32)))] (c_Tape_writeStep C.2.2.2.2.2.2.2.1 hg) (by decide) cw_Tape_73 35 rfl rfl rfl rfl (Nat.le_of_ble_eq_true rfl) rfl d_Tape_takesOperand_16 ?_
    refine V_aload_n C 1 d_Tape_takesOperand_19 rfl ?_
    obtain ⟨σ20_2, hg, hf⟩ := bd hf
    refine V_callVv C [] (c_Tape_endOperand C.2.2.2.2.2.2.2.1 hg) (by decide) cw_Tape_77 35 rfl rfl rfl rfl (Nat.le_of_ble_eq_true rfl) rfl d_Tape_takesOperand_20 ?_
    refine V_iconst (v := 1) C d_Tape_takesOperand_23 (by decide) ?_
    exact V_zretW hR hf rfl d_Tape_takesOperand_24
theorem c_Tape_takesOperand {l : Launch} {g : Gx} (hok : Wok classes (wC g)) {σ : St} {a1 : Int32} {r : Int32} {σ' : St} (hf : f_Tape_takesOperand σ a1 = some (r, σ')) : CtI classes l y_Tape_takesOperand b_Tape_takesOperand 3 (some .boolean) 5 (wC g) [.ref (g.2.1 35), .int a1] σ r σ' :=
  MetZ (by decide +kernel) hok (Nat.le_of_ble_eq_true rfl) (fun E _ C hR => w_Tape_takesOperand C hR hf)
set_option maxRecDepth 4000 in
theorem w_Tape_takesClose {E : Ev} {g : Gx} {r : Int32} {σ' : St} (C : Cx E classes 1 (wC g) b_Tape_takesClose "WithTheReds$Tape" 3) (hR : RetZ E classes 1 (wC g) b_Tape_takesClose r σ') {σ : St} (hf : f_Tape_takesClose σ = some (r, σ')) : V E classes 1 (wC g) σ 0 [(0, .ref (g.2.1 35))] [] := by
  unfold f_Tape_takesClose at hf
  refine V_aload_n C 0 d_Tape_takesClose_0 rfl ?_
  refine V_iconst (v := 1) C d_Tape_takesClose_1 (by decide) ?_
  obtain ⟨σ2_1, hg, hf⟩ := bd hf
  refine V_callVv C [.int (1 : Int32)] (c_Tape_release C.2.2.2.2.2.2.2.1 hg) (by decide) cw_Tape_100 35 rfl rfl rfl rfl (Nat.le_of_ble_eq_true rfl) rfl d_Tape_takesClose_2 ?_
  refine V_aload_n C 0 d_Tape_takesClose_5 rfl ?_
  obtain ⟨r6_2, hg, hf⟩ := bd hf
  refine V_callVi C [] (c_Tape_lastWaiting C.2.2.2.2.2.2.2.1 hg) (by decide) cw_Tape_103 35 rfl rfl rfl rfl (Nat.le_of_ble_eq_true rfl) rfl d_Tape_takesClose_6 ?_
  refine V_bipush (v := 40) C d_Tape_takesClose_9 (by decide) ?_
  refine V_icmp_eq (pc := 11) (tgt := 16) C d_Tape_takesClose_11 (by decide) hf (fun hf => ?_) (fun hf => ?_)
  · refine V_aload_n C 0 d_Tape_takesClose_16 rfl ?_
    refine V_dup C d_Tape_takesClose_17 rfl ?_
    refine gC_Tape_waits (v := σ2_1.1 3505) C fl_Tape_34 rfl d_Tape_takesClose_18 ?_
    refine V_iconst (v := 1) C d_Tape_takesClose_21 (by decide) ?_
    refine V_isub C d_Tape_takesClose_22 ?_
    refine pC_Tape_waits C fl_Tape_34 d_Tape_takesClose_23 ?_
    refine V_aload_n C 0 d_Tape_takesClose_26 rfl ?_
    refine V_dup C d_Tape_takesClose_27 rfl ?_
    refine gC_Tape_open (v := σ2_1.1 3506) C fl_Tape_37 rfl d_Tape_takesClose_28 ?_
    refine V_iconst (v := 1) C d_Tape_takesClose_31 (by decide) ?_
    refine V_isub C d_Tape_takesClose_32 ?_
    refine pC_Tape_open C fl_Tape_37 d_Tape_takesClose_33 ?_
    refine V_aload_n C 0 d_Tape_takesClose_36 rfl ?_
    obtain ⟨σ37_3, hg, hf⟩ := bd hf
    refine V_callVv C [] (c_Tape_endOperand C.2.2.2.2.2.2.2.1 hg) (by decide) cw_Tape_77 35 rfl rfl rfl rfl (Nat.le_of_ble_eq_true rfl) rfl d_Tape_takesClose_37 ?_
    refine V_iconst (v := 1) C d_Tape_takesClose_40 (by decide) ?_
    exact V_zretW hR hf rfl d_Tape_takesClose_41
  · refine V_iconst (v := 0) C d_Tape_takesClose_14 (by decide) ?_
    exact V_zretW hR hf rfl d_Tape_takesClose_15
theorem c_Tape_takesClose {l : Launch} {g : Gx} (hok : Wok classes (wC g)) {σ : St} {r : Int32} {σ' : St} (hf : f_Tape_takesClose σ = some (r, σ')) : CtI classes l y_Tape_takesClose b_Tape_takesClose 1 (some .boolean) 3 (wC g) [.ref (g.2.1 35)] σ r σ' :=
  MetZ (by decide +kernel) hok (Nat.le_of_ble_eq_true rfl) (fun E _ C hR => w_Tape_takesClose C hR hf)
set_option maxRecDepth 4000 in
theorem w_Tape_takesJoint {E : Ev} {g : Gx} {r : Int32} {σ' : St} (C : Cx E classes 3 (wC g) b_Tape_takesJoint "WithTheReds$Tape" 3) (hR : RetZ E classes 3 (wC g) b_Tape_takesJoint r σ') {σ : St} {a1 : Int32} (hf : f_Tape_takesJoint σ a1 = some (r, σ')) : V E classes 3 (wC g) σ 0 [(0, .ref (g.2.1 35)), (1, .int a1)] [] := by
  unfold f_Tape_takesJoint at hf
  refine V_iload_n C 1 d_Tape_takesJoint_0 rfl ?_
  obtain ⟨r1_1, hg, hf⟩ := bd hf
  refine V_callSi C [.int a1] (c_Tape_rank C.2.2.2.2.2.2.2.1 hg) (by decide) cw_Tape_91 rfl (Nat.le_of_ble_eq_true rfl) rfl d_Tape_takesJoint_1 ?_
  refine V_istore_n C d_Tape_takesJoint_4 (by decide) rfl ?_
  refine V_iload_n C 0 d_Tape_takesJoint_5 rfl ?_
  refine V_iconst (v := 3) C d_Tape_takesJoint_6 (by decide) ?_
  refine V_icmp_ne (pc := 7) (tgt := 28) C d_Tape_takesJoint_7 (by decide) hf (fun hf => ?_) (fun hf => ?_)
  · refine V_aload_n C 1 d_Tape_takesJoint_28 rfl ?_
    refine V_iload_n C 0 d_Tape_takesJoint_29 rfl ?_
    obtain ⟨σ30_2, hg, hf⟩ := bd hf
    refine V_callVv C [.int r1_1] (c_Tape_release C.2.2.2.2.2.2.2.1 hg) (by decide) cw_Tape_100 35 rfl rfl rfl rfl (Nat.le_of_ble_eq_true rfl) rfl d_Tape_takesJoint_30 ?_
    refine V_aload_n C 1 d_Tape_takesJoint_33 rfl ?_
    refine V_iload_n C 2 d_Tape_takesJoint_34 rfl ?_
    obtain ⟨σ35_3, hg, hf⟩ := bd hf
    refine V_callVv C [.int a1] (c_Tape_pushWaiting C.2.2.2.2.2.2.2.1 hg) (by decide) cw_Tape_88 35 rfl rfl rfl rfl (Nat.le_of_ble_eq_true rfl) rfl d_Tape_takesJoint_35 ?_
    refine V_aload_n C 1 d_Tape_takesJoint_38 rfl ?_
    refine V_iconst (v := 1) C d_Tape_takesJoint_39 (by decide) ?_
    refine pC_Tape_wantsOperand C rfl fl_Tape_43 d_Tape_takesJoint_40 ?_
    refine V_iconst (v := 1) C d_Tape_takesJoint_43 (by decide) ?_
    exact V_zretW hR hf rfl d_Tape_takesJoint_44
  · refine V_aload_n C 1 d_Tape_takesJoint_10 rfl ?_
    refine V_iconst (v := 4) C d_Tape_takesJoint_11 (by decide) ?_
    obtain ⟨σ12_4, hg, hf⟩ := bd hf
    refine V_callVv C [.int (4 : Int32)] (c_Tape_release C.2.2.2.2.2.2.2.1 hg) (by decide) cw_Tape_100 35 rfl rfl rfl rfl (Nat.le_of_ble_eq_true rfl) rfl d_Tape_takesJoint_12 ?_
    refine V_aload_n C 1 d_Tape_takesJoint_15 rfl ?_
    obtain ⟨r16_5, hg, hf⟩ := bd hf
    refine V_callVi C [] (c_Tape_lastWaiting C.2.2.2.2.2.2.2.1 hg) (by decide) cw_Tape_103 35 rfl rfl rfl rfl (Nat.le_of_ble_eq_true rfl) rfl d_Tape_takesJoint_16 ?_
    obtain ⟨r19_6, hg, hf⟩ := bd hf
    refine V_callSi C [.int r16_5] (c_Tape_rank C.2.2.2.2.2.2.2.1 hg) (by decide) cw_Tape_91 rfl (Nat.le_of_ble_eq_true rfl) rfl d_Tape_takesJoint_19 ?_
    refine V_iconst (v := 3) C d_Tape_takesJoint_22 (by decide) ?_
    refine V_icmp_ne (pc := 23) (tgt := 33) C d_Tape_takesJoint_23 (by decide) hf (fun hf => ?_) (fun hf => ?_)
    · refine V_aload_n C 1 d_Tape_takesJoint_33 rfl ?_
      refine V_iload_n C 2 d_Tape_takesJoint_34 rfl ?_
      obtain ⟨σ35_7, hg, hf⟩ := bd hf
      refine V_callVv C [.int a1] (c_Tape_pushWaiting C.2.2.2.2.2.2.2.1 hg) (by decide) cw_Tape_88 35 rfl rfl rfl rfl (Nat.le_of_ble_eq_true rfl) rfl d_Tape_takesJoint_35 ?_
      refine V_aload_n C 1 d_Tape_takesJoint_38 rfl ?_
      refine V_iconst (v := 1) C d_Tape_takesJoint_39 (by decide) ?_
      refine pC_Tape_wantsOperand C rfl fl_Tape_43 d_Tape_takesJoint_40 ?_
      refine V_iconst (v := 1) C d_Tape_takesJoint_43 (by decide) ?_
      exact V_zretW hR hf rfl d_Tape_takesJoint_44
    · refine V_iconst (v := 0) C d_Tape_takesJoint_26 (by decide) ?_
      exact V_zretW hR hf rfl d_Tape_takesJoint_27
theorem c_Tape_takesJoint {l : Launch} {g : Gx} (hok : Wok classes (wC g)) {σ : St} {a1 : Int32} {r : Int32} {σ' : St} (hf : f_Tape_takesJoint σ a1 = some (r, σ')) : CtI classes l y_Tape_takesJoint b_Tape_takesJoint 3 (some .boolean) 3 (wC g) [.ref (g.2.1 35), .int a1] σ r σ' :=
  MetZ (by decide +kernel) hok (Nat.le_of_ble_eq_true rfl) (fun E _ C hR => w_Tape_takesJoint C hR hf)
set_option maxRecDepth 4000 in
theorem w_Tape_takesSign {E : Ev} {g : Gx} {r : Int32} {σ' : St} (C : Cx E classes 2 (wC g) b_Tape_takesSign "WithTheReds$Tape" 4) (hR : RetZ E classes 2 (wC g) b_Tape_takesSign r σ') {σ : St} {a1 : Int32} (hf : f_Tape_takesSign σ a1 = some (r, σ')) : V E classes 2 (wC g) σ 0 [(0, .ref (g.2.1 35)), (1, .int a1)] [] := by
  unfold f_Tape_takesSign at hf
  refine V_iload_n C 1 d_Tape_takesSign_0 rfl ?_
  obtain ⟨r1_1, hg, hf⟩ := bd hf
  refine V_callSi C [.int a1] (c_Tape_rank C.2.2.2.2.2.2.2.1 hg) (by decide) cw_Tape_91 rfl (Nat.le_of_ble_eq_true rfl) rfl d_Tape_takesSign_1 ?_
  refine V_if_le (pc := 4) (tgt := 13) C d_Tape_takesSign_4 (by decide) hf (fun hf => ?_) (fun hf => ?_)
  · refine V_iload_n C 1 d_Tape_takesSign_13 rfl ?_
    refine V_bipush (v := 41) C d_Tape_takesSign_14 (by decide) ?_
    refine V_icmp_ne (pc := 16) (tgt := 24) C d_Tape_takesSign_16 (by decide) hf (fun hf => ?_) (fun hf => ?_)
    · refine V_aload_n C 0 d_Tape_takesSign_24 rfl ?_
      refine gC_Tape_open (v := σ.1 3506) C fl_Tape_37 rfl d_Tape_takesSign_25 ?_
      refine V_if_le (pc := 28) (tgt := 33) C d_Tape_takesSign_28 (by decide) hf (fun hf => ?_) (fun hf => ?_)
      · refine V_iload_n C 1 d_Tape_takesSign_33 rfl ?_
        refine V_bipush (v := 59) C d_Tape_takesSign_34 (by decide) ?_
        refine V_icmp_ne (pc := 36) (tgt := 45) C d_Tape_takesSign_36 (by decide) hf (fun hf => ?_) (fun hf => ?_)
        · refine V_iload_n C 1 d_Tape_takesSign_45 rfl ?_
          refine V_bipush (v := 63) C d_Tape_takesSign_46 (by decide) ?_
          refine V_icmp_ne (pc := 48) (tgt := 58) C d_Tape_takesSign_48 (by decide) hf (fun hf => ?_) (fun hf => ?_)
          · refine V_iconst (v := 0) C d_Tape_takesSign_58 (by decide) ?_
            exact V_zretW hR hf rfl d_Tape_takesSign_59
          · refine V_aload_n C 0 d_Tape_takesSign_51 rfl ?_
            refine gC_Tape_isSecond (v := σ.1 3510) C fl_Tape_47 rfl d_Tape_takesSign_52 ?_
            refine V_if_eq (pc := 55) (tgt := 60) C d_Tape_takesSign_55 (by decide) hf (fun hf => ?_) (fun hf => ?_)
            · refine V_aload_n C 0 d_Tape_takesSign_60 rfl ?_
              refine V_iconst (v := 1) C d_Tape_takesSign_61 (by decide) ?_
              obtain ⟨σ62_2, hg, hf⟩ := bd hf
              refine V_callVv C [.int (1 : Int32)] (c_Tape_release C.2.2.2.2.2.2.2.1 hg) (by decide) cw_Tape_100 35 rfl rfl rfl rfl (Nat.le_of_ble_eq_true rfl) rfl d_Tape_takesSign_62 ?_
              refine V_aload_n C 0 d_Tape_takesSign_65 rfl ?_
              refine V_iconst (v := 1) C d_Tape_takesSign_66 (by decide) ?_
              refine pC_Tape_isSecond C rfl fl_Tape_47 d_Tape_takesSign_67 ?_
              refine V_aload_n C 0 d_Tape_takesSign_70 rfl ?_
              refine V_iconst (v := 1) C d_Tape_takesSign_71 (by decide) ?_
              refine pC_Tape_wantsOperand C rfl fl_Tape_43 d_Tape_takesSign_72 ?_
              refine V_iconst (v := 1) C d_Tape_takesSign_75 (by decide) ?_
              exact V_zretW hR hf rfl d_Tape_takesSign_76
            · refine V_iconst (v := 0) C d_Tape_takesSign_58 (by decide) ?_
              exact V_zretW hR hf rfl d_Tape_takesSign_59
        · refine V_aload_n C 0 d_Tape_takesSign_39 rfl ?_
          obtain ⟨σ40_3, hg, hf⟩ := bd hf
          refine V_callVv C [] (c_Tape_endLine C.2.2.2.2.2.2.2.1 hg) (by decide) cw_Tape_54 35 rfl rfl rfl rfl (Nat.le_of_ble_eq_true rfl) rfl d_Tape_takesSign_40 ?_
          refine V_iconst (v := 1) C d_Tape_takesSign_43 (by decide) ?_
          exact V_zretW hR hf rfl d_Tape_takesSign_44
      · refine V_iconst (v := 0) C d_Tape_takesSign_31 (by decide) ?_
        exact V_zretW hR hf rfl d_Tape_takesSign_32
    · refine V_aload_n C 0 d_Tape_takesSign_19 rfl ?_
      obtain ⟨r20_4, σ20_4, hg, hf⟩ := bd2_of hf
      refine V_callVi C [] (c_Tape_takesClose C.2.2.2.2.2.2.2.1 hg) (by decide) cw_Tape_97 35 rfl rfl rfl rfl (Nat.le_of_ble_eq_true rfl) rfl d_Tape_takesSign_20 ?_
      obtain ⟨hz, hf⟩ := gu hf
      exact V_zretW hR hf hz d_Tape_takesSign_23
  · refine V_aload_n C 0 d_Tape_takesSign_7 rfl ?_
    refine V_iload_n C 1 d_Tape_takesSign_8 rfl ?_
    obtain ⟨r9_5, σ9_5, hg, hf⟩ := bd2_of hf
    refine V_callVi C [.int a1] (c_Tape_takesJoint C.2.2.2.2.2.2.2.1 hg) (by decide) cw_Tape_94 35 rfl rfl rfl rfl (Nat.le_of_ble_eq_true rfl) rfl d_Tape_takesSign_9 ?_
    obtain ⟨hz, hf⟩ := gu hf
    exact V_zretW hR hf hz d_Tape_takesSign_12
theorem c_Tape_takesSign {l : Launch} {g : Gx} (hok : Wok classes (wC g)) {σ : St} {a1 : Int32} {r : Int32} {σ' : St} (hf : f_Tape_takesSign σ a1 = some (r, σ')) : CtI classes l y_Tape_takesSign b_Tape_takesSign 2 (some .boolean) 4 (wC g) [.ref (g.2.1 35), .int a1] σ r σ' :=
  MetZ (by decide +kernel) hok (Nat.le_of_ble_eq_true rfl) (fun E _ C hR => w_Tape_takesSign C hR hf)
set_option maxRecDepth 4000 in
theorem w_Tape_takes {E : Ev} {g : Gx} {r : Int32} {σ' : St} (C : Cx E classes 2 (wC g) b_Tape_takes "WithTheReds$Tape" 6) (hR : RetZ E classes 2 (wC g) b_Tape_takes r σ') {σ : St} {a1 : Int32} (hf : f_Tape_takes σ a1 = some (r, σ')) : V E classes 2 (wC g) σ 0 [(0, .ref (g.2.1 35)), (1, .int a1)] [] := by
  unfold f_Tape_takes at hf
  refine V_iload_n C 1 d_Tape_takes_0 rfl ?_
  refine V_bipush (v := 48) C d_Tape_takes_1 (by decide) ?_
  refine V_bipush (v := 57) C d_Tape_takes_3 (by decide) ?_
  obtain ⟨r5_1, hg, hf⟩ := bd hf
  refine V_callNi C [.int a1, .int (48 : Int32), .int (57 : Int32)] (c_Top_within C.2.2.2.2.2.2.2.1 hg) (by decide) cw_Tape_57 nw_Tape_57 rfl (Nat.le_of_ble_eq_true rfl) rfl d_Tape_takes_5 ?_
  refine V_if_eq (pc := 8) (tgt := 20) C d_Tape_takes_8 (by decide) hf (fun hf => ?_) (fun hf => ?_)
  · refine V_aload_n C 0 d_Tape_takes_20 rfl ?_
    refine V_iconst (v := 0) C d_Tape_takes_21 (by decide) ?_
    refine pC_Tape_digits C fl_Tape_40 d_Tape_takes_22 ?_
    refine V_aload_n C 0 d_Tape_takes_25 rfl ?_
    refine gC_Tape_wantsOperand (v := σ.1 3509) C fl_Tape_43 rfl d_Tape_takes_26 ?_
    refine V_if_eq (pc := 29) (tgt := 40) C d_Tape_takes_29 (by decide) hf (fun hf => ?_) (fun hf => ?_)
    · refine V_aload_n C 0 d_Tape_takes_40 rfl ?_
      refine V_iload_n C 1 d_Tape_takes_41 rfl ?_
      obtain ⟨r42_2, σ42_2, hg, hf⟩ := bd2_of hf
      refine V_callVi C [.int a1] (c_Tape_takesSign C.2.2.2.2.2.2.2.1 hg) (by decide) cw_Tape_67 35 rfl rfl rfl rfl (Nat.le_of_ble_eq_true rfl) rfl d_Tape_takes_42 ?_
      obtain ⟨hz, hf⟩ := gu hf
      exact V_zretW hR hf hz d_Tape_takes_45
    · refine V_aload_n C 0 d_Tape_takes_32 rfl ?_
      refine V_iload_n C 1 d_Tape_takes_33 rfl ?_
      obtain ⟨r34_3, σ34_3, hg, hf⟩ := bd2_of hf
      refine V_callVi C [.int a1] (c_Tape_takesOperand C.2.2.2.2.2.2.2.1 hg) (by decide) cw_Tape_64 35 rfl rfl rfl rfl (Nat.le_of_ble_eq_true rfl) rfl d_Tape_takes_34 ?_
      refine V_goto (pc := 37) (tgt := 45) C d_Tape_takes_37 (by decide) ?_
      obtain ⟨hz, hf⟩ := gu hf
      exact V_zretW hR hf hz d_Tape_takes_45
  · refine V_aload_n C 0 d_Tape_takes_11 rfl ?_
    refine V_iload_n C 1 d_Tape_takes_12 rfl ?_
    refine V_bipush (v := 48) C d_Tape_takes_13 (by decide) ?_
    refine V_isub C d_Tape_takes_15 ?_
    obtain ⟨r16_4, σ16_4, hg, hf⟩ := bd2_of hf
    refine V_callVi C [.int (a1 - (48 : Int32))] (c_Tape_takesDigit C.2.2.2.2.2.2.2.1 hg) (by decide) cw_Tape_61 35 rfl rfl rfl rfl (Nat.le_of_ble_eq_true rfl) rfl d_Tape_takes_16 ?_
    obtain ⟨hz, hf⟩ := gu hf
    exact V_zretW hR hf hz d_Tape_takes_19
theorem c_Tape_takes {l : Launch} {g : Gx} (hok : Wok classes (wC g)) {σ : St} {a1 : Int32} {r : Int32} {σ' : St} (hf : f_Tape_takes σ a1 = some (r, σ')) : CtI classes l y_Tape_takes b_Tape_takes 2 (some .boolean) 6 (wC g) [.ref (g.2.1 35), .int a1] σ r σ' :=
  MetZ (by decide +kernel) hok (Nat.le_of_ble_eq_true rfl) (fun E _ C hR => w_Tape_takes C hR hf)
set_option maxRecDepth 4000 in
theorem w_Tape_read_32 {E : Ev} {g : Gx} {r : Int32} {σ' : St} (C : Cx E classes 2 (wC g) b_Tape_read "WithTheReds$Tape" 7) (hR : RetI E classes 2 (wC g) b_Tape_read r σ') : ∀ (n : Nat) (σ : St) (x1 : Int32), f_Tape_read_32 n σ x1 = some (r, σ') → V E classes 2 (wC g) σ 32 [(0, .ref (g.2.1 35)), (1, .int x1)] [] := by
  intro n
  induction n with
  | zero => intro σ x1 hf; exact absurd hf (by unfold f_Tape_read_32; exact nofun)
  | succ n ih =>
    intro σ x1 hf
    unfold f_Tape_read_32 at hf
    refine V_iload_n C 1 d_Tape_read_32 rfl ?_
    refine V_aload_n C 0 d_Tape_read_33 rfl ?_
    refine gC_Tape_length (v := σ.1 3503) C fl_Tape_23 rfl d_Tape_read_34 ?_
    refine V_icmp_ge (pc := 37) (tgt := 61) C d_Tape_read_37 (by decide) hf (fun hf => ?_) (fun hf => ?_)
    · refine V_aload_n C 0 d_Tape_read_61 rfl ?_
      refine gC_Tape_wantsOperand (v := σ.1 3509) C fl_Tape_43 rfl d_Tape_read_62 ?_
      refine V_if_ne (pc := 65) (tgt := 75) C d_Tape_read_65 (by decide) hf (fun hf => ?_) (fun hf => ?_)
      · refine V_aload_n C 0 d_Tape_read_75 rfl ?_
        refine gC_Tape_length (v := σ.1 3503) C fl_Tape_23 rfl d_Tape_read_76 ?_
        exact V_iretW hR hf d_Tape_read_79
      · refine V_aload_n C 0 d_Tape_read_68 rfl ?_
        refine gC_Tape_open (v := σ.1 3506) C fl_Tape_37 rfl d_Tape_read_69 ?_
        refine V_if_le (pc := 72) (tgt := 80) C d_Tape_read_72 (by decide) hf (fun hf => ?_) (fun hf => ?_)
        · refine V_aload_n C 0 d_Tape_read_80 rfl ?_
          obtain ⟨σ81_1, hg, hf⟩ := bd hf
          refine V_callVv C [] (c_Tape_endLine C.2.2.2.2.2.2.2.1 hg) (by decide) cw_Tape_54 35 rfl rfl rfl rfl (Nat.le_of_ble_eq_true rfl) rfl d_Tape_read_81 ?_
          refine V_iconst (v := -1) C d_Tape_read_84 (by decide) ?_
          exact V_iretW hR hf d_Tape_read_85
        · refine V_aload_n C 0 d_Tape_read_75 rfl ?_
          refine gC_Tape_length (v := σ.1 3503) C fl_Tape_23 rfl d_Tape_read_76 ?_
          exact V_iretW hR hf d_Tape_read_79
    · refine V_aload_n C 0 d_Tape_read_40 rfl ?_
      refine V_aload_n C 0 d_Tape_read_41 rfl ?_
      refine gC_Tape_bytes C fl_Tape_11 d_Tape_read_42 ?_
      refine V_iload_n C 1 d_Tape_read_45 rfl ?_
      obtain ⟨hi46_2, hf⟩ := gu hf
      refine aC_36 (v := σ.2.1 36 x1.toNatClampNeg) C hi46_2 rfl d_Tape_read_46 ?_
      obtain ⟨r47_3, σ47_3, hg, hf⟩ := bd2_of hf
      refine V_callVi C [.int (σ.2.1 36 x1.toNatClampNeg)] (c_Tape_takes C.2.2.2.2.2.2.2.1 hg) (by decide) cw_Tape_50 35 rfl rfl rfl rfl (Nat.le_of_ble_eq_true rfl) rfl d_Tape_read_47 ?_
      refine V_if_ne (pc := 50) (tgt := 55) C d_Tape_read_50 (by decide) hf (fun hf => ?_) (fun hf => ?_)
      · refine V_iinc (v := x1 + (1 : Int32)) C 1 d_Tape_read_55 rfl rfl (by decide) rfl ?_
        refine V_goto (pc := 58) (tgt := 32) C d_Tape_read_58 (by decide) ?_
        refine V.sub [1, 0] rfl ?_
        exact ih σ47_3 (x1 + (1 : Int32)) hf
      · refine V_iload_n C 1 d_Tape_read_53 rfl ?_
        exact V_iretW hR hf d_Tape_read_54
set_option maxRecDepth 4000 in
theorem w_Tape_read {E : Ev} {g : Gx} {r : Int32} {σ' : St} (C : Cx E classes 2 (wC g) b_Tape_read "WithTheReds$Tape" 7) (hR : RetI E classes 2 (wC g) b_Tape_read r σ') {σ : St} (hf : f_Tape_read σ = some (r, σ')) : V E classes 2 (wC g) σ 0 [(0, .ref (g.2.1 35))] [] := by
  unfold f_Tape_read at hf
  refine V_aload_n C 0 d_Tape_read_0 rfl ?_
  refine V_iconst (v := 0) C d_Tape_read_1 (by decide) ?_
  refine pC_Tape_written C fl_Tape_31 d_Tape_read_2 ?_
  refine V_aload_n C 0 d_Tape_read_5 rfl ?_
  refine V_iconst (v := 0) C d_Tape_read_6 (by decide) ?_
  refine pC_Tape_waits C fl_Tape_34 d_Tape_read_7 ?_
  refine V_aload_n C 0 d_Tape_read_10 rfl ?_
  refine V_iconst (v := 0) C d_Tape_read_11 (by decide) ?_
  refine pC_Tape_open C fl_Tape_37 d_Tape_read_12 ?_
  refine V_aload_n C 0 d_Tape_read_15 rfl ?_
  refine V_iconst (v := 0) C d_Tape_read_16 (by decide) ?_
  refine pC_Tape_digits C fl_Tape_40 d_Tape_read_17 ?_
  refine V_aload_n C 0 d_Tape_read_20 rfl ?_
  refine V_iconst (v := 1) C d_Tape_read_21 (by decide) ?_
  refine pC_Tape_wantsOperand C rfl fl_Tape_43 d_Tape_read_22 ?_
  refine V_aload_n C 0 d_Tape_read_25 rfl ?_
  refine V_iconst (v := 0) C d_Tape_read_26 (by decide) ?_
  refine pC_Tape_isSecond C rfl fl_Tape_47 d_Tape_read_27 ?_
  refine V_iconst (v := 0) C d_Tape_read_30 (by decide) ?_
  refine V_istore_n C d_Tape_read_31 (by decide) rfl ?_
  refine V.sub [1, 0] rfl ?_
  exact w_Tape_read_32 C hR FU (upI (upI (upI (upI (upI (upI σ 3504 (0 : Int32)) 3505 (0 : Int32)) 3506 (0 : Int32)) 3507 (0 : Int32)) 3509 (1 : Int32)) 3510 (0 : Int32)) (0 : Int32) hf
theorem c_Tape_read {l : Launch} {g : Gx} (hok : Wok classes (wC g)) {σ : St} {r : Int32} {σ' : St} (hf : f_Tape_read σ = some (r, σ')) : CtI classes l y_Tape_read b_Tape_read 2 (some .int) 7 (wC g) [.ref (g.2.1 35)] σ r σ' :=
  MetI (by decide +kernel) hok (Nat.le_of_ble_eq_true rfl) (fun E _ C hR => w_Tape_read C hR hf)
set_option maxRecDepth 4000 in
theorem w_Top_law_24 {E : Ev} {g : Gx} {r : Int32} {σ' : St} (C : Cx E classes 2 (wC g) b_Top_law "WithTheReds" 8) (hR : RetI E classes 2 (wC g) b_Top_law r σ') : ∀ (σ : St) (x1 : Int32), f_Top_law_24 σ x1 = some (r, σ') → V E classes 2 (wC g) σ 24 [(0, .ref (g.2.1 0)), (1, .int x1)] [] := by
  intro σ x1 hf
  unfold f_Top_law_24 at hf
  refine V_aload_n C 0 d_Top_law_24 rfl ?_
  refine gC_Top_tape C fl_Top_19 d_Top_law_25 ?_
  obtain ⟨σ28_1, hg, hf⟩ := bd hf
  refine V_callVv C [] (c_Tape_clear C.2.2.2.2.2.2.2.1 hg) (by decide) cw_Top_151 35 rfl rfl rfl rfl (Nat.le_of_ble_eq_true rfl) rfl d_Top_law_28 ?_
  refine V_iload_n C 1 d_Top_law_31 rfl ?_
  refine V_iconst (v := -1) C d_Top_law_32 (by decide) ?_
  refine V_icmp_ne (pc := 33) (tgt := 40) C d_Top_law_33 (by decide) hf (fun hf => ?_) (fun hf => ?_)
  · refine V_bipush (v := -100) C d_Top_law_40 (by decide) ?_
    refine V_iload_n C 1 d_Top_law_42 rfl ?_
    refine V_isub C d_Top_law_43 ?_
    exact V_iretW hR hf d_Top_law_44
  · refine V_iconst (v := 1) C d_Top_law_36 (by decide) ?_
    refine V_goto (pc := 37) (tgt := 44) C d_Top_law_37 (by decide) ?_
    exact V_iretW hR hf d_Top_law_44
set_option maxRecDepth 4000 in
theorem w_Top_law {E : Ev} {g : Gx} {r : Int32} {σ' : St} (C : Cx E classes 2 (wC g) b_Top_law "WithTheReds" 8) (hR : RetI E classes 2 (wC g) b_Top_law r σ') {σ : St} (hf : f_Top_law σ = some (r, σ')) : V E classes 2 (wC g) σ 0 [(0, .ref (g.2.1 0))] [] := by
  unfold f_Top_law at hf
  refine V_aload_n C 0 d_Top_law_0 rfl ?_
  refine gC_Top_tape C fl_Top_19 d_Top_law_1 ?_
  obtain ⟨r4_1, σ4_1, hg, hf⟩ := bd2_of hf
  refine V_callVi C [] (c_Tape_read C.2.2.2.2.2.2.2.1 hg) (by decide) cw_Top_143 35 rfl rfl rfl rfl (Nat.le_of_ble_eq_true rfl) rfl d_Top_law_4 ?_
  refine V_istore_n C d_Top_law_7 (by decide) rfl ?_
  refine V_iload_n C 0 d_Top_law_8 rfl ?_
  refine V_iconst (v := -1) C d_Top_law_9 (by decide) ?_
  refine V_icmp_ne (pc := 10) (tgt := 24) C d_Top_law_10 (by decide) hf (fun hf => ?_) (fun hf => ?_)
  · refine V.sub [1, 0] rfl ?_
    exact w_Top_law_24 C hR σ4_1 r4_1 hf
  · refine V_aload_n C 1 d_Top_law_13 rfl ?_
    refine gC_Top_dyeLaw C fl_Top_26 d_Top_law_14 ?_
    refine V_aload_n C 1 d_Top_law_17 rfl ?_
    refine gC_Top_tape C fl_Top_19 d_Top_law_18 ?_
    obtain ⟨σ21_2, hg, hf⟩ := bd hf
    refine V_callVv C [.ref (g.2.1 35)] (c_Law_become C.2.2.2.2.2.2.2.1 hg) (by decide) cw_Top_147 21 rfl rfl rfl rfl (Nat.le_of_ble_eq_true rfl) rfl d_Top_law_21 ?_
    refine V.sub [1, 0] rfl ?_
    exact w_Top_law_24 C hR σ21_2 r4_1 hf
theorem c_Top_law {l : Launch} {g : Gx} (hok : Wok classes (wC g)) {σ : St} {r : Int32} {σ' : St} (hf : f_Top_law σ = some (r, σ')) : CtI classes l y_Top_law b_Top_law 2 (some .int) 8 (wC g) [.ref (g.2.1 0)] σ r σ' :=
  MetI (by decide +kernel) hok (Nat.le_of_ble_eq_true rfl) (fun E _ C hR => w_Top_law C hR hf)
set_option maxRecDepth 4000 in
theorem w_Top_led {E : Ev} {g : Gx} {r : Int32} {σ : St} (C : Cx E classes 2 (wC g) b_Top_led "WithTheReds" 2) (hR : RetI E classes 2 (wC g) b_Top_led r σ) {a1 : Int32} (hf : f_Top_led σ a1 = some r) : V E classes 2 (wC g) σ 0 [(0, .ref (g.2.1 0)), (1, .int a1)] [] := by
  unfold f_Top_led at hf
  refine V_iload_n C 1 d_Top_led_0 rfl ?_
  refine V_iconst (v := 4) C d_Top_led_1 (by decide) ?_
  refine V_icmp_ne (pc := 2) (tgt := 13) C d_Top_led_2 (by decide) hf (fun hf => ?_) (fun hf => ?_)
  · refine V_iload_n C 1 d_Top_led_13 rfl ?_
    refine V_iconst (v := 0) C d_Top_led_14 (by decide) ?_
    refine V_iconst (v := 3) C d_Top_led_15 (by decide) ?_
    obtain ⟨r16_1, hg, hf⟩ := bd hf
    refine V_callSi C [.int a1, .int (0 : Int32), .int (3 : Int32)] (c_Top_within C.2.2.2.2.2.2.2.1 hg) (by decide) cw_Top_108 rfl (Nat.le_of_ble_eq_true rfl) rfl d_Top_led_16 ?_
    refine V_if_eq (pc := 19) (tgt := 34) C d_Top_led_19 (by decide) hf (fun hf => ?_) (fun hf => ?_)
    · refine V_iconst (v := -1) C d_Top_led_34 (by decide) ?_
      exact V_iret hR hf d_Top_led_35
    · refine V_aload_n C 0 d_Top_led_22 rfl ?_
      refine gC_Top_deeds C fl_Top_67 d_Top_led_23 ?_
      refine gC_Deeds_led C fl_Top_310 d_Top_led_26 ?_
      refine V_iload_n C 1 d_Top_led_29 rfl ?_
      obtain ⟨hi30_2, hf⟩ := gu hf
      refine aC_10 (v := σ.2.1 10 a1.toNatClampNeg) C hi30_2 rfl d_Top_led_30 ?_
      refine V_goto (pc := 31) (tgt := 35) C d_Top_led_31 (by decide) ?_
      exact V_iret hR hf d_Top_led_35
  · refine V_aload_n C 0 d_Top_led_5 rfl ?_
    refine gC_Top_basket C fl_Top_10 d_Top_led_6 ?_
    obtain ⟨r9_3, hg, hf⟩ := bd hf
    refine V_callVi C [] (c_Basket_goneOnes C.2.2.2.2.2.2.2.1 hg) (by decide) cw_Top_307 1 rfl rfl rfl rfl (Nat.le_of_ble_eq_true rfl) rfl d_Top_led_9 ?_
    exact V_iret hR hf d_Top_led_12
theorem c_Top_led {l : Launch} {g : Gx} (hok : Wok classes (wC g)) {σ : St} {a1 : Int32} {r : Int32} (hf : f_Top_led σ a1 = some r) : CtI classes l y_Top_led b_Top_led 2 (some .int) 2 (wC g) [.ref (g.2.1 0), .int a1] σ r σ :=
  MetI (by decide +kernel) hok (Nat.le_of_ble_eq_true rfl) (fun E _ C hR => w_Top_led C hR hf)
set_option maxRecDepth 4000 in
theorem w_Rope_allDry_4 {E : Ev} {g : Gx} {r : Int32} {σ : St} (C : Cx E classes 3 (wC g) b_Rope_allDry "WithTheReds$Rope" 1) (hR : RetI E classes 3 (wC g) b_Rope_allDry r σ) : ∀ (n : Nat) (x1 : Int32) (x2 : Int32), f_Rope_allDry_4 n σ x1 x2 = some r → V E classes 3 (wC g) σ 4 [(0, .ref (g.2.1 27)), (1, .int x1), (2, .int x2)] [] := by
  intro n
  induction n with
  | zero => intro x1 x2 hf; exact absurd hf (by unfold f_Rope_allDry_4; exact nofun)
  | succ n ih =>
    intro x1 x2 hf
    unfold f_Rope_allDry_4 at hf
    refine V_iload_n C 2 d_Rope_allDry_4 rfl ?_
    refine V_aload_n C 0 d_Rope_allDry_5 rfl ?_
    refine gC_Rope_hung (v := σ.1 2705) C fl_Rope_30 rfl d_Rope_allDry_6 ?_
    refine V_icmp_ge (pc := 9) (tgt := 29) C d_Rope_allDry_9 (by decide) hf (fun hf => ?_) (fun hf => ?_)
    · refine V_iload_n C 1 d_Rope_allDry_29 rfl ?_
      exact V_iret hR hf d_Rope_allDry_30
    · refine V_iload_n C 1 d_Rope_allDry_12 rfl ?_
      refine V_aload_n C 0 d_Rope_allDry_13 rfl ?_
      refine gC_Rope_dryAt C fl_Rope_20 d_Rope_allDry_14 ?_
      refine V_iload_n C 2 d_Rope_allDry_17 rfl ?_
      obtain ⟨hi18_1, hf⟩ := gu hf
      refine aC_30 (v := σ.2.1 30 x2.toNatClampNeg) C hi18_1 rfl d_Rope_allDry_18 ?_
      refine V_max C ml_Rope_46 (by decide) (Nat.le_of_ble_eq_true rfl) d_Rope_allDry_19 ?_
      refine V_istore_n C d_Rope_allDry_22 (by decide) rfl ?_
      refine V_iinc (v := x2 + (1 : Int32)) C 2 d_Rope_allDry_23 rfl rfl (by decide) rfl ?_
      refine V_goto (pc := 26) (tgt := 4) C d_Rope_allDry_26 (by decide) ?_
      refine V.sub [2, 1, 0] rfl ?_
      exact ih (imax x1 (σ.2.1 30 x2.toNatClampNeg)) (x2 + (1 : Int32)) hf
set_option maxRecDepth 4000 in
theorem w_Rope_allDry {E : Ev} {g : Gx} {r : Int32} {σ : St} (C : Cx E classes 3 (wC g) b_Rope_allDry "WithTheReds$Rope" 1) (hR : RetI E classes 3 (wC g) b_Rope_allDry r σ) (hf : f_Rope_allDry σ = some r) : V E classes 3 (wC g) σ 0 [(0, .ref (g.2.1 27))] [] := by
  unfold f_Rope_allDry at hf
  refine V_iconst (v := 0) C d_Rope_allDry_0 (by decide) ?_
  refine V_istore_n C d_Rope_allDry_1 (by decide) rfl ?_
  refine V_iconst (v := 0) C d_Rope_allDry_2 (by decide) ?_
  refine V_istore_n C d_Rope_allDry_3 (by decide) rfl ?_
  refine V.sub [2, 1, 0] rfl ?_
  exact w_Rope_allDry_4 C hR FU (0 : Int32) (0 : Int32) hf
theorem c_Rope_allDry {l : Launch} {g : Gx} (hok : Wok classes (wC g)) {σ : St} {r : Int32} (hf : f_Rope_allDry σ = some r) : CtI classes l y_Rope_allDry b_Rope_allDry 3 (some .int) 1 (wC g) [.ref (g.2.1 27)] σ r σ :=
  MetI (by decide +kernel) hok (Nat.le_of_ble_eq_true rfl) (fun E _ C hR => w_Rope_allDry C hR hf)
set_option maxRecDepth 4000 in
theorem w_Rope_loadAt_5 {E : Ev} {g : Gx} {r : Int32} {σ : St} (C : Cx E classes 5 (wC g) b_Rope_loadAt "WithTheReds$Rope" 2) (hR : RetI E classes 5 (wC g) b_Rope_loadAt r σ) : ∀ (n : Nat) (x1 : Int32) (x2 : Int32) (x3 : Int32) (x4 : Int32), f_Rope_loadAt_5 n σ x1 x2 x3 x4 = some r → V E classes 5 (wC g) σ 5 [(0, .ref (g.2.1 27)), (1, .int x1), (2, .int x2), (3, .int x3), (4, .int x4)] [] := by
  intro n
  induction n with
  | zero => intro x1 x2 x3 x4 hf; exact absurd hf (by unfold f_Rope_loadAt_5; exact nofun)
  | succ n ih =>
    intro x1 x2 x3 x4 hf
    unfold f_Rope_loadAt_5 at hf
    refine V_iload C 4 d_Rope_loadAt_5 rfl ?_
    refine V_iload_n C 2 d_Rope_loadAt_7 rfl ?_
    refine V_icmp_ge (pc := 8) (tgt := 50) C d_Rope_loadAt_8 (by decide) hf (fun hf => ?_) (fun hf => ?_)
    · refine V_iload_n C 3 d_Rope_loadAt_50 rfl ?_
      exact V_iret hR hf d_Rope_loadAt_51
    · refine V_iload_n C 3 d_Rope_loadAt_11 rfl ?_
      refine V_aload_n C 0 d_Rope_loadAt_12 rfl ?_
      refine gC_Rope_dryAt C fl_Rope_20 d_Rope_loadAt_13 ?_
      refine V_iload C 4 d_Rope_loadAt_16 rfl ?_
      obtain ⟨hi18_1, hf⟩ := gu hf
      refine aC_30 (v := σ.2.1 30 x4.toNatClampNeg) C hi18_1 rfl d_Rope_loadAt_18 ?_
      refine V_iload_n C 1 d_Rope_loadAt_19 rfl ?_
      refine V_icmp_le (pc := 20) (tgt := 41) C d_Rope_loadAt_20 (by decide) hf (fun hf => ?_) (fun hf => ?_)
      · refine V_iconst (v := 0) C d_Rope_loadAt_41 (by decide) ?_
        refine V_iadd C d_Rope_loadAt_42 ?_
        refine V_istore_n C d_Rope_loadAt_43 (by decide) rfl ?_
        refine V_iinc (v := x4 + (1 : Int32)) C 4 d_Rope_loadAt_44 rfl rfl (by decide) rfl ?_
        refine V_goto (pc := 47) (tgt := 5) C d_Rope_loadAt_47 (by decide) ?_
        refine V.sub [2, 3, 4, 1, 0] rfl ?_
        exact ih x1 x2 (x3 + (0 : Int32)) (x4 + (1 : Int32)) hf
      · refine V_aload_n C 0 d_Rope_loadAt_23 rfl ?_
        refine gC_Rope_basket C fl_Rope_26 d_Rope_loadAt_24 ?_
        refine V_aload_n C 0 d_Rope_loadAt_27 rfl ?_
        refine gC_Rope_chain C fl_Rope_11 d_Rope_loadAt_28 ?_
        refine V_iload C 4 d_Rope_loadAt_31 rfl ?_
        obtain ⟨hi33_2, hf⟩ := gu hf
        refine aC_28 (v := σ.2.1 28 x4.toNatClampNeg) C hi33_2 rfl d_Rope_loadAt_33 ?_
        refine V_iconst (v := 4) C d_Rope_loadAt_34 (by decide) ?_
        obtain ⟨r35_3, hg, hf⟩ := bd hf
        refine V_callVi C [.int (σ.2.1 28 x4.toNatClampNeg), .int (4 : Int32)] (c_Basket_told C.2.2.2.2.2.2.2.1 hg) (by decide) cw_Rope_66 1 rfl rfl rfl rfl (Nat.le_of_ble_eq_true rfl) rfl d_Rope_loadAt_35 ?_
        refine V_goto (pc := 38) (tgt := 42) C d_Rope_loadAt_38 (by decide) ?_
        refine V_iadd C d_Rope_loadAt_42 ?_
        refine V_istore_n C d_Rope_loadAt_43 (by decide) rfl ?_
        refine V_iinc (v := x4 + (1 : Int32)) C 4 d_Rope_loadAt_44 rfl rfl (by decide) rfl ?_
        refine V_goto (pc := 47) (tgt := 5) C d_Rope_loadAt_47 (by decide) ?_
        refine V.sub [2, 3, 4, 1, 0] rfl ?_
        exact ih x1 x2 (x3 + r35_3) (x4 + (1 : Int32)) hf
set_option maxRecDepth 4000 in
theorem w_Rope_loadAt {E : Ev} {g : Gx} {r : Int32} {σ : St} (C : Cx E classes 5 (wC g) b_Rope_loadAt "WithTheReds$Rope" 2) (hR : RetI E classes 5 (wC g) b_Rope_loadAt r σ) {a1 : Int32} {a2 : Int32} (hf : f_Rope_loadAt σ a1 a2 = some r) : V E classes 5 (wC g) σ 0 [(0, .ref (g.2.1 27)), (1, .int a1), (2, .int a2)] [] := by
  unfold f_Rope_loadAt at hf
  refine V_iconst (v := 0) C d_Rope_loadAt_0 (by decide) ?_
  refine V_istore_n C d_Rope_loadAt_1 (by decide) rfl ?_
  refine V_iconst (v := 0) C d_Rope_loadAt_2 (by decide) ?_
  refine V_istore C d_Rope_loadAt_3 (by decide) rfl ?_
  refine V.sub [2, 3, 4, 1, 0] rfl ?_
  exact w_Rope_loadAt_5 C hR FU a1 a2 (0 : Int32) (0 : Int32) hf
theorem c_Rope_loadAt {l : Launch} {g : Gx} (hok : Wok classes (wC g)) {σ : St} {a1 : Int32} {a2 : Int32} {r : Int32} (hf : f_Rope_loadAt σ a1 a2 = some r) : CtI classes l y_Rope_loadAt b_Rope_loadAt 5 (some .int) 2 (wC g) [.ref (g.2.1 27), .int a1, .int a2] σ r σ :=
  MetI (by decide +kernel) hok (Nat.le_of_ble_eq_true rfl) (fun E _ C hR => w_Rope_loadAt C hR hf)
set_option maxRecDepth 4000 in
theorem w_Rope_nextDry_6 {E : Ev} {g : Gx} {r : Int32} {σ : St} (C : Cx E classes 5 (wC g) b_Rope_nextDry "WithTheReds$Rope" 1) (hR : RetI E classes 5 (wC g) b_Rope_nextDry r σ) : ∀ (n : Nat) (x1 : Int32) (x2 : Int32) (x3 : Int32) (x4 : Int32), f_Rope_nextDry_6 n σ x1 x2 x3 x4 = some r → V E classes 5 (wC g) σ 6 [(0, .ref (g.2.1 27)), (1, .int x1), (2, .int x2), (3, .int x3), (4, .int x4)] [] := by
  intro n
  induction n with
  | zero => intro x1 x2 x3 x4 hf; exact absurd hf (by unfold f_Rope_nextDry_6; exact nofun)
  | succ n ih =>
    intro x1 x2 x3 x4 hf
    unfold f_Rope_nextDry_6 at hf
    refine V_iload C 4 d_Rope_nextDry_6 rfl ?_
    refine V_iload_n C 2 d_Rope_nextDry_8 rfl ?_
    refine V_icmp_ge (pc := 9) (tgt := 41) C d_Rope_nextDry_9 (by decide) hf (fun hf => ?_) (fun hf => ?_)
    · refine V_iload_n C 3 d_Rope_nextDry_41 rfl ?_
      refine V_ldc C kc_Rope_52 d_Rope_nextDry_42 ?_
      refine V_icmp_ne (pc := 44) (tgt := 51) C d_Rope_nextDry_44 (by decide) hf (fun hf => ?_) (fun hf => ?_)
      · refine V_iload_n C 3 d_Rope_nextDry_51 rfl ?_
        exact V_iret hR hf d_Rope_nextDry_52
      · refine V_iload_n C 1 d_Rope_nextDry_47 rfl ?_
        refine V_goto (pc := 48) (tgt := 52) C d_Rope_nextDry_48 (by decide) ?_
        exact V_iret hR hf d_Rope_nextDry_52
    · refine V_aload_n C 0 d_Rope_nextDry_12 rfl ?_
      refine gC_Rope_dryAt C fl_Rope_20 d_Rope_nextDry_13 ?_
      refine V_iload C 4 d_Rope_nextDry_16 rfl ?_
      obtain ⟨hi18_1, hf⟩ := gu hf
      refine aC_30 (v := σ.2.1 30 x4.toNatClampNeg) C hi18_1 rfl d_Rope_nextDry_18 ?_
      refine V_iload_n C 1 d_Rope_nextDry_19 rfl ?_
      refine V_icmp_le (pc := 20) (tgt := 35) C d_Rope_nextDry_20 (by decide) hf (fun hf => ?_) (fun hf => ?_)
      · refine V_iinc (v := x4 + (1 : Int32)) C 4 d_Rope_nextDry_35 rfl rfl (by decide) rfl ?_
        refine V_goto (pc := 38) (tgt := 6) C d_Rope_nextDry_38 (by decide) ?_
        refine V.sub [1, 2, 3, 4, 0] rfl ?_
        exact ih x1 x2 x3 (x4 + (1 : Int32)) hf
      · refine V_iload_n C 3 d_Rope_nextDry_23 rfl ?_
        refine V_aload_n C 0 d_Rope_nextDry_24 rfl ?_
        refine gC_Rope_dryAt C fl_Rope_20 d_Rope_nextDry_25 ?_
        refine V_iload C 4 d_Rope_nextDry_28 rfl ?_
        obtain ⟨hi30_2, hf⟩ := gu hf
        refine aC_30 (v := σ.2.1 30 x4.toNatClampNeg) C hi30_2 rfl d_Rope_nextDry_30 ?_
        refine V_min C ml_Rope_82 (by decide) (Nat.le_of_ble_eq_true rfl) d_Rope_nextDry_31 ?_
        refine V_istore_n C d_Rope_nextDry_34 (by decide) rfl ?_
        refine V_iinc (v := x4 + (1 : Int32)) C 4 d_Rope_nextDry_35 rfl rfl (by decide) rfl ?_
        refine V_goto (pc := 38) (tgt := 6) C d_Rope_nextDry_38 (by decide) ?_
        refine V.sub [2, 3, 4, 1, 0] rfl ?_
        exact ih x1 x2 (imin x3 (σ.2.1 30 x4.toNatClampNeg)) (x4 + (1 : Int32)) hf
set_option maxRecDepth 4000 in
theorem w_Rope_nextDry {E : Ev} {g : Gx} {r : Int32} {σ : St} (C : Cx E classes 5 (wC g) b_Rope_nextDry "WithTheReds$Rope" 1) (hR : RetI E classes 5 (wC g) b_Rope_nextDry r σ) {a1 : Int32} {a2 : Int32} (hf : f_Rope_nextDry σ a1 a2 = some r) : V E classes 5 (wC g) σ 0 [(0, .ref (g.2.1 27)), (1, .int a1), (2, .int a2)] [] := by
  unfold f_Rope_nextDry at hf
  refine V_ldc C kc_Rope_52 d_Rope_nextDry_0 ?_
  refine V_istore_n C d_Rope_nextDry_2 (by decide) rfl ?_
  refine V_iconst (v := 0) C d_Rope_nextDry_3 (by decide) ?_
  refine V_istore C d_Rope_nextDry_4 (by decide) rfl ?_
  refine V.sub [2, 3, 4, 1, 0] rfl ?_
  exact w_Rope_nextDry_6 C hR FU a1 a2 (2147483647 : Int32) (0 : Int32) hf
theorem c_Rope_nextDry {l : Launch} {g : Gx} (hok : Wok classes (wC g)) {σ : St} {a1 : Int32} {a2 : Int32} {r : Int32} (hf : f_Rope_nextDry σ a1 a2 = some r) : CtI classes l y_Rope_nextDry b_Rope_nextDry 5 (some .int) 1 (wC g) [.ref (g.2.1 27), .int a1, .int a2] σ r σ :=
  MetI (by decide +kernel) hok (Nat.le_of_ble_eq_true rfl) (fun E _ C hR => w_Rope_nextDry C hR hf)
set_option maxRecDepth 4000 in
theorem w_Rope_minuteFor_33 {E : Ev} {g : Gx} {r : Int32} {σ : St} (C : Cx E classes 6 (wC g) b_Rope_minuteFor "WithTheReds$Rope" 3) (hR : RetI E classes 6 (wC g) b_Rope_minuteFor r σ) : ∀ (n : Nat) (x2 : Int32) (x3 : Int32) (x4 : Int32) (x5 : Int32), f_Rope_minuteFor_33 n σ x2 x3 x4 x5 = some r → V E classes 6 (wC g) σ 33 [(0, .ref (g.2.1 27)), (2, .int x2), (3, .int x3), (4, .int x4), (5, .int x5)] [] := by
  intro n
  induction n with
  | zero => intro x2 x3 x4 x5 hf; exact absurd hf (by unfold f_Rope_minuteFor_33; exact nofun)
  | succ n ih =>
    intro x2 x3 x4 x5 hf
    unfold f_Rope_minuteFor_33 at hf
    refine V_iload C 4 d_Rope_minuteFor_33 rfl ?_
    refine V_iload_n C 1 d_Rope_minuteFor_35 rfl ?_
    refine V_icmp_ge (pc := 36) (tgt := 65) C d_Rope_minuteFor_36 (by decide) hf (fun hf => ?_) (fun hf => ?_)
    · refine V_iload C 3 d_Rope_minuteFor_65 rfl ?_
      exact V_iret hR hf d_Rope_minuteFor_67
    · refine V_aload_n C 0 d_Rope_minuteFor_39 rfl ?_
      refine V_iload C 3 d_Rope_minuteFor_40 rfl ?_
      refine V_iload_n C 1 d_Rope_minuteFor_42 rfl ?_
      obtain ⟨r43_1, hg, hf⟩ := bd hf
      refine V_callVi C [.int x4, .int x2] (c_Rope_loadAt C.2.2.2.2.2.2.2.1 hg) (by decide) cw_Rope_76 27 rfl rfl rfl rfl (Nat.le_of_ble_eq_true rfl) rfl d_Rope_minuteFor_43 ?_
      refine V_iload_n C 2 d_Rope_minuteFor_46 rfl ?_
      refine V_icmp_le (pc := 47) (tgt := 65) C d_Rope_minuteFor_47 (by decide) hf (fun hf => ?_) (fun hf => ?_)
      · refine V_iload C 3 d_Rope_minuteFor_65 rfl ?_
        exact V_iret hR hf d_Rope_minuteFor_67
      · refine V_aload_n C 0 d_Rope_minuteFor_50 rfl ?_
        refine V_iload C 3 d_Rope_minuteFor_51 rfl ?_
        refine V_iload_n C 1 d_Rope_minuteFor_53 rfl ?_
        obtain ⟨r54_2, hg, hf⟩ := bd hf
        refine V_callVi C [.int x4, .int x2] (c_Rope_nextDry C.2.2.2.2.2.2.2.1 hg) (by decide) cw_Rope_79 27 rfl rfl rfl rfl (Nat.le_of_ble_eq_true rfl) rfl d_Rope_minuteFor_54 ?_
        refine V_istore C d_Rope_minuteFor_57 (by decide) rfl ?_
        refine V_iinc (v := x5 + (1 : Int32)) C 4 d_Rope_minuteFor_59 rfl rfl (by decide) rfl ?_
        refine V_goto (pc := 62) (tgt := 33) C d_Rope_minuteFor_62 (by decide) ?_
        refine V.sub [2, 3, 4, 1, 0] rfl ?_
        exact ih x2 x3 r54_2 (x5 + (1 : Int32)) hf
set_option maxRecDepth 4000 in
theorem w_Rope_minuteFor {E : Ev} {g : Gx} {r : Int32} {σ : St} (C : Cx E classes 6 (wC g) b_Rope_minuteFor "WithTheReds$Rope" 3) (hR : RetI E classes 6 (wC g) b_Rope_minuteFor r σ) {a1 : Int32} {a2 : Int32} (hf : f_Rope_minuteFor σ a1 a2 = some r) : V E classes 6 (wC g) σ 0 [(0, .ref (g.2.1 27)), (1, .int a1), (2, .int a2)] [] := by
  unfold f_Rope_minuteFor at hf
  refine V_aload_n C 0 d_Rope_minuteFor_0 rfl ?_
  refine gC_Rope_basket C fl_Rope_26 d_Rope_minuteFor_1 ?_
  refine V_bipush (v := 11) C d_Rope_minuteFor_4 (by decide) ?_
  obtain ⟨r6_1, hg, hf⟩ := bd hf
  refine V_callVi C [.int (11 : Int32)] (c_Basket_toldOfHouse C.2.2.2.2.2.2.2.1 hg) (by decide) cw_Rope_69 1 rfl rfl rfl rfl (Nat.le_of_ble_eq_true rfl) rfl d_Rope_minuteFor_6 ?_
  refine V_iload_n C 1 d_Rope_minuteFor_9 rfl ?_
  refine V_isub C d_Rope_minuteFor_10 ?_
  refine V_istore_n C d_Rope_minuteFor_11 (by decide) rfl ?_
  refine V_iload_n C 3 d_Rope_minuteFor_12 rfl ?_
  refine V_if_le (pc := 13) (tgt := 27) C d_Rope_minuteFor_13 (by decide) hf (fun hf => ?_) (fun hf => ?_)
  · refine V_iconst (v := 0) C d_Rope_minuteFor_27 (by decide) ?_
    refine V_istore C d_Rope_minuteFor_28 (by decide) rfl ?_
    refine V_iconst (v := 0) C d_Rope_minuteFor_30 (by decide) ?_
    refine V_istore C d_Rope_minuteFor_31 (by decide) rfl ?_
    refine V.sub [3, 5, 2, 1, 0] rfl ?_
    exact w_Rope_minuteFor_33 C hR FU a2 (r6_1 - a1) (0 : Int32) (0 : Int32) hf
  · refine V_aload_n C 1 d_Rope_minuteFor_16 rfl ?_
    refine gC_Rope_hungAt C fl_Rope_17 d_Rope_minuteFor_17 ?_
    refine V_iload_n C 3 d_Rope_minuteFor_20 rfl ?_
    refine V_iconst (v := 1) C d_Rope_minuteFor_21 (by decide) ?_
    refine V_isub C d_Rope_minuteFor_22 ?_
    obtain ⟨hi23_2, hf⟩ := gu hf
    refine aC_29 (v := σ.2.1 29 (a2 - (1 : Int32)).toNatClampNeg) C hi23_2 rfl d_Rope_minuteFor_23 ?_
    refine V_goto (pc := 24) (tgt := 28) C d_Rope_minuteFor_24 (by decide) ?_
    refine V_istore C d_Rope_minuteFor_28 (by decide) rfl ?_
    refine V_iconst (v := 0) C d_Rope_minuteFor_30 (by decide) ?_
    refine V_istore C d_Rope_minuteFor_31 (by decide) rfl ?_
    refine V.sub [3, 5, 2, 1, 0] rfl ?_
    exact w_Rope_minuteFor_33 C hR FU a2 (r6_1 - a1) (σ.2.1 29 (a2 - (1 : Int32)).toNatClampNeg) (0 : Int32) hf
theorem c_Rope_minuteFor {l : Launch} {g : Gx} (hok : Wok classes (wC g)) {σ : St} {a1 : Int32} {a2 : Int32} {r : Int32} (hf : f_Rope_minuteFor σ a1 a2 = some r) : CtI classes l y_Rope_minuteFor b_Rope_minuteFor 6 (some .int) 3 (wC g) [.ref (g.2.1 27), .int a1, .int a2] σ r σ :=
  MetI (by decide +kernel) hok (Nat.le_of_ble_eq_true rfl) (fun E _ C hR => w_Rope_minuteFor C hR hf)
set_option maxRecDepth 4000 in
theorem w_Rope_hangs {E : Ev} {g : Gx} {r : Int32} {σ' : St} (C : Cx E classes 4 (wC g) b_Rope_hangs "WithTheReds$Rope" 4) (hR : RetZ E classes 4 (wC g) b_Rope_hangs r σ') {σ : St} {a1 : Int32} {a2 : Int32} (hf : f_Rope_hangs σ a1 a2 = some (r, σ')) : V E classes 4 (wC g) σ 0 [(0, .ref (g.2.1 27)), (1, .int a1), (2, .int a2)] [] := by
  unfold f_Rope_hangs at hf
  refine V_aload_n C 0 d_Rope_hangs_0 rfl ?_
  refine gC_Rope_basket C fl_Rope_26 d_Rope_hangs_1 ?_
  refine V_iload_n C 1 d_Rope_hangs_4 rfl ?_
  refine V_iconst (v := 4) C d_Rope_hangs_5 (by decide) ?_
  obtain ⟨r6_1, hg, hf⟩ := bd hf
  refine V_callVi C [.int a1, .int (4 : Int32)] (c_Basket_told C.2.2.2.2.2.2.2.1 hg) (by decide) cw_Rope_66 1 rfl rfl rfl rfl (Nat.le_of_ble_eq_true rfl) rfl d_Rope_hangs_6 ?_
  refine V_istore_n C d_Rope_hangs_9 (by decide) rfl ?_
  refine V_iload_n C 3 d_Rope_hangs_10 rfl ?_
  refine V_bipush (v := 10) C d_Rope_hangs_11 (by decide) ?_
  refine V_icmp_ge (pc := 13) (tgt := 29) C d_Rope_hangs_13 (by decide) hf (fun hf => ?_) (fun hf => ?_)
  · refine V_iconst (v := 0) C d_Rope_hangs_29 (by decide) ?_
    exact V_zretW hR hf rfl d_Rope_hangs_30
  · refine V_iload_n C 0 d_Rope_hangs_16 rfl ?_
    refine V_aload_n C 1 d_Rope_hangs_17 rfl ?_
    refine gC_Rope_basket C fl_Rope_26 d_Rope_hangs_18 ?_
    refine V_bipush (v := 11) C d_Rope_hangs_21 (by decide) ?_
    obtain ⟨r23_2, hg, hf⟩ := bd hf
    refine V_callVi C [.int (11 : Int32)] (c_Basket_toldOfHouse C.2.2.2.2.2.2.2.1 hg) (by decide) cw_Rope_69 1 rfl rfl rfl rfl (Nat.le_of_ble_eq_true rfl) rfl d_Rope_hangs_23 ?_
    refine V_icmp_le (pc := 26) (tgt := 31) C d_Rope_hangs_26 (by decide) hf (fun hf => ?_) (fun hf => ?_)
    · refine V_aload_n C 1 d_Rope_hangs_31 rfl ?_
      refine gC_Rope_chain C fl_Rope_11 d_Rope_hangs_32 ?_
      refine V_iload_n C 3 d_Rope_hangs_35 rfl ?_
      refine V_iload_n C 2 d_Rope_hangs_36 rfl ?_
      obtain ⟨hi37_3, hf⟩ := gu hf
      refine sC_28 C hi37_3 d_Rope_hangs_37 ?_
      refine V_aload_n C 1 d_Rope_hangs_38 rfl ?_
      refine gC_Rope_hungAt C fl_Rope_17 d_Rope_hangs_39 ?_
      refine V_iload_n C 3 d_Rope_hangs_42 rfl ?_
      refine V_aload_n C 1 d_Rope_hangs_43 rfl ?_
      refine V_iload_n C 0 d_Rope_hangs_44 rfl ?_
      refine V_iload_n C 3 d_Rope_hangs_45 rfl ?_
      obtain ⟨r46_4, hg, hf⟩ := bd hf
      refine V_callVi C [.int r6_1, .int a2] (c_Rope_minuteFor C.2.2.2.2.2.2.2.1 hg) (by decide) cw_Rope_73 27 rfl rfl rfl rfl (Nat.le_of_ble_eq_true rfl) rfl d_Rope_hangs_46 ?_
      obtain ⟨hi49_5, hf⟩ := gu hf
      refine sC_29 C hi49_5 d_Rope_hangs_49 ?_
      refine V_aload_n C 1 d_Rope_hangs_50 rfl ?_
      refine gC_Rope_dryAt C fl_Rope_20 d_Rope_hangs_51 ?_
      refine V_iload_n C 3 d_Rope_hangs_54 rfl ?_
      refine V_aload_n C 1 d_Rope_hangs_55 rfl ?_
      refine gC_Rope_hungAt C fl_Rope_17 d_Rope_hangs_56 ?_
      refine V_iload_n C 3 d_Rope_hangs_59 rfl ?_
      obtain ⟨hi60_6, hf⟩ := gu hf
      refine aC_29 (v := (upd (σ.2.1 29) a2.toNatClampNeg r46_4) a2.toNatClampNeg) C hi60_6 rfl d_Rope_hangs_60 ?_
      refine V_aload_n C 1 d_Rope_hangs_61 rfl ?_
      refine gC_Rope_basket C fl_Rope_26 d_Rope_hangs_62 ?_
      refine V_iload_n C 2 d_Rope_hangs_65 rfl ?_
      refine V_iconst (v := 5) C d_Rope_hangs_66 (by decide) ?_
      obtain ⟨r67_7, hg, hf⟩ := bd hf
      refine V_callVi C [.int a1, .int (5 : Int32)] (c_Basket_told C.2.2.2.2.2.2.2.1 hg) (by decide) cw_Rope_66 1 rfl rfl rfl rfl (Nat.le_of_ble_eq_true rfl) rfl d_Rope_hangs_67 ?_
      refine V_bipush (v := 10) C d_Rope_hangs_70 (by decide) ?_
      refine V_imul C d_Rope_hangs_72 ?_
      refine V_iadd C d_Rope_hangs_73 ?_
      obtain ⟨hi74_8, hf⟩ := gu hf
      refine sC_30 C hi74_8 d_Rope_hangs_74 ?_
      refine V_iconst (v := 1) C d_Rope_hangs_75 (by decide) ?_
      exact V_zretW hR hf rfl d_Rope_hangs_76
    · refine V_iconst (v := 0) C d_Rope_hangs_29 (by decide) ?_
      exact V_zretW hR hf rfl d_Rope_hangs_30
theorem c_Rope_hangs {l : Launch} {g : Gx} (hok : Wok classes (wC g)) {σ : St} {a1 : Int32} {a2 : Int32} {r : Int32} {σ' : St} (hf : f_Rope_hangs σ a1 a2 = some (r, σ')) : CtI classes l y_Rope_hangs b_Rope_hangs 4 (some .boolean) 4 (wC g) [.ref (g.2.1 27), .int a1, .int a2] σ r σ' :=
  MetZ (by decide +kernel) hok (Nat.le_of_ble_eq_true rfl) (fun E _ C hR => w_Rope_hangs C hR hf)
set_option maxRecDepth 4000 in
theorem w_Rope_hang_7 {E : Ev} {g : Gx} {σ' : St} (C : Cx E classes 3 (wC g) b_Rope_hang "WithTheReds$Rope" 5) (hR : RetV E classes 3 (wC g) b_Rope_hang σ') : ∀ (n : Nat) (σ : St) (x1 : Int32) (x2 : Int32), f_Rope_hang_7 n σ x1 x2 = some σ' → V E classes 3 (wC g) σ 7 [(0, .ref (g.2.1 27)), (1, .int x1), (2, .int x2)] [] := by
  intro n
  induction n with
  | zero => intro σ x1 x2 hf; exact absurd hf (by unfold f_Rope_hang_7; exact nofun)
  | succ n ih =>
    intro σ x1 x2 hf
    unfold f_Rope_hang_7 at hf
    refine V_iload_n C 2 d_Rope_hang_7 rfl ?_
    refine V_aload_n C 0 d_Rope_hang_8 rfl ?_
    refine gC_Rope_basket C fl_Rope_26 d_Rope_hang_9 ?_
    refine gC_Basket_things (v := σ.1 103) C fl_Rope_34 rfl d_Rope_hang_12 ?_
    refine V_icmp_ge (pc := 15) (tgt := 55) C d_Rope_hang_15 (by decide) hf (fun hf => ?_) (fun hf => ?_)
    · exact V_vret hR hf d_Rope_hang_55
    · refine V_iload_n C 1 d_Rope_hang_18 rfl ?_
      refine V_iload_n C 2 d_Rope_hang_19 rfl ?_
      obtain ⟨r20_1, hg, hf⟩ := bd hf
      refine V_callNi C [.int x1, .int x2] (c_Top_isOf C.2.2.2.2.2.2.2.1 hg) (by decide) cw_Rope_39 nw_Rope_39 rfl (Nat.le_of_ble_eq_true rfl) rfl d_Rope_hang_20 ?_
      refine V_if_eq (pc := 23) (tgt := 49) C d_Rope_hang_23 (by decide) hf (fun hf => ?_) (fun hf => ?_)
      · refine V_iinc (v := x2 + (1 : Int32)) C 2 d_Rope_hang_49 rfl rfl (by decide) rfl ?_
        refine V_goto (pc := 52) (tgt := 7) C d_Rope_hang_52 (by decide) ?_
        refine V.sub [1, 2, 0] rfl ?_
        exact ih σ x1 (x2 + (1 : Int32)) hf
      · refine V_aload_n C 0 d_Rope_hang_26 rfl ?_
        refine V_iload_n C 2 d_Rope_hang_27 rfl ?_
        refine V_aload_n C 0 d_Rope_hang_28 rfl ?_
        refine gC_Rope_hung (v := σ.1 2705) C fl_Rope_30 rfl d_Rope_hang_29 ?_
        obtain ⟨r32_2, σ32_2, hg, hf⟩ := bd2_of hf
        refine V_callVi C [.int x2, .int (σ.1 2705)] (c_Rope_hangs C.2.2.2.2.2.2.2.1 hg) (by decide) cw_Rope_43 27 rfl rfl rfl rfl (Nat.le_of_ble_eq_true rfl) rfl d_Rope_hang_32 ?_
        refine V_if_ne (pc := 35) (tgt := 39) C d_Rope_hang_35 (by decide) hf (fun hf => ?_) (fun hf => ?_)
        · refine V_aload_n C 0 d_Rope_hang_39 rfl ?_
          refine V_dup C d_Rope_hang_40 rfl ?_
          refine gC_Rope_hung (v := σ32_2.1 2705) C fl_Rope_30 rfl d_Rope_hang_41 ?_
          refine V_iconst (v := 1) C d_Rope_hang_44 (by decide) ?_
          refine V_iadd C d_Rope_hang_45 ?_
          refine pC_Rope_hung C fl_Rope_30 d_Rope_hang_46 ?_
          refine V_iinc (v := x2 + (1 : Int32)) C 2 d_Rope_hang_49 rfl rfl (by decide) rfl ?_
          refine V_goto (pc := 52) (tgt := 7) C d_Rope_hang_52 (by decide) ?_
          refine V.sub [1, 2, 0] rfl ?_
          exact ih (upI σ32_2 2705 ((σ32_2.1 2705) + (1 : Int32))) x1 (x2 + (1 : Int32)) hf
        · exact V_vret hR hf d_Rope_hang_38
set_option maxRecDepth 4000 in
theorem w_Rope_hang {E : Ev} {g : Gx} {σ' : St} (C : Cx E classes 3 (wC g) b_Rope_hang "WithTheReds$Rope" 5) (hR : RetV E classes 3 (wC g) b_Rope_hang σ') {σ : St} {a1 : Int32} (hf : f_Rope_hang σ a1 = some σ') : V E classes 3 (wC g) σ 0 [(0, .ref (g.2.1 27)), (1, .int a1)] [] := by
  unfold f_Rope_hang at hf
  refine V_aload_n C 0 d_Rope_hang_0 rfl ?_
  refine V_iconst (v := 0) C d_Rope_hang_1 (by decide) ?_
  refine pC_Rope_hung C fl_Rope_30 d_Rope_hang_2 ?_
  refine V_iconst (v := 0) C d_Rope_hang_5 (by decide) ?_
  refine V_istore_n C d_Rope_hang_6 (by decide) rfl ?_
  refine V.sub [1, 2, 0] rfl ?_
  exact w_Rope_hang_7 C hR FU (upI σ 2705 (0 : Int32)) a1 (0 : Int32) hf
theorem c_Rope_hang {l : Launch} {g : Gx} (hok : Wok classes (wC g)) {σ : St} {a1 : Int32} {σ' : St} (hf : f_Rope_hang σ a1 = some σ') : CtV classes l y_Rope_hang b_Rope_hang 3 none 5 (wC g) [.ref (g.2.1 27), .int a1] σ σ' :=
  MetV (by decide +kernel) hok (Nat.le_of_ble_eq_true rfl) (fun E _ C hR => w_Rope_hang C hR hf)
set_option maxRecDepth 4000 in
theorem w_Rope_placeOf_2 {E : Ev} {g : Gx} {r : Int32} {σ : St} (C : Cx E classes 3 (wC g) b_Rope_placeOf "WithTheReds$Rope" 1) (hR : RetI E classes 3 (wC g) b_Rope_placeOf r σ) : ∀ (n : Nat) (x1 : Int32) (x2 : Int32), f_Rope_placeOf_2 n σ x1 x2 = some r → V E classes 3 (wC g) σ 2 [(0, .ref (g.2.1 27)), (1, .int x1), (2, .int x2)] [] := by
  intro n
  induction n with
  | zero => intro x1 x2 hf; exact absurd hf (by unfold f_Rope_placeOf_2; exact nofun)
  | succ n ih =>
    intro x1 x2 hf
    unfold f_Rope_placeOf_2 at hf
    refine V_iload_n C 2 d_Rope_placeOf_2 rfl ?_
    refine V_aload_n C 0 d_Rope_placeOf_3 rfl ?_
    refine gC_Rope_hung (v := σ.1 2705) C fl_Rope_30 rfl d_Rope_placeOf_4 ?_
    refine V_icmp_ge (pc := 7) (tgt := 28) C d_Rope_placeOf_7 (by decide) hf (fun hf => ?_) (fun hf => ?_)
    · refine V_iconst (v := -1) C d_Rope_placeOf_28 (by decide) ?_
      exact V_iret hR hf d_Rope_placeOf_29
    · refine V_aload_n C 0 d_Rope_placeOf_10 rfl ?_
      refine gC_Rope_chain C fl_Rope_11 d_Rope_placeOf_11 ?_
      refine V_iload_n C 2 d_Rope_placeOf_14 rfl ?_
      obtain ⟨hi15_1, hf⟩ := gu hf
      refine aC_28 (v := σ.2.1 28 x2.toNatClampNeg) C hi15_1 rfl d_Rope_placeOf_15 ?_
      refine V_iload_n C 1 d_Rope_placeOf_16 rfl ?_
      refine V_icmp_ne (pc := 17) (tgt := 22) C d_Rope_placeOf_17 (by decide) hf (fun hf => ?_) (fun hf => ?_)
      · refine V_iinc (v := x2 + (1 : Int32)) C 2 d_Rope_placeOf_22 rfl rfl (by decide) rfl ?_
        refine V_goto (pc := 25) (tgt := 2) C d_Rope_placeOf_25 (by decide) ?_
        refine V.sub [1, 2, 0] rfl ?_
        exact ih x1 (x2 + (1 : Int32)) hf
      · refine V_iload_n C 2 d_Rope_placeOf_20 rfl ?_
        exact V_iret hR hf d_Rope_placeOf_21
set_option maxRecDepth 4000 in
theorem w_Rope_placeOf {E : Ev} {g : Gx} {r : Int32} {σ : St} (C : Cx E classes 3 (wC g) b_Rope_placeOf "WithTheReds$Rope" 1) (hR : RetI E classes 3 (wC g) b_Rope_placeOf r σ) {a1 : Int32} (hf : f_Rope_placeOf σ a1 = some r) : V E classes 3 (wC g) σ 0 [(0, .ref (g.2.1 27)), (1, .int a1)] [] := by
  unfold f_Rope_placeOf at hf
  refine V_iconst (v := 0) C d_Rope_placeOf_0 (by decide) ?_
  refine V_istore_n C d_Rope_placeOf_1 (by decide) rfl ?_
  refine V.sub [1, 2, 0] rfl ?_
  exact w_Rope_placeOf_2 C hR FU a1 (0 : Int32) hf
theorem c_Rope_placeOf {l : Launch} {g : Gx} (hok : Wok classes (wC g)) {σ : St} {a1 : Int32} {r : Int32} (hf : f_Rope_placeOf σ a1 = some r) : CtI classes l y_Rope_placeOf b_Rope_placeOf 3 (some .int) 1 (wC g) [.ref (g.2.1 27), .int a1] σ r σ :=
  MetI (by decide +kernel) hok (Nat.le_of_ble_eq_true rfl) (fun E _ C hR => w_Rope_placeOf C hR hf)
set_option maxRecDepth 4000 in
theorem w_Top_line {E : Ev} {g : Gx} {r : Int32} {σ' : St} (C : Cx E classes 5 (wC g) b_Top_line "WithTheReds" 6) (hR : RetI E classes 5 (wC g) b_Top_line r σ') {σ : St} {a1 : Int32} {a2 : Int32} {a3 : Int32} (hf : f_Top_line σ a1 a2 a3 = some (r, σ')) : V E classes 5 (wC g) σ 0 [(0, .ref (g.2.1 0)), (1, .int a1), (2, .int a2), (3, .int a3)] [] := by
  unfold f_Top_line at hf
  refine V_aload_n C 0 d_Top_line_0 rfl ?_
  refine V_iload_n C 1 d_Top_line_1 rfl ?_
  obtain ⟨r2_1, hg, hf⟩ := bd hf
  refine V_callVi C [.int a1] (c_Top_isSet C.2.2.2.2.2.2.2.1 hg) (by decide) cw_Top_160 0 rfl rfl rfl rfl (Nat.le_of_ble_eq_true rfl) rfl d_Top_line_2 ?_
  refine V_if_eq (pc := 5) (tgt := 25) C d_Top_line_5 (by decide) hf (fun hf => ?_) (fun hf => ?_)
  · refine V_iconst (v := -1) C d_Top_line_25 (by decide) ?_
    exact V_iretW hR hf d_Top_line_26
  · refine V_aload_n C 0 d_Top_line_8 rfl ?_
    refine V_iload_n C 2 d_Top_line_9 rfl ?_
    obtain ⟨r10_2, hg, hf⟩ := bd hf
    refine V_callVi C [.int a2] (c_Top_isThingOrAll C.2.2.2.2.2.2.2.1 hg) (by decide) cw_Top_207 0 rfl rfl rfl rfl (Nat.le_of_ble_eq_true rfl) rfl d_Top_line_10 ?_
    refine V_if_eq (pc := 13) (tgt := 25) C d_Top_line_13 (by decide) hf (fun hf => ?_) (fun hf => ?_)
    · refine V_iconst (v := -1) C d_Top_line_25 (by decide) ?_
      exact V_iretW hR hf d_Top_line_26
    · refine V_iload_n C 3 d_Top_line_16 rfl ?_
      refine V_iconst (v := 0) C d_Top_line_17 (by decide) ?_
      refine V_iconst (v := 1) C d_Top_line_18 (by decide) ?_
      obtain ⟨r19_3, hg, hf⟩ := bd hf
      refine V_callSi C [.int a3, .int (0 : Int32), .int (1 : Int32)] (c_Top_within C.2.2.2.2.2.2.2.1 hg) (by decide) cw_Top_108 rfl (Nat.le_of_ble_eq_true rfl) rfl d_Top_line_19 ?_
      refine V_if_ne (pc := 22) (tgt := 27) C d_Top_line_22 (by decide) hf (fun hf => ?_) (fun hf => ?_)
      · refine V_aload_n C 0 d_Top_line_27 rfl ?_
        refine gC_Top_rope C fl_Top_60 d_Top_line_28 ?_
        refine V_iload_n C 1 d_Top_line_31 rfl ?_
        obtain ⟨σ32_4, hg, hf⟩ := bd hf
        refine V_callVv C [.int a1] (c_Rope_hang C.2.2.2.2.2.2.2.1 hg) (by decide) cw_Top_249 27 rfl rfl rfl rfl (Nat.le_of_ble_eq_true rfl) rfl d_Top_line_32 ?_
        refine V_iload_n C 2 d_Top_line_35 rfl ?_
        refine V_iconst (v := -1) C d_Top_line_36 (by decide) ?_
        refine V_icmp_ne (pc := 37) (tgt := 67) C d_Top_line_37 (by decide) hf (fun hf => ?_) (fun hf => ?_)
        · refine V_aload_n C 0 d_Top_line_67 rfl ?_
          refine gC_Top_rope C fl_Top_60 d_Top_line_68 ?_
          refine V_iload_n C 2 d_Top_line_71 rfl ?_
          obtain ⟨r72_5, hg, hf⟩ := bd hf
          refine V_callVi C [.int a2] (c_Rope_placeOf C.2.2.2.2.2.2.2.1 hg) (by decide) cw_Top_258 27 rfl rfl rfl rfl (Nat.le_of_ble_eq_true rfl) rfl d_Top_line_72 ?_
          refine V_istore C d_Top_line_75 (by decide) rfl ?_
          refine V_iload C 0 d_Top_line_77 rfl ?_
          refine V_iconst (v := -1) C d_Top_line_79 (by decide) ?_
          refine V_icmp_ne (pc := 80) (tgt := 86) C d_Top_line_80 (by decide) hf (fun hf => ?_) (fun hf => ?_)
          · refine V_iload_n C 4 d_Top_line_86 rfl ?_
            refine V_if_ne (pc := 87) (tgt := 103) C d_Top_line_87 (by decide) hf (fun hf => ?_) (fun hf => ?_)
            · refine V_aload_n C 1 d_Top_line_103 rfl ?_
              refine gC_Top_rope C fl_Top_60 d_Top_line_104 ?_
              refine gC_Rope_dryAt C fl_Top_265 d_Top_line_107 ?_
              refine V_iload C 0 d_Top_line_110 rfl ?_
              obtain ⟨hi112_6, hf⟩ := gu hf
              refine aC_30 (v := σ32_4.2.1 30 r72_5.toNatClampNeg) C hi112_6 rfl d_Top_line_112 ?_
              exact V_iretW hR hf d_Top_line_113
            · refine V_aload_n C 1 d_Top_line_90 rfl ?_
              refine gC_Top_rope C fl_Top_60 d_Top_line_91 ?_
              refine gC_Rope_hungAt C fl_Top_261 d_Top_line_94 ?_
              refine V_iload C 0 d_Top_line_97 rfl ?_
              obtain ⟨hi99_7, hf⟩ := gu hf
              refine aC_29 (v := σ32_4.2.1 29 r72_5.toNatClampNeg) C hi99_7 rfl d_Top_line_99 ?_
              refine V_goto (pc := 100) (tgt := 113) C d_Top_line_100 (by decide) ?_
              exact V_iretW hR hf d_Top_line_113
          · refine V_bipush (v := -2) C d_Top_line_83 (by decide) ?_
            exact V_iretW hR hf d_Top_line_85
        · refine V_aload_n C 0 d_Top_line_40 rfl ?_
          refine gC_Top_rope C fl_Top_60 d_Top_line_41 ?_
          refine gC_Rope_hung (v := σ32_4.1 2705) C fl_Top_252 rfl d_Top_line_44 ?_
          refine V_iload_n C 1 d_Top_line_47 rfl ?_
          obtain ⟨r48_8, hg, hf⟩ := bd hf
          refine V_callSi C [.int a1] (c_JI_bitCount C.2.2.2.2.2.2.2.1 hg) (by decide) cw_Top_210 rfl (Nat.le_of_ble_eq_true rfl) rfl d_Top_line_48 ?_
          refine V_icmp_ne (pc := 51) (tgt := 64) C d_Top_line_51 (by decide) hf (fun hf => ?_) (fun hf => ?_)
          · refine V_bipush (v := -2) C d_Top_line_64 (by decide) ?_
            exact V_iretW hR hf d_Top_line_66
          · refine V_aload_n C 0 d_Top_line_54 rfl ?_
            refine gC_Top_rope C fl_Top_60 d_Top_line_55 ?_
            obtain ⟨r58_9, hg, hf⟩ := bd hf
            refine V_callVi C [] (c_Rope_allDry C.2.2.2.2.2.2.2.1 hg) (by decide) cw_Top_255 27 rfl rfl rfl rfl (Nat.le_of_ble_eq_true rfl) rfl d_Top_line_58 ?_
            refine V_goto (pc := 61) (tgt := 66) C d_Top_line_61 (by decide) ?_
            exact V_iretW hR hf d_Top_line_66
      · refine V_iconst (v := -1) C d_Top_line_25 (by decide) ?_
        exact V_iretW hR hf d_Top_line_26
theorem c_Top_line {l : Launch} {g : Gx} (hok : Wok classes (wC g)) {σ : St} {a1 : Int32} {a2 : Int32} {a3 : Int32} {r : Int32} {σ' : St} (hf : f_Top_line σ a1 a2 a3 = some (r, σ')) : CtI classes l y_Top_line b_Top_line 5 (some .int) 6 (wC g) [.ref (g.2.1 0), .int a1, .int a2, .int a3] σ r σ' :=
  MetI (by decide +kernel) hok (Nat.le_of_ble_eq_true rfl) (fun E _ C hR => w_Top_line C hR hf)
set_option maxRecDepth 4000 in
theorem w_Basket_numberAt {E : Ev} {g : Gx} {r : Int32} {σ : St} (C : Cx E classes 2 (wC g) b_Basket_numberAt "WithTheReds$Basket" 1) (hR : RetI E classes 2 (wC g) b_Basket_numberAt r σ) {a1 : Int32} (hf : f_Basket_numberAt σ a1 = some r) : V E classes 2 (wC g) σ 0 [(0, .ref (g.2.1 1)), (1, .int a1)] [] := by
  unfold f_Basket_numberAt at hf
  refine V_iload_n C 1 d_Basket_numberAt_0 rfl ?_
  refine V_if_lt (pc := 1) (tgt := 22) C d_Basket_numberAt_1 (by decide) hf (fun hf => ?_) (fun hf => ?_)
  · refine V_iconst (v := 0) C d_Basket_numberAt_22 (by decide) ?_
    exact V_iret hR hf d_Basket_numberAt_23
  · refine V_iload_n C 1 d_Basket_numberAt_4 rfl ?_
    refine V_aload_n C 0 d_Basket_numberAt_5 rfl ?_
    refine gC_Basket_numbers C fl_Basket_11 d_Basket_numberAt_6 ?_
    refine nC_2 C d_Basket_numberAt_9 ?_
    refine V_icmp_ge (pc := 10) (tgt := 22) C d_Basket_numberAt_10 (by decide) hf (fun hf => ?_) (fun hf => ?_)
    · refine V_iconst (v := 0) C d_Basket_numberAt_22 (by decide) ?_
      exact V_iret hR hf d_Basket_numberAt_23
    · refine V_aload_n C 0 d_Basket_numberAt_13 rfl ?_
      refine gC_Basket_numbers C fl_Basket_11 d_Basket_numberAt_14 ?_
      refine V_iload_n C 1 d_Basket_numberAt_17 rfl ?_
      obtain ⟨hi18_1, hf⟩ := gu hf
      refine aC_2 (v := σ.2.1 2 a1.toNatClampNeg) C hi18_1 rfl d_Basket_numberAt_18 ?_
      refine V_goto (pc := 19) (tgt := 23) C d_Basket_numberAt_19 (by decide) ?_
      exact V_iret hR hf d_Basket_numberAt_23
theorem c_Basket_numberAt {l : Launch} {g : Gx} (hok : Wok classes (wC g)) {σ : St} {a1 : Int32} {r : Int32} (hf : f_Basket_numberAt σ a1 = some r) : CtI classes l y_Basket_numberAt b_Basket_numberAt 2 (some .int) 1 (wC g) [.ref (g.2.1 1), .int a1] σ r σ :=
  MetI (by decide +kernel) hok (Nat.le_of_ble_eq_true rfl) (fun E _ C hR => w_Basket_numberAt C hR hf)
set_option maxRecDepth 4000 in
theorem w_Changes_forgetFirst {E : Ev} {g : Gx} {σ' : St} (C : Cx E classes 1 (wC g) b_Changes_forgetFirst "WithTheReds$Changes" 1) (hR : RetV E classes 1 (wC g) b_Changes_forgetFirst σ') {σ : St} (hf : f_Changes_forgetFirst σ = some σ') : V E classes 1 (wC g) σ 0 [(0, .ref (g.2.1 5))] [] := by
  unfold f_Changes_forgetFirst at hf
  refine V_aload_n C 0 d_Changes_forgetFirst_0 rfl ?_
  refine gC_Changes_slots C fl_Changes_9 d_Changes_forgetFirst_1 ?_
  refine V_iconst (v := 1) C d_Changes_forgetFirst_4 (by decide) ?_
  refine V_aload_n C 0 d_Changes_forgetFirst_5 rfl ?_
  refine gC_Changes_slots C fl_Changes_9 d_Changes_forgetFirst_6 ?_
  refine V_iconst (v := 0) C d_Changes_forgetFirst_9 (by decide) ?_
  refine V_bipush (v := 39) C d_Changes_forgetFirst_10 (by decide) ?_
  obtain ⟨hcp, hf⟩ := gu hf
  refine V_cpA (σ' := (stA σ 6 (va_cpy (σ.2.1 6) (σ.2.1 6) (1 : Int32).toNatClampNeg (0 : Int32).toNatClampNeg (39 : Int32).toNatClampNeg))) C 6 6 rfl rfl rfl rfl rfl hcp (by decide) (Nat.le_of_ble_eq_true rfl) al_Changes_29 d_Changes_forgetFirst_12 ?_
  refine V_aload_n C 0 d_Changes_forgetFirst_15 rfl ?_
  refine gC_Changes_before C fl_Changes_13 d_Changes_forgetFirst_16 ?_
  refine V_iconst (v := 1) C d_Changes_forgetFirst_19 (by decide) ?_
  refine V_aload_n C 0 d_Changes_forgetFirst_20 rfl ?_
  refine gC_Changes_before C fl_Changes_13 d_Changes_forgetFirst_21 ?_
  refine V_iconst (v := 0) C d_Changes_forgetFirst_24 (by decide) ?_
  refine V_bipush (v := 39) C d_Changes_forgetFirst_25 (by decide) ?_
  obtain ⟨hcp, hf⟩ := gu hf
  refine V_cpA (σ' := (stA (stA σ 6 (va_cpy (σ.2.1 6) (σ.2.1 6) (1 : Int32).toNatClampNeg (0 : Int32).toNatClampNeg (39 : Int32).toNatClampNeg)) 7 (va_cpy (σ.2.1 7) (σ.2.1 7) (1 : Int32).toNatClampNeg (0 : Int32).toNatClampNeg (39 : Int32).toNatClampNeg))) C 7 7 rfl rfl rfl rfl rfl hcp (by decide) (Nat.le_of_ble_eq_true rfl) al_Changes_29 d_Changes_forgetFirst_27 ?_
  refine V_aload_n C 0 d_Changes_forgetFirst_30 rfl ?_
  refine gC_Changes_after C fl_Changes_16 d_Changes_forgetFirst_31 ?_
  refine V_iconst (v := 1) C d_Changes_forgetFirst_34 (by decide) ?_
  refine V_aload_n C 0 d_Changes_forgetFirst_35 rfl ?_
  refine gC_Changes_after C fl_Changes_16 d_Changes_forgetFirst_36 ?_
  refine V_iconst (v := 0) C d_Changes_forgetFirst_39 (by decide) ?_
  refine V_bipush (v := 39) C d_Changes_forgetFirst_40 (by decide) ?_
  obtain ⟨hcp, hf⟩ := gu hf
  refine V_cpA (σ' := (stA (stA (stA σ 6 (va_cpy (σ.2.1 6) (σ.2.1 6) (1 : Int32).toNatClampNeg (0 : Int32).toNatClampNeg (39 : Int32).toNatClampNeg)) 7 (va_cpy (σ.2.1 7) (σ.2.1 7) (1 : Int32).toNatClampNeg (0 : Int32).toNatClampNeg (39 : Int32).toNatClampNeg)) 8 (va_cpy (σ.2.1 8) (σ.2.1 8) (1 : Int32).toNatClampNeg (0 : Int32).toNatClampNeg (39 : Int32).toNatClampNeg))) C 8 8 rfl rfl rfl rfl rfl hcp (by decide) (Nat.le_of_ble_eq_true rfl) al_Changes_29 d_Changes_forgetFirst_42 ?_
  refine V_aload_n C 0 d_Changes_forgetFirst_45 rfl ?_
  refine V_bipush (v := 39) C d_Changes_forgetFirst_46 (by decide) ?_
  refine pC_Changes_done C fl_Changes_19 d_Changes_forgetFirst_48 ?_
  exact V_vret hR hf d_Changes_forgetFirst_51
theorem c_Changes_forgetFirst {l : Launch} {g : Gx} (hok : Wok classes (wC g)) {σ : St} {σ' : St} (hf : f_Changes_forgetFirst σ = some σ') : CtV classes l y_Changes_forgetFirst b_Changes_forgetFirst 1 none 1 (wC g) [.ref (g.2.1 5)] σ σ' :=
  MetV (by decide +kernel) hok (Nat.le_of_ble_eq_true rfl) (fun E _ C hR => w_Changes_forgetFirst C hR hf)
set_option maxRecDepth 4000 in
theorem w_Changes_add_13 {E : Ev} {g : Gx} {σ' : St} (C : Cx E classes 4 (wC g) b_Changes_add "WithTheReds$Changes" 2) (hR : RetV E classes 4 (wC g) b_Changes_add σ') : ∀ (σ : St) (x1 : Int32) (x2 : Int32) (x3 : Int32), f_Changes_add_13 σ x1 x2 x3 = some σ' → V E classes 4 (wC g) σ 13 [(0, .ref (g.2.1 5)), (1, .int x1), (2, .int x2), (3, .int x3)] [] := by
  intro σ x1 x2 x3 hf
  unfold f_Changes_add_13 at hf
  refine V_aload_n C 0 d_Changes_add_13 rfl ?_
  refine gC_Changes_slots C fl_Changes_9 d_Changes_add_14 ?_
  refine V_aload_n C 0 d_Changes_add_17 rfl ?_
  refine gC_Changes_done (v := σ.1 503) C fl_Changes_19 rfl d_Changes_add_18 ?_
  refine V_iload_n C 1 d_Changes_add_21 rfl ?_
  obtain ⟨hi22_1, hf⟩ := gu hf
  refine sC_6 C hi22_1 d_Changes_add_22 ?_
  refine V_aload_n C 0 d_Changes_add_23 rfl ?_
  refine gC_Changes_before C fl_Changes_13 d_Changes_add_24 ?_
  refine V_aload_n C 0 d_Changes_add_27 rfl ?_
  refine gC_Changes_done (v := σ.1 503) C fl_Changes_19 rfl d_Changes_add_28 ?_
  refine V_iload_n C 2 d_Changes_add_31 rfl ?_
  obtain ⟨hi32_2, hf⟩ := gu hf
  refine sC_7 C hi32_2 d_Changes_add_32 ?_
  refine V_aload_n C 0 d_Changes_add_33 rfl ?_
  refine gC_Changes_after C fl_Changes_16 d_Changes_add_34 ?_
  refine V_aload_n C 0 d_Changes_add_37 rfl ?_
  refine gC_Changes_done (v := σ.1 503) C fl_Changes_19 rfl d_Changes_add_38 ?_
  refine V_iload_n C 3 d_Changes_add_41 rfl ?_
  obtain ⟨hi42_3, hf⟩ := gu hf
  refine sC_8 C hi42_3 d_Changes_add_42 ?_
  refine V_aload_n C 0 d_Changes_add_43 rfl ?_
  refine V_dup C d_Changes_add_44 rfl ?_
  refine gC_Changes_done (v := σ.1 503) C fl_Changes_19 rfl d_Changes_add_45 ?_
  refine V_iconst (v := 1) C d_Changes_add_48 (by decide) ?_
  refine V_iadd C d_Changes_add_49 ?_
  refine pC_Changes_done C fl_Changes_19 d_Changes_add_50 ?_
  refine V_aload_n C 0 d_Changes_add_53 rfl ?_
  refine V_iconst (v := 0) C d_Changes_add_54 (by decide) ?_
  refine pC_Changes_undone C fl_Changes_26 d_Changes_add_55 ?_
  exact V_vret hR hf d_Changes_add_58
set_option maxRecDepth 4000 in
theorem w_Changes_add {E : Ev} {g : Gx} {σ' : St} (C : Cx E classes 4 (wC g) b_Changes_add "WithTheReds$Changes" 2) (hR : RetV E classes 4 (wC g) b_Changes_add σ') {σ : St} {a1 : Int32} {a2 : Int32} {a3 : Int32} (hf : f_Changes_add σ a1 a2 a3 = some σ') : V E classes 4 (wC g) σ 0 [(0, .ref (g.2.1 5)), (1, .int a1), (2, .int a2), (3, .int a3)] [] := by
  unfold f_Changes_add at hf
  refine V_aload_n C 0 d_Changes_add_0 rfl ?_
  refine gC_Changes_done (v := σ.1 503) C fl_Changes_19 rfl d_Changes_add_1 ?_
  refine V_bipush (v := 40) C d_Changes_add_4 (by decide) ?_
  refine V_icmp_lt (pc := 6) (tgt := 13) C d_Changes_add_6 (by decide) hf (fun hf => ?_) (fun hf => ?_)
  · exact w_Changes_add_13 C hR σ a1 a2 a3 hf
  · refine V_aload_n C 0 d_Changes_add_9 rfl ?_
    obtain ⟨σ10_1, hg, hf⟩ := bd hf
    refine V_callVv C [] (c_Changes_forgetFirst C.2.2.2.2.2.2.2.1 hg) (by decide) cw_Changes_23 5 rfl rfl rfl rfl (Nat.le_of_ble_eq_true rfl) rfl d_Changes_add_10 ?_
    exact w_Changes_add_13 C hR σ10_1 a1 a2 a3 hf
theorem c_Changes_add {l : Launch} {g : Gx} (hok : Wok classes (wC g)) {σ : St} {a1 : Int32} {a2 : Int32} {a3 : Int32} {σ' : St} (hf : f_Changes_add σ a1 a2 a3 = some σ') : CtV classes l y_Changes_add b_Changes_add 4 none 2 (wC g) [.ref (g.2.1 5), .int a1, .int a2, .int a3] σ σ' :=
  MetV (by decide +kernel) hok (Nat.le_of_ble_eq_true rfl) (fun E _ C hR => w_Changes_add C hR hf)
set_option maxRecDepth 4000 in
theorem w_Top_mend {E : Ev} {g : Gx} {r : Int32} {σ' : St} (C : Cx E classes 6 (wC g) b_Top_mend "WithTheReds" 4) (hR : RetI E classes 6 (wC g) b_Top_mend r σ') {σ : St} {a1 : Int32} {a2 : Int32} {a3 : Int32} (hf : f_Top_mend σ a1 a2 a3 = some (r, σ')) : V E classes 6 (wC g) σ 0 [(0, .ref (g.2.1 0)), (1, .int a1), (2, .int a2), (3, .int a3)] [] := by
  unfold f_Top_mend at hf
  refine V_aload_n C 0 d_Top_mend_0 rfl ?_
  refine gC_Top_basket C fl_Top_10 d_Top_mend_1 ?_
  refine V_iload_n C 1 d_Top_mend_4 rfl ?_
  refine V_iload_n C 2 d_Top_mend_5 rfl ?_
  obtain ⟨r6_1, hg, hf⟩ := bd hf
  refine V_callVi C [.int a1, .int a2] (c_Basket_slot C.2.2.2.2.2.2.2.1 hg) (by decide) cw_Top_120 1 rfl rfl rfl rfl (Nat.le_of_ble_eq_true rfl) rfl d_Top_mend_6 ?_
  refine V_istore C d_Top_mend_9 (by decide) rfl ?_
  refine V_iload C 0 d_Top_mend_11 rfl ?_
  refine V_if_lt (pc := 13) (tgt := 24) C d_Top_mend_13 (by decide) hf (fun hf => ?_) (fun hf => ?_)
  · refine V_iconst (v := -1) C d_Top_mend_24 (by decide) ?_
    exact V_iretW hR hf d_Top_mend_25
  · refine V_iload_n C 3 d_Top_mend_16 rfl ?_
    refine V_iload_n C 4 d_Top_mend_17 rfl ?_
    obtain ⟨r18_2, hg, hf⟩ := bd hf
    refine V_callSi C [.int a2, .int a3] (c_Basket_mayBe C.2.2.2.2.2.2.2.1 hg) (by decide) cw_Top_92 rfl (Nat.le_of_ble_eq_true rfl) rfl d_Top_mend_18 ?_
    refine V_if_ne (pc := 21) (tgt := 26) C d_Top_mend_21 (by decide) hf (fun hf => ?_) (fun hf => ?_)
    · refine V_aload_n C 1 d_Top_mend_26 rfl ?_
      refine gC_Top_basket C fl_Top_10 d_Top_mend_27 ?_
      refine V_iload C 0 d_Top_mend_30 rfl ?_
      obtain ⟨r32_3, hg, hf⟩ := bd hf
      refine V_callVi C [.int r6_1] (c_Basket_numberAt C.2.2.2.2.2.2.2.1 hg) (by decide) cw_Top_123 1 rfl rfl rfl rfl (Nat.le_of_ble_eq_true rfl) rfl d_Top_mend_32 ?_
      refine V_istore C d_Top_mend_35 (by decide) rfl ?_
      refine V_iload C 0 d_Top_mend_37 rfl ?_
      refine V_iload_n C 5 d_Top_mend_39 rfl ?_
      refine V_icmp_eq (pc := 40) (tgt := 65) C d_Top_mend_40 (by decide) hf (fun hf => ?_) (fun hf => ?_)
      · refine V_iload C 0 d_Top_mend_65 rfl ?_
        exact V_iretW hR hf d_Top_mend_67
      · refine V_aload_n C 2 d_Top_mend_43 rfl ?_
        refine gC_Top_basket C fl_Top_10 d_Top_mend_44 ?_
        refine V_iload C 1 d_Top_mend_47 rfl ?_
        refine V_iload_n C 5 d_Top_mend_49 rfl ?_
        obtain ⟨σ50_4, hg, hf⟩ := bd hf
        refine V_callVv C [.int r6_1, .int a3] (c_Basket_write C.2.2.2.2.2.2.2.1 hg) (by decide) cw_Top_127 1 rfl rfl rfl rfl (Nat.le_of_ble_eq_true rfl) rfl d_Top_mend_50 ?_
        refine V_aload_n C 2 d_Top_mend_53 rfl ?_
        refine gC_Top_changes C fl_Top_74 d_Top_mend_54 ?_
        refine V_iload C 1 d_Top_mend_57 rfl ?_
        refine V_iload C 0 d_Top_mend_59 rfl ?_
        refine V_iload_n C 5 d_Top_mend_61 rfl ?_
        obtain ⟨σ62_5, hg, hf⟩ := bd hf
        refine V_callVv C [.int r6_1, .int r32_3, .int a3] (c_Changes_add C.2.2.2.2.2.2.2.1 hg) (by decide) cw_Top_131 5 rfl rfl rfl rfl (Nat.le_of_ble_eq_true rfl) rfl d_Top_mend_62 ?_
        refine V_iload C 0 d_Top_mend_65 rfl ?_
        exact V_iretW hR hf d_Top_mend_67
    · refine V_iconst (v := -1) C d_Top_mend_24 (by decide) ?_
      exact V_iretW hR hf d_Top_mend_25
theorem c_Top_mend {l : Launch} {g : Gx} (hok : Wok classes (wC g)) {σ : St} {a1 : Int32} {a2 : Int32} {a3 : Int32} {r : Int32} {σ' : St} (hf : f_Top_mend σ a1 a2 a3 = some (r, σ')) : CtI classes l y_Top_mend b_Top_mend 6 (some .int) 4 (wC g) [.ref (g.2.1 0), .int a1, .int a2, .int a3] σ r σ' :=
  MetI (by decide +kernel) hok (Nat.le_of_ble_eq_true rfl) (fun E _ C hR => w_Top_mend C hR hf)
set_option maxRecDepth 4000 in
theorem w_Basket_stateOf {E : Ev} {g : Gx} {r : Int32} {σ : St} (C : Cx E classes 3 (wC g) b_Basket_stateOf "WithTheReds$Basket" 3) (hR : RetI E classes 3 (wC g) b_Basket_stateOf r σ) {a1 : Int32} {a2 : Int32} (hf : f_Basket_stateOf σ a1 a2 = some r) : V E classes 3 (wC g) σ 0 [(0, .ref (g.2.1 1)), (1, .int a1), (2, .int a2)] [] := by
  unfold f_Basket_stateOf at hf
  refine V_aload_n C 0 d_Basket_stateOf_0 rfl ?_
  refine V_iload_n C 1 d_Basket_stateOf_1 rfl ?_
  obtain ⟨r2_1, hg, hf⟩ := bd hf
  refine V_callVi C [.int a1] (c_Basket_isThing C.2.2.2.2.2.2.2.1 hg) (by decide) cw_Basket_49 1 rfl rfl rfl rfl (Nat.le_of_ble_eq_true rfl) rfl d_Basket_stateOf_2 ?_
  refine V_if_ne (pc := 5) (tgt := 10) C d_Basket_stateOf_5 (by decide) hf (fun hf => ?_) (fun hf => ?_)
  · refine V_iload_n C 2 d_Basket_stateOf_10 rfl ?_
    refine V_bipush (v := 12) C d_Basket_stateOf_11 (by decide) ?_
    refine V_icmp_ne (pc := 13) (tgt := 23) C d_Basket_stateOf_13 (by decide) hf (fun hf => ?_) (fun hf => ?_)
    · refine V_aload_n C 0 d_Basket_stateOf_23 rfl ?_
      refine gC_Basket_gone C fl_Basket_18 d_Basket_stateOf_24 ?_
      refine V_iload_n C 1 d_Basket_stateOf_27 rfl ?_
      obtain ⟨hi28_2, hf⟩ := gu hf
      refine aC_4 (v := σ.2.1 4 a1.toNatClampNeg) C hi28_2 rfl d_Basket_stateOf_28 ?_
      refine V_if_eq (pc := 29) (tgt := 36) C d_Basket_stateOf_29 (by decide) hf (fun hf => ?_) (fun hf => ?_)
      · refine V_iconst (v := 0) C d_Basket_stateOf_36 (by decide) ?_
        exact V_iret hR hf d_Basket_stateOf_37
      · refine V_iconst (v := 1) C d_Basket_stateOf_32 (by decide) ?_
        refine V_goto (pc := 33) (tgt := 37) C d_Basket_stateOf_33 (by decide) ?_
        exact V_iret hR hf d_Basket_stateOf_37
    · refine V_aload_n C 0 d_Basket_stateOf_16 rfl ?_
      refine gC_Basket_tints C fl_Basket_15 d_Basket_stateOf_17 ?_
      refine V_iload_n C 1 d_Basket_stateOf_20 rfl ?_
      obtain ⟨hi21_3, hf⟩ := gu hf
      refine aC_3 (v := σ.2.1 3 a1.toNatClampNeg) C hi21_3 rfl d_Basket_stateOf_21 ?_
      exact V_iret hR hf d_Basket_stateOf_22
  · refine V_iconst (v := -1) C d_Basket_stateOf_8 (by decide) ?_
    exact V_iret hR hf d_Basket_stateOf_9
theorem c_Basket_stateOf {l : Launch} {g : Gx} (hok : Wok classes (wC g)) {σ : St} {a1 : Int32} {a2 : Int32} {r : Int32} (hf : f_Basket_stateOf σ a1 a2 = some r) : CtI classes l y_Basket_stateOf b_Basket_stateOf 3 (some .int) 3 (wC g) [.ref (g.2.1 1), .int a1, .int a2] σ r σ :=
  MetI (by decide +kernel) hok (Nat.le_of_ble_eq_true rfl) (fun E _ C hR => w_Basket_stateOf C hR hf)
set_option maxRecDepth 4000 in
theorem w_Top_of_12 {E : Ev} {g : Gx} {r : Int32} {σ : St} (C : Cx E classes 4 (wC g) b_Top_of "WithTheReds" 4) (hR : RetI E classes 4 (wC g) b_Top_of r σ) : ∀ (x1 : Int32) (x2 : Int32), f_Top_of_12 σ x1 x2 = some r → V E classes 4 (wC g) σ 12 [(0, .ref (g.2.1 0)), (1, .int x1), (2, .int x2)] [] := by
  intro x1 x2 hf
  unfold f_Top_of_12 at hf
  refine V_aload_n C 0 d_Top_of_12 rfl ?_
  refine gC_Top_basket C fl_Top_10 d_Top_of_13 ?_
  refine V_iload_n C 1 d_Top_of_16 rfl ?_
  obtain ⟨r17_1, hg, hf⟩ := bd hf
  refine V_callVi C [.int x1] (c_Basket_isThing C.2.2.2.2.2.2.2.1 hg) (by decide) cw_Top_134 1 rfl rfl rfl rfl (Nat.le_of_ble_eq_true rfl) rfl d_Top_of_17 ?_
  refine V_if_eq (pc := 20) (tgt := 35) C d_Top_of_20 (by decide) hf (fun hf => ?_) (fun hf => ?_)
  · refine V_iconst (v := -1) C d_Top_of_35 (by decide) ?_
    exact V_iret hR hf d_Top_of_36
  · refine V_aload_n C 0 d_Top_of_23 rfl ?_
    refine gC_Top_basket C fl_Top_10 d_Top_of_24 ?_
    refine V_iload_n C 1 d_Top_of_27 rfl ?_
    refine V_iload_n C 2 d_Top_of_28 rfl ?_
    obtain ⟨r29_2, hg, hf⟩ := bd hf
    refine V_callVi C [.int x1, .int x2] (c_Basket_stateOf C.2.2.2.2.2.2.2.1 hg) (by decide) cw_Top_137 1 rfl rfl rfl rfl (Nat.le_of_ble_eq_true rfl) rfl d_Top_of_29 ?_
    refine V_goto (pc := 32) (tgt := 36) C d_Top_of_32 (by decide) ?_
    exact V_iret hR hf d_Top_of_36
set_option maxRecDepth 4000 in
theorem w_Top_of {E : Ev} {g : Gx} {r : Int32} {σ : St} (C : Cx E classes 4 (wC g) b_Top_of "WithTheReds" 4) (hR : RetI E classes 4 (wC g) b_Top_of r σ) {a1 : Int32} {a2 : Int32} (hf : f_Top_of σ a1 a2 = some r) : V E classes 4 (wC g) σ 0 [(0, .ref (g.2.1 0)), (1, .int a1), (2, .int a2)] [] := by
  unfold f_Top_of at hf
  refine V_iload_n C 2 d_Top_of_0 rfl ?_
  refine V_bipush (v := 12) C d_Top_of_1 (by decide) ?_
  refine V_icmp_eq (pc := 3) (tgt := 12) C d_Top_of_3 (by decide) hf (fun hf => ?_) (fun hf => ?_)
  · exact w_Top_of_12 C hR a1 a2 hf
  · refine V_iload_n C 2 d_Top_of_6 rfl ?_
    refine V_bipush (v := 13) C d_Top_of_7 (by decide) ?_
    refine V_icmp_ne (pc := 9) (tgt := 37) C d_Top_of_9 (by decide) hf (fun hf => ?_) (fun hf => ?_)
    · refine V_aload_n C 0 d_Top_of_37 rfl ?_
      refine gC_Top_basket C fl_Top_10 d_Top_of_38 ?_
      refine V_iload_n C 1 d_Top_of_41 rfl ?_
      refine V_iload_n C 2 d_Top_of_42 rfl ?_
      obtain ⟨r43_1, hg, hf⟩ := bd hf
      refine V_callVi C [.int a1, .int a2] (c_Basket_slot C.2.2.2.2.2.2.2.1 hg) (by decide) cw_Top_120 1 rfl rfl rfl rfl (Nat.le_of_ble_eq_true rfl) rfl d_Top_of_43 ?_
      refine V_istore_n C d_Top_of_46 (by decide) rfl ?_
      refine V_iload_n C 0 d_Top_of_47 rfl ?_
      refine V_if_ge (pc := 48) (tgt := 55) C d_Top_of_48 (by decide) hf (fun hf => ?_) (fun hf => ?_)
      · refine V_aload_n C 1 d_Top_of_55 rfl ?_
        refine gC_Top_basket C fl_Top_10 d_Top_of_56 ?_
        refine V_iload_n C 0 d_Top_of_59 rfl ?_
        obtain ⟨r60_2, hg, hf⟩ := bd hf
        refine V_callVi C [.int r43_1] (c_Basket_numberAt C.2.2.2.2.2.2.2.1 hg) (by decide) cw_Top_123 1 rfl rfl rfl rfl (Nat.le_of_ble_eq_true rfl) rfl d_Top_of_60 ?_
        exact V_iret hR hf d_Top_of_63
      · refine V_iconst (v := -1) C d_Top_of_51 (by decide) ?_
        refine V_goto (pc := 52) (tgt := 63) C d_Top_of_52 (by decide) ?_
        exact V_iret hR hf d_Top_of_63
    · exact w_Top_of_12 C hR a1 a2 hf
theorem c_Top_of {l : Launch} {g : Gx} (hok : Wok classes (wC g)) {σ : St} {a1 : Int32} {a2 : Int32} {r : Int32} (hf : f_Top_of σ a1 a2 = some r) : CtI classes l y_Top_of b_Top_of 4 (some .int) 4 (wC g) [.ref (g.2.1 0), .int a1, .int a2] σ r σ :=
  MetI (by decide +kernel) hok (Nat.le_of_ble_eq_true rfl) (fun E _ C hR => w_Top_of C hR hf)
set_option maxRecDepth 4000 in
theorem w_Rope_arrange_42 {E : Ev} {g : Gx} {σ' : St} {rec : St → Int32 → Int32 → Int32 → Option St} {D : Nat} (hD : 5 ≤ D) (hrec : ∀ {l : Launch} {σ : St} {a1 : Int32} {a2 : Int32} {a3 : Int32} {σ' : St}, rec σ a1 a2 a3 = some σ' → CtV classes l y_Rope_arrange b_Rope_arrange 5 none D (wC g) [.ref (g.2.1 27), .int a1, .int a2, .int a3] σ σ') (C : Cx E classes 5 (wC g) b_Rope_arrange "WithTheReds$Rope" (D + 1)) (hR : RetV E classes 5 (wC g) b_Rope_arrange σ') : ∀ (n : Nat) (σ : St) (x1 : Int32) (x2 : Int32) (x3 : Int32) (x4 : Int32), f_Rope_arrange_42 rec n σ x1 x2 x3 x4 = some σ' → V E classes 5 (wC g) σ 42 [(0, .ref (g.2.1 27)), (1, .int x1), (2, .int x2), (3, .int x3), (4, .int x4)] [] := by
  intro n
  induction n with
  | zero => intro σ x1 x2 x3 x4 hf; exact absurd hf (by unfold f_Rope_arrange_42; exact nofun)
  | succ n ih =>
    intro σ x1 x2 x3 x4 hf
    unfold f_Rope_arrange_42 at hf
    refine V_iload C 4 d_Rope_arrange_42 rfl ?_
    refine V_aload_n C 0 d_Rope_arrange_44 rfl ?_
    refine gC_Rope_basket C fl_Rope_26 d_Rope_arrange_45 ?_
    refine gC_Basket_things (v := σ.1 103) C fl_Rope_34 rfl d_Rope_arrange_48 ?_
    refine V_icmp_ge (pc := 51) (tgt := 104) C d_Rope_arrange_51 (by decide) hf (fun hf => ?_) (fun hf => ?_)
    · exact V_vret hR hf d_Rope_arrange_104
    · refine V_iload_n C 1 d_Rope_arrange_54 rfl ?_
      refine V_iload C 4 d_Rope_arrange_55 rfl ?_
      obtain ⟨r57_1, hg, hf⟩ := bd hf
      refine V_callNi C [.int x1, .int x4] (c_Top_isOf C.2.2.2.2.2.2.2.1 hg) (by omega) cw_Rope_39 nw_Rope_39 rfl (Nat.le_of_ble_eq_true rfl) rfl d_Rope_arrange_57 ?_
      refine V_if_eq (pc := 60) (tgt := 98) C d_Rope_arrange_60 (by decide) hf (fun hf => ?_) (fun hf => ?_)
      · refine V_iinc (v := x4 + (1 : Int32)) C 4 d_Rope_arrange_98 rfl rfl (by decide) rfl ?_
        refine V_goto (pc := 101) (tgt := 42) C d_Rope_arrange_101 (by decide) ?_
        refine V.sub [1, 2, 3, 4, 0] rfl ?_
        exact ih σ x1 x2 x3 (x4 + (1 : Int32)) hf
      · refine V_aload_n C 0 d_Rope_arrange_63 rfl ?_
        refine V_iload C 4 d_Rope_arrange_64 rfl ?_
        refine V_iload_n C 2 d_Rope_arrange_66 rfl ?_
        obtain ⟨r67_2, σ67_2, hg, hf⟩ := bd2_of hf
        refine V_callVi C [.int x4, .int x2] (c_Rope_hangs C.2.2.2.2.2.2.2.1 hg) (by omega) cw_Rope_43 27 rfl rfl rfl rfl (Nat.le_of_ble_eq_true rfl) rfl d_Rope_arrange_67 ?_
        refine V_if_eq (pc := 70) (tgt := 98) C d_Rope_arrange_70 (by decide) hf (fun hf => ?_) (fun hf => ?_)
        · refine V_iinc (v := x4 + (1 : Int32)) C 4 d_Rope_arrange_98 rfl rfl (by decide) rfl ?_
          refine V_goto (pc := 101) (tgt := 42) C d_Rope_arrange_101 (by decide) ?_
          refine V.sub [1, 2, 3, 4, 0] rfl ?_
          exact ih σ67_2 x1 x2 x3 (x4 + (1 : Int32)) hf
        · refine V_aload_n C 0 d_Rope_arrange_73 rfl ?_
          refine V_iload_n C 1 d_Rope_arrange_74 rfl ?_
          refine V_iconst (v := 1) C d_Rope_arrange_75 (by decide) ?_
          refine V_iload C 4 d_Rope_arrange_76 rfl ?_
          refine V_ishl C d_Rope_arrange_78 ?_
          refine V_iconst (v := -1) C d_Rope_arrange_79 (by decide) ?_
          refine V_ixor C d_Rope_arrange_80 ?_
          refine V_iand C d_Rope_arrange_81 ?_
          refine V_iload_n C 2 d_Rope_arrange_82 rfl ?_
          refine V_iconst (v := 1) C d_Rope_arrange_83 (by decide) ?_
          refine V_iadd C d_Rope_arrange_84 ?_
          refine V_iload_n C 3 d_Rope_arrange_85 rfl ?_
          refine V_aload_n C 0 d_Rope_arrange_86 rfl ?_
          refine gC_Rope_dryAt C fl_Rope_20 d_Rope_arrange_87 ?_
          refine V_iload_n C 2 d_Rope_arrange_90 rfl ?_
          obtain ⟨hi91_3, hf⟩ := gu hf
          refine aC_30 (v := σ67_2.2.1 30 x2.toNatClampNeg) C hi91_3 rfl d_Rope_arrange_91 ?_
          refine V_max C ml_Rope_46 (by omega) (Nat.le_of_ble_eq_true rfl) d_Rope_arrange_92 ?_
          obtain ⟨σ95_4, hg, hf⟩ := bd hf
          refine V_callVv C [.int (x1 &&& (((1 : Int32) <<< (x4 &&& 31)) ^^^ (-1 : Int32))), .int (x2 + (1 : Int32)), .int (imax x3 (σ67_2.2.1 30 x2.toNatClampNeg))] (hrec hg) (by omega) cw_Rope_56 27 rfl rfl rfl rfl (Nat.le_of_ble_eq_true rfl) rfl d_Rope_arrange_95 ?_
          refine V_iinc (v := x4 + (1 : Int32)) C 4 d_Rope_arrange_98 rfl rfl (by decide) rfl ?_
          refine V_goto (pc := 101) (tgt := 42) C d_Rope_arrange_101 (by decide) ?_
          refine V.sub [1, 2, 3, 4, 0] rfl ?_
          exact ih σ95_4 x1 x2 x3 (x4 + (1 : Int32)) hf
set_option maxRecDepth 4000 in
theorem w_Rope_arrange_F {E : Ev} {g : Gx} {σ' : St} {rec : St → Int32 → Int32 → Int32 → Option St} {D : Nat} (hD : 5 ≤ D) (hrec : ∀ {l : Launch} {σ : St} {a1 : Int32} {a2 : Int32} {a3 : Int32} {σ' : St}, rec σ a1 a2 a3 = some σ' → CtV classes l y_Rope_arrange b_Rope_arrange 5 none D (wC g) [.ref (g.2.1 27), .int a1, .int a2, .int a3] σ σ') (C : Cx E classes 5 (wC g) b_Rope_arrange "WithTheReds$Rope" (D + 1)) (hR : RetV E classes 5 (wC g) b_Rope_arrange σ') {σ : St} {a1 : Int32} {a2 : Int32} {a3 : Int32} (hf : f_Rope_arrange_F rec σ a1 a2 a3 = some σ') : V E classes 5 (wC g) σ 0 [(0, .ref (g.2.1 27)), (1, .int a1), (2, .int a2), (3, .int a3)] [] := by
  unfold f_Rope_arrange_F at hf
  refine V_iload_n C 3 d_Rope_arrange_0 rfl ?_
  refine V_aload_n C 0 d_Rope_arrange_1 rfl ?_
  refine gC_Rope_soonest (v := σ.1 2706) C fl_Rope_53 rfl d_Rope_arrange_2 ?_
  refine V_icmp_ge (pc := 5) (tgt := 14) C d_Rope_arrange_5 (by decide) hf (fun hf => ?_) (fun hf => ?_)
  · exact V_vret hR hf d_Rope_arrange_14
  · refine V_iload_n C 2 d_Rope_arrange_8 rfl ?_
    refine V_bipush (v := 6) C d_Rope_arrange_9 (by decide) ?_
    refine V_icmp_le (pc := 11) (tgt := 15) C d_Rope_arrange_11 (by decide) hf (fun hf => ?_) (fun hf => ?_)
    · refine V_iload_n C 1 d_Rope_arrange_15 rfl ?_
      refine V_if_ne (pc := 16) (tgt := 39) C d_Rope_arrange_16 (by decide) hf (fun hf => ?_) (fun hf => ?_)
      · refine V_iconst (v := 0) C d_Rope_arrange_39 (by decide) ?_
        refine V_istore C d_Rope_arrange_40 (by decide) rfl ?_
        refine V.sub [1, 2, 3, 4, 0] rfl ?_
        exact w_Rope_arrange_42 hD hrec C hR FU σ a1 a2 a3 (0 : Int32) hf
      · refine V_aload_n C 0 d_Rope_arrange_19 rfl ?_
        refine V_iload_n C 3 d_Rope_arrange_20 rfl ?_
        refine pC_Rope_soonest C fl_Rope_53 d_Rope_arrange_21 ?_
        refine V_aload_n C 0 d_Rope_arrange_24 rfl ?_
        refine gC_Rope_chain C fl_Rope_11 d_Rope_arrange_25 ?_
        refine V_iconst (v := 0) C d_Rope_arrange_28 (by decide) ?_
        refine V_aload_n C 0 d_Rope_arrange_29 rfl ?_
        refine gC_Rope_best C fl_Rope_23 d_Rope_arrange_30 ?_
        refine V_iconst (v := 0) C d_Rope_arrange_33 (by decide) ?_
        refine V_iload_n C 2 d_Rope_arrange_34 rfl ?_
        obtain ⟨hcp, hf⟩ := gu hf
        refine V_cpA (σ' := (stA (upI σ 2706 a3) 31 (va_cpy (σ.2.1 28) (σ.2.1 31) (0 : Int32).toNatClampNeg (0 : Int32).toNatClampNeg a2.toNatClampNeg))) C 28 31 rfl rfl rfl rfl rfl hcp (by omega) (Nat.le_of_ble_eq_true rfl) al_Rope_60 d_Rope_arrange_35 ?_
        exact V_vret hR hf d_Rope_arrange_38
    · exact V_vret hR hf d_Rope_arrange_14
theorem c_Rope_arrange_F {l : Launch} {g : Gx} (hok : Wok classes (wC g)) {rec : St → Int32 → Int32 → Int32 → Option St} {D : Nat} (hD : 5 ≤ D) (hrec : ∀ {l : Launch} {σ : St} {a1 : Int32} {a2 : Int32} {a3 : Int32} {σ' : St}, rec σ a1 a2 a3 = some σ' → CtV classes l y_Rope_arrange b_Rope_arrange 5 none D (wC g) [.ref (g.2.1 27), .int a1, .int a2, .int a3] σ σ') {σ : St} {a1 : Int32} {a2 : Int32} {a3 : Int32} {σ' : St} (hf : f_Rope_arrange_F rec σ a1 a2 a3 = some σ') : CtV classes l y_Rope_arrange b_Rope_arrange 5 none (D + 1) (wC g) [.ref (g.2.1 27), .int a1, .int a2, .int a3] σ σ' :=
  MetV (by decide +kernel) hok (Nat.le_of_ble_eq_true rfl) (fun E _ C hR => w_Rope_arrange_F hD hrec C hR hf)
theorem c_Rope_arrange {l : Launch} {g : Gx} (hok : Wok classes (wC g)) (n : Nat) {σ : St} {a1 : Int32} {a2 : Int32} {a3 : Int32} {σ' : St} (hf : f_Rope_arrange n σ a1 a2 a3 = some σ') : CtV classes l y_Rope_arrange b_Rope_arrange 5 none (5 + 1 * n) (wC g) [.ref (g.2.1 27), .int a1, .int a2, .int a3] σ σ' := by
  induction n generalizing l σ a1 a2 a3 σ' with
  | zero => exact absurd hf (by unfold f_Rope_arrange; exact nofun)
  | succ n ih => exact c_Rope_arrange_F hok (D := 5 + 1 * n) (by omega) (fun h => ih h) hf
set_option maxRecDepth 4000 in
theorem w_Rope_findOrder {E : Ev} {g : Gx} {r : Int32} {σ' : St} (C : Cx E classes 2 (wC g) b_Rope_findOrder "WithTheReds$Rope" 26) (hR : RetZ E classes 2 (wC g) b_Rope_findOrder r σ') {σ : St} {a1 : Int32} (hf : f_Rope_findOrder σ a1 = some (r, σ')) : V E classes 2 (wC g) σ 0 [(0, .ref (g.2.1 27)), (1, .int a1)] [] := by
  unfold f_Rope_findOrder at hf
  refine V_aload_n C 0 d_Rope_findOrder_0 rfl ?_
  refine V_ldc C kc_Rope_52 d_Rope_findOrder_1 ?_
  refine pC_Rope_soonest C fl_Rope_53 d_Rope_findOrder_3 ?_
  refine V_aload_n C 0 d_Rope_findOrder_6 rfl ?_
  refine V_iload_n C 1 d_Rope_findOrder_7 rfl ?_
  refine V_iconst (v := 0) C d_Rope_findOrder_8 (by decide) ?_
  refine V_iconst (v := 0) C d_Rope_findOrder_9 (by decide) ?_
  obtain ⟨σ10_1, hg, hf⟩ := bd hf
  refine V_callVv C [.int a1, .int (0 : Int32), .int (0 : Int32)] (c_Rope_arrange C.2.2.2.2.2.2.2.1 20 hg) (by decide) cw_Rope_56 27 rfl rfl rfl rfl (Nat.le_of_ble_eq_true rfl) rfl d_Rope_findOrder_10 ?_
  refine V_aload_n C 0 d_Rope_findOrder_13 rfl ?_
  refine gC_Rope_soonest (v := σ10_1.1 2706) C fl_Rope_53 rfl d_Rope_findOrder_14 ?_
  refine V_ldc C kc_Rope_52 d_Rope_findOrder_17 ?_
  refine V_icmp_eq (pc := 19) (tgt := 26) C d_Rope_findOrder_19 (by decide) hf (fun hf => ?_) (fun hf => ?_)
  · refine V_iconst (v := 0) C d_Rope_findOrder_26 (by decide) ?_
    exact V_zretW hR hf rfl d_Rope_findOrder_27
  · refine V_iconst (v := 1) C d_Rope_findOrder_22 (by decide) ?_
    refine V_goto (pc := 23) (tgt := 27) C d_Rope_findOrder_23 (by decide) ?_
    exact V_zretW hR hf rfl d_Rope_findOrder_27
theorem c_Rope_findOrder {l : Launch} {g : Gx} (hok : Wok classes (wC g)) {σ : St} {a1 : Int32} {r : Int32} {σ' : St} (hf : f_Rope_findOrder σ a1 = some (r, σ')) : CtI classes l y_Rope_findOrder b_Rope_findOrder 2 (some .boolean) 26 (wC g) [.ref (g.2.1 27), .int a1] σ r σ' :=
  MetZ (by decide +kernel) hok (Nat.le_of_ble_eq_true rfl) (fun E _ C hR => w_Rope_findOrder C hR hf)
set_option maxRecDepth 4000 in
theorem w_Top_order {E : Ev} {g : Gx} {r : Int32} {σ' : St} (C : Cx E classes 4 (wC g) b_Top_order "WithTheReds" 27) (hR : RetI E classes 4 (wC g) b_Top_order r σ') {σ : St} {a1 : Int32} {a2 : Int32} (hf : f_Top_order σ a1 a2 = some (r, σ')) : V E classes 4 (wC g) σ 0 [(0, .ref (g.2.1 0)), (1, .int a1), (2, .int a2)] [] := by
  unfold f_Top_order at hf
  refine V_aload_n C 0 d_Top_order_0 rfl ?_
  refine V_iload_n C 1 d_Top_order_1 rfl ?_
  obtain ⟨r2_1, hg, hf⟩ := bd hf
  refine V_callVi C [.int a1] (c_Top_isSet C.2.2.2.2.2.2.2.1 hg) (by decide) cw_Top_160 0 rfl rfl rfl rfl (Nat.le_of_ble_eq_true rfl) rfl d_Top_order_2 ?_
  refine V_if_eq (pc := 5) (tgt := 13) C d_Top_order_5 (by decide) hf (fun hf => ?_) (fun hf => ?_)
  · refine V_iconst (v := -1) C d_Top_order_13 (by decide) ?_
    exact V_iretW hR hf d_Top_order_14
  · refine V_iload_n C 2 d_Top_order_8 rfl ?_
    refine V_iconst (v := -1) C d_Top_order_9 (by decide) ?_
    refine V_icmp_ge (pc := 10) (tgt := 15) C d_Top_order_10 (by decide) hf (fun hf => ?_) (fun hf => ?_)
    · refine V_iload_n C 1 d_Top_order_15 rfl ?_
      obtain ⟨r16_2, hg, hf⟩ := bd hf
      refine V_callSi C [.int a1] (c_JI_bitCount C.2.2.2.2.2.2.2.1 hg) (by decide) cw_Top_210 rfl (Nat.le_of_ble_eq_true rfl) rfl d_Top_order_16 ?_
      refine V_istore_n C d_Top_order_19 (by decide) rfl ?_
      refine V_iload_n C 0 d_Top_order_20 rfl ?_
      refine V_bipush (v := 6) C d_Top_order_21 (by decide) ?_
      refine V_icmp_le (pc := 23) (tgt := 29) C d_Top_order_23 (by decide) hf (fun hf => ?_) (fun hf => ?_)
      · refine V_iload_n C 3 d_Top_order_29 rfl ?_
        refine V_iload_n C 0 d_Top_order_30 rfl ?_
        refine V_icmp_ge (pc := 31) (tgt := 45) C d_Top_order_31 (by decide) hf (fun hf => ?_) (fun hf => ?_)
        · refine V_bipush (v := -2) C d_Top_order_45 (by decide) ?_
          exact V_iretW hR hf d_Top_order_47
        · refine V_aload_n C 1 d_Top_order_34 rfl ?_
          refine gC_Top_rope C fl_Top_60 d_Top_order_35 ?_
          refine V_iload_n C 2 d_Top_order_38 rfl ?_
          obtain ⟨r39_3, σ39_3, hg, hf⟩ := bd2_of hf
          refine V_callVi C [.int a1] (c_Rope_findOrder C.2.2.2.2.2.2.2.1 hg) (by decide) cw_Top_271 27 rfl rfl rfl rfl (Nat.le_of_ble_eq_true rfl) rfl d_Top_order_39 ?_
          refine V_if_ne (pc := 42) (tgt := 48) C d_Top_order_42 (by decide) hf (fun hf => ?_) (fun hf => ?_)
          · refine V_iload_n C 3 d_Top_order_48 rfl ?_
            refine V_iconst (v := -1) C d_Top_order_49 (by decide) ?_
            refine V_icmp_ne (pc := 50) (tgt := 63) C d_Top_order_50 (by decide) hf (fun hf => ?_) (fun hf => ?_)
            · refine V_aload_n C 1 d_Top_order_63 rfl ?_
              refine gC_Top_rope C fl_Top_60 d_Top_order_64 ?_
              refine gC_Rope_best C fl_Top_277 d_Top_order_67 ?_
              refine V_iload_n C 3 d_Top_order_70 rfl ?_
              obtain ⟨hi71_4, hf⟩ := gu hf
              refine aC_31 (v := σ39_3.2.1 31 a2.toNatClampNeg) C hi71_4 rfl d_Top_order_71 ?_
              exact V_iretW hR hf d_Top_order_72
            · refine V_aload_n C 1 d_Top_order_53 rfl ?_
              refine gC_Top_rope C fl_Top_60 d_Top_order_54 ?_
              refine gC_Rope_soonest (v := σ39_3.1 2706) C fl_Top_274 rfl d_Top_order_57 ?_
              refine V_goto (pc := 60) (tgt := 72) C d_Top_order_60 (by decide) ?_
              exact V_iretW hR hf d_Top_order_72
          · refine V_bipush (v := -2) C d_Top_order_45 (by decide) ?_
            exact V_iretW hR hf d_Top_order_47
      · refine V_bipush (v := -5) C d_Top_order_26 (by decide) ?_
        exact V_iretW hR hf d_Top_order_28
    · refine V_iconst (v := -1) C d_Top_order_13 (by decide) ?_
      exact V_iretW hR hf d_Top_order_14
theorem c_Top_order {l : Launch} {g : Gx} (hok : Wok classes (wC g)) {σ : St} {a1 : Int32} {a2 : Int32} {r : Int32} {σ' : St} (hf : f_Top_order σ a1 a2 = some (r, σ')) : CtI classes l y_Top_order b_Top_order 4 (some .int) 27 (wC g) [.ref (g.2.1 0), .int a1, .int a2] σ r σ' :=
  MetI (by decide +kernel) hok (Nat.le_of_ble_eq_true rfl) (fun E _ C hR => w_Top_order C hR hf)
set_option maxRecDepth 4000 in
theorem w_Shelf_lowest {E : Ev} {g : Gx} {r : Int64} {σ : St} (C : Cx E classes 3 (wC g) b_Shelf_lowest "WithTheReds$Shelf" 1) (hR : RetL E classes 3 (wC g) b_Shelf_lowest r σ) {j0 : Nat} {a1 : Int64} (hj0 : j0 < 6) (hf : f_Shelf_lowest σ j0 a1 = some r) : V E classes 3 (wC g) σ 0 [(0, .ref (g.2.1 (42 + 2 * j0))), (1, .long a1)] [] := by
  unfold f_Shelf_lowest at hf
  refine V_aload_n C 0 d_Shelf_lowest_0 rfl ?_
  refine gC_Shelf_sort (v := σ.1 (4201 + 200 * j0)) C hj0 fl_Shelf_15 rfl d_Shelf_lowest_1 ?_
  by_cases hc0 : (σ.1 (4201 + 200 * j0)) = 0
  · have hf := ite_t hf hc0
    refine V_tin (off := 36) (tgt := 40) C d_Shelf_lowest_4 (by rw [hc0]; decide) (by rw [hc0]; decide) (by rw [hc0]; decide) (by decide) ?_
    refine V_lload_n C 1 d_Shelf_lowest_40 rfl ?_
    refine V_l2i C d_Shelf_lowest_41 ?_
    refine V_i2b C d_Shelf_lowest_42 ?_
    refine V_i2l C d_Shelf_lowest_43 ?_
    exact V_lret hR hf d_Shelf_lowest_44
  have hf := ite_f hf hc0
  by_cases hc1 : (σ.1 (4201 + 200 * j0)) = 1
  · have hf := ite_t hf hc1
    refine V_tin (off := 41) (tgt := 45) C d_Shelf_lowest_4 (by rw [hc1]; decide) (by rw [hc1]; decide) (by rw [hc1]; decide) (by decide) ?_
    refine V_lload_n C 1 d_Shelf_lowest_45 rfl ?_
    refine V_l2i C d_Shelf_lowest_46 ?_
    refine V_i2s C d_Shelf_lowest_47 ?_
    refine V_i2l C d_Shelf_lowest_48 ?_
    exact V_lret hR hf d_Shelf_lowest_49
  have hf := ite_f hf hc1
  by_cases hc2 : (σ.1 (4201 + 200 * j0)) = 2
  · have hf := ite_t hf hc2
    refine V_tin (off := 46) (tgt := 50) C d_Shelf_lowest_4 (by rw [hc2]; decide) (by rw [hc2]; decide) (by rw [hc2]; decide) (by decide) ?_
    refine V_lload_n C 1 d_Shelf_lowest_50 rfl ?_
    refine V_l2i C d_Shelf_lowest_51 ?_
    refine V_i2l C d_Shelf_lowest_52 ?_
    exact V_lret hR hf d_Shelf_lowest_53
  have hf := ite_f hf hc2
  by_cases hc3 : (σ.1 (4201 + 200 * j0)) = 3
  · have hf := ite_t hf hc3
    refine V_tin (off := 62) (tgt := 66) C d_Shelf_lowest_4 (by rw [hc3]; decide) (by rw [hc3]; decide) (by rw [hc3]; decide) (by decide) ?_
    refine V_lload_n C 1 d_Shelf_lowest_66 rfl ?_
    exact V_lret hR hf d_Shelf_lowest_67
  have hf := ite_f hf hc3
  by_cases hc4 : (σ.1 (4201 + 200 * j0)) = 4
  · have hf := ite_t hf hc4
    refine V_tin (off := 50) (tgt := 54) C d_Shelf_lowest_4 (by rw [hc4]; decide) (by rw [hc4]; decide) (by rw [hc4]; decide) (by decide) ?_
    refine V_lload_n C 1 d_Shelf_lowest_54 rfl ?_
    refine V_lconst (v := 0) C d_Shelf_lowest_55 (by decide) ?_
    refine V_lcmp C d_Shelf_lowest_56 ?_
    refine V_if_ne (pc := 57) (tgt := 64) C d_Shelf_lowest_57 (by decide) hf (fun hf => ?_) (fun hf => ?_)
    · refine V_lconst (v := 1) C d_Shelf_lowest_64 (by decide) ?_
      exact V_lret hR hf d_Shelf_lowest_65
    · refine V_lconst (v := 0) C d_Shelf_lowest_60 (by decide) ?_
      refine V_goto (pc := 61) (tgt := 65) C d_Shelf_lowest_61 (by decide) ?_
      exact V_lret hR hf d_Shelf_lowest_65
  have hf := ite_f hf hc4
  have hc0t := neT (k := 0) 0 (by decide) hc0
  have hc1t := neT (k := 1) 1 (by decide) hc1
  have hc2t := neT (k := 2) 2 (by decide) hc2
  have hc3t := neT (k := 3) 3 (by decide) hc3
  have hc4t := neT (k := 4) 4 (by decide) hc4
  refine V_tout (tgt := 66) C d_Shelf_lowest_4 (by omega) (by decide) ?_
  refine V_lload_n C 1 d_Shelf_lowest_66 rfl ?_
  exact V_lret hR hf d_Shelf_lowest_67
theorem c_Shelf_lowest {l : Launch} {g : Gx} (hok : Wok classes (wC g)) {σ : St} {j0 : Nat} {a1 : Int64} {r : Int64} (hj0 : j0 < 6) (hf : f_Shelf_lowest σ j0 a1 = some r) : CtL classes l y_Shelf_lowest b_Shelf_lowest 3 (some .long) 1 (wC g) [.ref (g.2.1 (42 + 2 * j0)), .long a1] σ r σ :=
  MetL (by decide +kernel) hok (Nat.le_of_ble_eq_true rfl) (fun E _ C hR => w_Shelf_lowest C hR hj0 hf)
set_option maxRecDepth 4000 in
theorem w_Shelf_write {E : Ev} {g : Gx} {σ' : St} (C : Cx E classes 4 (wC g) b_Shelf_write "WithTheReds$Shelf" 3) (hR : RetV E classes 4 (wC g) b_Shelf_write σ') {σ : St} {j0 : Nat} {a1 : Int32} {a2 : Int64} (hj0 : j0 < 6) (hf : f_Shelf_write σ j0 a1 a2 = some σ') : V E classes 4 (wC g) σ 0 [(0, .ref (g.2.1 (42 + 2 * j0))), (1, .int a1), (2, .long a2)] [] := by
  unfold f_Shelf_write at hf
  refine V_aload_n C 0 d_Shelf_write_0 rfl ?_
  refine V_iload_n C 1 d_Shelf_write_1 rfl ?_
  obtain ⟨r2_1, hg, hf⟩ := bd hf
  refine V_callVi C [.int a1] (c_Shelf_hasPlace C.2.2.2.2.2.2.2.1 hj0 hg) (by decide) cw_Shelf_42 (42 + 2 * j0) (sh_at hj0) rfl rfl rfl (Nat.le_of_ble_eq_true rfl) rfl d_Shelf_write_2 ?_
  refine V_if_eq (pc := 5) (tgt := 19) C d_Shelf_write_5 (by decide) hf (fun hf => ?_) (fun hf => ?_)
  · exact V_vret hR hf d_Shelf_write_19
  · refine V_aload_n C 0 d_Shelf_write_8 rfl ?_
    refine gC_Shelf_elements C hj0 fl_Shelf_11 d_Shelf_write_9 ?_
    refine V_iload_n C 1 d_Shelf_write_12 rfl ?_
    refine V_aload_n C 0 d_Shelf_write_13 rfl ?_
    refine V_lload_n C 2 d_Shelf_write_14 rfl ?_
    obtain ⟨r15_2, hg, hf⟩ := bd hf
    refine V_callVl C [.long a2] (c_Shelf_lowest C.2.2.2.2.2.2.2.1 hj0 hg) (by decide) cw_Shelf_46 (42 + 2 * j0) (sh_at hj0) rfl rfl rfl (Nat.le_of_ble_eq_true rfl) rfl d_Shelf_write_15 ?_
    obtain ⟨hi18_3, hf⟩ := gu hf
    refine sC_she C hj0 hi18_3 d_Shelf_write_18 ?_
    exact V_vret hR hf d_Shelf_write_19
theorem c_Shelf_write {l : Launch} {g : Gx} (hok : Wok classes (wC g)) {σ : St} {j0 : Nat} {a1 : Int32} {a2 : Int64} {σ' : St} (hj0 : j0 < 6) (hf : f_Shelf_write σ j0 a1 a2 = some σ') : CtV classes l y_Shelf_write b_Shelf_write 4 none 3 (wC g) [.ref (g.2.1 (42 + 2 * j0)), .int a1, .long a2] σ σ' :=
  MetV (by decide +kernel) hok (Nat.le_of_ble_eq_true rfl) (fun E _ C hR => w_Shelf_write C hR hj0 hf)
set_option maxRecDepth 4000 in
theorem w_Top_put {E : Ev} {g : Gx} {r : Int32} {σ' : St} (C : Cx E classes 6 (wC g) b_Top_put "WithTheReds" 4) (hR : RetI E classes 6 (wC g) b_Top_put r σ') {σ : St} {a1 : Int32} {a2 : Int32} {a3 : Int64} (hf : f_Top_put σ a1 a2 a3 = some (r, σ')) : V E classes 6 (wC g) σ 0 [(0, .ref (g.2.1 0)), (1, .int a1), (2, .int a2), (3, .long a3)] [] := by
  unfold f_Top_put at hf
  refine V_aload_n C 0 d_Top_put_0 rfl ?_
  refine V_iload_n C 1 d_Top_put_1 rfl ?_
  refine V_iload_n C 2 d_Top_put_2 rfl ?_
  obtain ⟨r3_1, hg, hf⟩ := bd hf
  refine V_callVi C [.int a1, .int a2] (c_Top_placeRefusal C.2.2.2.2.2.2.2.1 hg) (by decide) cw_Top_354 0 rfl rfl rfl rfl (Nat.le_of_ble_eq_true rfl) rfl d_Top_put_3 ?_
  refine V_istore C d_Top_put_6 (by decide) rfl ?_
  refine V_iload C 0 d_Top_put_8 rfl ?_
  refine V_if_eq (pc := 10) (tgt := 16) C d_Top_put_10 (by decide) hf (fun hf => ?_) (fun hf => ?_)
  · refine V_aload_n C 1 d_Top_put_16 rfl ?_
    refine gC_Top_shelves C fl_Top_87 d_Top_put_17 ?_
    refine V_iload_n C 2 d_Top_put_20 rfl ?_
    obtain ⟨hi21_2, hf⟩ := gu hf
    refine V_shelves C hi21_2 d_Top_put_21 ?_
    refine V_iload_n C 3 d_Top_put_22 rfl ?_
    refine V_lload_n C 4 d_Top_put_23 rfl ?_
    obtain ⟨σ24_3, hg, hf⟩ := bd hf
    refine V_callVv C [.int a2, .long a3] (c_Shelf_write C.2.2.2.2.2.2.2.1 (inb6 hi21_2) hg) (by decide) cw_Top_357 (42 + 2 * (a1.toNatClampNeg)) (sh_at (inb6 hi21_2)) rfl rfl rfl (Nat.le_of_ble_eq_true rfl) rfl d_Top_put_24 ?_
    refine V_iconst (v := 1) C d_Top_put_27 (by decide) ?_
    exact V_iretW hR hf d_Top_put_28
  · refine V_iload C 0 d_Top_put_13 rfl ?_
    exact V_iretW hR hf d_Top_put_15
theorem c_Top_put {l : Launch} {g : Gx} (hok : Wok classes (wC g)) {σ : St} {a1 : Int32} {a2 : Int32} {a3 : Int64} {r : Int32} {σ' : St} (hf : f_Top_put σ a1 a2 a3 = some (r, σ')) : CtI classes l y_Top_put b_Top_put 6 (some .int) 4 (wC g) [.ref (g.2.1 0), .int a1, .int a2, .long a3] σ r σ' :=
  MetI (by decide +kernel) hok (Nat.le_of_ble_eq_true rfl) (fun E _ C hR => w_Top_put C hR hf)
set_option maxRecDepth 4000 in
theorem w_Rope_hangingAt_4 {E : Ev} {g : Gx} {r : Int32} {σ : St} (C : Cx E classes 4 (wC g) b_Rope_hangingAt "WithTheReds$Rope" 1) (hR : RetI E classes 4 (wC g) b_Rope_hangingAt r σ) : ∀ (n : Nat) (x1 : Int32) (x2 : Int32) (x3 : Int32), f_Rope_hangingAt_4 n σ x1 x2 x3 = some r → V E classes 4 (wC g) σ 4 [(0, .ref (g.2.1 27)), (1, .int x1), (2, .int x2), (3, .int x3)] [] := by
  intro n
  induction n with
  | zero => intro x1 x2 x3 hf; exact absurd hf (by unfold f_Rope_hangingAt_4; exact nofun)
  | succ n ih =>
    intro x1 x2 x3 hf
    unfold f_Rope_hangingAt_4 at hf
    refine V_iload_n C 3 d_Rope_hangingAt_4 rfl ?_
    refine V_aload_n C 0 d_Rope_hangingAt_5 rfl ?_
    refine gC_Rope_hung (v := σ.1 2705) C fl_Rope_30 rfl d_Rope_hangingAt_6 ?_
    refine V_icmp_ge (pc := 9) (tgt := 49) C d_Rope_hangingAt_9 (by decide) hf (fun hf => ?_) (fun hf => ?_)
    · refine V_iload_n C 2 d_Rope_hangingAt_49 rfl ?_
      exact V_iret hR hf d_Rope_hangingAt_50
    · refine V_aload_n C 0 d_Rope_hangingAt_12 rfl ?_
      refine gC_Rope_hungAt C fl_Rope_17 d_Rope_hangingAt_13 ?_
      refine V_iload_n C 3 d_Rope_hangingAt_16 rfl ?_
      obtain ⟨hi17_1, hf⟩ := gu hf
      refine aC_29 (v := σ.2.1 29 x3.toNatClampNeg) C hi17_1 rfl d_Rope_hangingAt_17 ?_
      refine V_iload_n C 1 d_Rope_hangingAt_18 rfl ?_
      refine V_icmp_gt (pc := 19) (tgt := 43) C d_Rope_hangingAt_19 (by decide) hf (fun hf => ?_) (fun hf => ?_)
      · refine V_iinc (v := x3 + (1 : Int32)) C 3 d_Rope_hangingAt_43 rfl rfl (by decide) rfl ?_
        refine V_goto (pc := 46) (tgt := 4) C d_Rope_hangingAt_46 (by decide) ?_
        refine V.sub [1, 2, 3, 0] rfl ?_
        exact ih x1 x2 (x3 + (1 : Int32)) hf
      · refine V_iload_n C 1 d_Rope_hangingAt_22 rfl ?_
        refine V_aload_n C 0 d_Rope_hangingAt_23 rfl ?_
        refine gC_Rope_dryAt C fl_Rope_20 d_Rope_hangingAt_24 ?_
        refine V_iload_n C 3 d_Rope_hangingAt_27 rfl ?_
        obtain ⟨hi28_2, hf⟩ := gu hf
        refine aC_30 (v := σ.2.1 30 x3.toNatClampNeg) C hi28_2 rfl d_Rope_hangingAt_28 ?_
        refine V_icmp_ge (pc := 29) (tgt := 43) C d_Rope_hangingAt_29 (by decide) hf (fun hf => ?_) (fun hf => ?_)
        · refine V_iinc (v := x3 + (1 : Int32)) C 3 d_Rope_hangingAt_43 rfl rfl (by decide) rfl ?_
          refine V_goto (pc := 46) (tgt := 4) C d_Rope_hangingAt_46 (by decide) ?_
          refine V.sub [1, 2, 3, 0] rfl ?_
          exact ih x1 x2 (x3 + (1 : Int32)) hf
        · refine V_iload_n C 2 d_Rope_hangingAt_32 rfl ?_
          refine V_iconst (v := 1) C d_Rope_hangingAt_33 (by decide) ?_
          refine V_aload_n C 0 d_Rope_hangingAt_34 rfl ?_
          refine gC_Rope_chain C fl_Rope_11 d_Rope_hangingAt_35 ?_
          refine V_iload_n C 3 d_Rope_hangingAt_38 rfl ?_
          obtain ⟨hi39_3, hf⟩ := gu hf
          refine aC_28 (v := σ.2.1 28 x3.toNatClampNeg) C hi39_3 rfl d_Rope_hangingAt_39 ?_
          refine V_ishl C d_Rope_hangingAt_40 ?_
          refine V_ior C d_Rope_hangingAt_41 ?_
          refine V_istore_n C d_Rope_hangingAt_42 (by decide) rfl ?_
          refine V_iinc (v := x3 + (1 : Int32)) C 3 d_Rope_hangingAt_43 rfl rfl (by decide) rfl ?_
          refine V_goto (pc := 46) (tgt := 4) C d_Rope_hangingAt_46 (by decide) ?_
          refine V.sub [2, 3, 1, 0] rfl ?_
          exact ih x1 (x2 ||| ((1 : Int32) <<< ((σ.2.1 28 x3.toNatClampNeg) &&& 31))) (x3 + (1 : Int32)) hf
set_option maxRecDepth 4000 in
theorem w_Rope_hangingAt {E : Ev} {g : Gx} {r : Int32} {σ : St} (C : Cx E classes 4 (wC g) b_Rope_hangingAt "WithTheReds$Rope" 1) (hR : RetI E classes 4 (wC g) b_Rope_hangingAt r σ) {a1 : Int32} (hf : f_Rope_hangingAt σ a1 = some r) : V E classes 4 (wC g) σ 0 [(0, .ref (g.2.1 27)), (1, .int a1)] [] := by
  unfold f_Rope_hangingAt at hf
  refine V_iconst (v := 0) C d_Rope_hangingAt_0 (by decide) ?_
  refine V_istore_n C d_Rope_hangingAt_1 (by decide) rfl ?_
  refine V_iconst (v := 0) C d_Rope_hangingAt_2 (by decide) ?_
  refine V_istore_n C d_Rope_hangingAt_3 (by decide) rfl ?_
  refine V.sub [2, 3, 1, 0] rfl ?_
  exact w_Rope_hangingAt_4 C hR FU a1 (0 : Int32) (0 : Int32) hf
theorem c_Rope_hangingAt {l : Launch} {g : Gx} (hok : Wok classes (wC g)) {σ : St} {a1 : Int32} {r : Int32} (hf : f_Rope_hangingAt σ a1 = some r) : CtI classes l y_Rope_hangingAt b_Rope_hangingAt 4 (some .int) 1 (wC g) [.ref (g.2.1 27), .int a1] σ r σ :=
  MetI (by decide +kernel) hok (Nat.le_of_ble_eq_true rfl) (fun E _ C hR => w_Rope_hangingAt C hR hf)
set_option maxRecDepth 4000 in
theorem w_Top_rain {E : Ev} {g : Gx} {r : Int32} {σ' : St} (C : Cx E classes 3 (wC g) b_Top_rain "WithTheReds" 6) (hR : RetI E classes 3 (wC g) b_Top_rain r σ') {σ : St} {a1 : Int32} {a2 : Int32} (hf : f_Top_rain σ a1 a2 = some (r, σ')) : V E classes 3 (wC g) σ 0 [(0, .ref (g.2.1 0)), (1, .int a1), (2, .int a2)] [] := by
  unfold f_Top_rain at hf
  refine V_aload_n C 0 d_Top_rain_0 rfl ?_
  refine V_iload_n C 1 d_Top_rain_1 rfl ?_
  obtain ⟨r2_1, hg, hf⟩ := bd hf
  refine V_callVi C [.int a1] (c_Top_isSet C.2.2.2.2.2.2.2.1 hg) (by decide) cw_Top_160 0 rfl rfl rfl rfl (Nat.le_of_ble_eq_true rfl) rfl d_Top_rain_2 ?_
  refine V_if_eq (pc := 5) (tgt := 19) C d_Top_rain_5 (by decide) hf (fun hf => ?_) (fun hf => ?_)
  · refine V_iconst (v := -1) C d_Top_rain_19 (by decide) ?_
    exact V_iretW hR hf d_Top_rain_20
  · refine V_iload_n C 2 d_Top_rain_8 rfl ?_
    refine V_iconst (v := 0) C d_Top_rain_9 (by decide) ?_
    refine V_sipush (v := 999) C d_Top_rain_10 (by decide) ?_
    obtain ⟨r13_2, hg, hf⟩ := bd hf
    refine V_callSi C [.int a2, .int (0 : Int32), .int (999 : Int32)] (c_Top_within C.2.2.2.2.2.2.2.1 hg) (by decide) cw_Top_108 rfl (Nat.le_of_ble_eq_true rfl) rfl d_Top_rain_13 ?_
    refine V_if_ne (pc := 16) (tgt := 21) C d_Top_rain_16 (by decide) hf (fun hf => ?_) (fun hf => ?_)
    · refine V_aload_n C 0 d_Top_rain_21 rfl ?_
      refine gC_Top_rope C fl_Top_60 d_Top_rain_22 ?_
      refine V_iload_n C 1 d_Top_rain_25 rfl ?_
      obtain ⟨σ26_3, hg, hf⟩ := bd hf
      refine V_callVv C [.int a1] (c_Rope_hang C.2.2.2.2.2.2.2.1 hg) (by decide) cw_Top_249 27 rfl rfl rfl rfl (Nat.le_of_ble_eq_true rfl) rfl d_Top_rain_26 ?_
      refine V_aload_n C 0 d_Top_rain_29 rfl ?_
      refine gC_Top_rope C fl_Top_60 d_Top_rain_30 ?_
      refine V_iload_n C 2 d_Top_rain_33 rfl ?_
      obtain ⟨r34_4, hg, hf⟩ := bd hf
      refine V_callVi C [.int a2] (c_Rope_hangingAt C.2.2.2.2.2.2.2.1 hg) (by decide) cw_Top_268 27 rfl rfl rfl rfl (Nat.le_of_ble_eq_true rfl) rfl d_Top_rain_34 ?_
      exact V_iretW hR hf d_Top_rain_37
    · refine V_iconst (v := -1) C d_Top_rain_19 (by decide) ?_
      exact V_iretW hR hf d_Top_rain_20
theorem c_Top_rain {l : Launch} {g : Gx} (hok : Wok classes (wC g)) {σ : St} {a1 : Int32} {a2 : Int32} {r : Int32} {σ' : St} (hf : f_Top_rain σ a1 a2 = some (r, σ')) : CtI classes l y_Top_rain b_Top_rain 3 (some .int) 6 (wC g) [.ref (g.2.1 0), .int a1, .int a2] σ r σ' :=
  MetI (by decide +kernel) hok (Nat.le_of_ble_eq_true rfl) (fun E _ C hR => w_Top_rain C hR hf)
set_option maxRecDepth 4000 in
theorem w_Changes_doAgain {E : Ev} {g : Gx} {σ' : St} (C : Cx E classes 2 (wC g) b_Changes_doAgain "WithTheReds$Changes" 2) (hR : RetV E classes 2 (wC g) b_Changes_doAgain σ') {σ : St} (hf : f_Changes_doAgain σ = some σ') : V E classes 2 (wC g) σ 0 [(0, .ref (g.2.1 5)), (1, .ref (g.2.1 1))] [] := by
  unfold f_Changes_doAgain at hf
  refine V_aload_n C 0 d_Changes_doAgain_0 rfl ?_
  refine gC_Changes_undone (v := σ.1 504) C fl_Changes_26 rfl d_Changes_doAgain_1 ?_
  refine V_if_le (pc := 4) (tgt := 58) C d_Changes_doAgain_4 (by decide) hf (fun hf => ?_) (fun hf => ?_)
  · exact V_vret hR hf d_Changes_doAgain_58
  · refine V_aload_n C 0 d_Changes_doAgain_7 rfl ?_
    refine gC_Changes_done (v := σ.1 503) C fl_Changes_19 rfl d_Changes_doAgain_8 ?_
    refine V_bipush (v := 40) C d_Changes_doAgain_11 (by decide) ?_
    refine V_icmp_ge (pc := 13) (tgt := 58) C d_Changes_doAgain_13 (by decide) hf (fun hf => ?_) (fun hf => ?_)
    · exact V_vret hR hf d_Changes_doAgain_58
    · refine V_aload_n C 1 d_Changes_doAgain_16 rfl ?_
      refine V_aload_n C 0 d_Changes_doAgain_17 rfl ?_
      refine gC_Changes_slots C fl_Changes_9 d_Changes_doAgain_18 ?_
      refine V_aload_n C 0 d_Changes_doAgain_21 rfl ?_
      refine gC_Changes_done (v := σ.1 503) C fl_Changes_19 rfl d_Changes_doAgain_22 ?_
      obtain ⟨hi25_1, hf⟩ := gu hf
      refine aC_6 (v := σ.2.1 6 (σ.1 503).toNatClampNeg) C hi25_1 rfl d_Changes_doAgain_25 ?_
      refine V_aload_n C 0 d_Changes_doAgain_26 rfl ?_
      refine gC_Changes_after C fl_Changes_16 d_Changes_doAgain_27 ?_
      refine V_aload_n C 0 d_Changes_doAgain_30 rfl ?_
      refine gC_Changes_done (v := σ.1 503) C fl_Changes_19 rfl d_Changes_doAgain_31 ?_
      obtain ⟨hi34_2, hf⟩ := gu hf
      refine aC_8 (v := σ.2.1 8 (σ.1 503).toNatClampNeg) C hi34_2 rfl d_Changes_doAgain_34 ?_
      obtain ⟨σ35_3, hg, hf⟩ := bd hf
      refine V_callVv C [.int (σ.2.1 6 (σ.1 503).toNatClampNeg), .int (σ.2.1 8 (σ.1 503).toNatClampNeg)] (c_Basket_write C.2.2.2.2.2.2.2.1 hg) (by decide) cw_Changes_35 1 rfl rfl rfl rfl (Nat.le_of_ble_eq_true rfl) rfl d_Changes_doAgain_35 ?_
      refine V_aload_n C 0 d_Changes_doAgain_38 rfl ?_
      refine V_dup C d_Changes_doAgain_39 rfl ?_
      refine gC_Changes_done (v := σ35_3.1 503) C fl_Changes_19 rfl d_Changes_doAgain_40 ?_
      refine V_iconst (v := 1) C d_Changes_doAgain_43 (by decide) ?_
      refine V_iadd C d_Changes_doAgain_44 ?_
      refine pC_Changes_done C fl_Changes_19 d_Changes_doAgain_45 ?_
      refine V_aload_n C 0 d_Changes_doAgain_48 rfl ?_
      refine V_dup C d_Changes_doAgain_49 rfl ?_
      refine gC_Changes_undone (v := σ35_3.1 504) C fl_Changes_26 rfl d_Changes_doAgain_50 ?_
      refine V_iconst (v := 1) C d_Changes_doAgain_53 (by decide) ?_
      refine V_isub C d_Changes_doAgain_54 ?_
      refine pC_Changes_undone C fl_Changes_26 d_Changes_doAgain_55 ?_
      exact V_vret hR hf d_Changes_doAgain_58
theorem c_Changes_doAgain {l : Launch} {g : Gx} (hok : Wok classes (wC g)) {σ : St} {σ' : St} (hf : f_Changes_doAgain σ = some σ') : CtV classes l y_Changes_doAgain b_Changes_doAgain 2 none 2 (wC g) [.ref (g.2.1 5), .ref (g.2.1 1)] σ σ' :=
  MetV (by decide +kernel) hok (Nat.le_of_ble_eq_true rfl) (fun E _ C hR => w_Changes_doAgain C hR hf)
set_option maxRecDepth 4000 in
theorem w_Top_redo {E : Ev} {g : Gx} {r : Int32} {σ' : St} (C : Cx E classes 1 (wC g) b_Top_redo "WithTheReds" 3) (hR : RetI E classes 1 (wC g) b_Top_redo r σ') {σ : St} (hf : f_Top_redo σ = some (r, σ')) : V E classes 1 (wC g) σ 0 [(0, .ref (g.2.1 0))] [] := by
  unfold f_Top_redo at hf
  refine V_aload_n C 0 d_Top_redo_0 rfl ?_
  refine gC_Top_changes C fl_Top_74 d_Top_redo_1 ?_
  refine gC_Changes_undone (v := σ.1 504) C fl_Top_328 rfl d_Top_redo_4 ?_
  refine V_if_ne (pc := 7) (tgt := 13) C d_Top_redo_7 (by decide) hf (fun hf => ?_) (fun hf => ?_)
  · refine V_aload_n C 0 d_Top_redo_13 rfl ?_
    refine gC_Top_changes C fl_Top_74 d_Top_redo_14 ?_
    refine V_aload_n C 0 d_Top_redo_17 rfl ?_
    refine gC_Top_basket C fl_Top_10 d_Top_redo_18 ?_
    obtain ⟨σ21_1, hg, hf⟩ := bd hf
    refine V_callVv C [.ref (g.2.1 1)] (c_Changes_doAgain C.2.2.2.2.2.2.2.1 hg) (by decide) cw_Top_331 5 rfl rfl rfl rfl (Nat.le_of_ble_eq_true rfl) rfl d_Top_redo_21 ?_
    refine V_aload_n C 0 d_Top_redo_24 rfl ?_
    refine gC_Top_changes C fl_Top_74 d_Top_redo_25 ?_
    refine gC_Changes_undone (v := σ21_1.1 504) C fl_Top_328 rfl d_Top_redo_28 ?_
    exact V_iretW hR hf d_Top_redo_31
  · refine V_bipush (v := -5) C d_Top_redo_10 (by decide) ?_
    exact V_iretW hR hf d_Top_redo_12
theorem c_Top_redo {l : Launch} {g : Gx} (hok : Wok classes (wC g)) {σ : St} {r : Int32} {σ' : St} (hf : f_Top_redo σ = some (r, σ')) : CtI classes l y_Top_redo b_Top_redo 1 (some .int) 3 (wC g) [.ref (g.2.1 0)] σ r σ' :=
  MetI (by decide +kernel) hok (Nat.le_of_ble_eq_true rfl) (fun E _ C hR => w_Top_redo C hR hf)
set_option maxRecDepth 4000 in
theorem w_Shelf_holdRow_26 {E : Ev} {g : Gx} {σ' : St} (C : Cx E classes 4 (wC g) b_Shelf_holdRow "WithTheReds$Shelf" 1) (hR : RetV E classes 4 (wC g) b_Shelf_holdRow σ') : ∀ (n : Nat) (σ : St) (jx0 : Nat) (x3 : Int32) (hjx0 : jx0 < 6), f_Shelf_holdRow_26 n σ jx0 x3 = some σ' → V E classes 4 (wC g) σ 26 [(0, .ref (g.2.1 (42 + 2 * jx0))), (3, .int x3)] [] := by
  intro n
  induction n with
  | zero => intro σ jx0 x3 hjx0 hf; exact absurd hf (by unfold f_Shelf_holdRow_26; exact nofun)
  | succ n ih =>
    intro σ jx0 x3 hjx0 hf
    unfold f_Shelf_holdRow_26 at hf
    refine V_iload_n C 1 d_Shelf_holdRow_26 rfl ?_
    refine V_aload_n C 0 d_Shelf_holdRow_27 rfl ?_
    refine gC_Shelf_length (v := σ.1 (4203 + 200 * jx0)) C hjx0 fl_Shelf_26 rfl d_Shelf_holdRow_28 ?_
    refine V_icmp_ge (pc := 31) (tgt := 47) C d_Shelf_holdRow_31 (by decide) hf (fun hf => ?_) (fun hf => ?_)
    · exact V_vret hR hf d_Shelf_holdRow_47
    · refine V_aload_n C 0 d_Shelf_holdRow_34 rfl ?_
      refine gC_Shelf_elements C hjx0 fl_Shelf_11 d_Shelf_holdRow_35 ?_
      refine V_iload_n C 1 d_Shelf_holdRow_38 rfl ?_
      refine V_lconst (v := 0) C d_Shelf_holdRow_39 (by decide) ?_
      obtain ⟨hi40_1, hf⟩ := gu hf
      refine sC_she C hjx0 hi40_1 d_Shelf_holdRow_40 ?_
      refine V_iinc (v := x3 + (1 : Int32)) C 1 d_Shelf_holdRow_41 rfl rfl (by decide) rfl ?_
      refine V_goto (pc := 44) (tgt := 26) C d_Shelf_holdRow_44 (by decide) ?_
      refine V.sub [1, 0] rfl ?_
      exact ih (upL σ (43 + 2 * jx0) x3.toNatClampNeg (0 : Int64)) jx0 (x3 + (1 : Int32)) hjx0 hf
set_option maxRecDepth 4000 in
theorem w_Shelf_holdRow {E : Ev} {g : Gx} {σ' : St} (C : Cx E classes 4 (wC g) b_Shelf_holdRow "WithTheReds$Shelf" 1) (hR : RetV E classes 4 (wC g) b_Shelf_holdRow σ') {σ : St} {j0 : Nat} {a1 : Int32} {a2 : Int32} (hj0 : j0 < 6) (hf : f_Shelf_holdRow σ j0 a1 a2 = some σ') : V E classes 4 (wC g) σ 0 [(0, .ref (g.2.1 (42 + 2 * j0))), (1, .int a1), (2, .int a2)] [] := by
  unfold f_Shelf_holdRow at hf
  refine V_aload_n C 0 d_Shelf_holdRow_0 rfl ?_
  refine V_iload_n C 1 d_Shelf_holdRow_1 rfl ?_
  refine pC_Shelf_sort C hj0 fl_Shelf_15 d_Shelf_holdRow_2 ?_
  refine V_aload_n C 0 d_Shelf_holdRow_5 rfl ?_
  refine V_iconst (v := -1) C d_Shelf_holdRow_6 (by decide) ?_
  refine pC_Shelf_body C hj0 fl_Shelf_19 d_Shelf_holdRow_7 ?_
  refine V_aload_n C 0 d_Shelf_holdRow_10 rfl ?_
  refine V_iconst (v := 0) C d_Shelf_holdRow_11 (by decide) ?_
  refine V_iload_n C 2 d_Shelf_holdRow_12 rfl ?_
  refine V_bipush (v := 60) C d_Shelf_holdRow_13 (by decide) ?_
  refine V_min C ml_Shelf_33 (by decide) (Nat.le_of_ble_eq_true rfl) d_Shelf_holdRow_15 ?_
  refine V_max C ml_Shelf_39 (by decide) (Nat.le_of_ble_eq_true rfl) d_Shelf_holdRow_18 ?_
  refine pC_Shelf_length C hj0 fl_Shelf_26 d_Shelf_holdRow_21 ?_
  refine V_iconst (v := 0) C d_Shelf_holdRow_24 (by decide) ?_
  refine V_istore_n C d_Shelf_holdRow_25 (by decide) rfl ?_
  refine V.sub [1, 0] rfl ?_
  exact w_Shelf_holdRow_26 C hR FU (upI (upI (upI σ (4201 + 200 * j0) a1) (4202 + 200 * j0) (-1 : Int32)) (4203 + 200 * j0) (imax (0 : Int32) (imin a2 (60 : Int32)))) j0 (0 : Int32) hj0 hf
theorem c_Shelf_holdRow {l : Launch} {g : Gx} (hok : Wok classes (wC g)) {σ : St} {j0 : Nat} {a1 : Int32} {a2 : Int32} {σ' : St} (hj0 : j0 < 6) (hf : f_Shelf_holdRow σ j0 a1 a2 = some σ') : CtV classes l y_Shelf_holdRow b_Shelf_holdRow 4 none 1 (wC g) [.ref (g.2.1 (42 + 2 * j0)), .int a1, .int a2] σ σ' :=
  MetV (by decide +kernel) hok (Nat.le_of_ble_eq_true rfl) (fun E _ C hR => w_Shelf_holdRow C hR hj0 hf)
set_option maxRecDepth 4000 in
theorem w_Top_row {E : Ev} {g : Gx} {r : Int32} {σ' : St} (C : Cx E classes 4 (wC g) b_Top_row "WithTheReds" 3) (hR : RetI E classes 4 (wC g) b_Top_row r σ') {σ : St} {a1 : Int32} {a2 : Int32} {a3 : Int32} (hf : f_Top_row σ a1 a2 a3 = some (r, σ')) : V E classes 4 (wC g) σ 0 [(0, .ref (g.2.1 0)), (1, .int a1), (2, .int a2), (3, .int a3)] [] := by
  unfold f_Top_row at hf
  refine V_iload_n C 1 d_Top_row_0 rfl ?_
  obtain ⟨r1_1, hg, hf⟩ := bd hf
  refine V_callSi C [.int a1] (c_Top_isShelf C.2.2.2.2.2.2.2.1 hg) (by decide) cw_Top_104 rfl (Nat.le_of_ble_eq_true rfl) rfl d_Top_row_1 ?_
  refine V_if_eq (pc := 4) (tgt := 22) C d_Top_row_4 (by decide) hf (fun hf => ?_) (fun hf => ?_)
  · refine V_iconst (v := -1) C d_Top_row_22 (by decide) ?_
    exact V_iretW hR hf d_Top_row_23
  · refine V_iload_n C 2 d_Top_row_7 rfl ?_
    refine V_iconst (v := 0) C d_Top_row_8 (by decide) ?_
    refine V_iconst (v := 4) C d_Top_row_9 (by decide) ?_
    obtain ⟨r10_2, hg, hf⟩ := bd hf
    refine V_callSi C [.int a2, .int (0 : Int32), .int (4 : Int32)] (c_Top_within C.2.2.2.2.2.2.2.1 hg) (by decide) cw_Top_108 rfl (Nat.le_of_ble_eq_true rfl) rfl d_Top_row_10 ?_
    refine V_if_eq (pc := 13) (tgt := 22) C d_Top_row_13 (by decide) hf (fun hf => ?_) (fun hf => ?_)
    · refine V_iconst (v := -1) C d_Top_row_22 (by decide) ?_
      exact V_iretW hR hf d_Top_row_23
    · refine V_iload_n C 3 d_Top_row_16 rfl ?_
      refine V_bipush (v := 60) C d_Top_row_17 (by decide) ?_
      refine V_icmp_le (pc := 19) (tgt := 24) C d_Top_row_19 (by decide) hf (fun hf => ?_) (fun hf => ?_)
      · refine V_iload_n C 3 d_Top_row_24 rfl ?_
        refine V_if_ge (pc := 25) (tgt := 31) C d_Top_row_25 (by decide) hf (fun hf => ?_) (fun hf => ?_)
        · refine V_aload_n C 0 d_Top_row_31 rfl ?_
          refine gC_Top_shelves C fl_Top_87 d_Top_row_32 ?_
          refine V_iload_n C 1 d_Top_row_35 rfl ?_
          obtain ⟨hi36_3, hf⟩ := gu hf
          refine V_shelves C hi36_3 d_Top_row_36 ?_
          refine V_iload_n C 2 d_Top_row_37 rfl ?_
          refine V_iload_n C 3 d_Top_row_38 rfl ?_
          obtain ⟨σ39_4, hg, hf⟩ := bd hf
          refine V_callVv C [.int a2, .int a3] (c_Shelf_holdRow C.2.2.2.2.2.2.2.1 (inb6 hi36_3) hg) (by decide) cw_Top_351 (42 + 2 * (a1.toNatClampNeg)) (sh_at (inb6 hi36_3)) rfl rfl rfl (Nat.le_of_ble_eq_true rfl) rfl d_Top_row_39 ?_
          refine V_iconst (v := 1) C d_Top_row_42 (by decide) ?_
          exact V_iretW hR hf d_Top_row_43
        · refine V_bipush (v := -14) C d_Top_row_28 (by decide) ?_
          exact V_iretW hR hf d_Top_row_30
      · refine V_iconst (v := -1) C d_Top_row_22 (by decide) ?_
        exact V_iretW hR hf d_Top_row_23
theorem c_Top_row {l : Launch} {g : Gx} (hok : Wok classes (wC g)) {σ : St} {a1 : Int32} {a2 : Int32} {a3 : Int32} {r : Int32} {σ' : St} (hf : f_Top_row σ a1 a2 a3 = some (r, σ')) : CtI classes l y_Top_row b_Top_row 4 (some .int) 3 (wC g) [.ref (g.2.1 0), .int a1, .int a2, .int a3] σ r σ' :=
  MetI (by decide +kernel) hok (Nat.le_of_ble_eq_true rfl) (fun E _ C hR => w_Top_row C hR hf)
set_option maxRecDepth 4000 in
theorem w_Top_run {E : Ev} {g : Gx} {r : Int32} {σ' : St} (C : Cx E classes 4 (wC g) b_Top_run "WithTheReds" 7) (hR : RetI E classes 4 (wC g) b_Top_run r σ') {σ : St} {a1 : Int32} {a2 : Int32} {a3 : Int32} (hf : f_Top_run σ a1 a2 a3 = some (r, σ')) : V E classes 4 (wC g) σ 0 [(0, .ref (g.2.1 0)), (1, .int a1), (2, .int a2), (3, .int a3)] [] := by
  unfold f_Top_run at hf
  refine V_aload_n C 0 d_Top_run_0 rfl ?_
  refine V_iload_n C 1 d_Top_run_1 rfl ?_
  obtain ⟨r2_1, hg, hf⟩ := bd hf
  refine V_callVi C [.int a1] (c_Top_isSet C.2.2.2.2.2.2.2.1 hg) (by decide) cw_Top_160 0 rfl rfl rfl rfl (Nat.le_of_ble_eq_true rfl) rfl d_Top_run_2 ?_
  refine V_if_eq (pc := 5) (tgt := 15) C d_Top_run_5 (by decide) hf (fun hf => ?_) (fun hf => ?_)
  · refine V_iconst (v := -1) C d_Top_run_15 (by decide) ?_
    exact V_iretW hR hf d_Top_run_16
  · refine V_iload_n C 2 d_Top_run_8 rfl ?_
    obtain ⟨r9_2, hg, hf⟩ := bd hf
    refine V_callSi C [.int a2] (c_Top_isHeatAndCloth C.2.2.2.2.2.2.2.1 hg) (by decide) cw_Top_163 rfl (Nat.le_of_ble_eq_true rfl) rfl d_Top_run_9 ?_
    refine V_if_ne (pc := 12) (tgt := 17) C d_Top_run_12 (by decide) hf (fun hf => ?_) (fun hf => ?_)
    · refine V_aload_n C 0 d_Top_run_17 rfl ?_
      refine gC_Top_tub C fl_Top_35 d_Top_run_18 ?_
      refine V_iload_n C 1 d_Top_run_21 rfl ?_
      refine V_iload_n C 2 d_Top_run_22 rfl ?_
      obtain ⟨σ23_3, hg, hf⟩ := bd hf
      refine V_callVv C [.int a1, .int a2] (c_Tub_load C.2.2.2.2.2.2.2.1 hg) (by decide) cw_Top_166 39 rfl rfl rfl rfl (Nat.le_of_ble_eq_true rfl) rfl d_Top_run_23 ?_
      refine V_iload_n C 3 d_Top_run_26 rfl ?_
      by_cases hc0 : a3 = 0
      · have hf := ite_t hf hc0
        refine V_tin (off := 29) (tgt := 56) C d_Top_run_27 (by rw [hc0]; decide) (by rw [hc0]; decide) (by rw [hc0]; decide) (by decide) ?_
        refine V_aload_n C 0 d_Top_run_56 rfl ?_
        refine gC_Top_tub C fl_Top_35 d_Top_run_57 ?_
        refine gC_Tub_loose (v := σ23_3.1 3905) C fl_Top_169 rfl d_Top_run_60 ?_
        exact V_iretW hR hf d_Top_run_63
      have hf := ite_f hf hc0
      by_cases hc1 : a3 = 1
      · have hf := ite_t hf hc1
        refine V_tin (off := 37) (tgt := 64) C d_Top_run_27 (by rw [hc1]; decide) (by rw [hc1]; decide) (by rw [hc1]; decide) (by decide) ?_
        refine V_aload_n C 0 d_Top_run_64 rfl ?_
        refine gC_Top_tub C fl_Top_35 d_Top_run_65 ?_
        obtain ⟨r68_4, hg, hf⟩ := bd hf
        refine V_callVi C [] (c_Tub_allTints C.2.2.2.2.2.2.2.1 hg) (by decide) cw_Top_173 39 rfl rfl rfl rfl (Nat.le_of_ble_eq_true rfl) rfl d_Top_run_68 ?_
        exact V_iretW hR hf d_Top_run_71
      have hf := ite_f hf hc1
      by_cases hc2 : a3 = 2
      · have hf := ite_t hf hc2
        refine V_tin (off := 45) (tgt := 72) C d_Top_run_27 (by rw [hc2]; decide) (by rw [hc2]; decide) (by rw [hc2]; decide) (by decide) ?_
        refine V_aload_n C 0 d_Top_run_72 rfl ?_
        refine gC_Top_tub C fl_Top_35 d_Top_run_73 ?_
        obtain ⟨r76_5, hg, hf⟩ := bd hf
        refine V_callVi C [] (c_Tub_spoilt C.2.2.2.2.2.2.2.1 hg) (by decide) cw_Top_176 39 rfl rfl rfl rfl (Nat.le_of_ble_eq_true rfl) rfl d_Top_run_76 ?_
        exact V_iretW hR hf d_Top_run_79
      have hf := ite_f hf hc2
      by_cases hc3 : a3 = 3
      · have hf := ite_t hf hc3
        refine V_tin (off := 53) (tgt := 80) C d_Top_run_27 (by rw [hc3]; decide) (by rw [hc3]; decide) (by rw [hc3]; decide) (by decide) ?_
        refine V_aload_n C 0 d_Top_run_80 rfl ?_
        refine gC_Top_tub C fl_Top_35 d_Top_run_81 ?_
        obtain ⟨r84_6, hg, hf⟩ := bd hf
        refine V_callVi C [] (c_Tub_goes C.2.2.2.2.2.2.2.1 hg) (by decide) cw_Top_179 39 rfl rfl rfl rfl (Nat.le_of_ble_eq_true rfl) rfl d_Top_run_84 ?_
        refine V_if_eq (pc := 87) (tgt := 94) C d_Top_run_87 (by decide) hf (fun hf => ?_) (fun hf => ?_)
        · refine V_iconst (v := 0) C d_Top_run_94 (by decide) ?_
          exact V_iretW hR hf d_Top_run_95
        · refine V_iconst (v := 1) C d_Top_run_90 (by decide) ?_
          refine V_goto (pc := 91) (tgt := 95) C d_Top_run_91 (by decide) ?_
          exact V_iretW hR hf d_Top_run_95
      have hf := ite_f hf hc3
      have hc0t := neT (k := 0) 0 (by decide) hc0
      have hc1t := neT (k := 1) 1 (by decide) hc1
      have hc2t := neT (k := 2) 2 (by decide) hc2
      have hc3t := neT (k := 3) 3 (by decide) hc3
      refine V_tout (tgt := 96) C d_Top_run_27 (by omega) (by decide) ?_
      refine V_iconst (v := -1) C d_Top_run_96 (by decide) ?_
      exact V_iretW hR hf d_Top_run_97
    · refine V_iconst (v := -1) C d_Top_run_15 (by decide) ?_
      exact V_iretW hR hf d_Top_run_16
theorem c_Top_run {l : Launch} {g : Gx} (hok : Wok classes (wC g)) {σ : St} {a1 : Int32} {a2 : Int32} {a3 : Int32} {r : Int32} {σ' : St} (hf : f_Top_run σ a1 a2 a3 = some (r, σ')) : CtI classes l y_Top_run b_Top_run 4 (some .int) 7 (wC g) [.ref (g.2.1 0), .int a1, .int a2, .int a3] σ r σ' :=
  MetI (by decide +kernel) hok (Nat.le_of_ble_eq_true rfl) (fun E _ C hR => w_Top_run C hR hf)
set_option maxRecDepth 4000 in
theorem w_Top_safe {E : Ev} {g : Gx} {r : Int32} {σ' : St} (C : Cx E classes 4 (wC g) b_Top_safe "WithTheReds" 7) (hR : RetI E classes 4 (wC g) b_Top_safe r σ') {σ : St} {a1 : Int32} {a2 : Int32} {a3 : Int32} (hf : f_Top_safe σ a1 a2 a3 = some (r, σ')) : V E classes 4 (wC g) σ 0 [(0, .ref (g.2.1 0)), (1, .int a1), (2, .int a2), (3, .int a3)] [] := by
  unfold f_Top_safe at hf
  refine V_aload_n C 0 d_Top_safe_0 rfl ?_
  refine V_iload_n C 1 d_Top_safe_1 rfl ?_
  obtain ⟨r2_1, hg, hf⟩ := bd hf
  refine V_callVi C [.int a1] (c_Top_isSet C.2.2.2.2.2.2.2.1 hg) (by decide) cw_Top_160 0 rfl rfl rfl rfl (Nat.le_of_ble_eq_true rfl) rfl d_Top_safe_2 ?_
  refine V_if_eq (pc := 5) (tgt := 25) C d_Top_safe_5 (by decide) hf (fun hf => ?_) (fun hf => ?_)
  · refine V_iconst (v := -1) C d_Top_safe_25 (by decide) ?_
    exact V_iretW hR hf d_Top_safe_26
  · refine V_iload_n C 2 d_Top_safe_8 rfl ?_
    obtain ⟨r9_2, hg, hf⟩ := bd hf
    refine V_callSi C [.int a2] (c_Top_isHeatAndCloth C.2.2.2.2.2.2.2.1 hg) (by decide) cw_Top_163 rfl (Nat.le_of_ble_eq_true rfl) rfl d_Top_safe_9 ?_
    refine V_if_eq (pc := 12) (tgt := 25) C d_Top_safe_12 (by decide) hf (fun hf => ?_) (fun hf => ?_)
    · refine V_iconst (v := -1) C d_Top_safe_25 (by decide) ?_
      exact V_iretW hR hf d_Top_safe_26
    · refine V_iload_n C 3 d_Top_safe_15 rfl ?_
      refine V_iconst (v := 0) C d_Top_safe_16 (by decide) ?_
      refine V_bipush (v := 99) C d_Top_safe_17 (by decide) ?_
      obtain ⟨r19_3, hg, hf⟩ := bd hf
      refine V_callSi C [.int a3, .int (0 : Int32), .int (99 : Int32)] (c_Top_within C.2.2.2.2.2.2.2.1 hg) (by decide) cw_Top_108 rfl (Nat.le_of_ble_eq_true rfl) rfl d_Top_safe_19 ?_
      refine V_if_ne (pc := 22) (tgt := 27) C d_Top_safe_22 (by decide) hf (fun hf => ?_) (fun hf => ?_)
      · refine V_aload_n C 0 d_Top_safe_27 rfl ?_
        refine gC_Top_tub C fl_Top_35 d_Top_safe_28 ?_
        refine V_iload_n C 1 d_Top_safe_31 rfl ?_
        refine V_iload_n C 2 d_Top_safe_32 rfl ?_
        obtain ⟨σ33_4, hg, hf⟩ := bd hf
        refine V_callVv C [.int a1, .int a2] (c_Tub_load C.2.2.2.2.2.2.2.1 hg) (by decide) cw_Top_166 39 rfl rfl rfl rfl (Nat.le_of_ble_eq_true rfl) rfl d_Top_safe_33 ?_
        refine V_aload_n C 0 d_Top_safe_36 rfl ?_
        refine gC_Top_tub C fl_Top_35 d_Top_safe_37 ?_
        refine V_iload_n C 3 d_Top_safe_40 rfl ?_
        obtain ⟨r41_5, hg, hf⟩ := bd hf
        refine V_callVi C [.int a3] (c_Tub_isSafe C.2.2.2.2.2.2.2.1 hg) (by decide) cw_Top_188 39 rfl rfl rfl rfl (Nat.le_of_ble_eq_true rfl) rfl d_Top_safe_41 ?_
        refine V_if_eq (pc := 44) (tgt := 51) C d_Top_safe_44 (by decide) hf (fun hf => ?_) (fun hf => ?_)
        · refine V_iconst (v := 0) C d_Top_safe_51 (by decide) ?_
          exact V_iretW hR hf d_Top_safe_52
        · refine V_iconst (v := 1) C d_Top_safe_47 (by decide) ?_
          refine V_goto (pc := 48) (tgt := 52) C d_Top_safe_48 (by decide) ?_
          exact V_iretW hR hf d_Top_safe_52
      · refine V_iconst (v := -1) C d_Top_safe_25 (by decide) ?_
        exact V_iretW hR hf d_Top_safe_26
theorem c_Top_safe {l : Launch} {g : Gx} (hok : Wok classes (wC g)) {σ : St} {a1 : Int32} {a2 : Int32} {a3 : Int32} {r : Int32} {σ' : St} (hf : f_Top_safe σ a1 a2 a3 = some (r, σ')) : CtI classes l y_Top_safe b_Top_safe 4 (some .int) 7 (wC g) [.ref (g.2.1 0), .int a1, .int a2, .int a3] σ r σ' :=
  MetI (by decide +kernel) hok (Nat.le_of_ble_eq_true rfl) (fun E _ C hR => w_Top_safe C hR hf)
set_option maxRecDepth 4000 in
theorem w_Top_shift {E : Ev} {g : Gx} {r : Int32} {σ' : St} (C : Cx E classes 8 (wC g) b_Top_shift "WithTheReds" 3) (hR : RetI E classes 8 (wC g) b_Top_shift r σ') {σ : St} {a1 : Int32} {a2 : Int32} {a3 : Int32} {a4 : Int32} {a5 : Int32} (hf : f_Top_shift σ a1 a2 a3 a4 a5 = some (r, σ')) : V E classes 8 (wC g) σ 0 [(0, .ref (g.2.1 0)), (1, .int a1), (2, .int a2), (3, .int a3), (4, .int a4), (5, .int a5)] [] := by
  unfold f_Top_shift at hf
  refine V_iload_n C 1 d_Top_shift_0 rfl ?_
  obtain ⟨r1_1, hg, hf⟩ := bd hf
  refine V_callSi C [.int a1] (c_Top_isShelf C.2.2.2.2.2.2.2.1 hg) (by decide) cw_Top_104 rfl (Nat.le_of_ble_eq_true rfl) rfl d_Top_shift_1 ?_
  refine V_if_eq (pc := 4) (tgt := 14) C d_Top_shift_4 (by decide) hf (fun hf => ?_) (fun hf => ?_)
  · refine V_iconst (v := -1) C d_Top_shift_14 (by decide) ?_
    exact V_iretW hR hf d_Top_shift_15
  · refine V_iload_n C 3 d_Top_shift_7 rfl ?_
    obtain ⟨r8_2, hg, hf⟩ := bd hf
    refine V_callSi C [.int a3] (c_Top_isShelf C.2.2.2.2.2.2.2.1 hg) (by decide) cw_Top_104 rfl (Nat.le_of_ble_eq_true rfl) rfl d_Top_shift_8 ?_
    refine V_if_ne (pc := 11) (tgt := 16) C d_Top_shift_11 (by decide) hf (fun hf => ?_) (fun hf => ?_)
    · refine V_aload_n C 0 d_Top_shift_16 rfl ?_
      refine gC_Top_shelves C fl_Top_87 d_Top_shift_17 ?_
      refine V_iload_n C 1 d_Top_shift_20 rfl ?_
      obtain ⟨hi21_3, hf⟩ := gu hf
      refine V_shelves C hi21_3 d_Top_shift_21 ?_
      refine V_astore C d_Top_shift_22 (by decide) rfl ?_
      refine V_aload_n C 1 d_Top_shift_24 rfl ?_
      refine gC_Top_shelves C fl_Top_87 d_Top_shift_25 ?_
      refine V_iload_n C 4 d_Top_shift_28 rfl ?_
      obtain ⟨hi29_4, hf⟩ := gu hf
      refine V_shelves C hi29_4 d_Top_shift_29 ?_
      refine V_astore C d_Top_shift_30 (by decide) rfl ?_
      refine V_aload C 1 d_Top_shift_32 rfl ?_
      refine gC_Shelf_sort (v := σ.1 (4201 + 200 * (a1.toNatClampNeg))) C (inb6 hi21_3) fl_Top_368 rfl d_Top_shift_34 ?_
      refine V_bipush (v := -2) C d_Top_shift_37 (by decide) ?_
      refine V_icmp_eq (pc := 39) (tgt := 52) C d_Top_shift_39 (by decide) hf (fun hf => ?_) (fun hf => ?_)
      · refine V_bipush (v := -11) C d_Top_shift_52 (by decide) ?_
        exact V_iretW hR hf d_Top_shift_54
      · refine V_aload C 0 d_Top_shift_42 rfl ?_
        refine gC_Shelf_sort (v := σ.1 (4201 + 200 * (a3.toNatClampNeg))) C (inb6 hi29_4) fl_Top_368 rfl d_Top_shift_44 ?_
        refine V_bipush (v := -2) C d_Top_shift_47 (by decide) ?_
        refine V_icmp_ne (pc := 49) (tgt := 55) C d_Top_shift_49 (by decide) hf (fun hf => ?_) (fun hf => ?_)
        · refine V_aload C 1 d_Top_shift_55 rfl ?_
          obtain ⟨r57_5, hg, hf⟩ := bd hf
          refine V_callVi C [] (c_Shelf_isRow C.2.2.2.2.2.2.2.1 (inb6 hi21_3) hg) (by decide) cw_Top_371 (42 + 2 * (a1.toNatClampNeg)) (sh_at (inb6 hi21_3)) rfl rfl rfl (Nat.le_of_ble_eq_true rfl) rfl d_Top_shift_57 ?_
          refine V_if_eq (pc := 60) (tgt := 76) C d_Top_shift_60 (by decide) hf (fun hf => ?_) (fun hf => ?_)
          · refine V_bipush (v := -12) C d_Top_shift_76 (by decide) ?_
            exact V_iretW hR hf d_Top_shift_78
          · refine V_aload C 1 d_Top_shift_63 rfl ?_
            refine gC_Shelf_sort (v := σ.1 (4201 + 200 * (a1.toNatClampNeg))) C (inb6 hi21_3) fl_Top_368 rfl d_Top_shift_65 ?_
            refine V_aload C 0 d_Top_shift_68 rfl ?_
            refine gC_Shelf_sort (v := σ.1 (4201 + 200 * (a3.toNatClampNeg))) C (inb6 hi29_4) fl_Top_368 rfl d_Top_shift_70 ?_
            refine V_icmp_eq (pc := 73) (tgt := 79) C d_Top_shift_73 (by decide) hf (fun hf => ?_) (fun hf => ?_)
            · refine V_aload C 1 d_Top_shift_79 rfl ?_
              refine V_iload_n C 4 d_Top_shift_81 rfl ?_
              refine V_iload C 7 d_Top_shift_82 rfl ?_
              obtain ⟨r84_6, hg, hf⟩ := bd hf
              refine V_callVi C [.int a2, .int a5] (c_Shelf_hasPlaces C.2.2.2.2.2.2.2.1 (inb6 hi21_3) hg) (by decide) cw_Top_374 (42 + 2 * (a1.toNatClampNeg)) (sh_at (inb6 hi21_3)) rfl rfl rfl (Nat.le_of_ble_eq_true rfl) rfl d_Top_shift_84 ?_
              refine V_if_eq (pc := 87) (tgt := 102) C d_Top_shift_87 (by decide) hf (fun hf => ?_) (fun hf => ?_)
              · refine V_bipush (v := -13) C d_Top_shift_102 (by decide) ?_
                exact V_iretW hR hf d_Top_shift_104
              · refine V_aload C 0 d_Top_shift_90 rfl ?_
                refine V_iload C 6 d_Top_shift_92 rfl ?_
                refine V_iload C 7 d_Top_shift_94 rfl ?_
                obtain ⟨r96_7, hg, hf⟩ := bd hf
                refine V_callVi C [.int a4, .int a5] (c_Shelf_hasPlaces C.2.2.2.2.2.2.2.1 (inb6 hi29_4) hg) (by decide) cw_Top_374 (42 + 2 * (a3.toNatClampNeg)) (sh_at (inb6 hi29_4)) rfl rfl rfl (Nat.le_of_ble_eq_true rfl) rfl d_Top_shift_96 ?_
                refine V_if_ne (pc := 99) (tgt := 105) C d_Top_shift_99 (by decide) hf (fun hf => ?_) (fun hf => ?_)
                · refine V_aload C 1 d_Top_shift_105 rfl ?_
                  refine gC_Shelf_elements C (inb6 hi21_3) fl_Top_360 d_Top_shift_107 ?_
                  refine V_iload_n C 4 d_Top_shift_110 rfl ?_
                  refine V_aload C 0 d_Top_shift_111 rfl ?_
                  refine gC_Shelf_elements C (inb6 hi29_4) fl_Top_360 d_Top_shift_113 ?_
                  refine V_iload C 6 d_Top_shift_116 rfl ?_
                  refine V_iload C 7 d_Top_shift_118 rfl ?_
                  obtain ⟨hcp, hf⟩ := gu hf
                  refine V_cpL C (inb6 hi21_3) (inb6 hi29_4) hcp (by decide) (Nat.le_of_ble_eq_true rfl) al_Top_377 d_Top_shift_120 ?_
                  refine V_iload C 7 d_Top_shift_123 rfl ?_
                  exact V_iretW hR hf d_Top_shift_125
                · refine V_bipush (v := -13) C d_Top_shift_102 (by decide) ?_
                  exact V_iretW hR hf d_Top_shift_104
            · refine V_bipush (v := -12) C d_Top_shift_76 (by decide) ?_
              exact V_iretW hR hf d_Top_shift_78
        · refine V_bipush (v := -11) C d_Top_shift_52 (by decide) ?_
          exact V_iretW hR hf d_Top_shift_54
    · refine V_iconst (v := -1) C d_Top_shift_14 (by decide) ?_
      exact V_iretW hR hf d_Top_shift_15
theorem c_Top_shift {l : Launch} {g : Gx} (hok : Wok classes (wC g)) {σ : St} {a1 : Int32} {a2 : Int32} {a3 : Int32} {a4 : Int32} {a5 : Int32} {r : Int32} {σ' : St} (hf : f_Top_shift σ a1 a2 a3 a4 a5 = some (r, σ')) : CtI classes l y_Top_shift b_Top_shift 8 (some .int) 3 (wC g) [.ref (g.2.1 0), .int a1, .int a2, .int a3, .int a4, .int a5] σ r σ' :=
  MetI (by decide +kernel) hok (Nat.le_of_ble_eq_true rfl) (fun E _ C hR => w_Top_shift C hR hf)
set_option maxRecDepth 4000 in
theorem w_Tub_suppose {E : Ev} {g : Gx} {σ' : St} (C : Cx E classes 3 (wC g) b_Tub_suppose "WithTheReds$Tub" 5) (hR : RetV E classes 3 (wC g) b_Tub_suppose σ') {σ : St} {a1 : Int32} {a2 : Int32} (hf : f_Tub_suppose σ a1 a2 = some σ') : V E classes 3 (wC g) σ 0 [(0, .ref (g.2.1 39)), (1, .int a1), (2, .int a2)] [] := by
  unfold f_Tub_suppose at hf
  refine V_aload_n C 0 d_Tub_suppose_0 rfl ?_
  refine gC_Tub_basket C fl_Tub_19 d_Tub_suppose_1 ?_
  refine V_iload_n C 1 d_Tub_suppose_4 rfl ?_
  obtain ⟨r5_1, hg, hf⟩ := bd hf
  refine V_callVi C [.int a1] (c_Basket_isThing C.2.2.2.2.2.2.2.1 hg) (by decide) cw_Tub_62 1 rfl rfl rfl rfl (Nat.le_of_ble_eq_true rfl) rfl d_Tub_suppose_5 ?_
  refine V_if_eq (pc := 8) (tgt := 36) C d_Tub_suppose_8 (by decide) hf (fun hf => ?_) (fun hf => ?_)
  · exact V_vret hR hf d_Tub_suppose_36
  · refine V_aload_n C 0 d_Tub_suppose_11 rfl ?_
    refine gC_Tub_given C fl_Tub_9 d_Tub_suppose_12 ?_
    refine V_iload_n C 1 d_Tub_suppose_15 rfl ?_
    refine V_aload_n C 0 d_Tub_suppose_16 rfl ?_
    refine V_iload_n C 1 d_Tub_suppose_17 rfl ?_
    refine V_iload_n C 2 d_Tub_suppose_18 rfl ?_
    refine V_aload_n C 0 d_Tub_suppose_19 rfl ?_
    refine gC_Tub_basket C fl_Tub_19 d_Tub_suppose_20 ?_
    refine V_iload_n C 1 d_Tub_suppose_23 rfl ?_
    refine V_iconst (v := 2) C d_Tub_suppose_24 (by decide) ?_
    obtain ⟨r25_2, hg, hf⟩ := bd hf
    refine V_callVi C [.int a1, .int (2 : Int32)] (c_Basket_told C.2.2.2.2.2.2.2.1 hg) (by decide) cw_Tub_29 1 rfl rfl rfl rfl (Nat.le_of_ble_eq_true rfl) rfl d_Tub_suppose_25 ?_
    refine V_aload_n C 0 d_Tub_suppose_28 rfl ?_
    refine gC_Tub_heat (v := σ.1 3903) C fl_Tub_15 rfl d_Tub_suppose_29 ?_
    obtain ⟨r32_3, σ32_3, hg, hf⟩ := bd2_of hf
    refine V_callVi C [.int a1, .int a2, .int r25_2, .int (σ.1 3903)] (c_Tub_dyeIf C.2.2.2.2.2.2.2.1 hg) (by decide) cw_Tub_33 39 rfl rfl rfl rfl (Nat.le_of_ble_eq_true rfl) rfl d_Tub_suppose_32 ?_
    obtain ⟨hi35_4, hf⟩ := gu hf
    refine sC_40 C hi35_4 d_Tub_suppose_35 ?_
    exact V_vret hR hf d_Tub_suppose_36
theorem c_Tub_suppose {l : Launch} {g : Gx} (hok : Wok classes (wC g)) {σ : St} {a1 : Int32} {a2 : Int32} {σ' : St} (hf : f_Tub_suppose σ a1 a2 = some σ') : CtV classes l y_Tub_suppose b_Tub_suppose 3 none 5 (wC g) [.ref (g.2.1 39), .int a1, .int a2] σ σ' :=
  MetV (by decide +kernel) hok (Nat.le_of_ble_eq_true rfl) (fun E _ C hR => w_Tub_suppose C hR hf)
set_option maxRecDepth 4000 in
theorem w_Top_sock_59 {E : Ev} {g : Gx} {r : Int32} {σ' : St} (C : Cx E classes 7 (wC g) b_Top_sock "WithTheReds" 6) (hR : RetI E classes 7 (wC g) b_Top_sock r σ') : ∀ (n : Nat) (σ : St) (x1 : Int32) (x2 : Int32) (x4 : Int32) (x6 : Int32), f_Top_sock_59 n σ x1 x2 x4 x6 = some (r, σ') → V E classes 7 (wC g) σ 59 [(0, .ref (g.2.1 0)), (1, .int x1), (2, .int x2), (4, .int x4), (6, .int x6)] [] := by
  intro n
  induction n with
  | zero => intro σ x1 x2 x4 x6 hf; exact absurd hf (by unfold f_Top_sock_59; exact nofun)
  | succ n ih =>
    intro σ x1 x2 x4 x6 hf
    unfold f_Top_sock_59 at hf
    refine V_iload C 4 d_Top_sock_59 rfl ?_
    refine V_bipush (v := 9) C d_Top_sock_61 (by decide) ?_
    refine V_icmp_gt (pc := 63) (tgt := 111) C d_Top_sock_63 (by decide) hf (fun hf => ?_) (fun hf => ?_)
    · refine V_bipush (v := -2) C d_Top_sock_111 (by decide) ?_
      exact V_iretW hR hf d_Top_sock_113
    · refine V_aload_n C 0 d_Top_sock_66 rfl ?_
      refine gC_Top_tub C fl_Top_35 d_Top_sock_67 ?_
      refine V_iload C 3 d_Top_sock_70 rfl ?_
      refine V_iload C 4 d_Top_sock_72 rfl ?_
      obtain ⟨σ74_1, hg, hf⟩ := bd hf
      refine V_callVv C [.int x4, .int x6] (c_Tub_suppose C.2.2.2.2.2.2.2.1 hg) (by decide) cw_Top_290 39 rfl rfl rfl rfl (Nat.le_of_ble_eq_true rfl) rfl d_Top_sock_74 ?_
      refine V_aload_n C 0 d_Top_sock_77 rfl ?_
      refine gC_Top_tub C fl_Top_35 d_Top_sock_78 ?_
      refine V_iload_n C 2 d_Top_sock_81 rfl ?_
      refine V_iconst (v := 0) C d_Top_sock_82 (by decide) ?_
      obtain ⟨σ83_2, hg, hf⟩ := bd hf
      refine V_callVv C [.int x2, .int (0 : Int32)] (c_Tub_fill C.2.2.2.2.2.2.2.1 hg) (by decide) cw_Top_201 39 rfl rfl rfl rfl (Nat.le_of_ble_eq_true rfl) rfl d_Top_sock_83 ?_
      refine V_aload_n C 0 d_Top_sock_86 rfl ?_
      refine V_aload_n C 0 d_Top_sock_87 rfl ?_
      refine gC_Top_shelves C fl_Top_87 d_Top_sock_88 ?_
      refine V_iload_n C 1 d_Top_sock_91 rfl ?_
      obtain ⟨hi92_3, hf⟩ := gu hf
      refine V_shelves C hi92_3 d_Top_sock_92 ?_
      refine V_iload_n C 2 d_Top_sock_93 rfl ?_
      obtain ⟨r94_4, hg, hf⟩ := bd hf
      refine V_callVi C [.ref (g.2.1 (42 + 2 * (x1.toNatClampNeg))), .int x2] (c_Top_firstUnlike C.2.2.2.2.2.2.2.1 (inb6 hi92_3) hg) (by decide) cw_Top_280 0 rfl rfl rfl rfl (Nat.le_of_ble_eq_true rfl) rfl d_Top_sock_94 ?_
      refine V_bipush (v := -2) C d_Top_sock_97 (by decide) ?_
      refine V_icmp_ne (pc := 99) (tgt := 105) C d_Top_sock_99 (by decide) hf (fun hf => ?_) (fun hf => ?_)
      · refine V_iinc (v := x6 + (1 : Int32)) C 4 d_Top_sock_105 rfl rfl (by decide) rfl ?_
        refine V_goto (pc := 108) (tgt := 59) C d_Top_sock_108 (by decide) ?_
        refine V.sub [1, 2, 3, 4, 0] rfl ?_
        exact ih σ83_2 x1 x2 x4 (x6 + (1 : Int32)) hf
      · refine V_iload C 4 d_Top_sock_102 rfl ?_
        exact V_iretW hR hf d_Top_sock_104
set_option maxRecDepth 4000 in
theorem w_Top_sock {E : Ev} {g : Gx} {r : Int32} {σ' : St} (C : Cx E classes 7 (wC g) b_Top_sock "WithTheReds" 6) (hR : RetI E classes 7 (wC g) b_Top_sock r σ') {σ : St} {a1 : Int32} {a2 : Int32} {a3 : Int32} {a4 : Int32} (hf : f_Top_sock σ a1 a2 a3 a4 = some (r, σ')) : V E classes 7 (wC g) σ 0 [(0, .ref (g.2.1 0)), (1, .int a1), (2, .int a2), (3, .int a3), (4, .int a4)] [] := by
  unfold f_Top_sock at hf
  refine V_aload_n C 0 d_Top_sock_0 rfl ?_
  refine V_iload_n C 1 d_Top_sock_1 rfl ?_
  refine V_iconst (v := 1) C d_Top_sock_2 (by decide) ?_
  obtain ⟨r3_1, hg, hf⟩ := bd hf
  refine V_callVi C [.int a1, .int (1 : Int32)] (c_Top_rowRefusal C.2.2.2.2.2.2.2.1 hg) (by decide) cw_Top_112 0 rfl rfl rfl rfl (Nat.le_of_ble_eq_true rfl) rfl d_Top_sock_3 ?_
  refine V_istore C d_Top_sock_6 (by decide) rfl ?_
  refine V_iload C 0 d_Top_sock_8 rfl ?_
  refine V_iconst (v := -1) C d_Top_sock_10 (by decide) ?_
  refine V_icmp_eq (pc := 11) (tgt := 38) C d_Top_sock_11 (by decide) hf (fun hf => ?_) (fun hf => ?_)
  · refine V_iconst (v := -1) C d_Top_sock_38 (by decide) ?_
    exact V_iretW hR hf d_Top_sock_39
  · refine V_aload_n C 1 d_Top_sock_14 rfl ?_
    refine V_iload_n C 3 d_Top_sock_15 rfl ?_
    obtain ⟨r16_2, hg, hf⟩ := bd hf
    refine V_callVi C [.int a2] (c_Top_isSet C.2.2.2.2.2.2.2.1 hg) (by decide) cw_Top_160 0 rfl rfl rfl rfl (Nat.le_of_ble_eq_true rfl) rfl d_Top_sock_16 ?_
    refine V_if_eq (pc := 19) (tgt := 38) C d_Top_sock_19 (by decide) hf (fun hf => ?_) (fun hf => ?_)
    · refine V_iconst (v := -1) C d_Top_sock_38 (by decide) ?_
      exact V_iretW hR hf d_Top_sock_39
    · refine V_iload_n C 4 d_Top_sock_22 rfl ?_
      obtain ⟨r23_3, hg, hf⟩ := bd hf
      refine V_callSi C [.int a3] (c_Top_isHeat C.2.2.2.2.2.2.2.1 hg) (by decide) cw_Top_154 rfl (Nat.le_of_ble_eq_true rfl) rfl d_Top_sock_23 ?_
      refine V_if_eq (pc := 26) (tgt := 38) C d_Top_sock_26 (by decide) hf (fun hf => ?_) (fun hf => ?_)
      · refine V_iconst (v := -1) C d_Top_sock_38 (by decide) ?_
        exact V_iretW hR hf d_Top_sock_39
      · refine V_iload_n C 3 d_Top_sock_29 rfl ?_
        refine V_iload C 5 d_Top_sock_30 rfl ?_
        obtain ⟨r32_4, hg, hf⟩ := bd hf
        refine V_callSi C [.int a2, .int a4] (c_Top_isOf C.2.2.2.2.2.2.2.1 hg) (by decide) cw_Top_182 rfl (Nat.le_of_ble_eq_true rfl) rfl d_Top_sock_32 ?_
        refine V_if_ne (pc := 35) (tgt := 40) C d_Top_sock_35 (by decide) hf (fun hf => ?_) (fun hf => ?_)
        · refine V_iload C 0 d_Top_sock_40 rfl ?_
          refine V_if_eq (pc := 42) (tgt := 48) C d_Top_sock_42 (by decide) hf (fun hf => ?_) (fun hf => ?_)
          · refine V_aload_n C 1 d_Top_sock_48 rfl ?_
            refine gC_Top_tub C fl_Top_35 d_Top_sock_49 ?_
            refine V_iload_n C 4 d_Top_sock_52 rfl ?_
            obtain ⟨σ53_5, hg, hf⟩ := bd hf
            refine V_callVv C [.int a3] (c_Tub_warm C.2.2.2.2.2.2.2.1 hg) (by decide) cw_Top_194 39 rfl rfl rfl rfl (Nat.le_of_ble_eq_true rfl) rfl d_Top_sock_53 ?_
            refine V_iconst (v := 0) C d_Top_sock_56 (by decide) ?_
            refine V_istore C d_Top_sock_57 (by decide) rfl ?_
            refine V.sub [2, 3, 4, 6, 0] rfl ?_
            exact w_Top_sock_59 C hR FU σ53_5 a1 a2 a4 (0 : Int32) hf
          · refine V_iload C 0 d_Top_sock_45 rfl ?_
            exact V_iretW hR hf d_Top_sock_47
        · refine V_iconst (v := -1) C d_Top_sock_38 (by decide) ?_
          exact V_iretW hR hf d_Top_sock_39
theorem c_Top_sock {l : Launch} {g : Gx} (hok : Wok classes (wC g)) {σ : St} {a1 : Int32} {a2 : Int32} {a3 : Int32} {a4 : Int32} {r : Int32} {σ' : St} (hf : f_Top_sock σ a1 a2 a3 a4 = some (r, σ')) : CtI classes l y_Top_sock b_Top_sock 7 (some .int) 6 (wC g) [.ref (g.2.1 0), .int a1, .int a2, .int a3, .int a4] σ r σ' :=
  MetI (by decide +kernel) hok (Nat.le_of_ble_eq_true rfl) (fun E _ C hR => w_Top_sock C hR hf)
set_option maxRecDepth 4000 in
theorem w_Plan_dayFor_5 {E : Ev} {g : Gx} {r : Int32} {σ : St} (C : Cx E classes 4 (wC g) b_Plan_dayFor "WithTheReds$Plan" 3) (hR : RetI E classes 4 (wC g) b_Plan_dayFor r σ) : ∀ (n : Nat) (x1 : Int32) (x2 : Int32) (x3 : Int32), f_Plan_dayFor_5 n σ x1 x2 x3 = some r → V E classes 4 (wC g) σ 5 [(0, .ref (g.2.1 25)), (1, .int x1), (2, .int x2), (3, .int x3)] [] := by
  intro n
  induction n with
  | zero => intro x1 x2 x3 hf; exact absurd hf (by unfold f_Plan_dayFor_5; exact nofun)
  | succ n ih =>
    intro x1 x2 x3 hf
    unfold f_Plan_dayFor_5 at hf
    refine V_iload_n C 3 d_Plan_dayFor_5 rfl ?_
    refine V_aload_n C 0 d_Plan_dayFor_6 rfl ?_
    refine gC_Plan_basket C fl_Plan_15 d_Plan_dayFor_7 ?_
    refine gC_Basket_things (v := σ.1 103) C fl_Plan_19 rfl d_Plan_dayFor_10 ?_
    refine V_icmp_ge (pc := 13) (tgt := 64) C d_Plan_dayFor_13 (by decide) hf (fun hf => ?_) (fun hf => ?_)
    · refine V_iload_n C 2 d_Plan_dayFor_64 rfl ?_
      exact V_iret hR hf d_Plan_dayFor_65
    · refine V_aload_n C 0 d_Plan_dayFor_16 rfl ?_
      refine gC_Plan_basket C fl_Plan_15 d_Plan_dayFor_17 ?_
      refine V_iload_n C 3 d_Plan_dayFor_20 rfl ?_
      refine V_bipush (v := 6) C d_Plan_dayFor_21 (by decide) ?_
      obtain ⟨r23_1, hg, hf⟩ := bd hf
      refine V_callVi C [.int x3, .int (6 : Int32)] (c_Basket_told C.2.2.2.2.2.2.2.1 hg) (by decide) cw_Plan_43 1 rfl rfl rfl rfl (Nat.le_of_ble_eq_true rfl) rfl d_Plan_dayFor_23 ?_
      refine V_iload_n C 1 d_Plan_dayFor_26 rfl ?_
      refine V_icmp_ne (pc := 27) (tgt := 58) C d_Plan_dayFor_27 (by decide) hf (fun hf => ?_) (fun hf => ?_)
      · refine V_iinc (v := x3 + (1 : Int32)) C 3 d_Plan_dayFor_58 rfl rfl (by decide) rfl ?_
        refine V_goto (pc := 61) (tgt := 5) C d_Plan_dayFor_61 (by decide) ?_
        refine V.sub [1, 2, 3, 0] rfl ?_
        exact ih x1 x2 (x3 + (1 : Int32)) hf
      · refine V_aload_n C 0 d_Plan_dayFor_30 rfl ?_
        refine gC_Plan_runs C fl_Plan_9 d_Plan_dayFor_31 ?_
        refine V_iload_n C 3 d_Plan_dayFor_34 rfl ?_
        obtain ⟨hi35_2, hf⟩ := gu hf
        refine aC_26 (v := σ.2.1 26 x3.toNatClampNeg) C hi35_2 rfl d_Plan_dayFor_35 ?_
        refine V_iconst (v := -1) C d_Plan_dayFor_36 (by decide) ?_
        refine V_icmp_ne (pc := 37) (tgt := 43) C d_Plan_dayFor_37 (by decide) hf (fun hf => ?_) (fun hf => ?_)
        · refine V_iload_n C 2 d_Plan_dayFor_43 rfl ?_
          refine V_aload_n C 0 d_Plan_dayFor_44 rfl ?_
          refine V_aload_n C 0 d_Plan_dayFor_45 rfl ?_
          refine gC_Plan_runs C fl_Plan_9 d_Plan_dayFor_46 ?_
          refine V_iload_n C 3 d_Plan_dayFor_49 rfl ?_
          obtain ⟨hi50_3, hf⟩ := gu hf
          refine aC_26 (v := σ.2.1 26 x3.toNatClampNeg) C hi50_3 rfl d_Plan_dayFor_50 ?_
          obtain ⟨r51_4, hg, hf⟩ := bd hf
          refine V_callVi C [.int (σ.2.1 26 x3.toNatClampNeg)] (c_Plan_dayOf C.2.2.2.2.2.2.2.1 hg) (by decide) cw_Plan_39 25 rfl rfl rfl rfl (Nat.le_of_ble_eq_true rfl) rfl d_Plan_dayFor_51 ?_
          refine V_max C ml_Plan_51 (by decide) (Nat.le_of_ble_eq_true rfl) d_Plan_dayFor_54 ?_
          refine V_istore_n C d_Plan_dayFor_57 (by decide) rfl ?_
          refine V_iinc (v := x3 + (1 : Int32)) C 3 d_Plan_dayFor_58 rfl rfl (by decide) rfl ?_
          refine V_goto (pc := 61) (tgt := 5) C d_Plan_dayFor_61 (by decide) ?_
          refine V.sub [2, 3, 1, 0] rfl ?_
          exact ih x1 (imax x2 r51_4) (x3 + (1 : Int32)) hf
        · refine V_bipush (v := -2) C d_Plan_dayFor_40 (by decide) ?_
          exact V_iret hR hf d_Plan_dayFor_42
set_option maxRecDepth 4000 in
theorem w_Plan_dayFor {E : Ev} {g : Gx} {r : Int32} {σ : St} (C : Cx E classes 4 (wC g) b_Plan_dayFor "WithTheReds$Plan" 3) (hR : RetI E classes 4 (wC g) b_Plan_dayFor r σ) {a1 : Int32} (hf : f_Plan_dayFor σ a1 = some r) : V E classes 4 (wC g) σ 0 [(0, .ref (g.2.1 25)), (1, .int a1)] [] := by
  unfold f_Plan_dayFor at hf
  refine V_bipush (v := -2) C d_Plan_dayFor_0 (by decide) ?_
  refine V_istore_n C d_Plan_dayFor_2 (by decide) rfl ?_
  refine V_iconst (v := 0) C d_Plan_dayFor_3 (by decide) ?_
  refine V_istore_n C d_Plan_dayFor_4 (by decide) rfl ?_
  refine V.sub [2, 3, 1, 0] rfl ?_
  exact w_Plan_dayFor_5 C hR FU a1 (-2 : Int32) (0 : Int32) hf
theorem c_Plan_dayFor {l : Launch} {g : Gx} (hok : Wok classes (wC g)) {σ : St} {a1 : Int32} {r : Int32} (hf : f_Plan_dayFor σ a1 = some r) : CtI classes l y_Plan_dayFor b_Plan_dayFor 4 (some .int) 3 (wC g) [.ref (g.2.1 25), .int a1] σ r σ :=
  MetI (by decide +kernel) hok (Nat.le_of_ble_eq_true rfl) (fun E _ C hR => w_Plan_dayFor C hR hf)
set_option maxRecDepth 4000 in
theorem w_Top_soon {E : Ev} {g : Gx} {r : Int32} {σ' : St} (C : Cx E classes 4 (wC g) b_Top_soon "WithTheReds" 4) (hR : RetI E classes 4 (wC g) b_Top_soon r σ') {σ : St} {a1 : Int32} {a2 : Int32} (hf : f_Top_soon σ a1 a2 = some (r, σ')) : V E classes 4 (wC g) σ 0 [(0, .ref (g.2.1 0)), (1, .int a1), (2, .int a2)] [] := by
  unfold f_Top_soon at hf
  refine V_aload_n C 0 d_Top_soon_0 rfl ?_
  refine V_iload_n C 1 d_Top_soon_1 rfl ?_
  refine V_iconst (v := 0) C d_Top_soon_2 (by decide) ?_
  obtain ⟨r3_1, hg, hf⟩ := bd hf
  refine V_callVi C [.int a1, .int (0 : Int32)] (c_Top_rowRefusal C.2.2.2.2.2.2.2.1 hg) (by decide) cw_Top_112 0 rfl rfl rfl rfl (Nat.le_of_ble_eq_true rfl) rfl d_Top_soon_3 ?_
  refine V_istore_n C d_Top_soon_6 (by decide) rfl ?_
  refine V_iload_n C 0 d_Top_soon_7 rfl ?_
  refine V_iconst (v := -1) C d_Top_soon_8 (by decide) ?_
  refine V_icmp_eq (pc := 9) (tgt := 21) C d_Top_soon_9 (by decide) hf (fun hf => ?_) (fun hf => ?_)
  · refine V_iconst (v := -1) C d_Top_soon_21 (by decide) ?_
    exact V_iretW hR hf d_Top_soon_22
  · refine V_bipush (v := 6) C d_Top_soon_12 (by decide) ?_
    refine V_iload_n C 3 d_Top_soon_14 rfl ?_
    obtain ⟨r15_2, hg, hf⟩ := bd hf
    refine V_callSi C [.int (6 : Int32), .int a2] (c_Basket_mayBe C.2.2.2.2.2.2.2.1 hg) (by decide) cw_Top_92 rfl (Nat.le_of_ble_eq_true rfl) rfl d_Top_soon_15 ?_
    refine V_if_ne (pc := 18) (tgt := 23) C d_Top_soon_18 (by decide) hf (fun hf => ?_) (fun hf => ?_)
    · refine V_iload_n C 0 d_Top_soon_23 rfl ?_
      refine V_if_eq (pc := 24) (tgt := 29) C d_Top_soon_24 (by decide) hf (fun hf => ?_) (fun hf => ?_)
      · refine V_aload_n C 1 d_Top_soon_29 rfl ?_
        refine gC_Top_plan C fl_Top_53 d_Top_soon_30 ?_
        refine V_aload_n C 1 d_Top_soon_33 rfl ?_
        refine gC_Top_shelves C fl_Top_87 d_Top_soon_34 ?_
        refine V_iload_n C 2 d_Top_soon_37 rfl ?_
        obtain ⟨hi38_3, hf⟩ := gu hf
        refine V_shelves C hi38_3 d_Top_soon_38 ?_
        obtain ⟨σ39_4, hg, hf⟩ := bd hf
        refine V_callVv C [.ref (g.2.1 (42 + 2 * (a1.toNatClampNeg)))] (c_Plan_read C.2.2.2.2.2.2.2.1 (inb6 hi38_3) hg) (by decide) cw_Top_234 25 rfl rfl rfl rfl (Nat.le_of_ble_eq_true rfl) rfl d_Top_soon_39 ?_
        refine V_aload_n C 1 d_Top_soon_42 rfl ?_
        refine gC_Top_plan C fl_Top_53 d_Top_soon_43 ?_
        refine V_iload_n C 3 d_Top_soon_46 rfl ?_
        obtain ⟨r47_5, hg, hf⟩ := bd hf
        refine V_callVi C [.int a2] (c_Plan_dayFor C.2.2.2.2.2.2.2.1 hg) (by decide) cw_Top_243 25 rfl rfl rfl rfl (Nat.le_of_ble_eq_true rfl) rfl d_Top_soon_47 ?_
        exact V_iretW hR hf d_Top_soon_50
      · refine V_iload_n C 0 d_Top_soon_27 rfl ?_
        exact V_iretW hR hf d_Top_soon_28
    · refine V_iconst (v := -1) C d_Top_soon_21 (by decide) ?_
      exact V_iretW hR hf d_Top_soon_22
theorem c_Top_soon {l : Launch} {g : Gx} (hok : Wok classes (wC g)) {σ : St} {a1 : Int32} {a2 : Int32} {r : Int32} {σ' : St} (hf : f_Top_soon σ a1 a2 = some (r, σ')) : CtI classes l y_Top_soon b_Top_soon 4 (some .int) 4 (wC g) [.ref (g.2.1 0), .int a1, .int a2] σ r σ' :=
  MetI (by decide +kernel) hok (Nat.le_of_ble_eq_true rfl) (fun E _ C hR => w_Top_soon C hR hf)
set_option maxRecDepth 4000 in
theorem w_Plan_bestPair_23 {E : Ev} {g : Gx} {r : Int32} {σ : St} (C : Cx E classes 6 (wC g) b_Plan_bestPair "WithTheReds$Plan" 4) (hR : RetI E classes 6 (wC g) b_Plan_bestPair r σ) {k12 : St → Int32 → Int32 → Int32 → Option Int32} (hk12 : ∀ (x1 : Int32) (x2 : Int32) (x3 : Int32), k12 σ x1 x2 x3 = some r → V E classes 6 (wC g) σ 12 [(0, .ref (g.2.1 25)), (1, .int x1), (2, .int x2), (3, .int x3)] []) : ∀ (n : Nat) (x1 : Int32) (x2 : Int32) (x3 : Int32) (x4 : Int32), f_Plan_bestPair_23 k12 n σ x1 x2 x3 x4 = some r → V E classes 6 (wC g) σ 23 [(0, .ref (g.2.1 25)), (1, .int x1), (2, .int x2), (3, .int x3), (4, .int x4)] [] := by
  intro n
  induction n with
  | zero => intro x1 x2 x3 x4 hf; exact absurd hf (by unfold f_Plan_bestPair_23; exact nofun)
  | succ n ih =>
    intro x1 x2 x3 x4 hf
    unfold f_Plan_bestPair_23 at hf
    refine V_iload C 4 d_Plan_bestPair_23 rfl ?_
    refine V_bipush (v := 20) C d_Plan_bestPair_25 (by decide) ?_
    refine V_icmp_ge (pc := 27) (tgt := 62) C d_Plan_bestPair_27 (by decide) hf (fun hf => ?_) (fun hf => ?_)
    · refine V_iinc (v := x3 + (1 : Int32)) C 3 d_Plan_bestPair_62 rfl rfl (by decide) rfl ?_
      refine V_goto (pc := 65) (tgt := 12) C d_Plan_bestPair_65 (by decide) ?_
      refine V.sub [1, 2, 3, 0] rfl ?_
      exact hk12 x1 x2 (x3 + (1 : Int32)) hf
    · refine V_aload_n C 0 d_Plan_bestPair_30 rfl ?_
      refine V_iload_n C 3 d_Plan_bestPair_31 rfl ?_
      refine V_iload C 4 d_Plan_bestPair_32 rfl ?_
      obtain ⟨r34_1, hg, hf⟩ := bd hf
      refine V_callVi C [.int x3, .int x4] (c_Plan_daysLate C.2.2.2.2.2.2.2.1 hg) (by decide) cw_Plan_56 25 rfl rfl rfl rfl (Nat.le_of_ble_eq_true rfl) rfl d_Plan_bestPair_34 ?_
      refine V_istore C d_Plan_bestPair_37 (by decide) rfl ?_
      refine V_iload C 0 d_Plan_bestPair_39 rfl ?_
      refine V_iload_n C 2 d_Plan_bestPair_41 rfl ?_
      refine V_icmp_ge (pc := 42) (tgt := 56) C d_Plan_bestPair_42 (by decide) hf (fun hf => ?_) (fun hf => ?_)
      · refine V_iinc (v := x4 + (1 : Int32)) C 5 d_Plan_bestPair_56 rfl rfl (by decide) rfl ?_
        refine V_goto (pc := 59) (tgt := 23) C d_Plan_bestPair_59 (by decide) ?_
        refine V.sub [2, 3, 4, 5, 0] rfl ?_
        exact ih x1 x2 x3 (x4 + (1 : Int32)) hf
      · refine V_iload C 0 d_Plan_bestPair_45 rfl ?_
        refine V_istore_n C d_Plan_bestPair_47 (by decide) rfl ?_
        refine V_bipush (v := 20) C d_Plan_bestPair_48 (by decide) ?_
        refine V_iload_n C 4 d_Plan_bestPair_50 rfl ?_
        refine V_imul C d_Plan_bestPair_51 ?_
        refine V_iload C 5 d_Plan_bestPair_52 rfl ?_
        refine V_iadd C d_Plan_bestPair_54 ?_
        refine V_istore_n C d_Plan_bestPair_55 (by decide) rfl ?_
        refine V_iinc (v := x4 + (1 : Int32)) C 5 d_Plan_bestPair_56 rfl rfl (by decide) rfl ?_
        refine V_goto (pc := 59) (tgt := 23) C d_Plan_bestPair_59 (by decide) ?_
        refine V.sub [4, 2, 1, 5, 0] rfl ?_
        exact ih r34_1 (((20 : Int32) * x3) + x4) x3 (x4 + (1 : Int32)) hf
set_option maxRecDepth 4000 in
theorem w_Plan_bestPair_12 {E : Ev} {g : Gx} {r : Int32} {σ : St} (C : Cx E classes 6 (wC g) b_Plan_bestPair "WithTheReds$Plan" 4) (hR : RetI E classes 6 (wC g) b_Plan_bestPair r σ) : ∀ (n : Nat) (x1 : Int32) (x2 : Int32) (x3 : Int32), f_Plan_bestPair_12 n σ x1 x2 x3 = some r → V E classes 6 (wC g) σ 12 [(0, .ref (g.2.1 25)), (1, .int x1), (2, .int x2), (3, .int x3)] [] := by
  intro n
  induction n with
  | zero => intro x1 x2 x3 hf; exact absurd hf (by unfold f_Plan_bestPair_12; exact nofun)
  | succ n ih =>
    intro x1 x2 x3 hf
    unfold f_Plan_bestPair_12 at hf
    refine V_iload_n C 3 d_Plan_bestPair_12 rfl ?_
    refine V_bipush (v := 20) C d_Plan_bestPair_13 (by decide) ?_
    refine V_icmp_ge (pc := 15) (tgt := 68) C d_Plan_bestPair_15 (by decide) hf (fun hf => ?_) (fun hf => ?_)
    · refine V_iload_n C 2 d_Plan_bestPair_68 rfl ?_
      exact V_iret hR hf d_Plan_bestPair_69
    · refine V_iload_n C 3 d_Plan_bestPair_18 rfl ?_
      refine V_iconst (v := 1) C d_Plan_bestPair_19 (by decide) ?_
      refine V_iadd C d_Plan_bestPair_20 ?_
      refine V_istore C d_Plan_bestPair_21 (by decide) rfl ?_
      refine V.sub [1, 2, 3, 4, 0] rfl ?_
      exact w_Plan_bestPair_23 C hR ih FU x1 x2 x3 (x3 + (1 : Int32)) hf
set_option maxRecDepth 4000 in
theorem w_Plan_bestPair {E : Ev} {g : Gx} {r : Int32} {σ : St} (C : Cx E classes 6 (wC g) b_Plan_bestPair "WithTheReds$Plan" 4) (hR : RetI E classes 6 (wC g) b_Plan_bestPair r σ) (hf : f_Plan_bestPair σ = some r) : V E classes 6 (wC g) σ 0 [(0, .ref (g.2.1 25))] [] := by
  unfold f_Plan_bestPair at hf
  refine V_aload_n C 0 d_Plan_bestPair_0 rfl ?_
  refine V_iconst (v := 0) C d_Plan_bestPair_1 (by decide) ?_
  refine V_iconst (v := 0) C d_Plan_bestPair_2 (by decide) ?_
  obtain ⟨r3_1, hg, hf⟩ := bd hf
  refine V_callVi C [.int (0 : Int32), .int (0 : Int32)] (c_Plan_daysLate C.2.2.2.2.2.2.2.1 hg) (by decide) cw_Plan_56 25 rfl rfl rfl rfl (Nat.le_of_ble_eq_true rfl) rfl d_Plan_bestPair_3 ?_
  refine V_istore_n C d_Plan_bestPair_6 (by decide) rfl ?_
  refine V_bipush (v := -2) C d_Plan_bestPair_7 (by decide) ?_
  refine V_istore_n C d_Plan_bestPair_9 (by decide) rfl ?_
  refine V_iconst (v := 0) C d_Plan_bestPair_10 (by decide) ?_
  refine V_istore_n C d_Plan_bestPair_11 (by decide) rfl ?_
  refine V.sub [3, 2, 1, 0] rfl ?_
  exact w_Plan_bestPair_12 C hR FU r3_1 (-2 : Int32) (0 : Int32) hf
theorem c_Plan_bestPair {l : Launch} {g : Gx} (hok : Wok classes (wC g)) {σ : St} {r : Int32} (hf : f_Plan_bestPair σ = some r) : CtI classes l y_Plan_bestPair b_Plan_bestPair 6 (some .int) 4 (wC g) [.ref (g.2.1 25)] σ r σ :=
  MetI (by decide +kernel) hok (Nat.le_of_ble_eq_true rfl) (fun E _ C hR => w_Plan_bestPair C hR hf)
set_option maxRecDepth 4000 in
theorem w_Top_swap {E : Ev} {g : Gx} {r : Int32} {σ' : St} (C : Cx E classes 3 (wC g) b_Top_swap "WithTheReds" 5) (hR : RetI E classes 3 (wC g) b_Top_swap r σ') {σ : St} {a1 : Int32} (hf : f_Top_swap σ a1 = some (r, σ')) : V E classes 3 (wC g) σ 0 [(0, .ref (g.2.1 0)), (1, .int a1)] [] := by
  unfold f_Top_swap at hf
  refine V_aload_n C 0 d_Top_swap_0 rfl ?_
  refine V_iload_n C 1 d_Top_swap_1 rfl ?_
  refine V_iconst (v := 0) C d_Top_swap_2 (by decide) ?_
  obtain ⟨r3_1, hg, hf⟩ := bd hf
  refine V_callVi C [.int a1, .int (0 : Int32)] (c_Top_rowRefusal C.2.2.2.2.2.2.2.1 hg) (by decide) cw_Top_112 0 rfl rfl rfl rfl (Nat.le_of_ble_eq_true rfl) rfl d_Top_swap_3 ?_
  refine V_istore_n C d_Top_swap_6 (by decide) rfl ?_
  refine V_iload_n C 0 d_Top_swap_7 rfl ?_
  refine V_if_eq (pc := 8) (tgt := 13) C d_Top_swap_8 (by decide) hf (fun hf => ?_) (fun hf => ?_)
  · refine V_aload_n C 1 d_Top_swap_13 rfl ?_
    refine gC_Top_plan C fl_Top_53 d_Top_swap_14 ?_
    refine V_aload_n C 1 d_Top_swap_17 rfl ?_
    refine gC_Top_shelves C fl_Top_87 d_Top_swap_18 ?_
    refine V_iload_n C 2 d_Top_swap_21 rfl ?_
    obtain ⟨hi22_2, hf⟩ := gu hf
    refine V_shelves C hi22_2 d_Top_swap_22 ?_
    obtain ⟨σ23_3, hg, hf⟩ := bd hf
    refine V_callVv C [.ref (g.2.1 (42 + 2 * (a1.toNatClampNeg)))] (c_Plan_read C.2.2.2.2.2.2.2.1 (inb6 hi22_2) hg) (by decide) cw_Top_234 25 rfl rfl rfl rfl (Nat.le_of_ble_eq_true rfl) rfl d_Top_swap_23 ?_
    refine V_aload_n C 1 d_Top_swap_26 rfl ?_
    refine gC_Top_plan C fl_Top_53 d_Top_swap_27 ?_
    obtain ⟨r30_4, hg, hf⟩ := bd hf
    refine V_callVi C [] (c_Plan_bestPair C.2.2.2.2.2.2.2.1 hg) (by decide) cw_Top_246 25 rfl rfl rfl rfl (Nat.le_of_ble_eq_true rfl) rfl d_Top_swap_30 ?_
    exact V_iretW hR hf d_Top_swap_33
  · refine V_iload_n C 0 d_Top_swap_11 rfl ?_
    exact V_iretW hR hf d_Top_swap_12
theorem c_Top_swap {l : Launch} {g : Gx} (hok : Wok classes (wC g)) {σ : St} {a1 : Int32} {r : Int32} {σ' : St} (hf : f_Top_swap σ a1 = some (r, σ')) : CtI classes l y_Top_swap b_Top_swap 3 (some .int) 5 (wC g) [.ref (g.2.1 0), .int a1] σ r σ' :=
  MetI (by decide +kernel) hok (Nat.le_of_ble_eq_true rfl) (fun E _ C hR => w_Top_swap C hR hf)
set_option maxRecDepth 4000 in
theorem w_Socks_isUnder_4 {E : Ev} {g : Gx} {r : Int32} {σ : St} (C : Cx E classes 4 (wC g) b_Socks_isUnder "WithTheReds$Socks" 1) (hR : RetZ E classes 4 (wC g) b_Socks_isUnder r σ) : ∀ (n : Nat) (x1 : Int32) (x2 : Int32) (x3 : Int32), f_Socks_isUnder_4 n x1 x2 x3 = some r → V E classes 4 (wC g) σ 4 [(1, .int x1), (2, .int x2), (3, .int x3)] [] := by
  intro n
  induction n with
  | zero => intro x1 x2 x3 hf; exact absurd hf (by unfold f_Socks_isUnder_4; exact nofun)
  | succ n ih =>
    intro x1 x2 x3 hf
    unfold f_Socks_isUnder_4 at hf
    refine V_iload_n C 2 d_Socks_isUnder_4 rfl ?_
    refine V_bipush (v := 7) C d_Socks_isUnder_5 (by decide) ?_
    refine V_icmp_gt (pc := 7) (tgt := 33) C d_Socks_isUnder_7 (by decide) hf (fun hf => ?_) (fun hf => ?_)
    · refine V_iconst (v := 0) C d_Socks_isUnder_33 (by decide) ?_
      exact V_zret hR hf rfl d_Socks_isUnder_34
    · refine V_iload_n C 1 d_Socks_isUnder_10 rfl ?_
      refine V_if_lt (pc := 11) (tgt := 33) C d_Socks_isUnder_11 (by decide) hf (fun hf => ?_) (fun hf => ?_)
      · refine V_iconst (v := 0) C d_Socks_isUnder_33 (by decide) ?_
        exact V_zret hR hf rfl d_Socks_isUnder_34
      · refine V_iload_n C 1 d_Socks_isUnder_14 rfl ?_
        refine V_iload_n C 0 d_Socks_isUnder_15 rfl ?_
        refine V_icmp_ne (pc := 16) (tgt := 21) C d_Socks_isUnder_16 (by decide) hf (fun hf => ?_) (fun hf => ?_)
        · refine V_gs_ABOVE C fl_Socks_30 d_Socks_isUnder_21 ?_
          refine V_iload_n C 1 d_Socks_isUnder_24 rfl ?_
          obtain ⟨hi25_1, hf⟩ := gu hf
          refine V_tb_ABOVE C hi25_1 d_Socks_isUnder_25 ?_
          refine V_istore_n C d_Socks_isUnder_26 (by decide) rfl ?_
          refine V_iinc (v := x3 + (1 : Int32)) C 2 d_Socks_isUnder_27 rfl rfl (by decide) rfl ?_
          refine V_goto (pc := 30) (tgt := 4) C d_Socks_isUnder_30 (by decide) ?_
          refine V.sub [2, 1, 0] rfl ?_
          exact ih x1 (tb_ABOVE x2.toNatClampNeg) (x3 + (1 : Int32)) hf
        · refine V_iconst (v := 1) C d_Socks_isUnder_19 (by decide) ?_
          exact V_zret hR hf rfl d_Socks_isUnder_20
set_option maxRecDepth 4000 in
theorem w_Socks_isUnder {E : Ev} {g : Gx} {r : Int32} {σ : St} (C : Cx E classes 4 (wC g) b_Socks_isUnder "WithTheReds$Socks" 1) (hR : RetZ E classes 4 (wC g) b_Socks_isUnder r σ) {a0 : Int32} {a1 : Int32} (hf : f_Socks_isUnder a0 a1 = some r) : V E classes 4 (wC g) σ 0 [(0, .int a0), (1, .int a1)] [] := by
  unfold f_Socks_isUnder at hf
  refine V_iload_n C 0 d_Socks_isUnder_0 rfl ?_
  refine V_istore_n C d_Socks_isUnder_1 (by decide) rfl ?_
  refine V_iconst (v := 0) C d_Socks_isUnder_2 (by decide) ?_
  refine V_istore_n C d_Socks_isUnder_3 (by decide) rfl ?_
  refine V.sub [3, 1, 0] rfl ?_
  exact w_Socks_isUnder_4 C hR FU a1 a0 (0 : Int32) hf
theorem c_Socks_isUnder {l : Launch} {g : Gx} (hok : Wok classes (wC g)) {σ : St} {a0 : Int32} {a1 : Int32} {r : Int32} (hf : f_Socks_isUnder a0 a1 = some r) : CtI classes l y_Socks_isUnder b_Socks_isUnder 4 (some .boolean) 1 (wC g) [.int a0, .int a1] σ r σ :=
  MetZ (by decide +kernel) hok (Nat.le_of_ble_eq_true rfl) (fun E _ C hR => w_Socks_isUnder C hR hf)
set_option maxRecDepth 4000 in
theorem w_Top_taken {E : Ev} {g : Gx} {r : Int32} {σ : St} (C : Cx E classes 5 (wC g) b_Top_taken "WithTheReds" 3) (hR : RetI E classes 5 (wC g) b_Top_taken r σ) {a1 : Int32} {a2 : Int32} (hf : f_Top_taken σ a1 a2 = some r) : V E classes 5 (wC g) σ 0 [(0, .ref (g.2.1 0)), (1, .int a1), (2, .int a2)] [] := by
  unfold f_Top_taken at hf
  refine V_iload_n C 1 d_Top_taken_0 rfl ?_
  obtain ⟨r1_1, hg, hf⟩ := bd hf
  refine V_callSi C [.int a1] (c_Top_isShelf C.2.2.2.2.2.2.2.1 hg) (by decide) cw_Top_104 rfl (Nat.le_of_ble_eq_true rfl) rfl d_Top_taken_1 ?_
  refine V_if_eq (pc := 4) (tgt := 17) C d_Top_taken_4 (by decide) hf (fun hf => ?_) (fun hf => ?_)
  · refine V_iconst (v := -1) C d_Top_taken_17 (by decide) ?_
    exact V_iret hR hf d_Top_taken_18
  · refine V_iload_n C 2 d_Top_taken_7 rfl ?_
    refine V_iconst (v := 0) C d_Top_taken_8 (by decide) ?_
    refine V_bipush (v := 7) C d_Top_taken_9 (by decide) ?_
    obtain ⟨r11_2, hg, hf⟩ := bd hf
    refine V_callSi C [.int a2, .int (0 : Int32), .int (7 : Int32)] (c_Top_within C.2.2.2.2.2.2.2.1 hg) (by decide) cw_Top_108 rfl (Nat.le_of_ble_eq_true rfl) rfl d_Top_taken_11 ?_
    refine V_if_ne (pc := 14) (tgt := 19) C d_Top_taken_14 (by decide) hf (fun hf => ?_) (fun hf => ?_)
    · refine V_aload_n C 0 d_Top_taken_19 rfl ?_
      refine gC_Top_shelves C fl_Top_87 d_Top_taken_20 ?_
      refine V_iload_n C 1 d_Top_taken_23 rfl ?_
      obtain ⟨hi24_3, hf⟩ := gu hf
      refine V_shelves C hi24_3 d_Top_taken_24 ?_
      refine V_astore_n C d_Top_taken_25 (by decide) rfl ?_
      refine V_aload_n C 0 d_Top_taken_26 rfl ?_
      refine gC_Shelf_sort (v := σ.1 (4201 + 200 * (a1.toNatClampNeg))) C (inb6 hi24_3) fl_Top_368 rfl d_Top_taken_27 ?_
      refine V_bipush (v := -2) C d_Top_taken_30 (by decide) ?_
      refine V_icmp_ne (pc := 32) (tgt := 38) C d_Top_taken_32 (by decide) hf (fun hf => ?_) (fun hf => ?_)
      · refine V_aload_n C 0 d_Top_taken_38 rfl ?_
        refine gC_Shelf_sort (v := σ.1 (4201 + 200 * (a1.toNatClampNeg))) C (inb6 hi24_3) fl_Top_368 rfl d_Top_taken_39 ?_
        refine V_iconst (v := -1) C d_Top_taken_42 (by decide) ?_
        refine V_icmp_ne (pc := 43) (tgt := 60) C d_Top_taken_43 (by decide) hf (fun hf => ?_) (fun hf => ?_)
        · refine V_bipush (v := -12) C d_Top_taken_60 (by decide) ?_
          exact V_iret hR hf d_Top_taken_62
        · refine V_aload_n C 1 d_Top_taken_46 rfl ?_
          refine gC_Top_socks C fl_Top_81 d_Top_taken_47 ?_
          refine V_aload_n C 0 d_Top_taken_50 rfl ?_
          refine gC_Shelf_body (v := σ.1 (4202 + 200 * (a1.toNatClampNeg))) C (inb6 hi24_3) fl_Top_383 rfl d_Top_taken_51 ?_
          obtain ⟨r54_4, hg, hf⟩ := bd hf
          refine V_callVi C [.int (σ.1 (4202 + 200 * (a1.toNatClampNeg)))] (c_Socks_isBody C.2.2.2.2.2.2.2.1 hg) (by decide) cw_Top_345 32 rfl rfl rfl rfl (Nat.le_of_ble_eq_true rfl) rfl d_Top_taken_54 ?_
          refine V_if_ne (pc := 57) (tgt := 63) C d_Top_taken_57 (by decide) hf (fun hf => ?_) (fun hf => ?_)
          · refine V_aload_n C 1 d_Top_taken_63 rfl ?_
            refine gC_Top_socks C fl_Top_81 d_Top_taken_64 ?_
            refine gC_Socks_kinds C fl_Top_386 d_Top_taken_67 ?_
            refine V_aload_n C 0 d_Top_taken_70 rfl ?_
            refine gC_Shelf_body (v := σ.1 (4202 + 200 * (a1.toNatClampNeg))) C (inb6 hi24_3) fl_Top_383 rfl d_Top_taken_71 ?_
            obtain ⟨hi74_5, hf⟩ := gu hf
            refine aC_33 (v := σ.2.1 33 (σ.1 (4202 + 200 * (a1.toNatClampNeg))).toNatClampNeg) C hi74_5 rfl d_Top_taken_74 ?_
            refine V_istore C d_Top_taken_75 (by decide) rfl ?_
            refine V_iload C 0 d_Top_taken_77 rfl ?_
            refine V_iload_n C 4 d_Top_taken_79 rfl ?_
            obtain ⟨r80_6, hg, hf⟩ := bd hf
            refine V_callSi C [.int (σ.2.1 33 (σ.1 (4202 + 200 * (a1.toNatClampNeg))).toNatClampNeg), .int a2] (c_Socks_isUnder C.2.2.2.2.2.2.2.1 hg) (by decide) cw_Top_389 rfl (Nat.le_of_ble_eq_true rfl) rfl d_Top_taken_80 ?_
            refine V_if_eq (pc := 83) (tgt := 91) C d_Top_taken_83 (by decide) hf (fun hf => ?_) (fun hf => ?_)
            · refine V_bipush (v := -12) C d_Top_taken_91 (by decide) ?_
              exact V_iret hR hf d_Top_taken_93
            · refine V_iload C 0 d_Top_taken_86 rfl ?_
              refine V_goto (pc := 88) (tgt := 93) C d_Top_taken_88 (by decide) ?_
              exact V_iret hR hf d_Top_taken_93
          · refine V_bipush (v := -12) C d_Top_taken_60 (by decide) ?_
            exact V_iret hR hf d_Top_taken_62
      · refine V_bipush (v := -11) C d_Top_taken_35 (by decide) ?_
        exact V_iret hR hf d_Top_taken_37
    · refine V_iconst (v := -1) C d_Top_taken_17 (by decide) ?_
      exact V_iret hR hf d_Top_taken_18
theorem c_Top_taken {l : Launch} {g : Gx} (hok : Wok classes (wC g)) {σ : St} {a1 : Int32} {a2 : Int32} {r : Int32} (hf : f_Top_taken σ a1 a2 = some r) : CtI classes l y_Top_taken b_Top_taken 5 (some .int) 3 (wC g) [.ref (g.2.1 0), .int a1, .int a2] σ r σ :=
  MetI (by decide +kernel) hok (Nat.le_of_ble_eq_true rfl) (fun E _ C hR => w_Top_taken C hR hf)
set_option maxRecDepth 4000 in
theorem w_Top_test_29 {E : Ev} {g : Gx} {r : Int32} {σ' : St} (C : Cx E classes 5 (wC g) b_Top_test "WithTheReds" 6) (hR : RetI E classes 5 (wC g) b_Top_test r σ') : ∀ (n : Nat) (σ : St) (x1 : Int32) (x2 : Int32) (x3 : Int32) (x4 : Int32), f_Top_test_29 n σ x1 x2 x3 x4 = some (r, σ') → V E classes 5 (wC g) σ 29 [(0, .ref (g.2.1 0)), (1, .int x1), (2, .int x2), (3, .int x3), (4, .int x4)] [] := by
  intro n
  induction n with
  | zero => intro σ x1 x2 x3 x4 hf; exact absurd hf (by unfold f_Top_test_29; exact nofun)
  | succ n ih =>
    intro σ x1 x2 x3 x4 hf
    unfold f_Top_test_29 at hf
    refine V_iload C 4 d_Top_test_29 rfl ?_
    refine V_aload_n C 0 d_Top_test_31 rfl ?_
    refine gC_Top_basket C fl_Top_10 d_Top_test_32 ?_
    refine gC_Basket_things (v := σ.1 103) C fl_Top_198 rfl d_Top_test_35 ?_
    refine V_icmp_ge (pc := 38) (tgt := 96) C d_Top_test_38 (by decide) hf (fun hf => ?_) (fun hf => ?_)
    · refine V_iload_n C 3 d_Top_test_96 rfl ?_
      exact V_iretW hR hf d_Top_test_97
    · refine V_iload_n C 1 d_Top_test_41 rfl ?_
      refine V_iload C 4 d_Top_test_42 rfl ?_
      obtain ⟨r44_1, hg, hf⟩ := bd hf
      refine V_callSi C [.int x1, .int x4] (c_Top_isOf C.2.2.2.2.2.2.2.1 hg) (by decide) cw_Top_182 rfl (Nat.le_of_ble_eq_true rfl) rfl d_Top_test_44 ?_
      refine V_if_eq (pc := 47) (tgt := 90) C d_Top_test_47 (by decide) hf (fun hf => ?_) (fun hf => ?_)
      · refine V_iinc (v := x4 + (1 : Int32)) C 4 d_Top_test_90 rfl rfl (by decide) rfl ?_
        refine V_goto (pc := 93) (tgt := 29) C d_Top_test_93 (by decide) ?_
        refine V.sub [1, 2, 3, 4, 0] rfl ?_
        exact ih σ x1 x2 x3 (x4 + (1 : Int32)) hf
      · refine V_aload_n C 0 d_Top_test_50 rfl ?_
        refine gC_Top_tub C fl_Top_35 d_Top_test_51 ?_
        refine V_iload C 4 d_Top_test_54 rfl ?_
        refine V_iconst (v := 3) C d_Top_test_56 (by decide) ?_
        obtain ⟨r57_2, σ57_2, hg, hf⟩ := bd2_of hf
        refine V_callVi C [.int x4, .int (3 : Int32)] (c_Tub_dyeOf C.2.2.2.2.2.2.2.1 hg) (by decide) cw_Top_157 39 rfl rfl rfl rfl (Nat.le_of_ble_eq_true rfl) rfl d_Top_test_57 ?_
        refine V_iload_n C 2 d_Top_test_60 rfl ?_
        refine V_bipush (v := 100) C d_Top_test_61 (by decide) ?_
        refine V_irem C d_Top_test_63 (by decide) ?_
        refine V_icmp_ge (pc := 64) (tgt := 90) C d_Top_test_64 (by decide) hf (fun hf => ?_) (fun hf => ?_)
        · refine V_iinc (v := x4 + (1 : Int32)) C 4 d_Top_test_90 rfl rfl (by decide) rfl ?_
          refine V_goto (pc := 93) (tgt := 29) C d_Top_test_93 (by decide) ?_
          refine V.sub [1, 2, 3, 4, 0] rfl ?_
          exact ih σ57_2 x1 x2 x3 (x4 + (1 : Int32)) hf
        · refine V_aload_n C 0 d_Top_test_67 rfl ?_
          refine gC_Top_tub C fl_Top_35 d_Top_test_68 ?_
          refine V_iload C 4 d_Top_test_71 rfl ?_
          refine V_iload_n C 2 d_Top_test_73 rfl ?_
          refine V_bipush (v := 100) C d_Top_test_74 (by decide) ?_
          refine V_idiv C d_Top_test_76 (by decide) ?_
          obtain ⟨r77_3, σ77_3, hg, hf⟩ := bd2_of hf
          refine V_callVi C [.int x4, .int (x2 / (100 : Int32))] (c_Tub_dyeOf C.2.2.2.2.2.2.2.1 hg) (by decide) cw_Top_157 39 rfl rfl rfl rfl (Nat.le_of_ble_eq_true rfl) rfl d_Top_test_77 ?_
          refine V_if_le (pc := 80) (tgt := 90) C d_Top_test_80 (by decide) hf (fun hf => ?_) (fun hf => ?_)
          · refine V_iinc (v := x4 + (1 : Int32)) C 4 d_Top_test_90 rfl rfl (by decide) rfl ?_
            refine V_goto (pc := 93) (tgt := 29) C d_Top_test_93 (by decide) ?_
            refine V.sub [1, 2, 3, 4, 0] rfl ?_
            exact ih σ77_3 x1 x2 x3 (x4 + (1 : Int32)) hf
          · refine V_iload_n C 3 d_Top_test_83 rfl ?_
            refine V_iconst (v := 1) C d_Top_test_84 (by decide) ?_
            refine V_iload C 4 d_Top_test_85 rfl ?_
            refine V_ishl C d_Top_test_87 ?_
            refine V_ior C d_Top_test_88 ?_
            refine V_istore_n C d_Top_test_89 (by decide) rfl ?_
            refine V_iinc (v := x4 + (1 : Int32)) C 4 d_Top_test_90 rfl rfl (by decide) rfl ?_
            refine V_goto (pc := 93) (tgt := 29) C d_Top_test_93 (by decide) ?_
            refine V.sub [2, 3, 4, 1, 0] rfl ?_
            exact ih σ77_3 x1 x2 (x3 ||| ((1 : Int32) <<< (x4 &&& 31))) (x4 + (1 : Int32)) hf
set_option maxRecDepth 4000 in
theorem w_Top_test {E : Ev} {g : Gx} {r : Int32} {σ' : St} (C : Cx E classes 5 (wC g) b_Top_test "WithTheReds" 6) (hR : RetI E classes 5 (wC g) b_Top_test r σ') {σ : St} {a1 : Int32} {a2 : Int32} (hf : f_Top_test σ a1 a2 = some (r, σ')) : V E classes 5 (wC g) σ 0 [(0, .ref (g.2.1 0)), (1, .int a1), (2, .int a2)] [] := by
  unfold f_Top_test at hf
  refine V_aload_n C 0 d_Top_test_0 rfl ?_
  refine V_iload_n C 1 d_Top_test_1 rfl ?_
  obtain ⟨r2_1, hg, hf⟩ := bd hf
  refine V_callVi C [.int a1] (c_Top_isSet C.2.2.2.2.2.2.2.1 hg) (by decide) cw_Top_160 0 rfl rfl rfl rfl (Nat.le_of_ble_eq_true rfl) rfl d_Top_test_2 ?_
  refine V_if_eq (pc := 5) (tgt := 22) C d_Top_test_5 (by decide) hf (fun hf => ?_) (fun hf => ?_)
  · refine V_iconst (v := -1) C d_Top_test_22 (by decide) ?_
    exact V_iretW hR hf d_Top_test_23
  · refine V_iload_n C 2 d_Top_test_8 rfl ?_
    obtain ⟨r9_2, hg, hf⟩ := bd hf
    refine V_callSi C [.int a2] (c_Top_isHeatAndTint C.2.2.2.2.2.2.2.1 hg) (by decide) cw_Top_191 rfl (Nat.le_of_ble_eq_true rfl) rfl d_Top_test_9 ?_
    refine V_if_eq (pc := 12) (tgt := 22) C d_Top_test_12 (by decide) hf (fun hf => ?_) (fun hf => ?_)
    · refine V_iconst (v := -1) C d_Top_test_22 (by decide) ?_
      exact V_iretW hR hf d_Top_test_23
    · refine V_iload_n C 2 d_Top_test_15 rfl ?_
      refine V_bipush (v := 100) C d_Top_test_16 (by decide) ?_
      refine V_irem C d_Top_test_18 (by decide) ?_
      refine V_if_ne (pc := 19) (tgt := 24) C d_Top_test_19 (by decide) hf (fun hf => ?_) (fun hf => ?_)
      · refine V_iconst (v := 0) C d_Top_test_24 (by decide) ?_
        refine V_istore_n C d_Top_test_25 (by decide) rfl ?_
        refine V_iconst (v := 0) C d_Top_test_26 (by decide) ?_
        refine V_istore C d_Top_test_27 (by decide) rfl ?_
        refine V.sub [2, 3, 4, 1, 0] rfl ?_
        exact w_Top_test_29 C hR FU σ a1 a2 (0 : Int32) (0 : Int32) hf
      · refine V_iconst (v := -1) C d_Top_test_22 (by decide) ?_
        exact V_iretW hR hf d_Top_test_23
theorem c_Top_test {l : Launch} {g : Gx} (hok : Wok classes (wC g)) {σ : St} {a1 : Int32} {a2 : Int32} {r : Int32} {σ' : St} (hf : f_Top_test σ a1 a2 = some (r, σ')) : CtI classes l y_Top_test b_Top_test 5 (some .int) 6 (wC g) [.ref (g.2.1 0), .int a1, .int a2] σ r σ' :=
  MetI (by decide +kernel) hok (Nat.le_of_ble_eq_true rfl) (fun E _ C hR => w_Top_test C hR hf)
set_option maxRecDepth 4000 in
theorem w_Top_thing {E : Ev} {g : Gx} {r : Int32} {σ' : St} (C : Cx E classes 3 (wC g) b_Top_thing "WithTheReds" 3) (hR : RetI E classes 3 (wC g) b_Top_thing r σ') {σ : St} {a1 : Int32} {a2 : Int32} (hf : f_Top_thing σ a1 a2 = some (r, σ')) : V E classes 3 (wC g) σ 0 [(0, .ref (g.2.1 0)), (1, .int a1), (2, .int a2)] [] := by
  unfold f_Top_thing at hf
  refine V_iconst (v := 0) C d_Top_thing_0 (by decide) ?_
  refine V_iload_n C 1 d_Top_thing_1 rfl ?_
  obtain ⟨r2_1, hg, hf⟩ := bd hf
  refine V_callSi C [.int (0 : Int32), .int a1] (c_Basket_mayBe C.2.2.2.2.2.2.2.1 hg) (by decide) cw_Top_92 rfl (Nat.le_of_ble_eq_true rfl) rfl d_Top_thing_2 ?_
  refine V_if_eq (pc := 5) (tgt := 16) C d_Top_thing_5 (by decide) hf (fun hf => ?_) (fun hf => ?_)
  · refine V_iconst (v := -1) C d_Top_thing_16 (by decide) ?_
    exact V_iretW hR hf d_Top_thing_17
  · refine V_iconst (v := 4) C d_Top_thing_8 (by decide) ?_
    refine V_iload_n C 2 d_Top_thing_9 rfl ?_
    obtain ⟨r10_2, hg, hf⟩ := bd hf
    refine V_callSi C [.int (4 : Int32), .int a2] (c_Basket_mayBe C.2.2.2.2.2.2.2.1 hg) (by decide) cw_Top_92 rfl (Nat.le_of_ble_eq_true rfl) rfl d_Top_thing_10 ?_
    refine V_if_ne (pc := 13) (tgt := 18) C d_Top_thing_13 (by decide) hf (fun hf => ?_) (fun hf => ?_)
    · refine V_aload_n C 0 d_Top_thing_18 rfl ?_
      refine gC_Top_basket C fl_Top_10 d_Top_thing_19 ?_
      obtain ⟨r22_3, hg, hf⟩ := bd hf
      refine V_callVi C [] (c_Basket_isFull C.2.2.2.2.2.2.2.1 hg) (by decide) cw_Top_96 1 rfl rfl rfl rfl (Nat.le_of_ble_eq_true rfl) rfl d_Top_thing_22 ?_
      refine V_if_eq (pc := 25) (tgt := 33) C d_Top_thing_25 (by decide) hf (fun hf => ?_) (fun hf => ?_)
      · refine V_aload_n C 0 d_Top_thing_33 rfl ?_
        refine gC_Top_basket C fl_Top_10 d_Top_thing_34 ?_
        refine V_iload_n C 1 d_Top_thing_37 rfl ?_
        refine V_iconst (v := 0) C d_Top_thing_38 (by decide) ?_
        refine V_iload_n C 2 d_Top_thing_39 rfl ?_
        obtain ⟨r40_4, σ40_4, hg, hf⟩ := bd2_of hf
        refine V_callVi C [.int a1, .int (0 : Int32), .int a2] (c_Basket_add C.2.2.2.2.2.2.2.1 hg) (by decide) cw_Top_100 1 rfl rfl rfl rfl (Nat.le_of_ble_eq_true rfl) rfl d_Top_thing_40 ?_
        exact V_iretW hR hf d_Top_thing_43
      · refine V_bipush (v := -3) C d_Top_thing_28 (by decide) ?_
        refine V_goto (pc := 30) (tgt := 43) C d_Top_thing_30 (by decide) ?_
        exact V_iretW hR hf d_Top_thing_43
    · refine V_iconst (v := -1) C d_Top_thing_16 (by decide) ?_
      exact V_iretW hR hf d_Top_thing_17
theorem c_Top_thing {l : Launch} {g : Gx} (hok : Wok classes (wC g)) {σ : St} {a1 : Int32} {a2 : Int32} {r : Int32} {σ' : St} (hf : f_Top_thing σ a1 a2 = some (r, σ')) : CtI classes l y_Top_thing b_Top_thing 3 (some .int) 3 (wC g) [.ref (g.2.1 0), .int a1, .int a2] σ r σ' :=
  MetI (by decide +kernel) hok (Nat.le_of_ble_eq_true rfl) (fun E _ C hR => w_Top_thing C hR hf)
set_option maxRecDepth 4000 in
theorem w_Top_things {E : Ev} {g : Gx} {r : Int32} {σ' : St} (C : Cx E classes 5 (wC g) b_Top_things "WithTheReds" 4) (hR : RetI E classes 5 (wC g) b_Top_things r σ') {σ : St} {a1 : Int32} {a2 : Int32} {a3 : Int32} (hf : f_Top_things σ a1 a2 a3 = some (r, σ')) : V E classes 5 (wC g) σ 0 [(0, .ref (g.2.1 0)), (1, .int a1), (2, .int a2), (3, .int a3)] [] := by
  unfold f_Top_things at hf
  refine V_iload_n C 1 d_Top_things_0 rfl ?_
  obtain ⟨r1_1, hg, hf⟩ := bd hf
  refine V_callSi C [.int a1] (c_Top_isShelf C.2.2.2.2.2.2.2.1 hg) (by decide) cw_Top_104 rfl (Nat.le_of_ble_eq_true rfl) rfl d_Top_things_1 ?_
  refine V_if_eq (pc := 4) (tgt := 17) C d_Top_things_4 (by decide) hf (fun hf => ?_) (fun hf => ?_)
  · refine V_iconst (v := -1) C d_Top_things_17 (by decide) ?_
    exact V_iretW hR hf d_Top_things_18
  · refine V_iload_n C 3 d_Top_things_7 rfl ?_
    refine V_iconst (v := 1) C d_Top_things_8 (by decide) ?_
    refine V_bipush (v := 10) C d_Top_things_9 (by decide) ?_
    obtain ⟨r11_2, hg, hf⟩ := bd hf
    refine V_callSi C [.int a3, .int (1 : Int32), .int (10 : Int32)] (c_Top_within C.2.2.2.2.2.2.2.1 hg) (by decide) cw_Top_108 rfl (Nat.le_of_ble_eq_true rfl) rfl d_Top_things_11 ?_
    refine V_if_ne (pc := 14) (tgt := 19) C d_Top_things_14 (by decide) hf (fun hf => ?_) (fun hf => ?_)
    · refine V_aload_n C 0 d_Top_things_19 rfl ?_
      refine V_iload_n C 1 d_Top_things_20 rfl ?_
      refine V_iconst (v := 0) C d_Top_things_21 (by decide) ?_
      obtain ⟨r22_3, hg, hf⟩ := bd hf
      refine V_callVi C [.int a1, .int (0 : Int32)] (c_Top_rowRefusal C.2.2.2.2.2.2.2.1 hg) (by decide) cw_Top_112 0 rfl rfl rfl rfl (Nat.le_of_ble_eq_true rfl) rfl d_Top_things_22 ?_
      refine V_istore C d_Top_things_25 (by decide) rfl ?_
      refine V_iload C 0 d_Top_things_27 rfl ?_
      refine V_bipush (v := -11) C d_Top_things_29 (by decide) ?_
      refine V_icmp_ne (pc := 31) (tgt := 36) C d_Top_things_31 (by decide) hf (fun hf => ?_) (fun hf => ?_)
      · refine V_iload C 0 d_Top_things_36 rfl ?_
        refine V_if_ne (pc := 38) (tgt := 56) C d_Top_things_38 (by decide) hf (fun hf => ?_) (fun hf => ?_)
        · refine V_iload C 0 d_Top_things_56 rfl ?_
          exact V_iretW hR hf d_Top_things_58
        · refine V_aload_n C 1 d_Top_things_41 rfl ?_
          refine V_aload_n C 1 d_Top_things_42 rfl ?_
          refine gC_Top_shelves C fl_Top_87 d_Top_things_43 ?_
          refine V_iload_n C 2 d_Top_things_46 rfl ?_
          obtain ⟨hi47_4, hf⟩ := gu hf
          refine V_shelves C hi47_4 d_Top_things_47 ?_
          refine V_iload_n C 3 d_Top_things_48 rfl ?_
          refine V_iload_n C 4 d_Top_things_49 rfl ?_
          obtain ⟨r50_5, σ50_5, hg, hf⟩ := bd2_of hf
          refine V_callVi C [.ref (g.2.1 (42 + 2 * (a1.toNatClampNeg))), .int a2, .int a3] (c_Top_addFrom C.2.2.2.2.2.2.2.1 (inb6 hi47_4) hg) (by decide) cw_Top_116 0 rfl rfl rfl rfl (Nat.le_of_ble_eq_true rfl) rfl d_Top_things_50 ?_
          refine V_goto (pc := 53) (tgt := 58) C d_Top_things_53 (by decide) ?_
          exact V_iretW hR hf d_Top_things_58
      · refine V_iconst (v := 0) C d_Top_things_34 (by decide) ?_
        exact V_iretW hR hf d_Top_things_35
    · refine V_iconst (v := -1) C d_Top_things_17 (by decide) ?_
      exact V_iretW hR hf d_Top_things_18
theorem c_Top_things {l : Launch} {g : Gx} (hok : Wok classes (wC g)) {σ : St} {a1 : Int32} {a2 : Int32} {a3 : Int32} {r : Int32} {σ' : St} (hf : f_Top_things σ a1 a2 a3 = some (r, σ')) : CtI classes l y_Top_things b_Top_things 5 (some .int) 4 (wC g) [.ref (g.2.1 0), .int a1, .int a2, .int a3] σ r σ' :=
  MetI (by decide +kernel) hok (Nat.le_of_ble_eq_true rfl) (fun E _ C hR => w_Top_things C hR hf)
