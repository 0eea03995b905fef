set_option maxRecDepth 4000 in
theorem w_Top_throwAway {E : Ev} {g : Gx} {r : Int32} {σ' : St} (C : Cx E classes 2 (wC g) b_Top_throwAway "WithTheReds" 3) (hR : RetI E classes 2 (wC g) b_Top_throwAway r σ') {σ : St} {a1 : Int32} (hf : f_Top_throwAway σ a1 = some (r, σ')) : V E classes 2 (wC g) σ 0 [(0, .ref (g.2.1 0)), (1, .int a1)] [] := by
  unfold f_Top_throwAway at hf
  refine V_aload_n C 0 d_Top_throwAway_0 rfl ?_
  refine gC_Top_basket C fl_Top_10 d_Top_throwAway_1 ?_
  refine V_iload_n C 1 d_Top_throwAway_4 rfl ?_
  obtain ⟨r5_1, hg, hf⟩ := bd hf
  refine V_callVi C [.int a1] (c_Basket_isThing C.2.2.2.2.2.2.2.1 hg) (by decide) cw_Top_134 1 rfl rfl rfl rfl (Nat.le_of_ble_eq_true rfl) rfl d_Top_throwAway_5 ?_
  refine V_if_ne (pc := 8) (tgt := 13) C d_Top_throwAway_8 (by decide) hf (fun hf => ?_) (fun hf => ?_)
  · refine V_aload_n C 0 d_Top_throwAway_13 rfl ?_
    refine gC_Top_basket C fl_Top_10 d_Top_throwAway_14 ?_
    refine gC_Basket_gone C fl_Top_303 d_Top_throwAway_17 ?_
    refine V_iload_n C 1 d_Top_throwAway_20 rfl ?_
    obtain ⟨hi21_2, hf⟩ := gu hf
    refine aC_4 (v := σ.2.1 4 a1.toNatClampNeg) C hi21_2 rfl d_Top_throwAway_21 ?_
    refine V_if_eq (pc := 22) (tgt := 28) C d_Top_throwAway_22 (by decide) hf (fun hf => ?_) (fun hf => ?_)
    · refine V_aload_n C 0 d_Top_throwAway_28 rfl ?_
      refine gC_Top_basket C fl_Top_10 d_Top_throwAway_29 ?_
      refine gC_Basket_gone C fl_Top_303 d_Top_throwAway_32 ?_
      refine V_iload_n C 1 d_Top_throwAway_35 rfl ?_
      refine V_iconst (v := 1) C d_Top_throwAway_36 (by decide) ?_
      obtain ⟨hi37_3, hf⟩ := gu hf
      refine sC_4 C hi37_3 d_Top_throwAway_37 ?_
      refine V_aload_n C 0 d_Top_throwAway_38 rfl ?_
      refine gC_Top_basket C fl_Top_10 d_Top_throwAway_39 ?_
      refine gC_Basket_things (v := σ.1 103) C fl_Top_198 rfl d_Top_throwAway_42 ?_
      refine V_aload_n C 0 d_Top_throwAway_45 rfl ?_
      refine gC_Top_basket C fl_Top_10 d_Top_throwAway_46 ?_
      obtain ⟨r49_4, hg, hf⟩ := bd hf
      refine V_callVi C [] (c_Basket_goneOnes C.2.2.2.2.2.2.2.1 hg) (by decide) cw_Top_307 1 rfl rfl rfl rfl (Nat.le_of_ble_eq_true rfl) rfl d_Top_throwAway_49 ?_
      refine V_isub C d_Top_throwAway_52 ?_
      exact V_iretW hR hf d_Top_throwAway_53
    · refine V_bipush (v := -5) C d_Top_throwAway_25 (by decide) ?_
      exact V_iretW hR hf d_Top_throwAway_27
  · refine V_iconst (v := -1) C d_Top_throwAway_11 (by decide) ?_
    exact V_iretW hR hf d_Top_throwAway_12
theorem c_Top_throwAway {l : Launch} {g : Gx} (hok : Wok classes (wC g)) {σ : St} {a1 : Int32} {r : Int32} {σ' : St} (hf : f_Top_throwAway σ a1 = some (r, σ')) : CtI classes l y_Top_throwAway b_Top_throwAway 2 (some .int) 3 (wC g) [.ref (g.2.1 0), .int a1] σ r σ' :=
  MetI (by decide +kernel) hok (Nat.le_of_ble_eq_true rfl) (fun E _ C hR => w_Top_throwAway C hR hf)
set_option maxRecDepth 4000 in
theorem w_Top_tint {E : Ev} {g : Gx} {r : Int32} {σ' : St} (C : Cx E classes 4 (wC g) b_Top_tint "WithTheReds" 7) (hR : RetI E classes 4 (wC g) b_Top_tint r σ') {σ : St} {a1 : Int32} {a2 : Int32} {a3 : Int32} (hf : f_Top_tint σ a1 a2 a3 = some (r, σ')) : V E classes 4 (wC g) σ 0 [(0, .ref (g.2.1 0)), (1, .int a1), (2, .int a2), (3, .int a3)] [] := by
  unfold f_Top_tint at hf
  refine V_aload_n C 0 d_Top_tint_0 rfl ?_
  refine V_iload_n C 1 d_Top_tint_1 rfl ?_
  obtain ⟨r2_1, hg, hf⟩ := bd hf
  refine V_callVi C [.int a1] (c_Top_isSet C.2.2.2.2.2.2.2.1 hg) (by decide) cw_Top_160 0 rfl rfl rfl rfl (Nat.le_of_ble_eq_true rfl) rfl d_Top_tint_2 ?_
  refine V_if_eq (pc := 5) (tgt := 23) C d_Top_tint_5 (by decide) hf (fun hf => ?_) (fun hf => ?_)
  · refine V_iconst (v := -1) C d_Top_tint_23 (by decide) ?_
    exact V_iretW hR hf d_Top_tint_24
  · refine V_iload_n C 2 d_Top_tint_8 rfl ?_
    obtain ⟨r9_2, hg, hf⟩ := bd hf
    refine V_callSi C [.int a2] (c_Top_isHeatAndCloth C.2.2.2.2.2.2.2.1 hg) (by decide) cw_Top_163 rfl (Nat.le_of_ble_eq_true rfl) rfl d_Top_tint_9 ?_
    refine V_if_eq (pc := 12) (tgt := 23) C d_Top_tint_12 (by decide) hf (fun hf => ?_) (fun hf => ?_)
    · refine V_iconst (v := -1) C d_Top_tint_23 (by decide) ?_
      exact V_iretW hR hf d_Top_tint_24
    · refine V_iload_n C 1 d_Top_tint_15 rfl ?_
      refine V_iload_n C 3 d_Top_tint_16 rfl ?_
      obtain ⟨r17_3, hg, hf⟩ := bd hf
      refine V_callSi C [.int a1, .int a3] (c_Top_isOf C.2.2.2.2.2.2.2.1 hg) (by decide) cw_Top_182 rfl (Nat.le_of_ble_eq_true rfl) rfl d_Top_tint_17 ?_
      refine V_if_ne (pc := 20) (tgt := 25) C d_Top_tint_20 (by decide) hf (fun hf => ?_) (fun hf => ?_)
      · refine V_aload_n C 0 d_Top_tint_25 rfl ?_
        refine gC_Top_tub C fl_Top_35 d_Top_tint_26 ?_
        refine V_iload_n C 1 d_Top_tint_29 rfl ?_
        refine V_iload_n C 2 d_Top_tint_30 rfl ?_
        obtain ⟨σ31_4, hg, hf⟩ := bd hf
        refine V_callVv C [.int a1, .int a2] (c_Tub_load C.2.2.2.2.2.2.2.1 hg) (by decide) cw_Top_166 39 rfl rfl rfl rfl (Nat.le_of_ble_eq_true rfl) rfl d_Top_tint_31 ?_
        refine V_aload_n C 0 d_Top_tint_34 rfl ?_
        refine gC_Top_tub C fl_Top_35 d_Top_tint_35 ?_
        refine V_iload_n C 3 d_Top_tint_38 rfl ?_
        obtain ⟨r39_5, hg, hf⟩ := bd hf
        refine V_callVi C [.int a3] (c_Tub_tintOf C.2.2.2.2.2.2.2.1 hg) (by decide) cw_Top_185 39 rfl rfl rfl rfl (Nat.le_of_ble_eq_true rfl) rfl d_Top_tint_39 ?_
        exact V_iretW hR hf d_Top_tint_42
      · refine V_iconst (v := -1) C d_Top_tint_23 (by decide) ?_
        exact V_iretW hR hf d_Top_tint_24
theorem c_Top_tint {l : Launch} {g : Gx} (hok : Wok classes (wC g)) {σ : St} {a1 : Int32} {a2 : Int32} {a3 : Int32} {r : Int32} {σ' : St} (hf : f_Top_tint σ a1 a2 a3 = some (r, σ')) : CtI classes l y_Top_tint b_Top_tint 4 (some .int) 7 (wC g) [.ref (g.2.1 0), .int a1, .int a2, .int a3] σ r σ' :=
  MetI (by decide +kernel) hok (Nat.le_of_ble_eq_true rfl) (fun E _ C hR => w_Top_tint C hR hf)
set_option maxRecDepth 4000 in
theorem w_Top_together_36 {E : Ev} {g : Gx} {r : Int32} {σ' : St} (C : Cx E classes 5 (wC g) b_Top_together "WithTheReds" 6) (hR : RetI E classes 5 (wC g) b_Top_together r σ') : ∀ (n : Nat) (σ : St) (x1 : Int32) (x2 : Int32) (x3 : Int32) (x4 : Int32), f_Top_together_36 n σ x1 x2 x3 x4 = some (r, σ') → V E classes 5 (wC g) σ 36 [(0, .ref (g.2.1 0)), (1, .int x1), (2, .int x2), (3, .int x3), (4, .int x4)] [] := by
  intro n
  induction n with
  | zero => intro σ x1 x2 x3 x4 hf; exact absurd hf (by unfold f_Top_together_36; exact nofun)
  | succ n ih =>
    intro σ x1 x2 x3 x4 hf
    unfold f_Top_together_36 at hf
    refine V_iload C 4 d_Top_together_36 rfl ?_
    refine V_aload_n C 0 d_Top_together_38 rfl ?_
    refine gC_Top_basket C fl_Top_10 d_Top_together_39 ?_
    refine gC_Basket_things (v := σ.1 103) C fl_Top_198 rfl d_Top_together_42 ?_
    refine V_icmp_ge (pc := 45) (tgt := 97) C d_Top_together_45 (by decide) hf (fun hf => ?_) (fun hf => ?_)
    · refine V_iload_n C 3 d_Top_together_97 rfl ?_
      exact V_iretW hR hf d_Top_together_98
    · refine V_aload_n C 0 d_Top_together_48 rfl ?_
      refine gC_Top_tub C fl_Top_35 d_Top_together_49 ?_
      refine V_iconst (v := 1) C d_Top_together_52 (by decide) ?_
      refine V_iload_n C 1 d_Top_together_53 rfl ?_
      refine V_ishl C d_Top_together_54 ?_
      refine V_iconst (v := 1) C d_Top_together_55 (by decide) ?_
      refine V_iload C 4 d_Top_together_56 rfl ?_
      refine V_ishl C d_Top_together_58 ?_
      refine V_ior C d_Top_together_59 ?_
      refine V_iconst (v := 0) C d_Top_together_60 (by decide) ?_
      obtain ⟨σ61_1, hg, hf⟩ := bd hf
      refine V_callVv C [.int (((1 : Int32) <<< (x1 &&& 31)) ||| ((1 : Int32) <<< (x4 &&& 31))), .int (0 : Int32)] (c_Tub_fill C.2.2.2.2.2.2.2.1 hg) (by decide) cw_Top_201 39 rfl rfl rfl rfl (Nat.le_of_ble_eq_true rfl) rfl d_Top_together_61 ?_
      refine V_iload C 4 d_Top_together_64 rfl ?_
      refine V_iload_n C 1 d_Top_together_66 rfl ?_
      refine V_icmp_eq (pc := 67) (tgt := 91) C d_Top_together_67 (by decide) hf (fun hf => ?_) (fun hf => ?_)
      · refine V_iinc (v := x4 + (1 : Int32)) C 4 d_Top_together_91 rfl rfl (by decide) rfl ?_
        refine V_goto (pc := 94) (tgt := 36) C d_Top_together_94 (by decide) ?_
        refine V.sub [1, 2, 3, 4, 0] rfl ?_
        exact ih σ61_1 x1 x2 x3 (x4 + (1 : Int32)) hf
      · refine V_aload_n C 0 d_Top_together_70 rfl ?_
        refine gC_Top_tub C fl_Top_35 d_Top_together_71 ?_
        refine V_iload_n C 2 d_Top_together_74 rfl ?_
        refine V_bipush (v := 100) C d_Top_together_75 (by decide) ?_
        refine V_irem C d_Top_together_77 (by decide) ?_
        obtain ⟨r78_2, hg, hf⟩ := bd hf
        refine V_callVi C [.int (irem x2 (100 : Int32))] (c_Tub_isSafe C.2.2.2.2.2.2.2.1 hg) (by decide) cw_Top_188 39 rfl rfl rfl rfl (Nat.le_of_ble_eq_true rfl) rfl d_Top_together_78 ?_
        refine V_if_eq (pc := 81) (tgt := 91) C d_Top_together_81 (by decide) hf (fun hf => ?_) (fun hf => ?_)
        · refine V_iinc (v := x4 + (1 : Int32)) C 4 d_Top_together_91 rfl rfl (by decide) rfl ?_
          refine V_goto (pc := 94) (tgt := 36) C d_Top_together_94 (by decide) ?_
          refine V.sub [1, 2, 3, 4, 0] rfl ?_
          exact ih σ61_1 x1 x2 x3 (x4 + (1 : Int32)) hf
        · refine V_iload_n C 3 d_Top_together_84 rfl ?_
          refine V_iconst (v := 1) C d_Top_together_85 (by decide) ?_
          refine V_iload C 4 d_Top_together_86 rfl ?_
          refine V_ishl C d_Top_together_88 ?_
          refine V_ior C d_Top_together_89 ?_
          refine V_istore_n C d_Top_together_90 (by decide) rfl ?_
          refine V_iinc (v := x4 + (1 : Int32)) C 4 d_Top_together_91 rfl rfl (by decide) rfl ?_
          refine V_goto (pc := 94) (tgt := 36) C d_Top_together_94 (by decide) ?_
          refine V.sub [2, 3, 4, 1, 0] rfl ?_
          exact ih σ61_1 x1 x2 (x3 ||| ((1 : Int32) <<< (x4 &&& 31))) (x4 + (1 : Int32)) hf
set_option maxRecDepth 4000 in
theorem w_Top_together {E : Ev} {g : Gx} {r : Int32} {σ' : St} (C : Cx E classes 5 (wC g) b_Top_together "WithTheReds" 6) (hR : RetI E classes 5 (wC g) b_Top_together r σ') {σ : St} {a1 : Int32} {a2 : Int32} (hf : f_Top_together σ a1 a2 = some (r, σ')) : V E classes 5 (wC g) σ 0 [(0, .ref (g.2.1 0)), (1, .int a1), (2, .int a2)] [] := by
  unfold f_Top_together at hf
  refine V_aload_n C 0 d_Top_together_0 rfl ?_
  refine gC_Top_basket C fl_Top_10 d_Top_together_1 ?_
  refine V_iload_n C 1 d_Top_together_4 rfl ?_
  obtain ⟨r5_1, hg, hf⟩ := bd hf
  refine V_callVi C [.int a1] (c_Basket_isThing C.2.2.2.2.2.2.2.1 hg) (by decide) cw_Top_134 1 rfl rfl rfl rfl (Nat.le_of_ble_eq_true rfl) rfl d_Top_together_5 ?_
  refine V_if_eq (pc := 8) (tgt := 18) C d_Top_together_8 (by decide) hf (fun hf => ?_) (fun hf => ?_)
  · refine V_iconst (v := -1) C d_Top_together_18 (by decide) ?_
    exact V_iretW hR hf d_Top_together_19
  · refine V_iload_n C 2 d_Top_together_11 rfl ?_
    obtain ⟨r12_2, hg, hf⟩ := bd hf
    refine V_callSi C [.int a2] (c_Top_isHeatAndTint C.2.2.2.2.2.2.2.1 hg) (by decide) cw_Top_191 rfl (Nat.le_of_ble_eq_true rfl) rfl d_Top_together_12 ?_
    refine V_if_ne (pc := 15) (tgt := 20) C d_Top_together_15 (by decide) hf (fun hf => ?_) (fun hf => ?_)
    · refine V_aload_n C 0 d_Top_together_20 rfl ?_
      refine gC_Top_tub C fl_Top_35 d_Top_together_21 ?_
      refine V_iload_n C 2 d_Top_together_24 rfl ?_
      refine V_bipush (v := 100) C d_Top_together_25 (by decide) ?_
      refine V_idiv C d_Top_together_27 (by decide) ?_
      obtain ⟨σ28_3, hg, hf⟩ := bd hf
      refine V_callVv C [.int (a2 / (100 : Int32))] (c_Tub_warm C.2.2.2.2.2.2.2.1 hg) (by decide) cw_Top_194 39 rfl rfl rfl rfl (Nat.le_of_ble_eq_true rfl) rfl d_Top_together_28 ?_
      refine V_iconst (v := 0) C d_Top_together_31 (by decide) ?_
      refine V_istore_n C d_Top_together_32 (by decide) rfl ?_
      refine V_iconst (v := 0) C d_Top_together_33 (by decide) ?_
      refine V_istore C d_Top_together_34 (by decide) rfl ?_
      refine V.sub [2, 3, 4, 1, 0] rfl ?_
      exact w_Top_together_36 C hR FU σ28_3 a1 a2 (0 : Int32) (0 : Int32) hf
    · refine V_iconst (v := -1) C d_Top_together_18 (by decide) ?_
      exact V_iretW hR hf d_Top_together_19
theorem c_Top_together {l : Launch} {g : Gx} (hok : Wok classes (wC g)) {σ : St} {a1 : Int32} {a2 : Int32} {r : Int32} {σ' : St} (hf : f_Top_together σ a1 a2 = some (r, σ')) : CtI classes l y_Top_together b_Top_together 5 (some .int) 6 (wC g) [.ref (g.2.1 0), .int a1, .int a2] σ r σ' :=
  MetI (by decide +kernel) hok (Nat.le_of_ble_eq_true rfl) (fun E _ C hR => w_Top_together C hR hf)
set_option maxRecDepth 4000 in
theorem w_Socks_kept {E : Ev} {g : Gx} {r : Int32} {σ : St} (C : Cx E classes 1 (wC g) b_Socks_kept "WithTheReds$Socks" 1) (hR : RetI E classes 1 (wC g) b_Socks_kept r σ) (hf : f_Socks_kept σ = some r) : V E classes 1 (wC g) σ 0 [(0, .ref (g.2.1 32))] [] := by
  unfold f_Socks_kept at hf
  refine V_aload_n C 0 d_Socks_kept_0 rfl ?_
  refine gC_Socks_ran (v := σ.1 3203) C fl_Socks_33 rfl d_Socks_kept_1 ?_
  refine V_bipush (v := 24) C d_Socks_kept_4 (by decide) ?_
  refine V_min C ml_Socks_36 (by decide) (Nat.le_of_ble_eq_true rfl) d_Socks_kept_6 ?_
  exact V_iret hR hf d_Socks_kept_9
theorem c_Socks_kept {l : Launch} {g : Gx} (hok : Wok classes (wC g)) {σ : St} {r : Int32} (hf : f_Socks_kept σ = some r) : CtI classes l y_Socks_kept b_Socks_kept 1 (some .int) 1 (wC g) [.ref (g.2.1 32)] σ r σ :=
  MetI (by decide +kernel) hok (Nat.le_of_ble_eq_true rfl) (fun E _ C hR => w_Socks_kept C hR hf)
set_option maxRecDepth 4000 in
theorem w_Top_trace {E : Ev} {g : Gx} {r : Int32} {σ : St} (C : Cx E classes 2 (wC g) b_Top_trace "WithTheReds" 2) (hR : RetI E classes 2 (wC g) b_Top_trace r σ) {a1 : Int32} (hf : f_Top_trace σ a1 = some r) : V E classes 2 (wC g) σ 0 [(0, .ref (g.2.1 0)), (1, .int a1)] [] := by
  unfold f_Top_trace at hf
  refine V_iload_n C 1 d_Top_trace_0 rfl ?_
  refine V_iconst (v := 0) C d_Top_trace_1 (by decide) ?_
  refine V_aload_n C 0 d_Top_trace_2 rfl ?_
  refine gC_Top_socks C fl_Top_81 d_Top_trace_3 ?_
  obtain ⟨r6_1, hg, hf⟩ := bd hf
  refine V_callVi C [] (c_Socks_kept C.2.2.2.2.2.2.2.1 hg) (by decide) cw_Top_339 32 rfl rfl rfl rfl (Nat.le_of_ble_eq_true rfl) rfl d_Top_trace_6 ?_
  refine V_iconst (v := 1) C d_Top_trace_9 (by decide) ?_
  refine V_isub C d_Top_trace_10 ?_
  obtain ⟨r11_2, hg, hf⟩ := bd hf
  refine V_callSi C [.int a1, .int (0 : Int32), .int (r6_1 - (1 : Int32))] (c_Top_within C.2.2.2.2.2.2.2.1 hg) (by decide) cw_Top_108 rfl (Nat.le_of_ble_eq_true rfl) rfl d_Top_trace_11 ?_
  refine V_if_eq (pc := 14) (tgt := 29) C d_Top_trace_14 (by decide) hf (fun hf => ?_) (fun hf => ?_)
  · refine V_iconst (v := -1) C d_Top_trace_29 (by decide) ?_
    exact V_iret hR hf d_Top_trace_30
  · refine V_aload_n C 0 d_Top_trace_17 rfl ?_
    refine gC_Top_socks C fl_Top_81 d_Top_trace_18 ?_
    refine gC_Socks_traced C fl_Top_342 d_Top_trace_21 ?_
    refine V_iload_n C 1 d_Top_trace_24 rfl ?_
    obtain ⟨hi25_3, hf⟩ := gu hf
    refine aC_34 (v := σ.2.1 34 a1.toNatClampNeg) C hi25_3 rfl d_Top_trace_25 ?_
    refine V_goto (pc := 26) (tgt := 30) C d_Top_trace_26 (by decide) ?_
    exact V_iret hR hf d_Top_trace_30
theorem c_Top_trace {l : Launch} {g : Gx} (hok : Wok classes (wC g)) {σ : St} {a1 : Int32} {r : Int32} (hf : f_Top_trace σ a1 = some r) : CtI classes l y_Top_trace b_Top_trace 2 (some .int) 2 (wC g) [.ref (g.2.1 0), .int a1] σ r σ :=
  MetI (by decide +kernel) hok (Nat.le_of_ble_eq_true rfl) (fun E _ C hR => w_Top_trace C hR hf)
set_option maxRecDepth 4000 in
theorem w_Changes_takeBack {E : Ev} {g : Gx} {σ' : St} (C : Cx E classes 2 (wC g) b_Changes_takeBack "WithTheReds$Changes" 2) (hR : RetV E classes 2 (wC g) b_Changes_takeBack σ') {σ : St} (hf : f_Changes_takeBack σ = some σ') : V E classes 2 (wC g) σ 0 [(0, .ref (g.2.1 5)), (1, .ref (g.2.1 1))] [] := by
  unfold f_Changes_takeBack at hf
  refine V_aload_n C 0 d_Changes_takeBack_0 rfl ?_
  refine gC_Changes_done (v := σ.1 503) C fl_Changes_19 rfl d_Changes_takeBack_1 ?_
  refine V_if_le (pc := 4) (tgt := 49) C d_Changes_takeBack_4 (by decide) hf (fun hf => ?_) (fun hf => ?_)
  · exact V_vret hR hf d_Changes_takeBack_49
  · refine V_aload_n C 0 d_Changes_takeBack_7 rfl ?_
    refine V_dup C d_Changes_takeBack_8 rfl ?_
    refine gC_Changes_done (v := σ.1 503) C fl_Changes_19 rfl d_Changes_takeBack_9 ?_
    refine V_iconst (v := 1) C d_Changes_takeBack_12 (by decide) ?_
    refine V_isub C d_Changes_takeBack_13 ?_
    refine pC_Changes_done C fl_Changes_19 d_Changes_takeBack_14 ?_
    refine V_aload_n C 0 d_Changes_takeBack_17 rfl ?_
    refine V_dup C d_Changes_takeBack_18 rfl ?_
    refine gC_Changes_undone (v := σ.1 504) C fl_Changes_26 rfl d_Changes_takeBack_19 ?_
    refine V_iconst (v := 1) C d_Changes_takeBack_22 (by decide) ?_
    refine V_iadd C d_Changes_takeBack_23 ?_
    refine pC_Changes_undone C fl_Changes_26 d_Changes_takeBack_24 ?_
    refine V_aload_n C 1 d_Changes_takeBack_27 rfl ?_
    refine V_aload_n C 0 d_Changes_takeBack_28 rfl ?_
    refine gC_Changes_slots C fl_Changes_9 d_Changes_takeBack_29 ?_
    refine V_aload_n C 0 d_Changes_takeBack_32 rfl ?_
    refine gC_Changes_done (v := ((σ.1 503) - (1 : Int32))) C fl_Changes_19 rfl d_Changes_takeBack_33 ?_
    obtain ⟨hi36_1, hf⟩ := gu hf
    refine aC_6 (v := σ.2.1 6 ((σ.1 503) - (1 : Int32)).toNatClampNeg) C hi36_1 rfl d_Changes_takeBack_36 ?_
    refine V_aload_n C 0 d_Changes_takeBack_37 rfl ?_
    refine gC_Changes_before C fl_Changes_13 d_Changes_takeBack_38 ?_
    refine V_aload_n C 0 d_Changes_takeBack_41 rfl ?_
    refine gC_Changes_done (v := ((σ.1 503) - (1 : Int32))) C fl_Changes_19 rfl d_Changes_takeBack_42 ?_
    obtain ⟨hi45_2, hf⟩ := gu hf
    refine aC_7 (v := σ.2.1 7 ((σ.1 503) - (1 : Int32)).toNatClampNeg) C hi45_2 rfl d_Changes_takeBack_45 ?_
    obtain ⟨σ46_3, hg, hf⟩ := bd hf
    refine V_callVv C [.int (σ.2.1 6 ((σ.1 503) - (1 : Int32)).toNatClampNeg), .int (σ.2.1 7 ((σ.1 503) - (1 : Int32)).toNatClampNeg)] (c_Basket_write C.2.2.2.2.2.2.2.1 hg) (by decide) cw_Changes_35 1 rfl rfl rfl rfl (Nat.le_of_ble_eq_true rfl) rfl d_Changes_takeBack_46 ?_
    exact V_vret hR hf d_Changes_takeBack_49
theorem c_Changes_takeBack {l : Launch} {g : Gx} (hok : Wok classes (wC g)) {σ : St} {σ' : St} (hf : f_Changes_takeBack σ = some σ') : CtV classes l y_Changes_takeBack b_Changes_takeBack 2 none 2 (wC g) [.ref (g.2.1 5), .ref (g.2.1 1)] σ σ' :=
  MetV (by decide +kernel) hok (Nat.le_of_ble_eq_true rfl) (fun E _ C hR => w_Changes_takeBack C hR hf)
set_option maxRecDepth 4000 in
theorem w_Top_undo {E : Ev} {g : Gx} {r : Int32} {σ' : St} (C : Cx E classes 1 (wC g) b_Top_undo "WithTheReds" 3) (hR : RetI E classes 1 (wC g) b_Top_undo r σ') {σ : St} (hf : f_Top_undo σ = some (r, σ')) : V E classes 1 (wC g) σ 0 [(0, .ref (g.2.1 0))] [] := by
  unfold f_Top_undo at hf
  refine V_aload_n C 0 d_Top_undo_0 rfl ?_
  refine gC_Top_changes C fl_Top_74 d_Top_undo_1 ?_
  refine gC_Changes_done (v := σ.1 503) C fl_Top_322 rfl d_Top_undo_4 ?_
  refine V_if_ne (pc := 7) (tgt := 13) C d_Top_undo_7 (by decide) hf (fun hf => ?_) (fun hf => ?_)
  · refine V_aload_n C 0 d_Top_undo_13 rfl ?_
    refine gC_Top_changes C fl_Top_74 d_Top_undo_14 ?_
    refine V_aload_n C 0 d_Top_undo_17 rfl ?_
    refine gC_Top_basket C fl_Top_10 d_Top_undo_18 ?_
    obtain ⟨σ21_1, hg, hf⟩ := bd hf
    refine V_callVv C [.ref (g.2.1 1)] (c_Changes_takeBack C.2.2.2.2.2.2.2.1 hg) (by decide) cw_Top_325 5 rfl rfl rfl rfl (Nat.le_of_ble_eq_true rfl) rfl d_Top_undo_21 ?_
    refine V_aload_n C 0 d_Top_undo_24 rfl ?_
    refine gC_Top_changes C fl_Top_74 d_Top_undo_25 ?_
    refine gC_Changes_done (v := σ21_1.1 503) C fl_Top_322 rfl d_Top_undo_28 ?_
    exact V_iretW hR hf d_Top_undo_31
  · refine V_bipush (v := -5) C d_Top_undo_10 (by decide) ?_
    exact V_iretW hR hf d_Top_undo_12
theorem c_Top_undo {l : Launch} {g : Gx} (hok : Wok classes (wC g)) {σ : St} {r : Int32} {σ' : St} (hf : f_Top_undo σ = some (r, σ')) : CtI classes l y_Top_undo b_Top_undo 1 (some .int) 3 (wC g) [.ref (g.2.1 0)] σ r σ' :=
  MetI (by decide +kernel) hok (Nat.le_of_ble_eq_true rfl) (fun E _ C hR => w_Top_undo C hR hf)
set_option maxRecDepth 4000 in
theorem w_Deeds_washAll_54 {E : Ev} {g : Gx} {r : Int32} {σ' : St} (C : Cx E classes 6 (wC g) b_Deeds_washAll "WithTheReds$Deeds" 5) (hR : RetI E classes 6 (wC g) b_Deeds_washAll r σ') : ∀ (n : Nat) (σ : St) (x3 : Int32) (x4 : Int32), f_Deeds_washAll_54 n σ x3 x4 = some (r, σ') → V E classes 6 (wC g) σ 54 [(0, .ref (g.2.1 9)), (1, .ref (g.2.1 39)), (3, .int x3), (4, .int x4)] [] := by
  intro n
  induction n with
  | zero => intro σ x3 x4 hf; exact absurd hf (by unfold f_Deeds_washAll_54; exact nofun)
  | succ n ih =>
    intro σ x3 x4 hf
    unfold f_Deeds_washAll_54 at hf
    refine V_iload C 3 d_Deeds_washAll_54 rfl ?_
    refine V_aload_n C 0 d_Deeds_washAll_56 rfl ?_
    refine gC_Deeds_basket C fl_Deeds_32 d_Deeds_washAll_57 ?_
    refine gC_Basket_things (v := σ.1 103) C fl_Deeds_51 rfl d_Deeds_washAll_60 ?_
    refine V_icmp_ge (pc := 63) (tgt := 154) C d_Deeds_washAll_63 (by decide) hf (fun hf => ?_) (fun hf => ?_)
    · refine V_iload_n C 2 d_Deeds_washAll_154 rfl ?_
      exact V_iretW hR hf d_Deeds_washAll_155
    · refine V_aload_n C 1 d_Deeds_washAll_66 rfl ?_
      refine gC_Tub_set (v := σ.1 3904) C fl_Deeds_56 rfl d_Deeds_washAll_67 ?_
      refine V_iload C 3 d_Deeds_washAll_70 rfl ?_
      obtain ⟨r72_1, hg, hf⟩ := bd hf
      refine V_callNi C [.int (σ.1 3904), .int x4] (c_Top_isOf C.2.2.2.2.2.2.2.1 hg) (by decide) cw_Deeds_59 nw_Deeds_59 rfl (Nat.le_of_ble_eq_true rfl) rfl d_Deeds_washAll_72 ?_
      refine V_if_eq (pc := 75) (tgt := 148) C d_Deeds_washAll_75 (by decide) hf (fun hf => ?_) (fun hf => ?_)
      · refine V_iinc (v := x4 + (1 : Int32)) C 3 d_Deeds_washAll_148 rfl rfl (by decide) rfl ?_
        refine V_goto (pc := 151) (tgt := 54) C d_Deeds_washAll_151 (by decide) ?_
        refine V.sub [1, 2, 3, 0] rfl ?_
        exact ih σ x3 (x4 + (1 : Int32)) hf
      · refine V_aload_n C 0 d_Deeds_washAll_78 rfl ?_
        refine gC_Deeds_basket C fl_Deeds_32 d_Deeds_washAll_79 ?_
        refine gC_Basket_tints C fl_Deeds_63 d_Deeds_washAll_82 ?_
        refine V_iload C 3 d_Deeds_washAll_85 rfl ?_
        refine V_bipush (v := 99) C d_Deeds_washAll_87 (by decide) ?_
        refine V_aload_n C 0 d_Deeds_washAll_89 rfl ?_
        refine gC_Deeds_basket C fl_Deeds_32 d_Deeds_washAll_90 ?_
        refine gC_Basket_tints C fl_Deeds_63 d_Deeds_washAll_93 ?_
        refine V_iload C 3 d_Deeds_washAll_96 rfl ?_
        obtain ⟨hi98_2, hf⟩ := gu hf
        refine aC_3 (v := σ.2.1 3 x4.toNatClampNeg) C hi98_2 rfl d_Deeds_washAll_98 ?_
        refine V_aload_n C 1 d_Deeds_washAll_99 rfl ?_
        refine V_iload C 3 d_Deeds_washAll_100 rfl ?_
        obtain ⟨r102_3, hg, hf⟩ := bd hf
        refine V_callVi C [.int x4] (c_Tub_tintOf C.2.2.2.2.2.2.2.1 hg) (by decide) cw_Deeds_66 39 rfl rfl rfl rfl (Nat.le_of_ble_eq_true rfl) rfl d_Deeds_washAll_102 ?_
        refine V_iadd C d_Deeds_washAll_105 ?_
        refine V_min C ml_Deeds_69 (by decide) (Nat.le_of_ble_eq_true rfl) d_Deeds_washAll_106 ?_
        obtain ⟨hi109_4, hf⟩ := gu hf
        refine sC_3 C hi109_4 d_Deeds_washAll_109 ?_
        refine V_aload_n C 0 d_Deeds_washAll_110 rfl ?_
        refine gC_Deeds_basket C fl_Deeds_32 d_Deeds_washAll_111 ?_
        refine V_iload C 3 d_Deeds_washAll_114 rfl ?_
        refine V_iconst (v := 2) C d_Deeds_washAll_116 (by decide) ?_
        obtain ⟨r117_5, hg, hf⟩ := bd hf
        refine V_callVi C [.int x4, .int (2 : Int32)] (c_Basket_told C.2.2.2.2.2.2.2.1 hg) (by decide) cw_Deeds_75 1 rfl rfl rfl rfl (Nat.le_of_ble_eq_true rfl) rfl d_Deeds_washAll_117 ?_
        refine V_istore C d_Deeds_washAll_120 (by decide) rfl ?_
        refine V_aload_n C 1 d_Deeds_washAll_122 rfl ?_
        refine gC_Deeds_basket C fl_Deeds_32 d_Deeds_washAll_123 ?_
        refine V_aload_n C 1 d_Deeds_washAll_126 rfl ?_
        refine gC_Deeds_basket C fl_Deeds_32 d_Deeds_washAll_127 ?_
        refine V_iload C 4 d_Deeds_washAll_130 rfl ?_
        refine V_iconst (v := 2) C d_Deeds_washAll_132 (by decide) ?_
        obtain ⟨r133_6, hg, hf⟩ := bd hf
        refine V_callVi C [.int x4, .int (2 : Int32)] (c_Basket_slot C.2.2.2.2.2.2.2.1 hg) (by decide) cw_Deeds_78 1 rfl rfl rfl rfl (Nat.le_of_ble_eq_true rfl) rfl d_Deeds_washAll_133 ?_
        refine V_bipush (v := 99) C d_Deeds_washAll_136 (by decide) ?_
        refine V_iload C 0 d_Deeds_washAll_138 rfl ?_
        refine V_iconst (v := 1) C d_Deeds_washAll_140 (by decide) ?_
        refine V_iadd C d_Deeds_washAll_141 ?_
        refine V_min C ml_Deeds_69 (by decide) (Nat.le_of_ble_eq_true rfl) d_Deeds_washAll_142 ?_
        obtain ⟨σ145_7, hg, hf⟩ := bd hf
        refine V_callVv C [.int r133_6, .int (imin (99 : Int32) (r117_5 + (1 : Int32)))] (c_Basket_write C.2.2.2.2.2.2.2.1 hg) (by decide) cw_Deeds_81 1 rfl rfl rfl rfl (Nat.le_of_ble_eq_true rfl) rfl d_Deeds_washAll_145 ?_
        refine V_iinc (v := x4 + (1 : Int32)) C 4 d_Deeds_washAll_148 rfl rfl (by decide) rfl ?_
        refine V_goto (pc := 151) (tgt := 54) C d_Deeds_washAll_151 (by decide) ?_
        refine V.sub [2, 3, 4, 0] rfl ?_
        exact ih σ145_7 x3 (x4 + (1 : Int32)) hf
set_option maxRecDepth 4000 in
theorem w_Deeds_washAll {E : Ev} {g : Gx} {r : Int32} {σ' : St} (C : Cx E classes 6 (wC g) b_Deeds_washAll "WithTheReds$Deeds" 5) (hR : RetI E classes 6 (wC g) b_Deeds_washAll r σ') {σ : St} {a2 : Int32} (hf : f_Deeds_washAll σ a2 = some (r, σ')) : V E classes 6 (wC g) σ 0 [(0, .ref (g.2.1 9)), (1, .ref (g.2.1 39)), (2, .int a2)] [] := by
  unfold f_Deeds_washAll at hf
  refine V_aload_n C 1 d_Deeds_washAll_0 rfl ?_
  obtain ⟨r1_1, hg, hf⟩ := bd hf
  refine V_callVi C [] (c_Tub_allTints C.2.2.2.2.2.2.2.1 hg) (by decide) cw_Deeds_36 39 rfl rfl rfl rfl (Nat.le_of_ble_eq_true rfl) rfl d_Deeds_washAll_1 ?_
  refine V_istore_n C d_Deeds_washAll_4 (by decide) rfl ?_
  refine V_aload_n C 1 d_Deeds_washAll_5 rfl ?_
  refine gC_Deeds_led C fl_Deeds_11 d_Deeds_washAll_6 ?_
  refine V_iconst (v := 0) C d_Deeds_washAll_9 (by decide) ?_
  refine V_dup2 C d_Deeds_washAll_10 rfl rfl ?_
  refine aC_10 (v := σ.2.1 10 (0 : Int32).toNatClampNeg) C rfl rfl d_Deeds_washAll_11 ?_
  refine V_iconst (v := 1) C d_Deeds_washAll_12 (by decide) ?_
  refine V_iadd C d_Deeds_washAll_13 ?_
  refine sC_10 C rfl d_Deeds_washAll_14 ?_
  refine V_aload_n C 1 d_Deeds_washAll_15 rfl ?_
  refine gC_Deeds_led C fl_Deeds_11 d_Deeds_washAll_16 ?_
  refine V_iconst (v := 1) C d_Deeds_washAll_19 (by decide) ?_
  refine V_dup2 C d_Deeds_washAll_20 rfl rfl ?_
  refine aC_10 (v := (upd (σ.2.1 10) ((0 : Int32).toNatClampNeg) ((σ.2.1 10 (0 : Int32).toNatClampNeg) + (1 : Int32))) (1 : Int32).toNatClampNeg) C rfl rfl d_Deeds_washAll_21 ?_
  refine V_iload_n C 0 d_Deeds_washAll_22 rfl ?_
  refine V_iadd C d_Deeds_washAll_23 ?_
  refine sC_10 C rfl d_Deeds_washAll_24 ?_
  refine V_aload_n C 1 d_Deeds_washAll_25 rfl ?_
  refine gC_Deeds_led C fl_Deeds_11 d_Deeds_washAll_26 ?_
  refine V_iconst (v := 2) C d_Deeds_washAll_29 (by decide) ?_
  refine V_dup2 C d_Deeds_washAll_30 rfl rfl ?_
  refine aC_10 (v := (upd (upd (σ.2.1 10) ((0 : Int32).toNatClampNeg) ((σ.2.1 10 (0 : Int32).toNatClampNeg) + (1 : Int32))) ((1 : Int32).toNatClampNeg) (((upd (σ.2.1 10) ((0 : Int32).toNatClampNeg) ((σ.2.1 10 (0 : Int32).toNatClampNeg) + (1 : Int32))) (1 : Int32).toNatClampNeg) + r1_1)) (2 : Int32).toNatClampNeg) C rfl rfl d_Deeds_washAll_31 ?_
  refine V_aload_n C 2 d_Deeds_washAll_32 rfl ?_
  obtain ⟨r33_2, hg, hf⟩ := bd hf
  refine V_callVi C [] (c_Tub_spoilt C.2.2.2.2.2.2.2.1 hg) (by decide) cw_Deeds_42 39 rfl rfl rfl rfl (Nat.le_of_ble_eq_true rfl) rfl d_Deeds_washAll_33 ?_
  obtain ⟨r36_3, hg, hf⟩ := bd hf
  refine V_callSi C [.int r33_2] (c_JI_bitCount C.2.2.2.2.2.2.2.1 hg) (by decide) cw_Deeds_45 rfl (Nat.le_of_ble_eq_true rfl) rfl d_Deeds_washAll_36 ?_
  refine V_iadd C d_Deeds_washAll_39 ?_
  refine sC_10 C rfl d_Deeds_washAll_40 ?_
  refine V_aload_n C 1 d_Deeds_washAll_41 rfl ?_
  refine gC_Deeds_led C fl_Deeds_11 d_Deeds_washAll_42 ?_
  refine V_iconst (v := 3) C d_Deeds_washAll_45 (by decide) ?_
  refine V_dup2 C d_Deeds_washAll_46 rfl rfl ?_
  refine aC_10 (v := (upd (upd (upd (σ.2.1 10) ((0 : Int32).toNatClampNeg) ((σ.2.1 10 (0 : Int32).toNatClampNeg) + (1 : Int32))) ((1 : Int32).toNatClampNeg) (((upd (σ.2.1 10) ((0 : Int32).toNatClampNeg) ((σ.2.1 10 (0 : Int32).toNatClampNeg) + (1 : Int32))) (1 : Int32).toNatClampNeg) + r1_1)) ((2 : Int32).toNatClampNeg) (((upd (upd (σ.2.1 10) ((0 : Int32).toNatClampNeg) ((σ.2.1 10 (0 : Int32).toNatClampNeg) + (1 : Int32))) ((1 : Int32).toNatClampNeg) (((upd (σ.2.1 10) ((0 : Int32).toNatClampNeg) ((σ.2.1 10 (0 : Int32).toNatClampNeg) + (1 : Int32))) (1 : Int32).toNatClampNeg) + r1_1)) (2 : Int32).toNatClampNeg) + r36_3)) (3 : Int32).toNatClampNeg) C rfl rfl d_Deeds_washAll_47 ?_
  refine V_iload_n C 3 d_Deeds_washAll_48 rfl ?_
  refine V_iadd C d_Deeds_washAll_49 ?_
  refine sC_10 C rfl d_Deeds_washAll_50 ?_
  refine V_iconst (v := 0) C d_Deeds_washAll_51 (by decide) ?_
  refine V_istore C d_Deeds_washAll_52 (by decide) rfl ?_
  refine V.sub [2, 3, 1, 0] rfl ?_
  exact w_Deeds_washAll_54 C hR FU (upA (upA (upA (upA σ 10 ((0 : Int32).toNatClampNeg) ((σ.2.1 10 (0 : Int32).toNatClampNeg) + (1 : Int32))) 10 ((1 : Int32).toNatClampNeg) (((upd (σ.2.1 10) ((0 : Int32).toNatClampNeg) ((σ.2.1 10 (0 : Int32).toNatClampNeg) + (1 : Int32))) (1 : Int32).toNatClampNeg) + r1_1)) 10 ((2 : Int32).toNatClampNeg) (((upd (upd (σ.2.1 10) ((0 : Int32).toNatClampNeg) ((σ.2.1 10 (0 : Int32).toNatClampNeg) + (1 : Int32))) ((1 : Int32).toNatClampNeg) (((upd (σ.2.1 10) ((0 : Int32).toNatClampNeg) ((σ.2.1 10 (0 : Int32).toNatClampNeg) + (1 : Int32))) (1 : Int32).toNatClampNeg) + r1_1)) (2 : Int32).toNatClampNeg) + r36_3)) 10 ((3 : Int32).toNatClampNeg) (((upd (upd (upd (σ.2.1 10) ((0 : Int32).toNatClampNeg) ((σ.2.1 10 (0 : Int32).toNatClampNeg) + (1 : Int32))) ((1 : Int32).toNatClampNeg) (((upd (σ.2.1 10) ((0 : Int32).toNatClampNeg) ((σ.2.1 10 (0 : Int32).toNatClampNeg) + (1 : Int32))) (1 : Int32).toNatClampNeg) + r1_1)) ((2 : Int32).toNatClampNeg) (((upd (upd (σ.2.1 10) ((0 : Int32).toNatClampNeg) ((σ.2.1 10 (0 : Int32).toNatClampNeg) + (1 : Int32))) ((1 : Int32).toNatClampNeg) (((upd (σ.2.1 10) ((0 : Int32).toNatClampNeg) ((σ.2.1 10 (0 : Int32).toNatClampNeg) + (1 : Int32))) (1 : Int32).toNatClampNeg) + r1_1)) (2 : Int32).toNatClampNeg) + r36_3)) (3 : Int32).toNatClampNeg) + a2)) r1_1 (0 : Int32) hf
theorem c_Deeds_washAll {l : Launch} {g : Gx} (hok : Wok classes (wC g)) {σ : St} {a2 : Int32} {r : Int32} {σ' : St} (hf : f_Deeds_washAll σ a2 = some (r, σ')) : CtI classes l y_Deeds_washAll b_Deeds_washAll 6 (some .int) 5 (wC g) [.ref (g.2.1 9), .ref (g.2.1 39), .int a2] σ r σ' :=
  MetI (by decide +kernel) hok (Nat.le_of_ble_eq_true rfl) (fun E _ C hR => w_Deeds_washAll C hR hf)
set_option maxRecDepth 4000 in
theorem w_Top_wash {E : Ev} {g : Gx} {r : Int32} {σ' : St} (C : Cx E classes 3 (wC g) b_Top_wash "WithTheReds" 7) (hR : RetI E classes 3 (wC g) b_Top_wash r σ') {σ : St} {a1 : Int32} {a2 : Int32} (hf : f_Top_wash σ a1 a2 = some (r, σ')) : V E classes 3 (wC g) σ 0 [(0, .ref (g.2.1 0)), (1, .int a1), (2, .int a2)] [] := by
  unfold f_Top_wash at hf
  refine V_aload_n C 0 d_Top_wash_0 rfl ?_
  refine V_iload_n C 1 d_Top_wash_1 rfl ?_
  obtain ⟨r2_1, hg, hf⟩ := bd hf
  refine V_callVi C [.int a1] (c_Top_isSet C.2.2.2.2.2.2.2.1 hg) (by decide) cw_Top_160 0 rfl rfl rfl rfl (Nat.le_of_ble_eq_true rfl) rfl d_Top_wash_2 ?_
  refine V_if_eq (pc := 5) (tgt := 15) C d_Top_wash_5 (by decide) hf (fun hf => ?_) (fun hf => ?_)
  · refine V_iconst (v := -1) C d_Top_wash_15 (by decide) ?_
    exact V_iretW hR hf d_Top_wash_16
  · refine V_iload_n C 2 d_Top_wash_8 rfl ?_
    obtain ⟨r9_2, hg, hf⟩ := bd hf
    refine V_callSi C [.int a2] (c_Top_isHeatAndCloth C.2.2.2.2.2.2.2.1 hg) (by decide) cw_Top_163 rfl (Nat.le_of_ble_eq_true rfl) rfl d_Top_wash_9 ?_
    refine V_if_ne (pc := 12) (tgt := 17) C d_Top_wash_12 (by decide) hf (fun hf => ?_) (fun hf => ?_)
    · refine V_aload_n C 0 d_Top_wash_17 rfl ?_
      refine gC_Top_tub C fl_Top_35 d_Top_wash_18 ?_
      refine V_iload_n C 1 d_Top_wash_21 rfl ?_
      refine V_iload_n C 2 d_Top_wash_22 rfl ?_
      obtain ⟨σ23_3, hg, hf⟩ := bd hf
      refine V_callVv C [.int a1, .int a2] (c_Tub_load C.2.2.2.2.2.2.2.1 hg) (by decide) cw_Top_166 39 rfl rfl rfl rfl (Nat.le_of_ble_eq_true rfl) rfl d_Top_wash_23 ?_
      refine V_aload_n C 0 d_Top_wash_26 rfl ?_
      refine gC_Top_tub C fl_Top_35 d_Top_wash_27 ?_
      obtain ⟨r30_4, hg, hf⟩ := bd hf
      refine V_callVi C [] (c_Tub_goes C.2.2.2.2.2.2.2.1 hg) (by decide) cw_Top_179 39 rfl rfl rfl rfl (Nat.le_of_ble_eq_true rfl) rfl d_Top_wash_30 ?_
      refine V_if_eq (pc := 33) (tgt := 54) C d_Top_wash_33 (by decide) hf (fun hf => ?_) (fun hf => ?_)
      · refine V_bipush (v := -5) C d_Top_wash_54 (by decide) ?_
        exact V_iretW hR hf d_Top_wash_56
      · refine V_aload_n C 0 d_Top_wash_36 rfl ?_
        refine gC_Top_deeds C fl_Top_67 d_Top_wash_37 ?_
        refine V_aload_n C 0 d_Top_wash_40 rfl ?_
        refine gC_Top_tub C fl_Top_35 d_Top_wash_41 ?_
        refine V_iload_n C 2 d_Top_wash_44 rfl ?_
        refine V_bipush (v := 10) C d_Top_wash_45 (by decide) ?_
        refine V_irem C d_Top_wash_47 (by decide) ?_
        obtain ⟨r48_5, σ48_5, hg, hf⟩ := bd2_of hf
        refine V_callVi C [.ref (g.2.1 39), .int (irem a2 (10 : Int32))] (c_Deeds_washAll C.2.2.2.2.2.2.2.1 hg) (by decide) cw_Top_296 9 rfl rfl rfl rfl (Nat.le_of_ble_eq_true rfl) rfl d_Top_wash_48 ?_
        refine V_goto (pc := 51) (tgt := 56) C d_Top_wash_51 (by decide) ?_
        exact V_iretW hR hf d_Top_wash_56
    · refine V_iconst (v := -1) C d_Top_wash_15 (by decide) ?_
      exact V_iretW hR hf d_Top_wash_16
theorem c_Top_wash {l : Launch} {g : Gx} (hok : Wok classes (wC g)) {σ : St} {a1 : Int32} {a2 : Int32} {r : Int32} {σ' : St} (hf : f_Top_wash σ a1 a2 = some (r, σ')) : CtI classes l y_Top_wash b_Top_wash 3 (some .int) 7 (wC g) [.ref (g.2.1 0), .int a1, .int a2] σ r σ' :=
  MetI (by decide +kernel) hok (Nat.le_of_ble_eq_true rfl) (fun E _ C hR => w_Top_wash C hR hf)
set_option maxRecDepth 4000 in
theorem w_JI_numberOfTrailingZeros_62 {E : Ev} {g : Gx} {r : Int32} {σ : St} (C : Cx E classes 2 (wC g) b_JI_numberOfTrailingZeros "java/lang/Integer" 1) (hR : RetI E classes 2 (wC g) b_JI_numberOfTrailingZeros r σ) : ∀ (x0 : Int32) (x1 : Int32), f_JI_numberOfTrailingZeros_62 x0 x1 = some r → V E classes 2 (wC g) σ 62 [(0, .int x0), (1, .int x1)] [] := by
  intro x0 x1 hf
  unfold f_JI_numberOfTrailingZeros_62 at hf
  refine V_iload_n C 0 d_JI_numberOfTrailingZeros_62 rfl ?_
  refine V_iconst (v := 4) C d_JI_numberOfTrailingZeros_63 (by decide) ?_
  refine V_icmp_le (pc := 64) (tgt := 74) C d_JI_numberOfTrailingZeros_64 (by decide) hf (fun hf => ?_) (fun hf => ?_)
  · refine V_iload_n C 1 d_JI_numberOfTrailingZeros_74 rfl ?_
    refine V_iload_n C 0 d_JI_numberOfTrailingZeros_75 rfl ?_
    refine V_iconst (v := 1) C d_JI_numberOfTrailingZeros_76 (by decide) ?_
    refine V_iushr C d_JI_numberOfTrailingZeros_77 ?_
    refine V_iadd C d_JI_numberOfTrailingZeros_78 ?_
    exact V_iret hR hf d_JI_numberOfTrailingZeros_79
  · refine V_iinc (v := x1 + (2 : Int32)) C 1 d_JI_numberOfTrailingZeros_67 rfl rfl (by decide) rfl ?_
    refine V_iload_n C 1 d_JI_numberOfTrailingZeros_70 rfl ?_
    refine V_iconst (v := 2) C d_JI_numberOfTrailingZeros_71 (by decide) ?_
    refine V_iushr C d_JI_numberOfTrailingZeros_72 ?_
    refine V_istore_n C d_JI_numberOfTrailingZeros_73 (by decide) rfl ?_
    refine V_iload_n C 1 d_JI_numberOfTrailingZeros_74 rfl ?_
    refine V_iload_n C 0 d_JI_numberOfTrailingZeros_75 rfl ?_
    refine V_iconst (v := 1) C d_JI_numberOfTrailingZeros_76 (by decide) ?_
    refine V_iushr C d_JI_numberOfTrailingZeros_77 ?_
    refine V_iadd C d_JI_numberOfTrailingZeros_78 ?_
    exact V_iret hR hf d_JI_numberOfTrailingZeros_79
set_option maxRecDepth 4000 in
theorem w_JI_numberOfTrailingZeros_49 {E : Ev} {g : Gx} {r : Int32} {σ : St} (C : Cx E classes 2 (wC g) b_JI_numberOfTrailingZeros "java/lang/Integer" 1) (hR : RetI E classes 2 (wC g) b_JI_numberOfTrailingZeros r σ) : ∀ (x0 : Int32) (x1 : Int32), f_JI_numberOfTrailingZeros_49 x0 x1 = some r → V E classes 2 (wC g) σ 49 [(0, .int x0), (1, .int x1)] [] := by
  intro x0 x1 hf
  unfold f_JI_numberOfTrailingZeros_49 at hf
  refine V_iload_n C 0 d_JI_numberOfTrailingZeros_49 rfl ?_
  refine V_bipush (v := 16) C d_JI_numberOfTrailingZeros_50 (by decide) ?_
  refine V_icmp_le (pc := 52) (tgt := 62) C d_JI_numberOfTrailingZeros_52 (by decide) hf (fun hf => ?_) (fun hf => ?_)
  · exact w_JI_numberOfTrailingZeros_62 C hR x0 x1 hf
  · refine V_iinc (v := x1 + (4 : Int32)) C 1 d_JI_numberOfTrailingZeros_55 rfl rfl (by decide) rfl ?_
    refine V_iload_n C 1 d_JI_numberOfTrailingZeros_58 rfl ?_
    refine V_iconst (v := 4) C d_JI_numberOfTrailingZeros_59 (by decide) ?_
    refine V_iushr C d_JI_numberOfTrailingZeros_60 ?_
    refine V_istore_n C d_JI_numberOfTrailingZeros_61 (by decide) rfl ?_
    exact w_JI_numberOfTrailingZeros_62 C hR (iushr x0 (4 : Int32)) (x1 + (4 : Int32)) hf
set_option maxRecDepth 4000 in
theorem w_JI_numberOfTrailingZeros_34 {E : Ev} {g : Gx} {r : Int32} {σ : St} (C : Cx E classes 2 (wC g) b_JI_numberOfTrailingZeros "java/lang/Integer" 1) (hR : RetI E classes 2 (wC g) b_JI_numberOfTrailingZeros r σ) : ∀ (x0 : Int32) (x1 : Int32), f_JI_numberOfTrailingZeros_34 x0 x1 = some r → V E classes 2 (wC g) σ 34 [(0, .int x0), (1, .int x1)] [] := by
  intro x0 x1 hf
  unfold f_JI_numberOfTrailingZeros_34 at hf
  refine V_iload_n C 0 d_JI_numberOfTrailingZeros_34 rfl ?_
  refine V_sipush (v := 256) C d_JI_numberOfTrailingZeros_35 (by decide) ?_
  refine V_icmp_le (pc := 38) (tgt := 49) C d_JI_numberOfTrailingZeros_38 (by decide) hf (fun hf => ?_) (fun hf => ?_)
  · exact w_JI_numberOfTrailingZeros_49 C hR x0 x1 hf
  · refine V_iinc (v := x1 + (8 : Int32)) C 1 d_JI_numberOfTrailingZeros_41 rfl rfl (by decide) rfl ?_
    refine V_iload_n C 1 d_JI_numberOfTrailingZeros_44 rfl ?_
    refine V_bipush (v := 8) C d_JI_numberOfTrailingZeros_45 (by decide) ?_
    refine V_iushr C d_JI_numberOfTrailingZeros_47 ?_
    refine V_istore_n C d_JI_numberOfTrailingZeros_48 (by decide) rfl ?_
    exact w_JI_numberOfTrailingZeros_49 C hR (iushr x0 (8 : Int32)) (x1 + (8 : Int32)) hf
set_option maxRecDepth 4000 in
theorem w_JI_numberOfTrailingZeros {E : Ev} {g : Gx} {r : Int32} {σ : St} (C : Cx E classes 2 (wC g) b_JI_numberOfTrailingZeros "java/lang/Integer" 1) (hR : RetI E classes 2 (wC g) b_JI_numberOfTrailingZeros r σ) {a0 : Int32} (hf : f_JI_numberOfTrailingZeros a0 = some r) : V E classes 2 (wC g) σ 0 [(0, .int a0)] [] := by
  unfold f_JI_numberOfTrailingZeros at hf
  refine V_iload_n C 0 d_JI_numberOfTrailingZeros_0 rfl ?_
  refine V_iconst (v := -1) C d_JI_numberOfTrailingZeros_1 (by decide) ?_
  refine V_ixor C d_JI_numberOfTrailingZeros_2 ?_
  refine V_iload_n C 0 d_JI_numberOfTrailingZeros_3 rfl ?_
  refine V_iconst (v := 1) C d_JI_numberOfTrailingZeros_4 (by decide) ?_
  refine V_isub C d_JI_numberOfTrailingZeros_5 ?_
  refine V_iand C d_JI_numberOfTrailingZeros_6 ?_
  refine V_istore_n C d_JI_numberOfTrailingZeros_7 (by decide) rfl ?_
  refine V_iload_n C 0 d_JI_numberOfTrailingZeros_8 rfl ?_
  refine V_if_gt (pc := 9) (tgt := 17) C d_JI_numberOfTrailingZeros_9 (by decide) hf (fun hf => ?_) (fun hf => ?_)
  · refine V_iconst (v := 1) C d_JI_numberOfTrailingZeros_17 (by decide) ?_
    refine V_istore_n C d_JI_numberOfTrailingZeros_18 (by decide) rfl ?_
    refine V_iload_n C 1 d_JI_numberOfTrailingZeros_19 rfl ?_
    refine V_ldcw C kc_JI_264 d_JI_numberOfTrailingZeros_20 ?_
    refine V_icmp_le (pc := 23) (tgt := 34) C d_JI_numberOfTrailingZeros_23 (by decide) hf (fun hf => ?_) (fun hf => ?_)
    · refine V.sub [1, 0] rfl ?_
      exact w_JI_numberOfTrailingZeros_34 C hR ((a0 ^^^ (-1 : Int32)) &&& (a0 - (1 : Int32))) (1 : Int32) hf
    · refine V_iinc (v := (1 : Int32) + (16 : Int32)) C 0 d_JI_numberOfTrailingZeros_26 rfl rfl (by decide) rfl ?_
      refine V_iload_n C 1 d_JI_numberOfTrailingZeros_29 rfl ?_
      refine V_bipush (v := 16) C d_JI_numberOfTrailingZeros_30 (by decide) ?_
      refine V_iushr C d_JI_numberOfTrailingZeros_32 ?_
      refine V_istore_n C d_JI_numberOfTrailingZeros_33 (by decide) rfl ?_
      exact w_JI_numberOfTrailingZeros_34 C hR (iushr ((a0 ^^^ (-1 : Int32)) &&& (a0 - (1 : Int32))) (16 : Int32)) ((1 : Int32) + (16 : Int32)) hf
  · refine V_iload_n C 0 d_JI_numberOfTrailingZeros_12 rfl ?_
    refine V_bipush (v := 32) C d_JI_numberOfTrailingZeros_13 (by decide) ?_
    refine V_iand C d_JI_numberOfTrailingZeros_15 ?_
    exact V_iret hR hf d_JI_numberOfTrailingZeros_16
theorem c_JI_numberOfTrailingZeros {l : Launch} {g : Gx} (hok : Wok classes (wC g)) {σ : St} {a0 : Int32} {r : Int32} (hf : f_JI_numberOfTrailingZeros a0 = some r) : CtI classes l y_JI_numberOfTrailingZeros b_JI_numberOfTrailingZeros 2 (some .int) 1 (wC g) [.int a0] σ r σ :=
  MetI (by decide +kernel) hok (Nat.le_of_ble_eq_true rfl) (fun E _ C hR => w_JI_numberOfTrailingZeros C hR hf)
set_option maxRecDepth 4000 in
theorem w_Top_which {E : Ev} {g : Gx} {r : Int32} {σ' : St} (C : Cx E classes 7 (wC g) b_Top_which "WithTheReds" 7) (hR : RetI E classes 7 (wC g) b_Top_which r σ') {σ : St} {a1 : Int32} {a2 : Int32} {a3 : Int32} {a4 : Int32} (hf : f_Top_which σ a1 a2 a3 a4 = some (r, σ')) : V E classes 7 (wC g) σ 0 [(0, .ref (g.2.1 0)), (1, .int a1), (2, .int a2), (3, .int a3), (4, .int a4)] [] := by
  unfold f_Top_which at hf
  refine V_aload_n C 0 d_Top_which_0 rfl ?_
  refine V_iload_n C 1 d_Top_which_1 rfl ?_
  refine V_iconst (v := 1) C d_Top_which_2 (by decide) ?_
  obtain ⟨r3_1, hg, hf⟩ := bd hf
  refine V_callVi C [.int a1, .int (1 : Int32)] (c_Top_rowRefusal C.2.2.2.2.2.2.2.1 hg) (by decide) cw_Top_112 0 rfl rfl rfl rfl (Nat.le_of_ble_eq_true rfl) rfl d_Top_which_3 ?_
  refine V_istore C d_Top_which_6 (by decide) rfl ?_
  refine V_iload C 0 d_Top_which_8 rfl ?_
  refine V_iconst (v := -1) C d_Top_which_10 (by decide) ?_
  refine V_icmp_eq (pc := 11) (tgt := 39) C d_Top_which_11 (by decide) hf (fun hf => ?_) (fun hf => ?_)
  · refine V_iconst (v := -1) C d_Top_which_39 (by decide) ?_
    exact V_iretW hR hf d_Top_which_40
  · refine V_aload_n C 1 d_Top_which_14 rfl ?_
    refine V_iload_n C 3 d_Top_which_15 rfl ?_
    obtain ⟨r16_2, hg, hf⟩ := bd hf
    refine V_callVi C [.int a2] (c_Top_isSet C.2.2.2.2.2.2.2.1 hg) (by decide) cw_Top_160 0 rfl rfl rfl rfl (Nat.le_of_ble_eq_true rfl) rfl d_Top_which_16 ?_
    refine V_if_eq (pc := 19) (tgt := 39) C d_Top_which_19 (by decide) hf (fun hf => ?_) (fun hf => ?_)
    · refine V_iconst (v := -1) C d_Top_which_39 (by decide) ?_
      exact V_iretW hR hf d_Top_which_40
    · refine V_iload_n C 4 d_Top_which_22 rfl ?_
      obtain ⟨r23_3, hg, hf⟩ := bd hf
      refine V_callSi C [.int a3] (c_Top_isHeatAndCloth C.2.2.2.2.2.2.2.1 hg) (by decide) cw_Top_163 rfl (Nat.le_of_ble_eq_true rfl) rfl d_Top_which_23 ?_
      refine V_if_eq (pc := 26) (tgt := 39) C d_Top_which_26 (by decide) hf (fun hf => ?_) (fun hf => ?_)
      · refine V_iconst (v := -1) C d_Top_which_39 (by decide) ?_
        exact V_iretW hR hf d_Top_which_40
      · refine V_iload C 5 d_Top_which_29 rfl ?_
        refine V_iconst (v := 0) C d_Top_which_31 (by decide) ?_
        refine V_iconst (v := 1) C d_Top_which_32 (by decide) ?_
        obtain ⟨r33_4, hg, hf⟩ := bd hf
        refine V_callSi C [.int a4, .int (0 : Int32), .int (1 : Int32)] (c_Top_within C.2.2.2.2.2.2.2.1 hg) (by decide) cw_Top_108 rfl (Nat.le_of_ble_eq_true rfl) rfl d_Top_which_33 ?_
        refine V_if_ne (pc := 36) (tgt := 41) C d_Top_which_36 (by decide) hf (fun hf => ?_) (fun hf => ?_)
        · refine V_iload C 0 d_Top_which_41 rfl ?_
          refine V_if_eq (pc := 43) (tgt := 49) C d_Top_which_43 (by decide) hf (fun hf => ?_) (fun hf => ?_)
          · refine V_aload_n C 1 d_Top_which_49 rfl ?_
            refine V_aload_n C 1 d_Top_which_50 rfl ?_
            refine gC_Top_shelves C fl_Top_87 d_Top_which_51 ?_
            refine V_iload_n C 2 d_Top_which_54 rfl ?_
            obtain ⟨hi55_5, hf⟩ := gu hf
            refine V_shelves C hi55_5 d_Top_which_55 ?_
            refine V_iload_n C 3 d_Top_which_56 rfl ?_
            refine V_iload_n C 4 d_Top_which_57 rfl ?_
            obtain ⟨r58_6, σ58_6, hg, hf⟩ := bd2_of hf
            refine V_callVi C [.ref (g.2.1 (42 + 2 * (a1.toNatClampNeg))), .int a2, .int a3] (c_Top_guests C.2.2.2.2.2.2.2.1 (inb6 hi55_5) hg) (by decide) cw_Top_284 0 rfl rfl rfl rfl (Nat.le_of_ble_eq_true rfl) rfl d_Top_which_58 ?_
            refine V_istore C d_Top_which_61 (by decide) rfl ?_
            refine V_iload C 6 d_Top_which_63 rfl ?_
            refine V_if_ne (pc := 65) (tgt := 74) C d_Top_which_65 (by decide) hf (fun hf => ?_) (fun hf => ?_)
            · refine V_iload C 0 d_Top_which_74 rfl ?_
              refine V_if_ne (pc := 76) (tgt := 84) C d_Top_which_76 (by decide) hf (fun hf => ?_) (fun hf => ?_)
              · refine V_iload C 0 d_Top_which_84 rfl ?_
                obtain ⟨r86_7, hg, hf⟩ := bd hf
                refine V_callSi C [.int r58_6] (c_JI_numberOfTrailingZeros C.2.2.2.2.2.2.2.1 hg) (by decide) cw_Top_287 rfl (Nat.le_of_ble_eq_true rfl) rfl d_Top_which_86 ?_
                exact V_iretW hR hf d_Top_which_89
              · refine V_bipush (v := -2) C d_Top_which_79 (by decide) ?_
                refine V_goto (pc := 81) (tgt := 89) C d_Top_which_81 (by decide) ?_
                exact V_iretW hR hf d_Top_which_89
            · refine V_iload C 0 d_Top_which_68 rfl ?_
              obtain ⟨r70_8, hg, hf⟩ := bd hf
              refine V_callSi C [.int r58_6] (c_JI_bitCount C.2.2.2.2.2.2.2.1 hg) (by decide) cw_Top_210 rfl (Nat.le_of_ble_eq_true rfl) rfl d_Top_which_70 ?_
              exact V_iretW hR hf d_Top_which_73
          · refine V_iload C 0 d_Top_which_46 rfl ?_
            exact V_iretW hR hf d_Top_which_48
        · refine V_iconst (v := -1) C d_Top_which_39 (by decide) ?_
          exact V_iretW hR hf d_Top_which_40
theorem c_Top_which {l : Launch} {g : Gx} (hok : Wok classes (wC g)) {σ : St} {a1 : Int32} {a2 : Int32} {a3 : Int32} {a4 : Int32} {r : Int32} {σ' : St} (hf : f_Top_which σ a1 a2 a3 a4 = some (r, σ')) : CtI classes l y_Top_which b_Top_which 7 (some .int) 7 (wC g) [.ref (g.2.1 0), .int a1, .int a2, .int a3, .int a4] σ r σ' :=
  MetI (by decide +kernel) hok (Nat.le_of_ble_eq_true rfl) (fun E _ C hR => w_Top_which C hR hf)
set_option maxRecDepth 4000 in
theorem w_M_ran {E : Ev} {g : Gx} {σ' : St} (C : Cx E classes 2 (wM g) b_M_ran "WithTheRedsModel" 1) (hR : RetV E classes 2 (wM g) b_M_ran σ') {σ : St} {a1 : Int32} (hf : f_M_ran σ a1 = some σ') : V E classes 2 (wM g) σ 0 [(0, .ref (g.2.1 0)), (1, .int a1)] [] := by
  unfold f_M_ran at hf
  refine V_aload_n C 0 d_M_ran_0 rfl ?_
  refine gM_M_traces (v := σ.1 56) C fl_M_385 rfl d_M_ran_1 ?_
  refine V_bipush (v := 24) C d_M_ran_4 (by decide) ?_
  refine V_icmp_ge (pc := 6) (tgt := 19) C d_M_ran_6 (by decide) hf (fun hf => ?_) (fun hf => ?_)
  · refine V_aload_n C 0 d_M_ran_19 rfl ?_
    refine V_dup C d_M_ran_20 rfl ?_
    refine gM_M_traces (v := σ.1 56) C fl_M_385 rfl d_M_ran_21 ?_
    refine V_iconst (v := 1) C d_M_ran_24 (by decide) ?_
    refine V_iadd C d_M_ran_25 ?_
    refine pM_M_traces C fl_M_385 d_M_ran_26 ?_
    exact V_vret hR hf d_M_ran_29
  · refine V_aload_n C 0 d_M_ran_9 rfl ?_
    refine gM_M_traced C fl_M_131 d_M_ran_10 ?_
    refine V_aload_n C 0 d_M_ran_13 rfl ?_
    refine gM_M_traces (v := σ.1 56) C fl_M_385 rfl d_M_ran_14 ?_
    refine V_iload_n C 1 d_M_ran_17 rfl ?_
    obtain ⟨hi18_1, hf⟩ := gu hf
    refine sM_36 C hi18_1 d_M_ran_18 ?_
    refine V_aload_n C 0 d_M_ran_19 rfl ?_
    refine V_dup C d_M_ran_20 rfl ?_
    refine gM_M_traces (v := σ.1 56) C fl_M_385 rfl d_M_ran_21 ?_
    refine V_iconst (v := 1) C d_M_ran_24 (by decide) ?_
    refine V_iadd C d_M_ran_25 ?_
    refine pM_M_traces C fl_M_385 d_M_ran_26 ?_
    exact V_vret hR hf d_M_ran_29
theorem c_M_ran {l : Launch} {g : Gx} (hok : Wok classes (wM g)) {σ : St} {a1 : Int32} {σ' : St} (hf : f_M_ran σ a1 = some σ') : CtV classes l y_M_ran b_M_ran 2 none 1 (wM g) [.ref (g.2.1 0), .int a1] σ σ' :=
  MetV (by decide +kernel) hok (Nat.le_of_ble_eq_true rfl) (fun E _ C hR => w_M_ran C hR hf)
set_option maxRecDepth 4000 in
theorem w_M_plainDries {E : Ev} {g : Gx} {r : Int32} {σ' : St} (C : Cx E classes 3 (wM g) b_M_plainDries "WithTheRedsModel" 2) (hR : RetI E classes 3 (wM g) b_M_plainDries r σ') {σ : St} {a1 : Int32} {a2 : Int32} (hf : f_M_plainDries σ a1 a2 = some (r, σ')) : V E classes 3 (wM g) σ 0 [(0, .ref (g.2.1 0)), (1, .int a1), (2, .int a2)] [] := by
  unfold f_M_plainDries at hf
  refine V_aload_n C 0 d_M_plainDries_0 rfl ?_
  refine V_bipush (v := 11) C d_M_plainDries_1 (by decide) ?_
  obtain ⟨σ3_1, hg, hf⟩ := bd hf
  refine V_callVv C [.int (11 : Int32)] (c_M_ran C.2.2.2.2.2.2.2.1 hg) (by decide) cw_M_388 0 rfl rfl rfl rfl (Nat.le_of_ble_eq_true rfl) rfl d_M_plainDries_3 ?_
  refine V_iload_n C 2 d_M_plainDries_6 rfl ?_
  refine V_iload_n C 1 d_M_plainDries_7 rfl ?_
  refine V_ixor C d_M_plainDries_8 ?_
  exact V_iretW hR hf d_M_plainDries_9
theorem c_M_plainDries {l : Launch} {g : Gx} (hok : Wok classes (wM g)) {σ : St} {a1 : Int32} {a2 : Int32} {r : Int32} {σ' : St} (hf : f_M_plainDries σ a1 a2 = some (r, σ')) : CtI classes l y_M_plainDries b_M_plainDries 3 (some .int) 2 (wM g) [.ref (g.2.1 0), .int a1, .int a2] σ r σ' :=
  MetI (by decide +kernel) hok (Nat.le_of_ble_eq_true rfl) (fun E _ C hR => w_M_plainDries C hR hf)
set_option maxRecDepth 4000 in
theorem w_M_jeansDries {E : Ev} {g : Gx} {r : Int32} {σ' : St} (C : Cx E classes 3 (wM g) b_M_jeansDries "WithTheRedsModel" 3) (hR : RetI E classes 3 (wM g) b_M_jeansDries r σ') {σ : St} {a1 : Int32} {a2 : Int32} (hf : f_M_jeansDries σ a1 a2 = some (r, σ')) : V E classes 3 (wM g) σ 0 [(0, .ref (g.2.1 0)), (1, .int a1), (2, .int a2)] [] := by
  unfold f_M_jeansDries at hf
  refine V_aload_n C 0 d_M_jeansDries_0 rfl ?_
  refine V_bipush (v := 40) C d_M_jeansDries_1 (by decide) ?_
  obtain ⟨σ3_1, hg, hf⟩ := bd hf
  refine V_callVv C [.int (40 : Int32)] (c_M_ran C.2.2.2.2.2.2.2.1 hg) (by decide) cw_M_388 0 rfl rfl rfl rfl (Nat.le_of_ble_eq_true rfl) rfl d_M_jeansDries_3 ?_
  refine V_aload_n C 0 d_M_jeansDries_6 rfl ?_
  refine V_iload_n C 1 d_M_jeansDries_7 rfl ?_
  refine V_iload_n C 2 d_M_jeansDries_8 rfl ?_
  obtain ⟨r9_2, σ9_2, hg, hf⟩ := bd2_of hf
  refine V_callVi C [.int a1, .int a2] (c_M_plainDries C.2.2.2.2.2.2.2.1 hg) (by decide) cw_M_412 0 rfl rfl rfl rfl (Nat.le_of_ble_eq_true rfl) rfl d_M_jeansDries_9 ?_
  refine V_iconst (v := 3) C d_M_jeansDries_12 (by decide) ?_
  refine V_imul C d_M_jeansDries_13 ?_
  exact V_iretW hR hf d_M_jeansDries_14
theorem c_M_jeansDries {l : Launch} {g : Gx} (hok : Wok classes (wM g)) {σ : St} {a1 : Int32} {a2 : Int32} {r : Int32} {σ' : St} (hf : f_M_jeansDries σ a1 a2 = some (r, σ')) : CtI classes l y_M_jeansDries b_M_jeansDries 3 (some .int) 3 (wM g) [.ref (g.2.1 0), .int a1, .int a2] σ r σ' :=
  MetI (by decide +kernel) hok (Nat.le_of_ble_eq_true rfl) (fun E _ C hR => w_M_jeansDries C hR hf)
set_option maxRecDepth 4000 in
theorem w_M_plainRuns {E : Ev} {g : Gx} {r : Int32} {σ' : St} (C : Cx E classes 3 (wM g) b_M_plainRuns "WithTheRedsModel" 2) (hR : RetI E classes 3 (wM g) b_M_plainRuns r σ') {σ : St} {a1 : Int32} {a2 : Int32} (hf : f_M_plainRuns σ a1 a2 = some (r, σ')) : V E classes 3 (wM g) σ 0 [(0, .ref (g.2.1 0)), (1, .int a1), (2, .int a2)] [] := by
  unfold f_M_plainRuns at hf
  refine V_aload_n C 0 d_M_plainRuns_0 rfl ?_
  refine V_iconst (v := 1) C d_M_plainRuns_1 (by decide) ?_
  obtain ⟨σ2_1, hg, hf⟩ := bd hf
  refine V_callVv C [.int (1 : Int32)] (c_M_ran C.2.2.2.2.2.2.2.1 hg) (by decide) cw_M_388 0 rfl rfl rfl rfl (Nat.le_of_ble_eq_true rfl) rfl d_M_plainRuns_2 ?_
  refine V_iload_n C 2 d_M_plainRuns_5 rfl ?_
  refine V_iload_n C 1 d_M_plainRuns_6 rfl ?_
  refine V_iadd C d_M_plainRuns_7 ?_
  exact V_iretW hR hf d_M_plainRuns_8
theorem c_M_plainRuns {l : Launch} {g : Gx} (hok : Wok classes (wM g)) {σ : St} {a1 : Int32} {a2 : Int32} {r : Int32} {σ' : St} (hf : f_M_plainRuns σ a1 a2 = some (r, σ')) : CtI classes l y_M_plainRuns b_M_plainRuns 3 (some .int) 2 (wM g) [.ref (g.2.1 0), .int a1, .int a2] σ r σ' :=
  MetI (by decide +kernel) hok (Nat.le_of_ble_eq_true rfl) (fun E _ C hR => w_M_plainRuns C hR hf)
set_option maxRecDepth 4000 in
theorem w_M_clothRuns {E : Ev} {g : Gx} {r : Int32} {σ' : St} (C : Cx E classes 3 (wM g) b_M_clothRuns "WithTheRedsModel" 3) (hR : RetI E classes 3 (wM g) b_M_clothRuns r σ') {σ : St} {a1 : Int32} {a2 : Int32} (hf : f_M_clothRuns σ a1 a2 = some (r, σ')) : V E classes 3 (wM g) σ 0 [(0, .ref (g.2.1 0)), (1, .int a1), (2, .int a2)] [] := by
  unfold f_M_clothRuns at hf
  refine V_aload_n C 0 d_M_clothRuns_0 rfl ?_
  refine V_bipush (v := 70) C d_M_clothRuns_1 (by decide) ?_
  obtain ⟨σ3_1, hg, hf⟩ := bd hf
  refine V_callVv C [.int (70 : Int32)] (c_M_ran C.2.2.2.2.2.2.2.1 hg) (by decide) cw_M_388 0 rfl rfl rfl rfl (Nat.le_of_ble_eq_true rfl) rfl d_M_clothRuns_3 ?_
  refine V_aload_n C 0 d_M_clothRuns_6 rfl ?_
  refine V_iload_n C 1 d_M_clothRuns_7 rfl ?_
  refine V_iload_n C 2 d_M_clothRuns_8 rfl ?_
  obtain ⟨r9_2, σ9_2, hg, hf⟩ := bd2_of hf
  refine V_callVi C [.int a1, .int a2] (c_M_plainRuns C.2.2.2.2.2.2.2.1 hg) (by decide) cw_M_391 0 rfl rfl rfl rfl (Nat.le_of_ble_eq_true rfl) rfl d_M_clothRuns_9 ?_
  refine V_iconst (v := 2) C d_M_clothRuns_12 (by decide) ?_
  refine V_imul C d_M_clothRuns_13 ?_
  exact V_iretW hR hf d_M_clothRuns_14
theorem c_M_clothRuns {l : Launch} {g : Gx} (hok : Wok classes (wM g)) {σ : St} {a1 : Int32} {a2 : Int32} {r : Int32} {σ' : St} (hf : f_M_clothRuns σ a1 a2 = some (r, σ')) : CtI classes l y_M_clothRuns b_M_clothRuns 3 (some .int) 3 (wM g) [.ref (g.2.1 0), .int a1, .int a2] σ r σ' :=
  MetI (by decide +kernel) hok (Nat.le_of_ble_eq_true rfl) (fun E _ C hR => w_M_clothRuns C hR hf)
set_option maxRecDepth 4000 in
theorem w_M_isUnder_44 {E : Ev} {g : Gx} {r : Int32} {σ : St} (C : Cx E classes 2 (wM g) b_M_isUnder "WithTheRedsModel" 1) (hR : RetZ E classes 2 (wM g) b_M_isUnder r σ) : ∀ (x0 : Int32) (x1 : Int32), f_M_isUnder_44 x0 x1 = some r → V E classes 2 (wM g) σ 44 [(0, .int x0), (1, .int x1)] [] := by
  intro x0 x1 hf
  unfold f_M_isUnder_44 at hf
  refine V_iload_n C 1 d_M_isUnder_44 rfl ?_
  refine V_bipush (v := 6) C d_M_isUnder_45 (by decide) ?_
  refine V_icmp_ne (pc := 47) (tgt := 60) C d_M_isUnder_47 (by decide) hf (fun hf => ?_) (fun hf => ?_)
  · refine V_iconst (v := 0) C d_M_isUnder_60 (by decide) ?_
    exact V_zret hR hf rfl d_M_isUnder_61
  · refine V_iload_n C 0 d_M_isUnder_50 rfl ?_
    refine V_bipush (v := 7) C d_M_isUnder_51 (by decide) ?_
    refine V_icmp_ne (pc := 53) (tgt := 60) C d_M_isUnder_53 (by decide) hf (fun hf => ?_) (fun hf => ?_)
    · refine V_iconst (v := 0) C d_M_isUnder_60 (by decide) ?_
      exact V_zret hR hf rfl d_M_isUnder_61
    · refine V_iconst (v := 1) C d_M_isUnder_56 (by decide) ?_
      refine V_goto (pc := 57) (tgt := 61) C d_M_isUnder_57 (by decide) ?_
      exact V_zret hR hf rfl d_M_isUnder_61
set_option maxRecDepth 4000 in
theorem w_M_isUnder_34 {E : Ev} {g : Gx} {r : Int32} {σ : St} (C : Cx E classes 2 (wM g) b_M_isUnder "WithTheRedsModel" 1) (hR : RetZ E classes 2 (wM g) b_M_isUnder r σ) : ∀ (x0 : Int32) (x1 : Int32), f_M_isUnder_34 x0 x1 = some r → V E classes 2 (wM g) σ 34 [(0, .int x0), (1, .int x1)] [] := by
  intro x0 x1 hf
  unfold f_M_isUnder_34 at hf
  refine V_iload_n C 1 d_M_isUnder_34 rfl ?_
  refine V_iconst (v := 3) C d_M_isUnder_35 (by decide) ?_
  refine V_icmp_ne (pc := 36) (tgt := 44) C d_M_isUnder_36 (by decide) hf (fun hf => ?_) (fun hf => ?_)
  · exact w_M_isUnder_44 C hR x0 x1 hf
  · refine V_iload_n C 0 d_M_isUnder_39 rfl ?_
    refine V_iconst (v := 5) C d_M_isUnder_40 (by decide) ?_
    refine V_icmp_eq (pc := 41) (tgt := 56) C d_M_isUnder_41 (by decide) hf (fun hf => ?_) (fun hf => ?_)
    · refine V_iconst (v := 1) C d_M_isUnder_56 (by decide) ?_
      refine V_goto (pc := 57) (tgt := 61) C d_M_isUnder_57 (by decide) ?_
      exact V_zret hR hf rfl d_M_isUnder_61
    · exact w_M_isUnder_44 C hR x0 x1 hf
set_option maxRecDepth 4000 in
theorem w_M_isUnder_19 {E : Ev} {g : Gx} {r : Int32} {σ : St} (C : Cx E classes 2 (wM g) b_M_isUnder "WithTheRedsModel" 1) (hR : RetZ E classes 2 (wM g) b_M_isUnder r σ) : ∀ (x0 : Int32) (x1 : Int32), f_M_isUnder_19 x0 x1 = some r → V E classes 2 (wM g) σ 19 [(0, .int x0), (1, .int x1)] [] := by
  intro x0 x1 hf
  unfold f_M_isUnder_19 at hf
  refine V_iload_n C 1 d_M_isUnder_19 rfl ?_
  refine V_iconst (v := 2) C d_M_isUnder_20 (by decide) ?_
  refine V_icmp_ne (pc := 21) (tgt := 34) C d_M_isUnder_21 (by decide) hf (fun hf => ?_) (fun hf => ?_)
  · exact w_M_isUnder_34 C hR x0 x1 hf
  · refine V_iload_n C 0 d_M_isUnder_24 rfl ?_
    refine V_iconst (v := 3) C d_M_isUnder_25 (by decide) ?_
    refine V_icmp_eq (pc := 26) (tgt := 56) C d_M_isUnder_26 (by decide) hf (fun hf => ?_) (fun hf => ?_)
    · refine V_iconst (v := 1) C d_M_isUnder_56 (by decide) ?_
      refine V_goto (pc := 57) (tgt := 61) C d_M_isUnder_57 (by decide) ?_
      exact V_zret hR hf rfl d_M_isUnder_61
    · refine V_iload_n C 0 d_M_isUnder_29 rfl ?_
      refine V_iconst (v := 5) C d_M_isUnder_30 (by decide) ?_
      refine V_icmp_eq (pc := 31) (tgt := 56) C d_M_isUnder_31 (by decide) hf (fun hf => ?_) (fun hf => ?_)
      · refine V_iconst (v := 1) C d_M_isUnder_56 (by decide) ?_
        refine V_goto (pc := 57) (tgt := 61) C d_M_isUnder_57 (by decide) ?_
        exact V_zret hR hf rfl d_M_isUnder_61
      · exact w_M_isUnder_34 C hR x0 x1 hf
set_option maxRecDepth 4000 in
theorem w_M_isUnder {E : Ev} {g : Gx} {r : Int32} {σ : St} (C : Cx E classes 2 (wM g) b_M_isUnder "WithTheRedsModel" 1) (hR : RetZ E classes 2 (wM g) b_M_isUnder r σ) {a0 : Int32} {a1 : Int32} (hf : f_M_isUnder a0 a1 = some r) : V E classes 2 (wM g) σ 0 [(0, .int a0), (1, .int a1)] [] := by
  unfold f_M_isUnder at hf
  refine V_iload_n C 1 d_M_isUnder_0 rfl ?_
  refine V_if_eq (pc := 1) (tgt := 56) C d_M_isUnder_1 (by decide) hf (fun hf => ?_) (fun hf => ?_)
  · refine V_iconst (v := 1) C d_M_isUnder_56 (by decide) ?_
    refine V_goto (pc := 57) (tgt := 61) C d_M_isUnder_57 (by decide) ?_
    exact V_zret hR hf rfl d_M_isUnder_61
  · refine V_iload_n C 0 d_M_isUnder_4 rfl ?_
    refine V_iload_n C 1 d_M_isUnder_5 rfl ?_
    refine V_icmp_eq (pc := 6) (tgt := 56) C d_M_isUnder_6 (by decide) hf (fun hf => ?_) (fun hf => ?_)
    · refine V_iconst (v := 1) C d_M_isUnder_56 (by decide) ?_
      refine V_goto (pc := 57) (tgt := 61) C d_M_isUnder_57 (by decide) ?_
      exact V_zret hR hf rfl d_M_isUnder_61
    · refine V_iload_n C 1 d_M_isUnder_9 rfl ?_
      refine V_iconst (v := 1) C d_M_isUnder_10 (by decide) ?_
      refine V_icmp_ne (pc := 11) (tgt := 19) C d_M_isUnder_11 (by decide) hf (fun hf => ?_) (fun hf => ?_)
      · exact w_M_isUnder_19 C hR a0 a1 hf
      · refine V_iload_n C 0 d_M_isUnder_14 rfl ?_
        refine V_iconst (v := 4) C d_M_isUnder_15 (by decide) ?_
        refine V_icmp_eq (pc := 16) (tgt := 56) C d_M_isUnder_16 (by decide) hf (fun hf => ?_) (fun hf => ?_)
        · refine V_iconst (v := 1) C d_M_isUnder_56 (by decide) ?_
          refine V_goto (pc := 57) (tgt := 61) C d_M_isUnder_57 (by decide) ?_
          exact V_zret hR hf rfl d_M_isUnder_61
        · exact w_M_isUnder_19 C hR a0 a1 hf
theorem c_M_isUnder {l : Launch} {g : Gx} (hok : Wok classes (wM g)) {σ : St} {a0 : Int32} {a1 : Int32} {r : Int32} (hf : f_M_isUnder a0 a1 = some r) : CtI classes l y_M_isUnder b_M_isUnder 2 (some .boolean) 1 (wM g) [.int a0, .int a1] σ r σ :=
  MetZ (by decide +kernel) hok (Nat.le_of_ble_eq_true rfl) (fun E _ C hR => w_M_isUnder C hR hf)
set_option maxRecDepth 4000 in
theorem w_M_running {E : Ev} {g : Gx} {r : Int32} {σ' : St} (C : Cx E classes 3 (wM g) b_M_running "WithTheRedsModel" 4) (hR : RetI E classes 3 (wM g) b_M_running r σ') {σ : St} {a1 : Int32} {a2 : Int32} (hf : f_M_running σ a1 a2 = some (r, σ')) : V E classes 3 (wM g) σ 0 [(0, .ref (g.2.1 0)), (1, .int a1), (2, .int a2)] [] := by
  unfold f_M_running at hf
  refine V_aload_n C 0 d_M_running_0 rfl ?_
  refine gM_M_kind C fl_M_128 d_M_running_1 ?_
  refine V_iload_n C 1 d_M_running_4 rfl ?_
  obtain ⟨hi5_1, hf⟩ := gu hf
  refine aM_35 (v := σ.2.1 35 a1.toNatClampNeg) C hi5_1 rfl d_M_running_5 ?_
  refine V_iconst (v := 1) C d_M_running_6 (by decide) ?_
  obtain ⟨r7_2, hg, hf⟩ := bd hf
  refine V_callSi C [.int (σ.2.1 35 a1.toNatClampNeg), .int (1 : Int32)] (c_M_isUnder C.2.2.2.2.2.2.2.1 hg) (by decide) cw_M_394 rfl (Nat.le_of_ble_eq_true rfl) rfl d_M_running_7 ?_
  refine V_if_eq (pc := 10) (tgt := 28) C d_M_running_10 (by decide) hf (fun hf => ?_) (fun hf => ?_)
  · refine V_aload_n C 0 d_M_running_28 rfl ?_
    refine gM_M_kind C fl_M_128 d_M_running_29 ?_
    refine V_iload_n C 1 d_M_running_32 rfl ?_
    obtain ⟨hi33_3, hf⟩ := gu hf
    refine aM_35 (v := σ.2.1 35 a1.toNatClampNeg) C hi33_3 rfl d_M_running_33 ?_
    refine V_bipush (v := 7) C d_M_running_34 (by decide) ?_
    refine V_icmp_ne (pc := 36) (tgt := 54) C d_M_running_36 (by decide) hf (fun hf => ?_) (fun hf => ?_)
    · refine V_aload_n C 0 d_M_running_54 rfl ?_
      refine gM_M_kind C fl_M_128 d_M_running_55 ?_
      refine V_iload_n C 1 d_M_running_58 rfl ?_
      obtain ⟨hi59_4, hf⟩ := gu hf
      refine aM_35 (v := σ.2.1 35 a1.toNatClampNeg) C hi59_4 rfl d_M_running_59 ?_
      refine V_bipush (v := 6) C d_M_running_60 (by decide) ?_
      refine V_icmp_ne (pc := 62) (tgt := 74) C d_M_running_62 (by decide) hf (fun hf => ?_) (fun hf => ?_)
      · refine V_aload_n C 0 d_M_running_74 rfl ?_
        refine V_iload_n C 1 d_M_running_75 rfl ?_
        refine V_iload_n C 2 d_M_running_76 rfl ?_
        obtain ⟨r77_5, σ77_5, hg, hf⟩ := bd2_of hf
        refine V_callVi C [.int a1, .int a2] (c_M_plainRuns C.2.2.2.2.2.2.2.1 hg) (by decide) cw_M_391 0 rfl rfl rfl rfl (Nat.le_of_ble_eq_true rfl) rfl d_M_running_77 ?_
        exact V_iretW hR hf d_M_running_80
      · refine V_aload_n C 0 d_M_running_65 rfl ?_
        refine V_iload_n C 1 d_M_running_66 rfl ?_
        refine V_iload_n C 2 d_M_running_67 rfl ?_
        obtain ⟨r68_6, σ68_6, hg, hf⟩ := bd2_of hf
        refine V_callVi C [.int a1, .int a2] (c_M_clothRuns C.2.2.2.2.2.2.2.1 hg) (by decide) cw_M_397 0 rfl rfl rfl rfl (Nat.le_of_ble_eq_true rfl) rfl d_M_running_68 ?_
        refine V_goto (pc := 71) (tgt := 80) C d_M_running_71 (by decide) ?_
        exact V_iretW hR hf d_M_running_80
    · refine V_aload_n C 0 d_M_running_39 rfl ?_
      refine V_bipush (v := 81) C d_M_running_40 (by decide) ?_
      obtain ⟨σ42_7, hg, hf⟩ := bd hf
      refine V_callVv C [.int (81 : Int32)] (c_M_ran C.2.2.2.2.2.2.2.1 hg) (by decide) cw_M_388 0 rfl rfl rfl rfl (Nat.le_of_ble_eq_true rfl) rfl d_M_running_42 ?_
      refine V_aload_n C 0 d_M_running_45 rfl ?_
      refine V_iload_n C 1 d_M_running_46 rfl ?_
      refine V_iload_n C 2 d_M_running_47 rfl ?_
      obtain ⟨r48_8, σ48_8, hg, hf⟩ := bd2_of hf
      refine V_callVi C [.int a1, .int a2] (c_M_clothRuns C.2.2.2.2.2.2.2.1 hg) (by decide) cw_M_397 0 rfl rfl rfl rfl (Nat.le_of_ble_eq_true rfl) rfl d_M_running_48 ?_
      refine V_iconst (v := 1) C d_M_running_51 (by decide) ?_
      refine V_isub C d_M_running_52 ?_
      exact V_iretW hR hf d_M_running_53
  · refine V_aload_n C 0 d_M_running_13 rfl ?_
    refine V_bipush (v := 20) C d_M_running_14 (by decide) ?_
    obtain ⟨σ16_9, hg, hf⟩ := bd hf
    refine V_callVv C [.int (20 : Int32)] (c_M_ran C.2.2.2.2.2.2.2.1 hg) (by decide) cw_M_388 0 rfl rfl rfl rfl (Nat.le_of_ble_eq_true rfl) rfl d_M_running_16 ?_
    refine V_aload_n C 0 d_M_running_19 rfl ?_
    refine V_iload_n C 1 d_M_running_20 rfl ?_
    refine V_iload_n C 2 d_M_running_21 rfl ?_
    obtain ⟨r22_10, σ22_10, hg, hf⟩ := bd2_of hf
    refine V_callVi C [.int a1, .int a2] (c_M_plainRuns C.2.2.2.2.2.2.2.1 hg) (by decide) cw_M_391 0 rfl rfl rfl rfl (Nat.le_of_ble_eq_true rfl) rfl d_M_running_22 ?_
    refine V_iconst (v := 3) C d_M_running_25 (by decide) ?_
    refine V_iadd C d_M_running_26 ?_
    exact V_iretW hR hf d_M_running_27
theorem c_M_running {l : Launch} {g : Gx} (hok : Wok classes (wM g)) {σ : St} {a1 : Int32} {a2 : Int32} {r : Int32} {σ' : St} (hf : f_M_running σ a1 a2 = some (r, σ')) : CtI classes l y_M_running b_M_running 3 (some .int) 4 (wM g) [.ref (g.2.1 0), .int a1, .int a2] σ r σ' :=
  MetI (by decide +kernel) hok (Nat.le_of_ble_eq_true rfl) (fun E _ C hR => w_M_running C hR hf)
set_option maxRecDepth 4000 in
theorem w_M_drying {E : Ev} {g : Gx} {r : Int32} {σ' : St} (C : Cx E classes 4 (wM g) b_M_drying "WithTheRedsModel" 5) (hR : RetI E classes 4 (wM g) b_M_drying r σ') {σ : St} {a1 : Int32} {a2 : Int32} (hf : f_M_drying σ a1 a2 = some (r, σ')) : V E classes 4 (wM g) σ 0 [(0, .ref (g.2.1 0)), (1, .int a1), (2, .int a2)] [] := by
  unfold f_M_drying at hf
  refine V_aload_n C 0 d_M_drying_0 rfl ?_
  refine gM_M_kind C fl_M_128 d_M_drying_1 ?_
  refine V_iload_n C 1 d_M_drying_4 rfl ?_
  obtain ⟨hi5_1, hf⟩ := gu hf
  refine aM_35 (v := σ.2.1 35 a1.toNatClampNeg) C hi5_1 rfl d_M_drying_5 ?_
  refine V_iconst (v := 5) C d_M_drying_6 (by decide) ?_
  refine V_icmp_ne (pc := 7) (tgt := 32) C d_M_drying_7 (by decide) hf (fun hf => ?_) (fun hf => ?_)
  · refine V_aload_n C 0 d_M_drying_32 rfl ?_
    refine gM_M_kind C fl_M_128 d_M_drying_33 ?_
    refine V_iload_n C 1 d_M_drying_36 rfl ?_
    obtain ⟨hi37_2, hf⟩ := gu hf
    refine aM_35 (v := σ.2.1 35 a1.toNatClampNeg) C hi37_2 rfl d_M_drying_37 ?_
    refine V_iconst (v := 3) C d_M_drying_38 (by decide) ?_
    refine V_icmp_ne (pc := 39) (tgt := 51) C d_M_drying_39 (by decide) hf (fun hf => ?_) (fun hf => ?_)
    · refine V_aload_n C 0 d_M_drying_51 rfl ?_
      refine V_iload_n C 1 d_M_drying_52 rfl ?_
      refine V_iload_n C 2 d_M_drying_53 rfl ?_
      obtain ⟨r54_3, σ54_3, hg, hf⟩ := bd2_of hf
      refine V_callVi C [.int a1, .int a2] (c_M_plainDries C.2.2.2.2.2.2.2.1 hg) (by decide) cw_M_412 0 rfl rfl rfl rfl (Nat.le_of_ble_eq_true rfl) rfl d_M_drying_54 ?_
      exact V_iretW hR hf d_M_drying_57
    · refine V_aload_n C 0 d_M_drying_42 rfl ?_
      refine V_iload_n C 1 d_M_drying_43 rfl ?_
      refine V_iload_n C 2 d_M_drying_44 rfl ?_
      obtain ⟨r45_4, σ45_4, hg, hf⟩ := bd2_of hf
      refine V_callVi C [.int a1, .int a2] (c_M_jeansDries C.2.2.2.2.2.2.2.1 hg) (by decide) cw_M_415 0 rfl rfl rfl rfl (Nat.le_of_ble_eq_true rfl) rfl d_M_drying_45 ?_
      refine V_goto (pc := 48) (tgt := 57) C d_M_drying_48 (by decide) ?_
      exact V_iretW hR hf d_M_drying_57
  · refine V_aload_n C 0 d_M_drying_10 rfl ?_
    refine V_bipush (v := 60) C d_M_drying_11 (by decide) ?_
    obtain ⟨σ13_5, hg, hf⟩ := bd hf
    refine V_callVv C [.int (60 : Int32)] (c_M_ran C.2.2.2.2.2.2.2.1 hg) (by decide) cw_M_388 0 rfl rfl rfl rfl (Nat.le_of_ble_eq_true rfl) rfl d_M_drying_13 ?_
    refine V_aload_n C 0 d_M_drying_16 rfl ?_
    refine V_iload_n C 1 d_M_drying_17 rfl ?_
    refine V_iload_n C 2 d_M_drying_18 rfl ?_
    obtain ⟨r19_6, σ19_6, hg, hf⟩ := bd2_of hf
    refine V_callVi C [.int a1, .int a2] (c_M_jeansDries C.2.2.2.2.2.2.2.1 hg) (by decide) cw_M_415 0 rfl rfl rfl rfl (Nat.le_of_ble_eq_true rfl) rfl d_M_drying_19 ?_
    refine V_istore_n C d_M_drying_22 (by decide) rfl ?_
    refine V_iload_n C 0 d_M_drying_23 rfl ?_
    refine V_aload_n C 1 d_M_drying_24 rfl ?_
    refine V_iload_n C 2 d_M_drying_25 rfl ?_
    refine V_iconst (v := 2) C d_M_drying_26 (by decide) ?_
    obtain ⟨r27_7, σ27_7, hg, hf⟩ := bd2_of hf
    refine V_callVi C [.int a1, .int (2 : Int32)] (c_M_running C.2.2.2.2.2.2.2.1 hg) (by decide) cw_M_400 0 rfl rfl rfl rfl (Nat.le_of_ble_eq_true rfl) rfl d_M_drying_27 ?_
    refine V_isub C d_M_drying_30 ?_
    exact V_iretW hR hf d_M_drying_31
theorem c_M_drying {l : Launch} {g : Gx} (hok : Wok classes (wM g)) {σ : St} {a1 : Int32} {a2 : Int32} {r : Int32} {σ' : St} (hf : f_M_drying σ a1 a2 = some (r, σ')) : CtI classes l y_M_drying b_M_drying 4 (some .int) 5 (wM g) [.ref (g.2.1 0), .int a1, .int a2] σ r σ' :=
  MetI (by decide +kernel) hok (Nat.le_of_ble_eq_true rfl) (fun E _ C hR => w_M_drying C hR hf)
set_option maxRecDepth 4000 in
theorem w_M_in {E : Ev} {g : Gx} {r : Int32} {σ : St} (C : Cx E classes 3 (wM g) b_M_in "WithTheRedsModel" 1) (hR : RetZ E classes 3 (wM g) b_M_in r σ) {a0 : Int32} {a1 : Int32} {a2 : Int32} (hf : f_M_in a0 a1 a2 = some r) : V E classes 3 (wM g) σ 0 [(0, .int a0), (1, .int a1), (2, .int a2)] [] := by
  unfold f_M_in at hf
  refine V_iload_n C 0 d_M_in_0 rfl ?_
  refine V_iload_n C 1 d_M_in_1 rfl ?_
  refine V_icmp_lt (pc := 2) (tgt := 14) C d_M_in_2 (by decide) hf (fun hf => ?_) (fun hf => ?_)
  · refine V_iconst (v := 0) C d_M_in_14 (by decide) ?_
    exact V_zret hR hf rfl d_M_in_15
  · refine V_iload_n C 0 d_M_in_5 rfl ?_
    refine V_iload_n C 2 d_M_in_6 rfl ?_
    refine V_icmp_gt (pc := 7) (tgt := 14) C d_M_in_7 (by decide) hf (fun hf => ?_) (fun hf => ?_)
    · refine V_iconst (v := 0) C d_M_in_14 (by decide) ?_
      exact V_zret hR hf rfl d_M_in_15
    · refine V_iconst (v := 1) C d_M_in_10 (by decide) ?_
      refine V_goto (pc := 11) (tgt := 15) C d_M_in_11 (by decide) ?_
      exact V_zret hR hf rfl d_M_in_15
theorem c_M_in {l : Launch} {g : Gx} (hok : Wok classes (wM g)) {σ : St} {a0 : Int32} {a1 : Int32} {a2 : Int32} {r : Int32} (hf : f_M_in a0 a1 a2 = some r) : CtI classes l y_M_in b_M_in 3 (some .boolean) 1 (wM g) [.int a0, .int a1, .int a2] σ r σ :=
  MetZ (by decide +kernel) hok (Nat.le_of_ble_eq_true rfl) (fun E _ C hR => w_M_in C hR hf)
set_option maxRecDepth 4000 in
theorem w_M_isBody {E : Ev} {g : Gx} {r : Int32} {σ : St} (C : Cx E classes 2 (wM g) b_M_isBody "WithTheRedsModel" 2) (hR : RetZ E classes 2 (wM g) b_M_isBody r σ) {a1 : Int32} (hf : f_M_isBody σ a1 = some r) : V E classes 2 (wM g) σ 0 [(0, .ref (g.2.1 0)), (1, .int a1)] [] := by
  unfold f_M_isBody at hf
  refine V_iload_n C 1 d_M_isBody_0 rfl ?_
  refine V_iconst (v := 0) C d_M_isBody_1 (by decide) ?_
  refine V_aload_n C 0 d_M_isBody_2 rfl ?_
  refine gM_M_bodies (v := σ.1 54) C fl_M_382 rfl d_M_isBody_3 ?_
  refine V_iconst (v := 1) C d_M_isBody_6 (by decide) ?_
  refine V_isub C d_M_isBody_7 ?_
  obtain ⟨r8_1, hg, hf⟩ := bd hf
  refine V_callSi C [.int a1, .int (0 : Int32), .int ((σ.1 54) - (1 : Int32))] (c_M_in C.2.2.2.2.2.2.2.1 hg) (by decide) cw_M_153 rfl (Nat.le_of_ble_eq_true rfl) rfl d_M_isBody_8 ?_
  obtain ⟨hz, hf⟩ := gu hf
  exact V_zret hR hf hz d_M_isBody_11
theorem c_M_isBody {l : Launch} {g : Gx} (hok : Wok classes (wM g)) {σ : St} {a1 : Int32} {r : Int32} (hf : f_M_isBody σ a1 = some r) : CtI classes l y_M_isBody b_M_isBody 2 (some .boolean) 2 (wM g) [.ref (g.2.1 0), .int a1] σ r σ :=
  MetZ (by decide +kernel) hok (Nat.le_of_ble_eq_true rfl) (fun E _ C hR => w_M_isBody C hR hf)
set_option maxRecDepth 4000 in
theorem w_M_plainTints {E : Ev} {g : Gx} {r : Int32} {σ' : St} (C : Cx E classes 3 (wM g) b_M_plainTints "WithTheRedsModel" 5) (hR : RetI E classes 3 (wM g) b_M_plainTints r σ') {σ : St} {a1 : Int32} {a2 : Int32} (hf : f_M_plainTints σ a1 a2 = some (r, σ')) : V E classes 3 (wM g) σ 0 [(0, .ref (g.2.1 0)), (1, .int a1), (2, .int a2)] [] := by
  unfold f_M_plainTints at hf
  refine V_aload_n C 0 d_M_plainTints_0 rfl ?_
  refine V_bipush (v := 10) C d_M_plainTints_1 (by decide) ?_
  obtain ⟨σ3_1, hg, hf⟩ := bd hf
  refine V_callVv C [.int (10 : Int32)] (c_M_ran C.2.2.2.2.2.2.2.1 hg) (by decide) cw_M_388 0 rfl rfl rfl rfl (Nat.le_of_ble_eq_true rfl) rfl d_M_plainTints_3 ?_
  refine V_aload_n C 0 d_M_plainTints_6 rfl ?_
  refine V_iload_n C 1 d_M_plainTints_7 rfl ?_
  refine V_iload_n C 2 d_M_plainTints_8 rfl ?_
  obtain ⟨r9_2, σ9_2, hg, hf⟩ := bd2_of hf
  refine V_callVi C [.int a1, .int a2] (c_M_running C.2.2.2.2.2.2.2.1 hg) (by decide) cw_M_400 0 rfl rfl rfl rfl (Nat.le_of_ble_eq_true rfl) rfl d_M_plainTints_9 ?_
  refine V_iconst (v := 2) C d_M_plainTints_12 (by decide) ?_
  refine V_imul C d_M_plainTints_13 ?_
  exact V_iretW hR hf d_M_plainTints_14
theorem c_M_plainTints {l : Launch} {g : Gx} (hok : Wok classes (wM g)) {σ : St} {a1 : Int32} {a2 : Int32} {r : Int32} {σ' : St} (hf : f_M_plainTints σ a1 a2 = some (r, σ')) : CtI classes l y_M_plainTints b_M_plainTints 3 (some .int) 5 (wM g) [.ref (g.2.1 0), .int a1, .int a2] σ r σ' :=
  MetI (by decide +kernel) hok (Nat.le_of_ble_eq_true rfl) (fun E _ C hR => w_M_plainTints C hR hf)
set_option maxRecDepth 4000 in
theorem w_M_woolTints {E : Ev} {g : Gx} {r : Int32} {σ' : St} (C : Cx E classes 3 (wM g) b_M_woolTints "WithTheRedsModel" 6) (hR : RetI E classes 3 (wM g) b_M_woolTints r σ') {σ : St} {a1 : Int32} {a2 : Int32} (hf : f_M_woolTints σ a1 a2 = some (r, σ')) : V E classes 3 (wM g) σ 0 [(0, .ref (g.2.1 0)), (1, .int a1), (2, .int a2)] [] := by
  unfold f_M_woolTints at hf
  refine V_aload_n C 0 d_M_woolTints_0 rfl ?_
  refine V_bipush (v := 30) C d_M_woolTints_1 (by decide) ?_
  obtain ⟨σ3_1, hg, hf⟩ := bd hf
  refine V_callVv C [.int (30 : Int32)] (c_M_ran C.2.2.2.2.2.2.2.1 hg) (by decide) cw_M_388 0 rfl rfl rfl rfl (Nat.le_of_ble_eq_true rfl) rfl d_M_woolTints_3 ?_
  refine V_aload_n C 0 d_M_woolTints_6 rfl ?_
  refine V_iload_n C 1 d_M_woolTints_7 rfl ?_
  refine V_iload_n C 2 d_M_woolTints_8 rfl ?_
  obtain ⟨r9_2, σ9_2, hg, hf⟩ := bd2_of hf
  refine V_callVi C [.int a1, .int a2] (c_M_plainTints C.2.2.2.2.2.2.2.1 hg) (by decide) cw_M_403 0 rfl rfl rfl rfl (Nat.le_of_ble_eq_true rfl) rfl d_M_woolTints_9 ?_
  refine V_ineg C d_M_woolTints_12 ?_
  exact V_iretW hR hf d_M_woolTints_13
theorem c_M_woolTints {l : Launch} {g : Gx} (hok : Wok classes (wM g)) {σ : St} {a1 : Int32} {a2 : Int32} {r : Int32} {σ' : St} (hf : f_M_woolTints σ a1 a2 = some (r, σ')) : CtI classes l y_M_woolTints b_M_woolTints 3 (some .int) 6 (wM g) [.ref (g.2.1 0), .int a1, .int a2] σ r σ' :=
  MetI (by decide +kernel) hok (Nat.le_of_ble_eq_true rfl) (fun E _ C hR => w_M_woolTints C hR hf)
set_option maxRecDepth 4000 in
theorem w_M_tinting {E : Ev} {g : Gx} {r : Int32} {σ' : St} (C : Cx E classes 4 (wM g) b_M_tinting "WithTheRedsModel" 7) (hR : RetI E classes 4 (wM g) b_M_tinting r σ') {σ : St} {a1 : Int32} {a2 : Int32} (hf : f_M_tinting σ a1 a2 = some (r, σ')) : V E classes 4 (wM g) σ 0 [(0, .ref (g.2.1 0)), (1, .int a1), (2, .int a2)] [] := by
  unfold f_M_tinting at hf
  refine V_aload_n C 0 d_M_tinting_0 rfl ?_
  refine gM_M_kind C fl_M_128 d_M_tinting_1 ?_
  refine V_iload_n C 1 d_M_tinting_4 rfl ?_
  obtain ⟨hi5_1, hf⟩ := gu hf
  refine aM_35 (v := σ.2.1 35 a1.toNatClampNeg) C hi5_1 rfl d_M_tinting_5 ?_
  refine V_iconst (v := 3) C d_M_tinting_6 (by decide) ?_
  obtain ⟨r7_2, hg, hf⟩ := bd hf
  refine V_callSi C [.int (σ.2.1 35 a1.toNatClampNeg), .int (3 : Int32)] (c_M_isUnder C.2.2.2.2.2.2.2.1 hg) (by decide) cw_M_394 rfl (Nat.le_of_ble_eq_true rfl) rfl d_M_tinting_7 ?_
  refine V_if_eq (pc := 10) (tgt := 28) C d_M_tinting_10 (by decide) hf (fun hf => ?_) (fun hf => ?_)
  · refine V_aload_n C 0 d_M_tinting_28 rfl ?_
    refine gM_M_kind C fl_M_128 d_M_tinting_29 ?_
    refine V_iload_n C 1 d_M_tinting_32 rfl ?_
    obtain ⟨hi33_3, hf⟩ := gu hf
    refine aM_35 (v := σ.2.1 35 a1.toNatClampNeg) C hi33_3 rfl d_M_tinting_33 ?_
    refine V_bipush (v := 7) C d_M_tinting_34 (by decide) ?_
    refine V_icmp_ne (pc := 36) (tgt := 61) C d_M_tinting_36 (by decide) hf (fun hf => ?_) (fun hf => ?_)
    · refine V_aload_n C 0 d_M_tinting_61 rfl ?_
      refine gM_M_kind C fl_M_128 d_M_tinting_62 ?_
      refine V_iload_n C 1 d_M_tinting_65 rfl ?_
      obtain ⟨hi66_4, hf⟩ := gu hf
      refine aM_35 (v := σ.2.1 35 a1.toNatClampNeg) C hi66_4 rfl d_M_tinting_66 ?_
      refine V_iconst (v := 2) C d_M_tinting_67 (by decide) ?_
      refine V_icmp_ne (pc := 68) (tgt := 80) C d_M_tinting_68 (by decide) hf (fun hf => ?_) (fun hf => ?_)
      · refine V_aload_n C 0 d_M_tinting_80 rfl ?_
        refine V_iload_n C 1 d_M_tinting_81 rfl ?_
        refine V_iload_n C 2 d_M_tinting_82 rfl ?_
        obtain ⟨r83_5, σ83_5, hg, hf⟩ := bd2_of hf
        refine V_callVi C [.int a1, .int a2] (c_M_plainTints C.2.2.2.2.2.2.2.1 hg) (by decide) cw_M_403 0 rfl rfl rfl rfl (Nat.le_of_ble_eq_true rfl) rfl d_M_tinting_83 ?_
        exact V_iretW hR hf d_M_tinting_86
      · refine V_aload_n C 0 d_M_tinting_71 rfl ?_
        refine V_iload_n C 1 d_M_tinting_72 rfl ?_
        refine V_iload_n C 2 d_M_tinting_73 rfl ?_
        obtain ⟨r74_6, σ74_6, hg, hf⟩ := bd2_of hf
        refine V_callVi C [.int a1, .int a2] (c_M_woolTints C.2.2.2.2.2.2.2.1 hg) (by decide) cw_M_406 0 rfl rfl rfl rfl (Nat.le_of_ble_eq_true rfl) rfl d_M_tinting_74 ?_
        refine V_goto (pc := 77) (tgt := 86) C d_M_tinting_77 (by decide) ?_
        exact V_iretW hR hf d_M_tinting_86
    · refine V_aload_n C 0 d_M_tinting_39 rfl ?_
      refine V_bipush (v := 80) C d_M_tinting_40 (by decide) ?_
      obtain ⟨σ42_7, hg, hf⟩ := bd hf
      refine V_callVv C [.int (80 : Int32)] (c_M_ran C.2.2.2.2.2.2.2.1 hg) (by decide) cw_M_388 0 rfl rfl rfl rfl (Nat.le_of_ble_eq_true rfl) rfl d_M_tinting_42 ?_
      refine V_aload_n C 0 d_M_tinting_45 rfl ?_
      refine V_iload_n C 1 d_M_tinting_46 rfl ?_
      refine V_iload_n C 2 d_M_tinting_47 rfl ?_
      obtain ⟨r48_8, σ48_8, hg, hf⟩ := bd2_of hf
      refine V_callVi C [.int a1, .int a2] (c_M_plainTints C.2.2.2.2.2.2.2.1 hg) (by decide) cw_M_403 0 rfl rfl rfl rfl (Nat.le_of_ble_eq_true rfl) rfl d_M_tinting_48 ?_
      refine V_istore_n C d_M_tinting_51 (by decide) rfl ?_
      refine V_iload_n C 0 d_M_tinting_52 rfl ?_
      refine V_aload_n C 1 d_M_tinting_53 rfl ?_
      refine V_iload_n C 2 d_M_tinting_54 rfl ?_
      refine V_iconst (v := 2) C d_M_tinting_55 (by decide) ?_
      obtain ⟨r56_9, σ56_9, hg, hf⟩ := bd2_of hf
      refine V_callVi C [.int a1, .int (2 : Int32)] (c_M_drying C.2.2.2.2.2.2.2.1 hg) (by decide) cw_M_409 0 rfl rfl rfl rfl (Nat.le_of_ble_eq_true rfl) rfl d_M_tinting_56 ?_
      refine V_iadd C d_M_tinting_59 ?_
      exact V_iretW hR hf d_M_tinting_60
  · refine V_aload_n C 0 d_M_tinting_13 rfl ?_
    refine V_bipush (v := 41) C d_M_tinting_14 (by decide) ?_
    obtain ⟨σ16_10, hg, hf⟩ := bd hf
    refine V_callVv C [.int (41 : Int32)] (c_M_ran C.2.2.2.2.2.2.2.1 hg) (by decide) cw_M_388 0 rfl rfl rfl rfl (Nat.le_of_ble_eq_true rfl) rfl d_M_tinting_16 ?_
    refine V_aload_n C 0 d_M_tinting_19 rfl ?_
    refine V_iload_n C 1 d_M_tinting_20 rfl ?_
    refine V_iload_n C 2 d_M_tinting_21 rfl ?_
    refine V_iconst (v := 1) C d_M_tinting_22 (by decide) ?_
    refine V_iadd C d_M_tinting_23 ?_
    obtain ⟨r24_11, σ24_11, hg, hf⟩ := bd2_of hf
    refine V_callVi C [.int a1, .int (a2 + (1 : Int32))] (c_M_woolTints C.2.2.2.2.2.2.2.1 hg) (by decide) cw_M_406 0 rfl rfl rfl rfl (Nat.le_of_ble_eq_true rfl) rfl d_M_tinting_24 ?_
    exact V_iretW hR hf d_M_tinting_27
theorem c_M_tinting {l : Launch} {g : Gx} (hok : Wok classes (wM g)) {σ : St} {a1 : Int32} {a2 : Int32} {r : Int32} {σ' : St} (hf : f_M_tinting σ a1 a2 = some (r, σ')) : CtI classes l y_M_tinting b_M_tinting 4 (some .int) 7 (wM g) [.ref (g.2.1 0), .int a1, .int a2] σ r σ' :=
  MetI (by decide +kernel) hok (Nat.le_of_ble_eq_true rfl) (fun E _ C hR => w_M_tinting C hR hf)
set_option maxRecDepth 4000 in
theorem w_M_plainTells {E : Ev} {g : Gx} {r : Int32} {σ' : St} (C : Cx E classes 4 (wM g) b_M_plainTells "WithTheRedsModel" 8) (hR : RetI E classes 4 (wM g) b_M_plainTells r σ') {σ : St} {a1 : Int32} {a2 : Int32} (hf : f_M_plainTells σ a1 a2 = some (r, σ')) : V E classes 4 (wM g) σ 0 [(0, .ref (g.2.1 0)), (1, .int a1), (2, .int a2)] [] := by
  unfold f_M_plainTells at hf
  refine V_aload_n C 0 d_M_plainTells_0 rfl ?_
  refine V_iconst (v := 2) C d_M_plainTells_1 (by decide) ?_
  obtain ⟨σ2_1, hg, hf⟩ := bd hf
  refine V_callVv C [.int (2 : Int32)] (c_M_ran C.2.2.2.2.2.2.2.1 hg) (by decide) cw_M_388 0 rfl rfl rfl rfl (Nat.le_of_ble_eq_true rfl) rfl d_M_plainTells_2 ?_
  refine V_aload_n C 0 d_M_plainTells_5 rfl ?_
  refine V_iload_n C 1 d_M_plainTells_6 rfl ?_
  refine V_iload_n C 2 d_M_plainTells_7 rfl ?_
  obtain ⟨r8_2, σ8_2, hg, hf⟩ := bd2_of hf
  refine V_callVi C [.int a1, .int a2] (c_M_tinting C.2.2.2.2.2.2.2.1 hg) (by decide) cw_M_418 0 rfl rfl rfl rfl (Nat.le_of_ble_eq_true rfl) rfl d_M_plainTells_8 ?_
  refine V_istore_n C d_M_plainTells_11 (by decide) rfl ?_
  refine V_iload_n C 0 d_M_plainTells_12 rfl ?_
  refine V_aload_n C 1 d_M_plainTells_13 rfl ?_
  refine V_iload_n C 2 d_M_plainTells_14 rfl ?_
  refine V_iconst (v := 1) C d_M_plainTells_15 (by decide) ?_
  obtain ⟨r16_3, σ16_3, hg, hf⟩ := bd2_of hf
  refine V_callVi C [.int a1, .int (1 : Int32)] (c_M_drying C.2.2.2.2.2.2.2.1 hg) (by decide) cw_M_409 0 rfl rfl rfl rfl (Nat.le_of_ble_eq_true rfl) rfl d_M_plainTells_16 ?_
  refine V_isub C d_M_plainTells_19 ?_
  exact V_iretW hR hf d_M_plainTells_20
theorem c_M_plainTells {l : Launch} {g : Gx} (hok : Wok classes (wM g)) {σ : St} {a1 : Int32} {a2 : Int32} {r : Int32} {σ' : St} (hf : f_M_plainTells σ a1 a2 = some (r, σ')) : CtI classes l y_M_plainTells b_M_plainTells 4 (some .int) 8 (wM g) [.ref (g.2.1 0), .int a1, .int a2] σ r σ' :=
  MetI (by decide +kernel) hok (Nat.le_of_ble_eq_true rfl) (fun E _ C hR => w_M_plainTells C hR hf)
set_option maxRecDepth 4000 in
theorem w_M_telling {E : Ev} {g : Gx} {r : Int32} {σ' : St} (C : Cx E classes 3 (wM g) b_M_telling "WithTheRedsModel" 9) (hR : RetI E classes 3 (wM g) b_M_telling r σ') {σ : St} {a1 : Int32} {a2 : Int32} (hf : f_M_telling σ a1 a2 = some (r, σ')) : V E classes 3 (wM g) σ 0 [(0, .ref (g.2.1 0)), (1, .int a1), (2, .int a2)] [] := by
  unfold f_M_telling at hf
  refine V_aload_n C 0 d_M_telling_0 rfl ?_
  refine gM_M_kind C fl_M_128 d_M_telling_1 ?_
  refine V_iload_n C 1 d_M_telling_4 rfl ?_
  obtain ⟨hi5_1, hf⟩ := gu hf
  refine aM_35 (v := σ.2.1 35 a1.toNatClampNeg) C hi5_1 rfl d_M_telling_5 ?_
  refine V_iconst (v := 4) C d_M_telling_6 (by decide) ?_
  refine V_icmp_ne (pc := 7) (tgt := 25) C d_M_telling_7 (by decide) hf (fun hf => ?_) (fun hf => ?_)
  · refine V_aload_n C 0 d_M_telling_25 rfl ?_
    refine gM_M_kind C fl_M_128 d_M_telling_26 ?_
    refine V_iload_n C 1 d_M_telling_29 rfl ?_
    obtain ⟨hi30_2, hf⟩ := gu hf
    refine aM_35 (v := σ.2.1 35 a1.toNatClampNeg) C hi30_2 rfl d_M_telling_30 ?_
    refine V_iconst (v := 5) C d_M_telling_31 (by decide) ?_
    refine V_icmp_ne (pc := 32) (tgt := 50) C d_M_telling_32 (by decide) hf (fun hf => ?_) (fun hf => ?_)
    · refine V_aload_n C 0 d_M_telling_50 rfl ?_
      refine V_iload_n C 1 d_M_telling_51 rfl ?_
      refine V_iload_n C 2 d_M_telling_52 rfl ?_
      obtain ⟨r53_3, σ53_3, hg, hf⟩ := bd2_of hf
      refine V_callVi C [.int a1, .int a2] (c_M_plainTells C.2.2.2.2.2.2.2.1 hg) (by decide) cw_M_421 0 rfl rfl rfl rfl (Nat.le_of_ble_eq_true rfl) rfl d_M_telling_53 ?_
      exact V_iretW hR hf d_M_telling_56
    · refine V_aload_n C 0 d_M_telling_35 rfl ?_
      refine V_bipush (v := 61) C d_M_telling_36 (by decide) ?_
      obtain ⟨σ38_4, hg, hf⟩ := bd hf
      refine V_callVv C [.int (61 : Int32)] (c_M_ran C.2.2.2.2.2.2.2.1 hg) (by decide) cw_M_388 0 rfl rfl rfl rfl (Nat.le_of_ble_eq_true rfl) rfl d_M_telling_38 ?_
      refine V_aload_n C 0 d_M_telling_41 rfl ?_
      refine V_iload_n C 1 d_M_telling_42 rfl ?_
      refine V_iload_n C 2 d_M_telling_43 rfl ?_
      obtain ⟨r44_5, σ44_5, hg, hf⟩ := bd2_of hf
      refine V_callVi C [.int a1, .int a2] (c_M_plainTells C.2.2.2.2.2.2.2.1 hg) (by decide) cw_M_421 0 rfl rfl rfl rfl (Nat.le_of_ble_eq_true rfl) rfl d_M_telling_44 ?_
      refine V_iconst (v := 1) C d_M_telling_47 (by decide) ?_
      refine V_iadd C d_M_telling_48 ?_
      exact V_iretW hR hf d_M_telling_49
  · refine V_aload_n C 0 d_M_telling_10 rfl ?_
    refine V_bipush (v := 50) C d_M_telling_11 (by decide) ?_
    obtain ⟨σ13_6, hg, hf⟩ := bd hf
    refine V_callVv C [.int (50 : Int32)] (c_M_ran C.2.2.2.2.2.2.2.1 hg) (by decide) cw_M_388 0 rfl rfl rfl rfl (Nat.le_of_ble_eq_true rfl) rfl d_M_telling_13 ?_
    refine V_aload_n C 0 d_M_telling_16 rfl ?_
    refine V_iload_n C 1 d_M_telling_17 rfl ?_
    refine V_iload_n C 2 d_M_telling_18 rfl ?_
    obtain ⟨r19_7, σ19_7, hg, hf⟩ := bd2_of hf
    refine V_callVi C [.int a1, .int a2] (c_M_plainTells C.2.2.2.2.2.2.2.1 hg) (by decide) cw_M_421 0 rfl rfl rfl rfl (Nat.le_of_ble_eq_true rfl) rfl d_M_telling_19 ?_
    refine V_iconst (v := 5) C d_M_telling_22 (by decide) ?_
    refine V_ixor C d_M_telling_23 ?_
    exact V_iretW hR hf d_M_telling_24
theorem c_M_telling {l : Launch} {g : Gx} (hok : Wok classes (wM g)) {σ : St} {a1 : Int32} {a2 : Int32} {r : Int32} {σ' : St} (hf : f_M_telling σ a1 a2 = some (r, σ')) : CtI classes l y_M_telling b_M_telling 3 (some .int) 9 (wM g) [.ref (g.2.1 0), .int a1, .int a2] σ r σ' :=
  MetI (by decide +kernel) hok (Nat.le_of_ble_eq_true rfl) (fun E _ C hR => w_M_telling C hR hf)
set_option maxRecDepth 4000 in
theorem w_M_act {E : Ev} {g : Gx} {r : Int32} {σ' : St} (C : Cx E classes 4 (wM g) b_M_act "WithTheRedsModel" 10) (hR : RetI E classes 4 (wM g) b_M_act r σ') {σ : St} {a1 : Int32} {a2 : Int32} {a3 : Int32} (hf : f_M_act σ a1 a2 a3 = some (r, σ')) : V E classes 4 (wM g) σ 0 [(0, .ref (g.2.1 0)), (1, .int a1), (2, .int a2), (3, .int a3)] [] := by
  unfold f_M_act at hf
  refine V_aload_n C 0 d_M_act_0 rfl ?_
  refine V_iconst (v := 0) C d_M_act_1 (by decide) ?_
  refine pM_M_traces C fl_M_385 d_M_act_2 ?_
  refine V_aload_n C 0 d_M_act_5 rfl ?_
  refine V_iload_n C 1 d_M_act_6 rfl ?_
  obtain ⟨r7_1, hg, hf⟩ := bd hf
  refine V_callVi C [.int a1] (c_M_isBody C.2.2.2.2.2.2.2.1 hg) (by decide) cw_M_424 0 rfl rfl rfl rfl (Nat.le_of_ble_eq_true rfl) rfl d_M_act_7 ?_
  refine V_if_eq (pc := 10) (tgt := 22) C d_M_act_10 (by decide) hf (fun hf => ?_) (fun hf => ?_)
  · refine V_iconst (v := 0) C d_M_act_22 (by decide) ?_
    exact V_iretW hR hf d_M_act_23
  · refine V_iload_n C 2 d_M_act_13 rfl ?_
    refine V_iconst (v := 0) C d_M_act_14 (by decide) ?_
    refine V_iconst (v := 3) C d_M_act_15 (by decide) ?_
    obtain ⟨r16_2, hg, hf⟩ := bd hf
    refine V_callSi C [.int a2, .int (0 : Int32), .int (3 : Int32)] (c_M_in C.2.2.2.2.2.2.2.1 hg) (by decide) cw_M_153 rfl (Nat.le_of_ble_eq_true rfl) rfl d_M_act_16 ?_
    refine V_if_ne (pc := 19) (tgt := 24) C d_M_act_19 (by decide) hf (fun hf => ?_) (fun hf => ?_)
    · refine V_iload_n C 2 d_M_act_24 rfl ?_
      refine V_if_ne (pc := 25) (tgt := 37) C d_M_act_25 (by decide) hf (fun hf => ?_) (fun hf => ?_)
      · refine V_iload_n C 2 d_M_act_37 rfl ?_
        refine V_iconst (v := 1) C d_M_act_38 (by decide) ?_
        refine V_icmp_ne (pc := 39) (tgt := 51) C d_M_act_39 (by decide) hf (fun hf => ?_) (fun hf => ?_)
        · refine V_iload_n C 2 d_M_act_51 rfl ?_
          refine V_iconst (v := 2) C d_M_act_52 (by decide) ?_
          refine V_icmp_ne (pc := 53) (tgt := 65) C d_M_act_53 (by decide) hf (fun hf => ?_) (fun hf => ?_)
          · refine V_aload_n C 0 d_M_act_65 rfl ?_
            refine V_iload_n C 1 d_M_act_66 rfl ?_
            refine V_iload_n C 3 d_M_act_67 rfl ?_
            obtain ⟨r68_3, σ68_3, hg, hf⟩ := bd2_of hf
            refine V_callVi C [.int a1, .int a3] (c_M_telling C.2.2.2.2.2.2.2.1 hg) (by decide) cw_M_427 0 rfl rfl rfl rfl (Nat.le_of_ble_eq_true rfl) rfl d_M_act_68 ?_
            exact V_iretW hR hf d_M_act_71
          · refine V_aload_n C 0 d_M_act_56 rfl ?_
            refine V_iload_n C 1 d_M_act_57 rfl ?_
            refine V_iload_n C 3 d_M_act_58 rfl ?_
            obtain ⟨r59_4, σ59_4, hg, hf⟩ := bd2_of hf
            refine V_callVi C [.int a1, .int a3] (c_M_drying C.2.2.2.2.2.2.2.1 hg) (by decide) cw_M_409 0 rfl rfl rfl rfl (Nat.le_of_ble_eq_true rfl) rfl d_M_act_59 ?_
            refine V_goto (pc := 62) (tgt := 71) C d_M_act_62 (by decide) ?_
            exact V_iretW hR hf d_M_act_71
        · refine V_aload_n C 0 d_M_act_42 rfl ?_
          refine V_iload_n C 1 d_M_act_43 rfl ?_
          refine V_iload_n C 3 d_M_act_44 rfl ?_
          obtain ⟨r45_5, σ45_5, hg, hf⟩ := bd2_of hf
          refine V_callVi C [.int a1, .int a3] (c_M_tinting C.2.2.2.2.2.2.2.1 hg) (by decide) cw_M_418 0 rfl rfl rfl rfl (Nat.le_of_ble_eq_true rfl) rfl d_M_act_45 ?_
          refine V_goto (pc := 48) (tgt := 71) C d_M_act_48 (by decide) ?_
          exact V_iretW hR hf d_M_act_71
      · refine V_aload_n C 0 d_M_act_28 rfl ?_
        refine V_iload_n C 1 d_M_act_29 rfl ?_
        refine V_iload_n C 3 d_M_act_30 rfl ?_
        obtain ⟨r31_6, σ31_6, hg, hf⟩ := bd2_of hf
        refine V_callVi C [.int a1, .int a3] (c_M_running C.2.2.2.2.2.2.2.1 hg) (by decide) cw_M_400 0 rfl rfl rfl rfl (Nat.le_of_ble_eq_true rfl) rfl d_M_act_31 ?_
        refine V_goto (pc := 34) (tgt := 71) C d_M_act_34 (by decide) ?_
        exact V_iretW hR hf d_M_act_71
    · refine V_iconst (v := 0) C d_M_act_22 (by decide) ?_
      exact V_iretW hR hf d_M_act_23
theorem c_M_act {l : Launch} {g : Gx} (hok : Wok classes (wM g)) {σ : St} {a1 : Int32} {a2 : Int32} {a3 : Int32} {r : Int32} {σ' : St} (hf : f_M_act σ a1 a2 a3 = some (r, σ')) : CtI classes l y_M_act b_M_act 4 (some .int) 10 (wM g) [.ref (g.2.1 0), .int a1, .int a2, .int a3] σ r σ' :=
  MetI (by decide +kernel) hok (Nat.le_of_ble_eq_true rfl) (fun E _ C hR => w_M_act C hR hf)
set_option maxRecDepth 4000 in
theorem w_M_addStep {E : Ev} {g : Gx} {σ' : St} (C : Cx E classes 3 (wM g) b_M_addStep "WithTheRedsModel" 1) (hR : RetV E classes 3 (wM g) b_M_addStep σ') {σ : St} {a1 : Int32} {a2 : Int32} (hf : f_M_addStep σ a1 a2 = some σ') : V E classes 3 (wM g) σ 0 [(0, .ref (g.2.1 0)), (1, .int a1), (2, .int a2)] [] := by
  unfold f_M_addStep at hf
  refine V_aload_n C 0 d_M_addStep_0 rfl ?_
  refine gM_M_act C fl_M_63 d_M_addStep_1 ?_
  refine V_sipush (v := 130) C d_M_addStep_4 (by decide) ?_
  refine V_aload_n C 0 d_M_addStep_7 rfl ?_
  refine gM_M_laid (v := σ.1 25) C fl_M_203 rfl d_M_addStep_8 ?_
  refine V_iadd C d_M_addStep_11 ?_
  refine V_iload_n C 1 d_M_addStep_12 rfl ?_
  refine V_i2b C d_M_addStep_13 ?_
  obtain ⟨hi14_1, hf⟩ := gu hf
  refine sM_14 C hi14_1 d_M_addStep_14 ?_
  refine V_aload_n C 0 d_M_addStep_15 rfl ?_
  refine gM_M_with C fl_M_66 d_M_addStep_16 ?_
  refine V_sipush (v := 130) C d_M_addStep_19 (by decide) ?_
  refine V_aload_n C 0 d_M_addStep_22 rfl ?_
  refine gM_M_laid (v := σ.1 25) C fl_M_203 rfl d_M_addStep_23 ?_
  refine V_iadd C d_M_addStep_26 ?_
  refine V_iload_n C 2 d_M_addStep_27 rfl ?_
  obtain ⟨hi28_2, hf⟩ := gu hf
  refine sM_15 C hi28_2 d_M_addStep_28 ?_
  refine V_aload_n C 0 d_M_addStep_29 rfl ?_
  refine V_dup C d_M_addStep_30 rfl ?_
  refine gM_M_laid (v := σ.1 25) C fl_M_203 rfl d_M_addStep_31 ?_
  refine V_iconst (v := 1) C d_M_addStep_34 (by decide) ?_
  refine V_iadd C d_M_addStep_35 ?_
  refine pM_M_laid C fl_M_203 d_M_addStep_36 ?_
  exact V_vret hR hf d_M_addStep_39
theorem c_M_addStep {l : Launch} {g : Gx} (hok : Wok classes (wM g)) {σ : St} {a1 : Int32} {a2 : Int32} {σ' : St} (hf : f_M_addStep σ a1 a2 = some σ') : CtV classes l y_M_addStep b_M_addStep 3 none 1 (wM g) [.ref (g.2.1 0), .int a1, .int a2] σ σ' :=
  MetV (by decide +kernel) hok (Nat.le_of_ble_eq_true rfl) (fun E _ C hR => w_M_addStep C hR hf)
set_option maxRecDepth 4000 in
theorem w_M_addThing {E : Ev} {g : Gx} {r : Int32} {σ' : St} (C : Cx E classes 4 (wM g) b_M_addThing "WithTheRedsModel" 1) (hR : RetI E classes 4 (wM g) b_M_addThing r σ') {σ : St} {a1 : Int32} {a2 : Int32} {a3 : Int32} (hf : f_M_addThing σ a1 a2 a3 = some (r, σ')) : V E classes 4 (wM g) σ 0 [(0, .ref (g.2.1 0)), (1, .int a1), (2, .int a2), (3, .int a3)] [] := by
  unfold f_M_addThing at hf
  refine V_aload_n C 0 d_M_addThing_0 rfl ?_
  refine gM_M_colour C fl_M_7 d_M_addThing_1 ?_
  refine V_aload_n C 0 d_M_addThing_4 rfl ?_
  refine gM_M_things (v := σ.1 1) C fl_M_150 rfl d_M_addThing_5 ?_
  refine V_iload_n C 1 d_M_addThing_8 rfl ?_
  obtain ⟨hi9_1, hf⟩ := gu hf
  refine sM_1 C hi9_1 d_M_addThing_9 ?_
  refine V_aload_n C 0 d_M_addThing_10 rfl ?_
  refine gM_M_dye C fl_M_13 d_M_addThing_11 ?_
  refine V_aload_n C 0 d_M_addThing_14 rfl ?_
  refine gM_M_things (v := σ.1 1) C fl_M_150 rfl d_M_addThing_15 ?_
  refine V_iload_n C 2 d_M_addThing_18 rfl ?_
  obtain ⟨hi19_2, hf⟩ := gu hf
  refine sM_2 C hi19_2 d_M_addThing_19 ?_
  refine V_aload_n C 0 d_M_addThing_20 rfl ?_
  refine gM_M_washed C fl_M_16 d_M_addThing_21 ?_
  refine V_aload_n C 0 d_M_addThing_24 rfl ?_
  refine gM_M_things (v := σ.1 1) C fl_M_150 rfl d_M_addThing_25 ?_
  refine V_iconst (v := 0) C d_M_addThing_28 (by decide) ?_
  obtain ⟨hi29_3, hf⟩ := gu hf
  refine sM_3 C hi29_3 d_M_addThing_29 ?_
  refine V_aload_n C 0 d_M_addThing_30 rfl ?_
  refine gM_M_bears C fl_M_19 d_M_addThing_31 ?_
  refine V_aload_n C 0 d_M_addThing_34 rfl ?_
  refine gM_M_things (v := σ.1 1) C fl_M_150 rfl d_M_addThing_35 ?_
  refine V_bipush (v := 6) C d_M_addThing_38 (by decide) ?_
  obtain ⟨hi40_4, hf⟩ := gu hf
  refine sM_4 C hi40_4 d_M_addThing_40 ?_
  refine V_aload_n C 0 d_M_addThing_41 rfl ?_
  refine gM_M_sizeOf C fl_M_22 d_M_addThing_42 ?_
  refine V_aload_n C 0 d_M_addThing_45 rfl ?_
  refine gM_M_things (v := σ.1 1) C fl_M_150 rfl d_M_addThing_46 ?_
  refine V_iload_n C 3 d_M_addThing_49 rfl ?_
  obtain ⟨hi50_5, hf⟩ := gu hf
  refine sM_5 C hi50_5 d_M_addThing_50 ?_
  refine V_aload_n C 0 d_M_addThing_51 rfl ?_
  refine gM_M_dries C fl_M_25 d_M_addThing_52 ?_
  refine V_aload_n C 0 d_M_addThing_55 rfl ?_
  refine gM_M_things (v := σ.1 1) C fl_M_150 rfl d_M_addThing_56 ?_
  refine V_bipush (v := 12) C d_M_addThing_59 (by decide) ?_
  obtain ⟨hi61_6, hf⟩ := gu hf
  refine sM_6 C hi61_6 d_M_addThing_61 ?_
  refine V_aload_n C 0 d_M_addThing_62 rfl ?_
  refine gM_M_whoOf C fl_M_28 d_M_addThing_63 ?_
  refine V_aload_n C 0 d_M_addThing_66 rfl ?_
  refine gM_M_things (v := σ.1 1) C fl_M_150 rfl d_M_addThing_67 ?_
  refine V_iconst (v := 0) C d_M_addThing_70 (by decide) ?_
  obtain ⟨hi71_7, hf⟩ := gu hf
  refine sM_7 C hi71_7 d_M_addThing_71 ?_
  refine V_aload_n C 0 d_M_addThing_72 rfl ?_
  refine gM_M_by C fl_M_31 d_M_addThing_73 ?_
  refine V_aload_n C 0 d_M_addThing_76 rfl ?_
  refine gM_M_things (v := σ.1 1) C fl_M_150 rfl d_M_addThing_77 ?_
  refine V_bipush (v := 7) C d_M_addThing_80 (by decide) ?_
  obtain ⟨hi82_8, hf⟩ := gu hf
  refine sM_8 C hi82_8 d_M_addThing_82 ?_
  refine V_aload_n C 0 d_M_addThing_83 rfl ?_
  refine gM_M_tintNow C fl_M_106 d_M_addThing_84 ?_
  refine V_aload_n C 0 d_M_addThing_87 rfl ?_
  refine gM_M_things (v := σ.1 1) C fl_M_150 rfl d_M_addThing_88 ?_
  refine V_iconst (v := 0) C d_M_addThing_91 (by decide) ?_
  obtain ⟨hi92_9, hf⟩ := gu hf
  refine sM_28 C hi92_9 d_M_addThing_92 ?_
  refine V_aload_n C 0 d_M_addThing_93 rfl ?_
  refine gM_M_away C fl_M_109 d_M_addThing_94 ?_
  refine V_aload_n C 0 d_M_addThing_97 rfl ?_
  refine gM_M_things (v := σ.1 1) C fl_M_150 rfl d_M_addThing_98 ?_
  refine V_iconst (v := 0) C d_M_addThing_101 (by decide) ?_
  obtain ⟨hi102_10, hf⟩ := gu hf
  refine sM_29 C hi102_10 d_M_addThing_102 ?_
  refine V_aload_n C 0 d_M_addThing_103 rfl ?_
  refine V_dup C d_M_addThing_104 rfl ?_
  refine gM_M_things (v := σ.1 1) C fl_M_150 rfl d_M_addThing_105 ?_
  refine V_iconst (v := 1) C d_M_addThing_108 (by decide) ?_
  refine V_iadd C d_M_addThing_109 ?_
  refine pM_M_things C fl_M_150 d_M_addThing_110 ?_
  refine V_aload_n C 0 d_M_addThing_113 rfl ?_
  refine gM_M_things (v := ((σ.1 1) + (1 : Int32))) C fl_M_150 rfl d_M_addThing_114 ?_
  refine V_iconst (v := 1) C d_M_addThing_117 (by decide) ?_
  refine V_isub C d_M_addThing_118 ?_
  exact V_iretW hR hf d_M_addThing_119
theorem c_M_addThing {l : Launch} {g : Gx} (hok : Wok classes (wM g)) {σ : St} {a1 : Int32} {a2 : Int32} {a3 : Int32} {r : Int32} {σ' : St} (hf : f_M_addThing σ a1 a2 a3 = some (r, σ')) : CtI classes l y_M_addThing b_M_addThing 4 (some .int) 1 (wM g) [.ref (g.2.1 0), .int a1, .int a2, .int a3] σ r σ' :=
  MetI (by decide +kernel) hok (Nat.le_of_ble_eq_true rfl) (fun E _ C hR => w_M_addThing C hR hf)
set_option maxRecDepth 4000 in
theorem w_M_allDry_4 {E : Ev} {g : Gx} {r : Int32} {σ : St} (C : Cx E classes 3 (wM g) b_M_allDry "WithTheRedsModel" 1) (hR : RetI E classes 3 (wM g) b_M_allDry r σ) : ∀ (n : Nat) (x1 : Int32) (x2 : Int32), f_M_allDry_4 n σ x1 x2 = some r → V E classes 3 (wM g) σ 4 [(0, .ref (g.2.1 0)), (1, .int x1), (2, .int x2)] [] := by
  intro n
  induction n with
  | zero => intro x1 x2 hf; exact absurd hf (by unfold f_M_allDry_4; exact nofun)
  | succ n ih =>
    intro x1 x2 hf
    unfold f_M_allDry_4 at hf
    refine V_iload_n C 2 d_M_allDry_4 rfl ?_
    refine V_aload_n C 0 d_M_allDry_5 rfl ?_
    refine gM_M_hangMany (v := σ.1 42) C fl_M_343 rfl d_M_allDry_6 ?_
    refine V_icmp_ge (pc := 9) (tgt := 61) C d_M_allDry_9 (by decide) hf (fun hf => ?_) (fun hf => ?_)
    · refine V_iload_n C 1 d_M_allDry_61 rfl ?_
      exact V_iret hR hf d_M_allDry_62
    · refine V_aload_n C 0 d_M_allDry_12 rfl ?_
      refine gM_M_dryAt C fl_M_97 d_M_allDry_13 ?_
      refine V_aload_n C 0 d_M_allDry_16 rfl ?_
      refine gM_M_hangs C fl_M_100 d_M_allDry_17 ?_
      refine V_iload_n C 2 d_M_allDry_20 rfl ?_
      obtain ⟨hi21_1, hf⟩ := gu hf
      refine aM_26 (v := σ.2.1 26 x2.toNatClampNeg) C hi21_1 rfl d_M_allDry_21 ?_
      obtain ⟨hi22_2, hf⟩ := gu hf
      refine aM_25 (v := σ.2.1 25 (σ.2.1 26 x2.toNatClampNeg).toNatClampNeg) C hi22_2 rfl d_M_allDry_22 ?_
      refine V_if_ge (pc := 23) (tgt := 28) C d_M_allDry_23 (by decide) hf (fun hf => ?_) (fun hf => ?_)
      · refine V_aload_n C 0 d_M_allDry_28 rfl ?_
        refine gM_M_dryAt C fl_M_97 d_M_allDry_29 ?_
        refine V_aload_n C 0 d_M_allDry_32 rfl ?_
        refine gM_M_hangs C fl_M_100 d_M_allDry_33 ?_
        refine V_iload_n C 2 d_M_allDry_36 rfl ?_
        obtain ⟨hi37_3, hf⟩ := gu hf
        refine aM_26 (v := σ.2.1 26 x2.toNatClampNeg) C hi37_3 rfl d_M_allDry_37 ?_
        obtain ⟨hi38_4, hf⟩ := gu hf
        refine aM_25 (v := σ.2.1 25 (σ.2.1 26 x2.toNatClampNeg).toNatClampNeg) C hi38_4 rfl d_M_allDry_38 ?_
        refine V_iload_n C 1 d_M_allDry_39 rfl ?_
        refine V_icmp_le (pc := 40) (tgt := 55) C d_M_allDry_40 (by decide) hf (fun hf => ?_) (fun hf => ?_)
        · refine V_iinc (v := x2 + (1 : Int32)) C 2 d_M_allDry_55 rfl rfl (by decide) rfl ?_
          refine V_goto (pc := 58) (tgt := 4) C d_M_allDry_58 (by decide) ?_
          refine V.sub [1, 2, 0] rfl ?_
          exact ih x1 (x2 + (1 : Int32)) hf
        · refine V_aload_n C 0 d_M_allDry_43 rfl ?_
          refine gM_M_dryAt C fl_M_97 d_M_allDry_44 ?_
          refine V_aload_n C 0 d_M_allDry_47 rfl ?_
          refine gM_M_hangs C fl_M_100 d_M_allDry_48 ?_
          refine V_iload_n C 2 d_M_allDry_51 rfl ?_
          obtain ⟨hi52_5, hf⟩ := gu hf
          refine aM_26 (v := σ.2.1 26 x2.toNatClampNeg) C hi52_5 rfl d_M_allDry_52 ?_
          obtain ⟨hi53_6, hf⟩ := gu hf
          refine aM_25 (v := σ.2.1 25 (σ.2.1 26 x2.toNatClampNeg).toNatClampNeg) C hi53_6 rfl d_M_allDry_53 ?_
          refine V_istore_n C d_M_allDry_54 (by decide) rfl ?_
          refine V_iinc (v := x2 + (1 : Int32)) C 2 d_M_allDry_55 rfl rfl (by decide) rfl ?_
          refine V_goto (pc := 58) (tgt := 4) C d_M_allDry_58 (by decide) ?_
          refine V.sub [2, 1, 0] rfl ?_
          exact ih (σ.2.1 25 (σ.2.1 26 x2.toNatClampNeg).toNatClampNeg) (x2 + (1 : Int32)) hf
      · refine V_iconst (v := -1) C d_M_allDry_26 (by decide) ?_
        exact V_iret hR hf d_M_allDry_27
set_option maxRecDepth 4000 in
theorem w_M_allDry {E : Ev} {g : Gx} {r : Int32} {σ : St} (C : Cx E classes 3 (wM g) b_M_allDry "WithTheRedsModel" 1) (hR : RetI E classes 3 (wM g) b_M_allDry r σ) (hf : f_M_allDry σ = some r) : V E classes 3 (wM g) σ 0 [(0, .ref (g.2.1 0))] [] := by
  unfold f_M_allDry at hf
  refine V_iconst (v := 0) C d_M_allDry_0 (by decide) ?_
  refine V_istore_n C d_M_allDry_1 (by decide) rfl ?_
  refine V_iconst (v := 0) C d_M_allDry_2 (by decide) ?_
  refine V_istore_n C d_M_allDry_3 (by decide) rfl ?_
  refine V.sub [2, 1, 0] rfl ?_
  exact w_M_allDry_4 C hR FU (0 : Int32) (0 : Int32) hf
theorem c_M_allDry {l : Launch} {g : Gx} (hok : Wok classes (wM g)) {σ : St} {r : Int32} (hf : f_M_allDry σ = some r) : CtI classes l y_M_allDry b_M_allDry 3 (some .int) 1 (wM g) [.ref (g.2.1 0)] σ r σ :=
  MetI (by decide +kernel) hok (Nat.le_of_ble_eq_true rfl) (fun E _ C hR => w_M_allDry C hR hf)
set_option maxRecDepth 4000 in
theorem w_M_twoOf {E : Ev} {g : Gx} {r : Int32} {σ : St} (C : Cx E classes 3 (wM g) b_M_twoOf "WithTheRedsModel" 1) (hR : RetI E classes 3 (wM g) b_M_twoOf r σ) {a0 : Int32} {a1 : Int32} {a2 : Int32} (hf : f_M_twoOf a0 a1 a2 = some r) : V E classes 3 (wM g) σ 0 [(0, .int a0), (1, .int a1), (2, .int a2)] [] := by
  unfold f_M_twoOf at hf
  refine V_iload_n C 0 d_M_twoOf_0 rfl ?_
  by_cases hc0 : a0 = 37
  · have hf := ite_t hf hc0
    refine V_tin (off := 153) (tgt := 154) C d_M_twoOf_1 (by rw [hc0]; decide) (by rw [hc0]; decide) (by rw [hc0]; decide) (by decide) ?_
    refine V_iload_n C 2 d_M_twoOf_154 rfl ?_
    refine V_if_eq (pc := 155) (tgt := 163) C d_M_twoOf_155 (by decide) hf (fun hf => ?_) (fun hf => ?_)
    · refine V_iconst (v := 0) C d_M_twoOf_163 (by decide) ?_
      refine V_goto (pc := 164) (tgt := 170) C d_M_twoOf_164 (by decide) ?_
      exact V_iret hR hf d_M_twoOf_170
    · refine V_iload_n C 2 d_M_twoOf_158 rfl ?_
      refine V_iconst (v := -1) C d_M_twoOf_159 (by decide) ?_
      refine V_icmp_ne (pc := 160) (tgt := 167) C d_M_twoOf_160 (by decide) hf (fun hf => ?_) (fun hf => ?_)
      · refine V_iload_n C 1 d_M_twoOf_167 rfl ?_
        refine V_iload_n C 2 d_M_twoOf_168 rfl ?_
        obtain ⟨hz, hf⟩ := gu hf
        refine V_irem C d_M_twoOf_169 (nz_ne hz) ?_
        exact V_iret hR hf d_M_twoOf_170
      · refine V_iconst (v := 0) C d_M_twoOf_163 (by decide) ?_
        refine V_goto (pc := 164) (tgt := 170) C d_M_twoOf_164 (by decide) ?_
        exact V_iret hR hf d_M_twoOf_170
  have hf := ite_f hf hc0
  by_cases hc1 : a0 = 38
  · have hf := ite_t hf hc1
    refine V_tin (off := 203) (tgt := 204) C d_M_twoOf_1 (by rw [hc1]; decide) (by rw [hc1]; decide) (by rw [hc1]; decide) (by decide) ?_
    refine V_iload_n C 1 d_M_twoOf_204 rfl ?_
    refine V_if_eq (pc := 205) (tgt := 216) C d_M_twoOf_205 (by decide) hf (fun hf => ?_) (fun hf => ?_)
    · refine V_iconst (v := 0) C d_M_twoOf_216 (by decide) ?_
      exact V_iret hR hf d_M_twoOf_217
    · refine V_iload_n C 2 d_M_twoOf_208 rfl ?_
      refine V_if_eq (pc := 209) (tgt := 216) C d_M_twoOf_209 (by decide) hf (fun hf => ?_) (fun hf => ?_)
      · refine V_iconst (v := 0) C d_M_twoOf_216 (by decide) ?_
        exact V_iret hR hf d_M_twoOf_217
      · refine V_iconst (v := 1) C d_M_twoOf_212 (by decide) ?_
        refine V_goto (pc := 213) (tgt := 217) C d_M_twoOf_213 (by decide) ?_
        exact V_iret hR hf d_M_twoOf_217
  have hf := ite_f hf hc1
  by_cases hc2 : a0 = 39
  · have hf := ite_t hf hc2
    refine V_tin (off := 217) (tgt := 218) C d_M_twoOf_1 (by rw [hc2]; decide) (by rw [hc2]; decide) (by rw [hc2]; decide) (by decide) ?_
    refine V_iload_n C 1 d_M_twoOf_218 rfl ?_
    refine V_if_ne (pc := 219) (tgt := 226) C d_M_twoOf_219 (by decide) hf (fun hf => ?_) (fun hf => ?_)
    · refine V_iconst (v := 1) C d_M_twoOf_226 (by decide) ?_
      refine V_goto (pc := 227) (tgt := 231) C d_M_twoOf_227 (by decide) ?_
      exact V_iret hR hf d_M_twoOf_231
    · refine V_iload_n C 2 d_M_twoOf_222 rfl ?_
      refine V_if_eq (pc := 223) (tgt := 230) C d_M_twoOf_223 (by decide) hf (fun hf => ?_) (fun hf => ?_)
      · refine V_iconst (v := 0) C d_M_twoOf_230 (by decide) ?_
        exact V_iret hR hf d_M_twoOf_231
      · refine V_iconst (v := 1) C d_M_twoOf_226 (by decide) ?_
        refine V_goto (pc := 227) (tgt := 231) C d_M_twoOf_227 (by decide) ?_
        exact V_iret hR hf d_M_twoOf_231
  have hf := ite_f hf hc2
  by_cases hc3 : a0 = 40
  · have hf := ite_t hf hc3
    refine V_tin (off := 217) (tgt := 218) C d_M_twoOf_1 (by rw [hc3]; decide) (by rw [hc3]; decide) (by rw [hc3]; decide) (by decide) ?_
    refine V_iload_n C 1 d_M_twoOf_218 rfl ?_
    refine V_if_ne (pc := 219) (tgt := 226) C d_M_twoOf_219 (by decide) hf (fun hf => ?_) (fun hf => ?_)
    · refine V_iconst (v := 1) C d_M_twoOf_226 (by decide) ?_
      refine V_goto (pc := 227) (tgt := 231) C d_M_twoOf_227 (by decide) ?_
      exact V_iret hR hf d_M_twoOf_231
    · refine V_iload_n C 2 d_M_twoOf_222 rfl ?_
      refine V_if_eq (pc := 223) (tgt := 230) C d_M_twoOf_223 (by decide) hf (fun hf => ?_) (fun hf => ?_)
      · refine V_iconst (v := 0) C d_M_twoOf_230 (by decide) ?_
        exact V_iret hR hf d_M_twoOf_231
      · refine V_iconst (v := 1) C d_M_twoOf_226 (by decide) ?_
        refine V_goto (pc := 227) (tgt := 231) C d_M_twoOf_227 (by decide) ?_
        exact V_iret hR hf d_M_twoOf_231
  have hf := ite_f hf hc3
  by_cases hc4 : a0 = 41
  · have hf := ite_t hf hc4
    refine V_tin (off := 217) (tgt := 218) C d_M_twoOf_1 (by rw [hc4]; decide) (by rw [hc4]; decide) (by rw [hc4]; decide) (by decide) ?_
    refine V_iload_n C 1 d_M_twoOf_218 rfl ?_
    refine V_if_ne (pc := 219) (tgt := 226) C d_M_twoOf_219 (by decide) hf (fun hf => ?_) (fun hf => ?_)
    · refine V_iconst (v := 1) C d_M_twoOf_226 (by decide) ?_
      refine V_goto (pc := 227) (tgt := 231) C d_M_twoOf_227 (by decide) ?_
      exact V_iret hR hf d_M_twoOf_231
    · refine V_iload_n C 2 d_M_twoOf_222 rfl ?_
      refine V_if_eq (pc := 223) (tgt := 230) C d_M_twoOf_223 (by decide) hf (fun hf => ?_) (fun hf => ?_)
      · refine V_iconst (v := 0) C d_M_twoOf_230 (by decide) ?_
        exact V_iret hR hf d_M_twoOf_231
      · refine V_iconst (v := 1) C d_M_twoOf_226 (by decide) ?_
        refine V_goto (pc := 227) (tgt := 231) C d_M_twoOf_227 (by decide) ?_
        exact V_iret hR hf d_M_twoOf_231
  have hf := ite_f hf hc4
  by_cases hc5 : a0 = 42
  · have hf := ite_t hf hc5
    refine V_tin (off := 127) (tgt := 128) C d_M_twoOf_1 (by rw [hc5]; decide) (by rw [hc5]; decide) (by rw [hc5]; decide) (by decide) ?_
    refine V_iload_n C 1 d_M_twoOf_128 rfl ?_
    refine V_iload_n C 2 d_M_twoOf_129 rfl ?_
    refine V_imul C d_M_twoOf_130 ?_
    exact V_iret hR hf d_M_twoOf_131
  have hf := ite_f hf hc5
  by_cases hc6 : a0 = 43
  · have hf := ite_t hf hc6
    refine V_tin (off := 119) (tgt := 120) C d_M_twoOf_1 (by rw [hc6]; decide) (by rw [hc6]; decide) (by rw [hc6]; decide) (by decide) ?_
    refine V_iload_n C 1 d_M_twoOf_120 rfl ?_
    refine V_iload_n C 2 d_M_twoOf_121 rfl ?_
    refine V_iadd C d_M_twoOf_122 ?_
    exact V_iret hR hf d_M_twoOf_123
  have hf := ite_f hf hc6
  by_cases hc7 : a0 = 44
  · have hf := ite_t hf hc7
    refine V_tin (off := 217) (tgt := 218) C d_M_twoOf_1 (by rw [hc7]; decide) (by rw [hc7]; decide) (by rw [hc7]; decide) (by decide) ?_
    refine V_iload_n C 1 d_M_twoOf_218 rfl ?_
    refine V_if_ne (pc := 219) (tgt := 226) C d_M_twoOf_219 (by decide) hf (fun hf => ?_) (fun hf => ?_)
    · refine V_iconst (v := 1) C d_M_twoOf_226 (by decide) ?_
      refine V_goto (pc := 227) (tgt := 231) C d_M_twoOf_227 (by decide) ?_
      exact V_iret hR hf d_M_twoOf_231
    · refine V_iload_n C 2 d_M_twoOf_222 rfl ?_
      refine V_if_eq (pc := 223) (tgt := 230) C d_M_twoOf_223 (by decide) hf (fun hf => ?_) (fun hf => ?_)
      · refine V_iconst (v := 0) C d_M_twoOf_230 (by decide) ?_
        exact V_iret hR hf d_M_twoOf_231
      · refine V_iconst (v := 1) C d_M_twoOf_226 (by decide) ?_
        refine V_goto (pc := 227) (tgt := 231) C d_M_twoOf_227 (by decide) ?_
        exact V_iret hR hf d_M_twoOf_231
  have hf := ite_f hf hc7
  by_cases hc8 : a0 = 45
  · have hf := ite_t hf hc8
    refine V_tin (off := 123) (tgt := 124) C d_M_twoOf_1 (by rw [hc8]; decide) (by rw [hc8]; decide) (by rw [hc8]; decide) (by decide) ?_
    refine V_iload_n C 1 d_M_twoOf_124 rfl ?_
    refine V_iload_n C 2 d_M_twoOf_125 rfl ?_
    refine V_isub C d_M_twoOf_126 ?_
    exact V_iret hR hf d_M_twoOf_127
  have hf := ite_f hf hc8
  by_cases hc9 : a0 = 46
  · have hf := ite_t hf hc9
    refine V_tin (off := 217) (tgt := 218) C d_M_twoOf_1 (by rw [hc9]; decide) (by rw [hc9]; decide) (by rw [hc9]; decide) (by decide) ?_
    refine V_iload_n C 1 d_M_twoOf_218 rfl ?_
    refine V_if_ne (pc := 219) (tgt := 226) C d_M_twoOf_219 (by decide) hf (fun hf => ?_) (fun hf => ?_)
    · refine V_iconst (v := 1) C d_M_twoOf_226 (by decide) ?_
      refine V_goto (pc := 227) (tgt := 231) C d_M_twoOf_227 (by decide) ?_
      exact V_iret hR hf d_M_twoOf_231
    · refine V_iload_n C 2 d_M_twoOf_222 rfl ?_
      refine V_if_eq (pc := 223) (tgt := 230) C d_M_twoOf_223 (by decide) hf (fun hf => ?_) (fun hf => ?_)
      · refine V_iconst (v := 0) C d_M_twoOf_230 (by decide) ?_
        exact V_iret hR hf d_M_twoOf_231
      · refine V_iconst (v := 1) C d_M_twoOf_226 (by decide) ?_
        refine V_goto (pc := 227) (tgt := 231) C d_M_twoOf_227 (by decide) ?_
        exact V_iret hR hf d_M_twoOf_231
  have hf := ite_f hf hc9
  by_cases hc10 : a0 = 47
  · have hf := ite_t hf hc10
    refine V_tin (off := 131) (tgt := 132) C d_M_twoOf_1 (by rw [hc10]; decide) (by rw [hc10]; decide) (by rw [hc10]; decide) (by decide) ?_
    refine V_iload_n C 2 d_M_twoOf_132 rfl ?_
    refine V_if_ne (pc := 133) (tgt := 140) C d_M_twoOf_133 (by decide) hf (fun hf => ?_) (fun hf => ?_)
    · refine V_iload_n C 2 d_M_twoOf_140 rfl ?_
      refine V_iconst (v := -1) C d_M_twoOf_141 (by decide) ?_
      refine V_icmp_ne (pc := 142) (tgt := 150) C d_M_twoOf_142 (by decide) hf (fun hf => ?_) (fun hf => ?_)
      · refine V_iload_n C 1 d_M_twoOf_150 rfl ?_
        refine V_iload_n C 2 d_M_twoOf_151 rfl ?_
        obtain ⟨hz, hf⟩ := gu hf
        refine V_idiv C d_M_twoOf_152 (nz_ne hz) ?_
        exact V_iret hR hf d_M_twoOf_153
      · refine V_iload_n C 1 d_M_twoOf_145 rfl ?_
        refine V_ineg C d_M_twoOf_146 ?_
        refine V_goto (pc := 147) (tgt := 153) C d_M_twoOf_147 (by decide) ?_
        exact V_iret hR hf d_M_twoOf_153
    · refine V_iconst (v := 0) C d_M_twoOf_136 (by decide) ?_
      refine V_goto (pc := 137) (tgt := 153) C d_M_twoOf_137 (by decide) ?_
      exact V_iret hR hf d_M_twoOf_153
  have hf := ite_f hf hc10
  by_cases hc11 : a0 = 48
  · have hf := ite_t hf hc11
    refine V_tin (off := 217) (tgt := 218) C d_M_twoOf_1 (by rw [hc11]; decide) (by rw [hc11]; decide) (by rw [hc11]; decide) (by decide) ?_
    refine V_iload_n C 1 d_M_twoOf_218 rfl ?_
    refine V_if_ne (pc := 219) (tgt := 226) C d_M_twoOf_219 (by decide) hf (fun hf => ?_) (fun hf => ?_)
    · refine V_iconst (v := 1) C d_M_twoOf_226 (by decide) ?_
      refine V_goto (pc := 227) (tgt := 231) C d_M_twoOf_227 (by decide) ?_
      exact V_iret hR hf d_M_twoOf_231
    · refine V_iload_n C 2 d_M_twoOf_222 rfl ?_
      refine V_if_eq (pc := 223) (tgt := 230) C d_M_twoOf_223 (by decide) hf (fun hf => ?_) (fun hf => ?_)
      · refine V_iconst (v := 0) C d_M_twoOf_230 (by decide) ?_
        exact V_iret hR hf d_M_twoOf_231
      · refine V_iconst (v := 1) C d_M_twoOf_226 (by decide) ?_
        refine V_goto (pc := 227) (tgt := 231) C d_M_twoOf_227 (by decide) ?_
        exact V_iret hR hf d_M_twoOf_231
  have hf := ite_f hf hc11
  by_cases hc12 : a0 = 49
  · have hf := ite_t hf hc12
    refine V_tin (off := 217) (tgt := 218) C d_M_twoOf_1 (by rw [hc12]; decide) (by rw [hc12]; decide) (by rw [hc12]; decide) (by decide) ?_
    refine V_iload_n C 1 d_M_twoOf_218 rfl ?_
    refine V_if_ne (pc := 219) (tgt := 226) C d_M_twoOf_219 (by decide) hf (fun hf => ?_) (fun hf => ?_)
    · refine V_iconst (v := 1) C d_M_twoOf_226 (by decide) ?_
      refine V_goto (pc := 227) (tgt := 231) C d_M_twoOf_227 (by decide) ?_
      exact V_iret hR hf d_M_twoOf_231
    · refine V_iload_n C 2 d_M_twoOf_222 rfl ?_
      refine V_if_eq (pc := 223) (tgt := 230) C d_M_twoOf_223 (by decide) hf (fun hf => ?_) (fun hf => ?_)
      · refine V_iconst (v := 0) C d_M_twoOf_230 (by decide) ?_
        exact V_iret hR hf d_M_twoOf_231
      · refine V_iconst (v := 1) C d_M_twoOf_226 (by decide) ?_
        refine V_goto (pc := 227) (tgt := 231) C d_M_twoOf_227 (by decide) ?_
        exact V_iret hR hf d_M_twoOf_231
  have hf := ite_f hf hc12
  by_cases hc13 : a0 = 50
  · have hf := ite_t hf hc13
    refine V_tin (off := 217) (tgt := 218) C d_M_twoOf_1 (by rw [hc13]; decide) (by rw [hc13]; decide) (by rw [hc13]; decide) (by decide) ?_
    refine V_iload_n C 1 d_M_twoOf_218 rfl ?_
    refine V_if_ne (pc := 219) (tgt := 226) C d_M_twoOf_219 (by decide) hf (fun hf => ?_) (fun hf => ?_)
    · refine V_iconst (v := 1) C d_M_twoOf_226 (by decide) ?_
      refine V_goto (pc := 227) (tgt := 231) C d_M_twoOf_227 (by decide) ?_
      exact V_iret hR hf d_M_twoOf_231
    · refine V_iload_n C 2 d_M_twoOf_222 rfl ?_
      refine V_if_eq (pc := 223) (tgt := 230) C d_M_twoOf_223 (by decide) hf (fun hf => ?_) (fun hf => ?_)
      · refine V_iconst (v := 0) C d_M_twoOf_230 (by decide) ?_
        exact V_iret hR hf d_M_twoOf_231
      · refine V_iconst (v := 1) C d_M_twoOf_226 (by decide) ?_
        refine V_goto (pc := 227) (tgt := 231) C d_M_twoOf_227 (by decide) ?_
        exact V_iret hR hf d_M_twoOf_231
  have hf := ite_f hf hc13
  by_cases hc14 : a0 = 51
  · have hf := ite_t hf hc14
    refine V_tin (off := 217) (tgt := 218) C d_M_twoOf_1 (by rw [hc14]; decide) (by rw [hc14]; decide) (by rw [hc14]; decide) (by decide) ?_
    refine V_iload_n C 1 d_M_twoOf_218 rfl ?_
    refine V_if_ne (pc := 219) (tgt := 226) C d_M_twoOf_219 (by decide) hf (fun hf => ?_) (fun hf => ?_)
    · refine V_iconst (v := 1) C d_M_twoOf_226 (by decide) ?_
      refine V_goto (pc := 227) (tgt := 231) C d_M_twoOf_227 (by decide) ?_
      exact V_iret hR hf d_M_twoOf_231
    · refine V_iload_n C 2 d_M_twoOf_222 rfl ?_
      refine V_if_eq (pc := 223) (tgt := 230) C d_M_twoOf_223 (by decide) hf (fun hf => ?_) (fun hf => ?_)
      · refine V_iconst (v := 0) C d_M_twoOf_230 (by decide) ?_
        exact V_iret hR hf d_M_twoOf_231
      · refine V_iconst (v := 1) C d_M_twoOf_226 (by decide) ?_
        refine V_goto (pc := 227) (tgt := 231) C d_M_twoOf_227 (by decide) ?_
        exact V_iret hR hf d_M_twoOf_231
  have hf := ite_f hf hc14
  by_cases hc15 : a0 = 52
  · have hf := ite_t hf hc15
    refine V_tin (off := 217) (tgt := 218) C d_M_twoOf_1 (by rw [hc15]; decide) (by rw [hc15]; decide) (by rw [hc15]; decide) (by decide) ?_
    refine V_iload_n C 1 d_M_twoOf_218 rfl ?_
    refine V_if_ne (pc := 219) (tgt := 226) C d_M_twoOf_219 (by decide) hf (fun hf => ?_) (fun hf => ?_)
    · refine V_iconst (v := 1) C d_M_twoOf_226 (by decide) ?_
      refine V_goto (pc := 227) (tgt := 231) C d_M_twoOf_227 (by decide) ?_
      exact V_iret hR hf d_M_twoOf_231
    · refine V_iload_n C 2 d_M_twoOf_222 rfl ?_
      refine V_if_eq (pc := 223) (tgt := 230) C d_M_twoOf_223 (by decide) hf (fun hf => ?_) (fun hf => ?_)
      · refine V_iconst (v := 0) C d_M_twoOf_230 (by decide) ?_
        exact V_iret hR hf d_M_twoOf_231
      · refine V_iconst (v := 1) C d_M_twoOf_226 (by decide) ?_
        refine V_goto (pc := 227) (tgt := 231) C d_M_twoOf_227 (by decide) ?_
        exact V_iret hR hf d_M_twoOf_231
  have hf := ite_f hf hc15
  by_cases hc16 : a0 = 53
  · have hf := ite_t hf hc16
    refine V_tin (off := 217) (tgt := 218) C d_M_twoOf_1 (by rw [hc16]; decide) (by rw [hc16]; decide) (by rw [hc16]; decide) (by decide) ?_
    refine V_iload_n C 1 d_M_twoOf_218 rfl ?_
    refine V_if_ne (pc := 219) (tgt := 226) C d_M_twoOf_219 (by decide) hf (fun hf => ?_) (fun hf => ?_)
    · refine V_iconst (v := 1) C d_M_twoOf_226 (by decide) ?_
      refine V_goto (pc := 227) (tgt := 231) C d_M_twoOf_227 (by decide) ?_
      exact V_iret hR hf d_M_twoOf_231
    · refine V_iload_n C 2 d_M_twoOf_222 rfl ?_
      refine V_if_eq (pc := 223) (tgt := 230) C d_M_twoOf_223 (by decide) hf (fun hf => ?_) (fun hf => ?_)
      · refine V_iconst (v := 0) C d_M_twoOf_230 (by decide) ?_
        exact V_iret hR hf d_M_twoOf_231
      · refine V_iconst (v := 1) C d_M_twoOf_226 (by decide) ?_
        refine V_goto (pc := 227) (tgt := 231) C d_M_twoOf_227 (by decide) ?_
        exact V_iret hR hf d_M_twoOf_231
  have hf := ite_f hf hc16
  by_cases hc17 : a0 = 54
  · have hf := ite_t hf hc17
    refine V_tin (off := 217) (tgt := 218) C d_M_twoOf_1 (by rw [hc17]; decide) (by rw [hc17]; decide) (by rw [hc17]; decide) (by decide) ?_
    refine V_iload_n C 1 d_M_twoOf_218 rfl ?_
    refine V_if_ne (pc := 219) (tgt := 226) C d_M_twoOf_219 (by decide) hf (fun hf => ?_) (fun hf => ?_)
    · refine V_iconst (v := 1) C d_M_twoOf_226 (by decide) ?_
      refine V_goto (pc := 227) (tgt := 231) C d_M_twoOf_227 (by decide) ?_
      exact V_iret hR hf d_M_twoOf_231
    · refine V_iload_n C 2 d_M_twoOf_222 rfl ?_
      refine V_if_eq (pc := 223) (tgt := 230) C d_M_twoOf_223 (by decide) hf (fun hf => ?_) (fun hf => ?_)
      · refine V_iconst (v := 0) C d_M_twoOf_230 (by decide) ?_
        exact V_iret hR hf d_M_twoOf_231
      · refine V_iconst (v := 1) C d_M_twoOf_226 (by decide) ?_
        refine V_goto (pc := 227) (tgt := 231) C d_M_twoOf_227 (by decide) ?_
        exact V_iret hR hf d_M_twoOf_231
  have hf := ite_f hf hc17
  by_cases hc18 : a0 = 55
  · have hf := ite_t hf hc18
    refine V_tin (off := 217) (tgt := 218) C d_M_twoOf_1 (by rw [hc18]; decide) (by rw [hc18]; decide) (by rw [hc18]; decide) (by decide) ?_
    refine V_iload_n C 1 d_M_twoOf_218 rfl ?_
    refine V_if_ne (pc := 219) (tgt := 226) C d_M_twoOf_219 (by decide) hf (fun hf => ?_) (fun hf => ?_)
    · refine V_iconst (v := 1) C d_M_twoOf_226 (by decide) ?_
      refine V_goto (pc := 227) (tgt := 231) C d_M_twoOf_227 (by decide) ?_
      exact V_iret hR hf d_M_twoOf_231
    · refine V_iload_n C 2 d_M_twoOf_222 rfl ?_
      refine V_if_eq (pc := 223) (tgt := 230) C d_M_twoOf_223 (by decide) hf (fun hf => ?_) (fun hf => ?_)
      · refine V_iconst (v := 0) C d_M_twoOf_230 (by decide) ?_
        exact V_iret hR hf d_M_twoOf_231
      · refine V_iconst (v := 1) C d_M_twoOf_226 (by decide) ?_
        refine V_goto (pc := 227) (tgt := 231) C d_M_twoOf_227 (by decide) ?_
        exact V_iret hR hf d_M_twoOf_231
  have hf := ite_f hf hc18
  by_cases hc19 : a0 = 56
  · have hf := ite_t hf hc19
    refine V_tin (off := 217) (tgt := 218) C d_M_twoOf_1 (by rw [hc19]; decide) (by rw [hc19]; decide) (by rw [hc19]; decide) (by decide) ?_
    refine V_iload_n C 1 d_M_twoOf_218 rfl ?_
    refine V_if_ne (pc := 219) (tgt := 226) C d_M_twoOf_219 (by decide) hf (fun hf => ?_) (fun hf => ?_)
    · refine V_iconst (v := 1) C d_M_twoOf_226 (by decide) ?_
      refine V_goto (pc := 227) (tgt := 231) C d_M_twoOf_227 (by decide) ?_
      exact V_iret hR hf d_M_twoOf_231
    · refine V_iload_n C 2 d_M_twoOf_222 rfl ?_
      refine V_if_eq (pc := 223) (tgt := 230) C d_M_twoOf_223 (by decide) hf (fun hf => ?_) (fun hf => ?_)
      · refine V_iconst (v := 0) C d_M_twoOf_230 (by decide) ?_
        exact V_iret hR hf d_M_twoOf_231
      · refine V_iconst (v := 1) C d_M_twoOf_226 (by decide) ?_
        refine V_goto (pc := 227) (tgt := 231) C d_M_twoOf_227 (by decide) ?_
        exact V_iret hR hf d_M_twoOf_231
  have hf := ite_f hf hc19
  by_cases hc20 : a0 = 57
  · have hf := ite_t hf hc20
    refine V_tin (off := 217) (tgt := 218) C d_M_twoOf_1 (by rw [hc20]; decide) (by rw [hc20]; decide) (by rw [hc20]; decide) (by decide) ?_
    refine V_iload_n C 1 d_M_twoOf_218 rfl ?_
    refine V_if_ne (pc := 219) (tgt := 226) C d_M_twoOf_219 (by decide) hf (fun hf => ?_) (fun hf => ?_)
    · refine V_iconst (v := 1) C d_M_twoOf_226 (by decide) ?_
      refine V_goto (pc := 227) (tgt := 231) C d_M_twoOf_227 (by decide) ?_
      exact V_iret hR hf d_M_twoOf_231
    · refine V_iload_n C 2 d_M_twoOf_222 rfl ?_
      refine V_if_eq (pc := 223) (tgt := 230) C d_M_twoOf_223 (by decide) hf (fun hf => ?_) (fun hf => ?_)
      · refine V_iconst (v := 0) C d_M_twoOf_230 (by decide) ?_
        exact V_iret hR hf d_M_twoOf_231
      · refine V_iconst (v := 1) C d_M_twoOf_226 (by decide) ?_
        refine V_goto (pc := 227) (tgt := 231) C d_M_twoOf_227 (by decide) ?_
        exact V_iret hR hf d_M_twoOf_231
  have hf := ite_f hf hc20
  by_cases hc21 : a0 = 58
  · have hf := ite_t hf hc21
    refine V_tin (off := 217) (tgt := 218) C d_M_twoOf_1 (by rw [hc21]; decide) (by rw [hc21]; decide) (by rw [hc21]; decide) (by decide) ?_
    refine V_iload_n C 1 d_M_twoOf_218 rfl ?_
    refine V_if_ne (pc := 219) (tgt := 226) C d_M_twoOf_219 (by decide) hf (fun hf => ?_) (fun hf => ?_)
    · refine V_iconst (v := 1) C d_M_twoOf_226 (by decide) ?_
      refine V_goto (pc := 227) (tgt := 231) C d_M_twoOf_227 (by decide) ?_
      exact V_iret hR hf d_M_twoOf_231
    · refine V_iload_n C 2 d_M_twoOf_222 rfl ?_
      refine V_if_eq (pc := 223) (tgt := 230) C d_M_twoOf_223 (by decide) hf (fun hf => ?_) (fun hf => ?_)
      · refine V_iconst (v := 0) C d_M_twoOf_230 (by decide) ?_
        exact V_iret hR hf d_M_twoOf_231
      · refine V_iconst (v := 1) C d_M_twoOf_226 (by decide) ?_
        refine V_goto (pc := 227) (tgt := 231) C d_M_twoOf_227 (by decide) ?_
        exact V_iret hR hf d_M_twoOf_231
  have hf := ite_f hf hc21
  by_cases hc22 : a0 = 59
  · have hf := ite_t hf hc22
    refine V_tin (off := 217) (tgt := 218) C d_M_twoOf_1 (by rw [hc22]; decide) (by rw [hc22]; decide) (by rw [hc22]; decide) (by decide) ?_
    refine V_iload_n C 1 d_M_twoOf_218 rfl ?_
    refine V_if_ne (pc := 219) (tgt := 226) C d_M_twoOf_219 (by decide) hf (fun hf => ?_) (fun hf => ?_)
    · refine V_iconst (v := 1) C d_M_twoOf_226 (by decide) ?_
      refine V_goto (pc := 227) (tgt := 231) C d_M_twoOf_227 (by decide) ?_
      exact V_iret hR hf d_M_twoOf_231
    · refine V_iload_n C 2 d_M_twoOf_222 rfl ?_
      refine V_if_eq (pc := 223) (tgt := 230) C d_M_twoOf_223 (by decide) hf (fun hf => ?_) (fun hf => ?_)
      · refine V_iconst (v := 0) C d_M_twoOf_230 (by decide) ?_
        exact V_iret hR hf d_M_twoOf_231
      · refine V_iconst (v := 1) C d_M_twoOf_226 (by decide) ?_
        refine V_goto (pc := 227) (tgt := 231) C d_M_twoOf_227 (by decide) ?_
        exact V_iret hR hf d_M_twoOf_231
  have hf := ite_f hf hc22
  by_cases hc23 : a0 = 60
  · have hf := ite_t hf hc23
    refine V_tin (off := 170) (tgt := 171) C d_M_twoOf_1 (by rw [hc23]; decide) (by rw [hc23]; decide) (by rw [hc23]; decide) (by decide) ?_
    refine V_iload_n C 1 d_M_twoOf_171 rfl ?_
    refine V_iload_n C 2 d_M_twoOf_172 rfl ?_
    refine V_icmp_ge (pc := 173) (tgt := 180) C d_M_twoOf_173 (by decide) hf (fun hf => ?_) (fun hf => ?_)
    · refine V_iconst (v := 0) C d_M_twoOf_180 (by decide) ?_
      exact V_iret hR hf d_M_twoOf_181
    · refine V_iconst (v := 1) C d_M_twoOf_176 (by decide) ?_
      refine V_goto (pc := 177) (tgt := 181) C d_M_twoOf_177 (by decide) ?_
      exact V_iret hR hf d_M_twoOf_181
  have hf := ite_f hf hc23
  by_cases hc24 : a0 = 61
  · have hf := ite_t hf hc24
    refine V_tin (off := 181) (tgt := 182) C d_M_twoOf_1 (by rw [hc24]; decide) (by rw [hc24]; decide) (by rw [hc24]; decide) (by decide) ?_
    refine V_iload_n C 1 d_M_twoOf_182 rfl ?_
    refine V_iload_n C 2 d_M_twoOf_183 rfl ?_
    refine V_icmp_ne (pc := 184) (tgt := 191) C d_M_twoOf_184 (by decide) hf (fun hf => ?_) (fun hf => ?_)
    · refine V_iconst (v := 0) C d_M_twoOf_191 (by decide) ?_
      exact V_iret hR hf d_M_twoOf_192
    · refine V_iconst (v := 1) C d_M_twoOf_187 (by decide) ?_
      refine V_goto (pc := 188) (tgt := 192) C d_M_twoOf_188 (by decide) ?_
      exact V_iret hR hf d_M_twoOf_192
  have hf := ite_f hf hc24
  by_cases hc25 : a0 = 62
  · have hf := ite_t hf hc25
    refine V_tin (off := 192) (tgt := 193) C d_M_twoOf_1 (by rw [hc25]; decide) (by rw [hc25]; decide) (by rw [hc25]; decide) (by decide) ?_
    refine V_iload_n C 1 d_M_twoOf_193 rfl ?_
    refine V_iload_n C 2 d_M_twoOf_194 rfl ?_
    refine V_icmp_le (pc := 195) (tgt := 202) C d_M_twoOf_195 (by decide) hf (fun hf => ?_) (fun hf => ?_)
    · refine V_iconst (v := 0) C d_M_twoOf_202 (by decide) ?_
      exact V_iret hR hf d_M_twoOf_203
    · refine V_iconst (v := 1) C d_M_twoOf_198 (by decide) ?_
      refine V_goto (pc := 199) (tgt := 203) C d_M_twoOf_199 (by decide) ?_
      exact V_iret hR hf d_M_twoOf_203
  have hf := ite_f hf hc25
  have hc0t := neT (k := 37) 37 (by decide) hc0
  have hc1t := neT (k := 38) 38 (by decide) hc1
  have hc2t := neT (k := 39) 39 (by decide) hc2
  have hc3t := neT (k := 40) 40 (by decide) hc3
  have hc4t := neT (k := 41) 41 (by decide) hc4
  have hc5t := neT (k := 42) 42 (by decide) hc5
  have hc6t := neT (k := 43) 43 (by decide) hc6
  have hc7t := neT (k := 44) 44 (by decide) hc7
  have hc8t := neT (k := 45) 45 (by decide) hc8
  have hc9t := neT (k := 46) 46 (by decide) hc9
  have hc10t := neT (k := 47) 47 (by decide) hc10
  have hc11t := neT (k := 48) 48 (by decide) hc11
  have hc12t := neT (k := 49) 49 (by decide) hc12
  have hc13t := neT (k := 50) 50 (by decide) hc13
  have hc14t := neT (k := 51) 51 (by decide) hc14
  have hc15t := neT (k := 52) 52 (by decide) hc15
  have hc16t := neT (k := 53) 53 (by decide) hc16
  have hc17t := neT (k := 54) 54 (by decide) hc17
  have hc18t := neT (k := 55) 55 (by decide) hc18
  have hc19t := neT (k := 56) 56 (by decide) hc19
  have hc20t := neT (k := 57) 57 (by decide) hc20
  have hc21t := neT (k := 58) 58 (by decide) hc21
  have hc22t := neT (k := 59) 59 (by decide) hc22
  have hc23t := neT (k := 60) 60 (by decide) hc23
  have hc24t := neT (k := 61) 61 (by decide) hc24
  have hc25t := neT (k := 62) 62 (by decide) hc25
  refine V_tout (tgt := 218) C d_M_twoOf_1 (by omega) (by decide) ?_
  refine V_iload_n C 1 d_M_twoOf_218 rfl ?_
  refine V_if_ne (pc := 219) (tgt := 226) C d_M_twoOf_219 (by decide) hf (fun hf => ?_) (fun hf => ?_)
  · refine V_iconst (v := 1) C d_M_twoOf_226 (by decide) ?_
    refine V_goto (pc := 227) (tgt := 231) C d_M_twoOf_227 (by decide) ?_
    exact V_iret hR hf d_M_twoOf_231
  · refine V_iload_n C 2 d_M_twoOf_222 rfl ?_
    refine V_if_eq (pc := 223) (tgt := 230) C d_M_twoOf_223 (by decide) hf (fun hf => ?_) (fun hf => ?_)
    · refine V_iconst (v := 0) C d_M_twoOf_230 (by decide) ?_
      exact V_iret hR hf d_M_twoOf_231
    · refine V_iconst (v := 1) C d_M_twoOf_226 (by decide) ?_
      refine V_goto (pc := 227) (tgt := 231) C d_M_twoOf_227 (by decide) ?_
      exact V_iret hR hf d_M_twoOf_231
theorem c_M_twoOf {l : Launch} {g : Gx} (hok : Wok classes (wM g)) {σ : St} {a0 : Int32} {a1 : Int32} {a2 : Int32} {r : Int32} (hf : f_M_twoOf a0 a1 a2 = some r) : CtI classes l y_M_twoOf b_M_twoOf 3 (some .int) 1 (wM g) [.int a0, .int a1, .int a2] σ r σ :=
  MetI (by decide +kernel) hok (Nat.le_of_ble_eq_true rfl) (fun E _ C hR => w_M_twoOf C hR hf)
set_option maxRecDepth 4000 in
theorem w_M_worked_45 {E : Ev} {g : Gx} {r : Int32} {σ' : St} (C : Cx E classes 7 (wM g) b_M_worked "WithTheRedsModel" 2) (hR : RetI E classes 7 (wM g) b_M_worked r σ') {k12 : St → Int32 → Int32 → Int32 → Int32 → Option (Int32 × St)} (hk12 : ∀ (σ : St) (x1 : Int32) (x3 : Int32) (x4 : Int32) (x5 : Int32), k12 σ x1 x3 x4 x5 = some (r, σ') → V E classes 7 (wM g) σ 12 [(0, .ref (g.2.1 0)), (1, .int x1), (3, .int x3), (4, .int x4), (5, .int x5)] []) : ∀ (σ : St) (x1 : Int32) (x3 : Int32) (x4 : Int32) (x5 : Int32) (x6 : Int32), f_M_worked_45 k12 σ x1 x3 x4 x5 x6 = some (r, σ') → V E classes 7 (wM g) σ 45 [(0, .ref (g.2.1 0)), (1, .int x1), (3, .int x3), (4, .int x4), (5, .int x5), (6, .int x6)] [] := by
  intro σ x1 x3 x4 x5 x6 hf
  unfold f_M_worked_45 at hf
  refine V_aload_n C 0 d_M_worked_45 rfl ?_
  refine gM_M_pile C fl_M_82 d_M_worked_46 ?_
  refine V_iload C 3 d_M_worked_49 rfl ?_
  refine V_iload C 5 d_M_worked_51 rfl ?_
  refine V_iconst (v := 1) C d_M_worked_53 (by decide) ?_
  refine V_icmp_ne (pc := 54) (tgt := 67) C d_M_worked_54 (by decide) hf (fun hf => ?_) (fun hf => ?_)
  · refine V_aload_n C 0 d_M_worked_67 rfl ?_
    refine gM_M_facts C fl_M_79 d_M_worked_68 ?_
    refine V_aload_n C 0 d_M_worked_71 rfl ?_
    refine gM_M_with C fl_M_66 d_M_worked_72 ?_
    refine V_iload C 4 d_M_worked_75 rfl ?_
    obtain ⟨hi77_1, hf⟩ := gu hf
    refine aM_15 (v := σ.2.1 15 x5.toNatClampNeg) C hi77_1 rfl d_M_worked_77 ?_
    obtain ⟨hi78_2, hf⟩ := gu hf
    refine aM_19 (v := σ.2.1 19 (σ.2.1 15 x5.toNatClampNeg).toNatClampNeg) C hi78_2 rfl d_M_worked_78 ?_
    obtain ⟨hi79_3, hf⟩ := gu hf
    refine sM_20 C hi79_3 d_M_worked_79 ?_
    refine V_iinc (v := x4 + (1 : Int32)) C 3 d_M_worked_80 rfl rfl (by decide) rfl ?_
    refine V_goto (pc := 83) (tgt := 182) C d_M_worked_83 (by decide) ?_
    refine V_iinc (v := x5 + (1 : Int32)) C 4 d_M_worked_182 rfl rfl (by decide) rfl ?_
    refine V_goto (pc := 185) (tgt := 12) C d_M_worked_185 (by decide) ?_
    refine V.sub [2, 3, 4, 1, 0] rfl ?_
    exact hk12 (upA σ 20 x4.toNatClampNeg (σ.2.1 19 (σ.2.1 15 x5.toNatClampNeg).toNatClampNeg)) x1 x3 (x4 + (1 : Int32)) (x5 + (1 : Int32)) hf
  · refine V_aload_n C 0 d_M_worked_57 rfl ?_
    refine gM_M_with C fl_M_66 d_M_worked_58 ?_
    refine V_iload C 4 d_M_worked_61 rfl ?_
    obtain ⟨hi63_4, hf⟩ := gu hf
    refine aM_15 (v := σ.2.1 15 x5.toNatClampNeg) C hi63_4 rfl d_M_worked_63 ?_
    refine V_goto (pc := 64) (tgt := 79) C d_M_worked_64 (by decide) ?_
    obtain ⟨hi79_5, hf⟩ := gu hf
    refine sM_20 C hi79_5 d_M_worked_79 ?_
    refine V_iinc (v := x4 + (1 : Int32)) C 3 d_M_worked_80 rfl rfl (by decide) rfl ?_
    refine V_goto (pc := 83) (tgt := 182) C d_M_worked_83 (by decide) ?_
    refine V_iinc (v := x5 + (1 : Int32)) C 4 d_M_worked_182 rfl rfl (by decide) rfl ?_
    refine V_goto (pc := 185) (tgt := 12) C d_M_worked_185 (by decide) ?_
    refine V.sub [2, 3, 4, 1, 0] rfl ?_
    exact hk12 (upA σ 20 x4.toNatClampNeg (σ.2.1 15 x5.toNatClampNeg)) x1 x3 (x4 + (1 : Int32)) (x5 + (1 : Int32)) hf
set_option maxRecDepth 4000 in
theorem w_M_worked_12 {E : Ev} {g : Gx} {r : Int32} {σ' : St} (C : Cx E classes 7 (wM g) b_M_worked "WithTheRedsModel" 2) (hR : RetI E classes 7 (wM g) b_M_worked r σ') : ∀ (n : Nat) (σ : St) (x1 : Int32) (x3 : Int32) (x4 : Int32) (x5 : Int32), f_M_worked_12 n σ x1 x3 x4 x5 = some (r, σ') → V E classes 7 (wM g) σ 12 [(0, .ref (g.2.1 0)), (1, .int x1), (3, .int x3), (4, .int x4), (5, .int x5)] [] := by
  intro n
  induction n with
  | zero => intro σ x1 x3 x4 x5 hf; exact absurd hf (by unfold f_M_worked_12; exact nofun)
  | succ n ih =>
    intro σ x1 x3 x4 x5 hf
    unfold f_M_worked_12 at hf
    refine V_iload C 4 d_M_worked_12 rfl ?_
    refine V_sipush (v := 130) C d_M_worked_14 (by decide) ?_
    refine V_iload_n C 1 d_M_worked_17 rfl ?_
    refine V_imul C d_M_worked_18 ?_
    refine V_iload_n C 2 d_M_worked_19 rfl ?_
    refine V_iadd C d_M_worked_20 ?_
    refine V_icmp_ge (pc := 21) (tgt := 188) C d_M_worked_21 (by decide) hf (fun hf => ?_) (fun hf => ?_)
    · refine V_aload_n C 0 d_M_worked_188 rfl ?_
      refine gM_M_pile C fl_M_82 d_M_worked_189 ?_
      refine V_iconst (v := 0) C d_M_worked_192 (by decide) ?_
      refine aM_20 (v := σ.2.1 20 (0 : Int32).toNatClampNeg) C rfl rfl d_M_worked_193 ?_
      exact V_iretW hR hf d_M_worked_194
    · refine V_aload_n C 0 d_M_worked_24 rfl ?_
      refine gM_M_act C fl_M_63 d_M_worked_25 ?_
      refine V_iload C 4 d_M_worked_28 rfl ?_
      obtain ⟨hi30_1, hf⟩ := gu hf
      refine aM_14 (v := σ.2.1 14 x5.toNatClampNeg) C hi30_1 rfl d_M_worked_30 ?_
      refine V_istore C d_M_worked_31 (by decide) rfl ?_
      refine V_iload C 0 d_M_worked_33 rfl ?_
      refine V_iconst (v := 1) C d_M_worked_35 (by decide) ?_
      refine V_icmp_eq (pc := 36) (tgt := 45) C d_M_worked_36 (by decide) hf (fun hf => ?_) (fun hf => ?_)
      · refine V.sub [1, 2, 3, 4, 5, 0] rfl ?_
        exact w_M_worked_45 C hR ih σ x1 x3 x4 x5 (σ.2.1 14 x5.toNatClampNeg) hf
      · refine V_iload C 0 d_M_worked_39 rfl ?_
        refine V_iconst (v := 2) C d_M_worked_41 (by decide) ?_
        refine V_icmp_ne (pc := 42) (tgt := 86) C d_M_worked_42 (by decide) hf (fun hf => ?_) (fun hf => ?_)
        · refine V_iload C 0 d_M_worked_86 rfl ?_
          refine V_iconst (v := 3) C d_M_worked_88 (by decide) ?_
          refine V_icmp_ne (pc := 89) (tgt := 121) C d_M_worked_89 (by decide) hf (fun hf => ?_) (fun hf => ?_)
          · refine V_iload C 0 d_M_worked_121 rfl ?_
            refine V_iconst (v := 4) C d_M_worked_123 (by decide) ?_
            refine V_icmp_ne (pc := 124) (tgt := 149) C d_M_worked_124 (by decide) hf (fun hf => ?_) (fun hf => ?_)
            · refine V_iinc (v := x4 + (-1 : Int32)) C 4 d_M_worked_149 rfl rfl (by decide) rfl ?_
              refine V_aload_n C 2 d_M_worked_152 rfl ?_
              refine gM_M_pile C fl_M_82 d_M_worked_153 ?_
              refine V_iload C 0 d_M_worked_156 rfl ?_
              refine V_iconst (v := 1) C d_M_worked_158 (by decide) ?_
              refine V_isub C d_M_worked_159 ?_
              refine V_iload C 1 d_M_worked_160 rfl ?_
              refine V_aload_n C 2 d_M_worked_162 rfl ?_
              refine gM_M_pile C fl_M_82 d_M_worked_163 ?_
              refine V_iload C 0 d_M_worked_166 rfl ?_
              refine V_iconst (v := 1) C d_M_worked_168 (by decide) ?_
              refine V_isub C d_M_worked_169 ?_
              obtain ⟨hi170_2, hf⟩ := gu hf
              refine aM_20 (v := σ.2.1 20 ((x4 + (-1 : Int32)) - (1 : Int32)).toNatClampNeg) C hi170_2 rfl d_M_worked_170 ?_
              refine V_aload_n C 2 d_M_worked_171 rfl ?_
              refine gM_M_pile C fl_M_82 d_M_worked_172 ?_
              refine V_iload C 0 d_M_worked_175 rfl ?_
              obtain ⟨hi177_3, hf⟩ := gu hf
              refine aM_20 (v := σ.2.1 20 (x4 + (-1 : Int32)).toNatClampNeg) C hi177_3 rfl d_M_worked_177 ?_
              obtain ⟨r178_4, hg, hf⟩ := bd hf
              refine V_callSi C [.int (σ.2.1 14 x5.toNatClampNeg), .int (σ.2.1 20 ((x4 + (-1 : Int32)) - (1 : Int32)).toNatClampNeg), .int (σ.2.1 20 (x4 + (-1 : Int32)).toNatClampNeg)] (c_M_twoOf C.2.2.2.2.2.2.2.1 hg) (by decide) cw_M_252 rfl (Nat.le_of_ble_eq_true rfl) rfl d_M_worked_178 ?_
              obtain ⟨hi181_5, hf⟩ := gu hf
              refine sM_20 C hi181_5 d_M_worked_181 ?_
              refine V_iinc (v := x5 + (1 : Int32)) C 5 d_M_worked_182 rfl rfl (by decide) rfl ?_
              refine V_goto (pc := 185) (tgt := 12) C d_M_worked_185 (by decide) ?_
              refine V.sub [3, 4, 5, 1, 0] rfl ?_
              exact ih (upA σ 20 (((x4 + (-1 : Int32)) - (1 : Int32)).toNatClampNeg) r178_4) x1 x3 (x4 + (-1 : Int32)) (x5 + (1 : Int32)) hf
            · refine V_aload_n C 1 d_M_worked_127 rfl ?_
              refine gM_M_pile C fl_M_82 d_M_worked_128 ?_
              refine V_iload C 4 d_M_worked_131 rfl ?_
              refine V_iconst (v := 1) C d_M_worked_133 (by decide) ?_
              refine V_isub C d_M_worked_134 ?_
              refine V_aload_n C 1 d_M_worked_135 rfl ?_
              refine gM_M_pile C fl_M_82 d_M_worked_136 ?_
              refine V_iload C 4 d_M_worked_139 rfl ?_
              refine V_iconst (v := 1) C d_M_worked_141 (by decide) ?_
              refine V_isub C d_M_worked_142 ?_
              obtain ⟨hi143_6, hf⟩ := gu hf
              refine aM_20 (v := σ.2.1 20 (x4 - (1 : Int32)).toNatClampNeg) C hi143_6 rfl d_M_worked_143 ?_
              refine V_ineg C d_M_worked_144 ?_
              obtain ⟨hi145_7, hf⟩ := gu hf
              refine sM_20 C hi145_7 d_M_worked_145 ?_
              refine V_goto (pc := 146) (tgt := 182) C d_M_worked_146 (by decide) ?_
              refine V_iinc (v := x5 + (1 : Int32)) C 5 d_M_worked_182 rfl rfl (by decide) rfl ?_
              refine V_goto (pc := 185) (tgt := 12) C d_M_worked_185 (by decide) ?_
              refine V.sub [2, 3, 4, 5, 0] rfl ?_
              exact ih (upA σ 20 ((x4 - (1 : Int32)).toNatClampNeg) (-(σ.2.1 20 (x4 - (1 : Int32)).toNatClampNeg))) x1 x3 x4 (x5 + (1 : Int32)) hf
          · refine V_aload_n C 1 d_M_worked_92 rfl ?_
            refine gM_M_pile C fl_M_82 d_M_worked_93 ?_
            refine V_iload C 4 d_M_worked_96 rfl ?_
            refine V_iconst (v := 1) C d_M_worked_98 (by decide) ?_
            refine V_isub C d_M_worked_99 ?_
            refine V_aload_n C 1 d_M_worked_100 rfl ?_
            refine gM_M_pile C fl_M_82 d_M_worked_101 ?_
            refine V_iload C 4 d_M_worked_104 rfl ?_
            refine V_iconst (v := 1) C d_M_worked_106 (by decide) ?_
            refine V_isub C d_M_worked_107 ?_
            obtain ⟨hi108_8, hf⟩ := gu hf
            refine aM_20 (v := σ.2.1 20 (x4 - (1 : Int32)).toNatClampNeg) C hi108_8 rfl d_M_worked_108 ?_
            refine V_if_ne (pc := 109) (tgt := 116) C d_M_worked_109 (by decide) hf (fun hf => ?_) (fun hf => ?_)
            · refine V_iconst (v := 0) C d_M_worked_116 (by decide) ?_
              obtain ⟨hi117_9, hf⟩ := gu hf
              refine sM_20 C hi117_9 d_M_worked_117 ?_
              refine V_goto (pc := 118) (tgt := 182) C d_M_worked_118 (by decide) ?_
              refine V_iinc (v := x5 + (1 : Int32)) C 5 d_M_worked_182 rfl rfl (by decide) rfl ?_
              refine V_goto (pc := 185) (tgt := 12) C d_M_worked_185 (by decide) ?_
              refine V.sub [2, 3, 4, 5, 0] rfl ?_
              exact ih (upA σ 20 ((x4 - (1 : Int32)).toNatClampNeg) (0 : Int32)) x1 x3 x4 (x5 + (1 : Int32)) hf
            · refine V_iconst (v := 1) C d_M_worked_112 (by decide) ?_
              refine V_goto (pc := 113) (tgt := 117) C d_M_worked_113 (by decide) ?_
              obtain ⟨hi117_10, hf⟩ := gu hf
              refine sM_20 C hi117_10 d_M_worked_117 ?_
              refine V_goto (pc := 118) (tgt := 182) C d_M_worked_118 (by decide) ?_
              refine V_iinc (v := x5 + (1 : Int32)) C 5 d_M_worked_182 rfl rfl (by decide) rfl ?_
              refine V_goto (pc := 185) (tgt := 12) C d_M_worked_185 (by decide) ?_
              refine V.sub [2, 3, 4, 5, 0] rfl ?_
              exact ih (upA σ 20 ((x4 - (1 : Int32)).toNatClampNeg) (1 : Int32)) x1 x3 x4 (x5 + (1 : Int32)) hf
        · refine V.sub [1, 2, 3, 4, 5, 0] rfl ?_
          exact w_M_worked_45 C hR ih σ x1 x3 x4 x5 (σ.2.1 14 x5.toNatClampNeg) hf
set_option maxRecDepth 4000 in
theorem w_M_worked {E : Ev} {g : Gx} {r : Int32} {σ' : St} (C : Cx E classes 7 (wM g) b_M_worked "WithTheRedsModel" 2) (hR : RetI E classes 7 (wM g) b_M_worked r σ') {σ : St} {a1 : Int32} {a2 : Int32} {a3 : Int32} (hf : f_M_worked σ a1 a2 a3 = some (r, σ')) : V E classes 7 (wM g) σ 0 [(0, .ref (g.2.1 0)), (1, .int a1), (2, .int a2), (3, .int a3)] [] := by
  unfold f_M_worked at hf
  refine V_iconst (v := 0) C d_M_worked_0 (by decide) ?_
  refine V_istore C d_M_worked_1 (by decide) rfl ?_
  refine V_sipush (v := 130) C d_M_worked_3 (by decide) ?_
  refine V_iload_n C 2 d_M_worked_6 rfl ?_
  refine V_imul C d_M_worked_7 ?_
  refine V_iload_n C 3 d_M_worked_8 rfl ?_
  refine V_iadd C d_M_worked_9 ?_
  refine V_istore C d_M_worked_10 (by decide) rfl ?_
  refine V.sub [2, 3, 5, 1, 0] rfl ?_
  exact w_M_worked_12 C hR FU σ a1 a3 (0 : Int32) (((130 : Int32) * a1) + a2) hf
theorem c_M_worked {l : Launch} {g : Gx} (hok : Wok classes (wM g)) {σ : St} {a1 : Int32} {a2 : Int32} {a3 : Int32} {r : Int32} {σ' : St} (hf : f_M_worked σ a1 a2 a3 = some (r, σ')) : CtI classes l y_M_worked b_M_worked 7 (some .int) 2 (wM g) [.ref (g.2.1 0), .int a1, .int a2, .int a3] σ r σ' :=
  MetI (by decide +kernel) hok (Nat.le_of_ble_eq_true rfl) (fun E _ C hR => w_M_worked C hR hf)
set_option maxRecDepth 4000 in
theorem w_M_givesText_47 {E : Ev} {g : Gx} {r : Int32} {σ' : St} (C : Cx E classes 4 (wM g) b_M_givesText "WithTheRedsModel" 3) (hR : RetI E classes 4 (wM g) b_M_givesText r σ') : ∀ (σ : St) (x1 : Int32) (x3 : Int32), f_M_givesText_47 σ x1 x3 = some (r, σ') → V E classes 4 (wM g) σ 47 [(0, .ref (g.2.1 0)), (1, .int x1), (3, .int x3)] [] := by
  intro σ x1 x3 hf
  unfold f_M_givesText_47 at hf
  refine V_aload_n C 0 d_M_givesText_47 rfl ?_
  refine V_iload_n C 1 d_M_givesText_48 rfl ?_
  refine V_aload_n C 0 d_M_givesText_49 rfl ?_
  refine gM_M_testEnd C fl_M_72 d_M_givesText_50 ?_
  refine V_iload_n C 2 d_M_givesText_53 rfl ?_
  obtain ⟨hi54_1, hf⟩ := gu hf
  refine aM_17 (v := σ.2.1 17 x3.toNatClampNeg) C hi54_1 rfl d_M_givesText_54 ?_
  refine V_aload_n C 0 d_M_givesText_55 rfl ?_
  refine gM_M_lineEnd C fl_M_76 d_M_givesText_56 ?_
  refine V_iload_n C 2 d_M_givesText_59 rfl ?_
  obtain ⟨hi60_2, hf⟩ := gu hf
  refine aM_18 (v := σ.2.1 18 x3.toNatClampNeg) C hi60_2 rfl d_M_givesText_60 ?_
  obtain ⟨r61_3, σ61_3, hg, hf⟩ := bd2_of hf
  refine V_callVi C [.int x1, .int (σ.2.1 17 x3.toNatClampNeg), .int (σ.2.1 18 x3.toNatClampNeg)] (c_M_worked C.2.2.2.2.2.2.2.1 hg) (by decide) cw_M_255 0 rfl rfl rfl rfl (Nat.le_of_ble_eq_true rfl) rfl d_M_givesText_61 ?_
  exact V_iretW hR hf d_M_givesText_64
set_option maxRecDepth 4000 in
theorem w_M_givesText_7 {E : Ev} {g : Gx} {r : Int32} {σ' : St} (C : Cx E classes 4 (wM g) b_M_givesText "WithTheRedsModel" 3) (hR : RetI E classes 4 (wM g) b_M_givesText r σ') : ∀ (n : Nat) (σ : St) (x1 : Int32) (x2 : Int32) (x3 : Int32), f_M_givesText_7 n σ x1 x2 x3 = some (r, σ') → V E classes 4 (wM g) σ 7 [(0, .ref (g.2.1 0)), (1, .int x1), (2, .int x2), (3, .int x3)] [] := by
  intro n
  induction n with
  | zero => intro σ x1 x2 x3 hf; exact absurd hf (by unfold f_M_givesText_7; exact nofun)
  | succ n ih =>
    intro σ x1 x2 x3 hf
    unfold f_M_givesText_7 at hf
    refine V_iload_n C 3 d_M_givesText_7 rfl ?_
    refine V_bipush (v := 61) C d_M_givesText_8 (by decide) ?_
    refine V_iload_n C 1 d_M_givesText_10 rfl ?_
    refine V_imul C d_M_givesText_11 ?_
    refine V_aload_n C 0 d_M_givesText_12 rfl ?_
    refine gM_M_lineMany C fl_M_69 d_M_givesText_13 ?_
    refine V_iload_n C 1 d_M_givesText_16 rfl ?_
    obtain ⟨hi17_1, hf⟩ := gu hf
    refine aM_16 (v := σ.2.1 16 x1.toNatClampNeg) C hi17_1 rfl d_M_givesText_17 ?_
    refine V_iadd C d_M_givesText_18 ?_
    refine V_icmp_ge (pc := 19) (tgt := 78) C d_M_givesText_19 (by decide) hf (fun hf => ?_) (fun hf => ?_)
    · refine V_iconst (v := 0) C d_M_givesText_78 (by decide) ?_
      exact V_iretW hR hf d_M_givesText_79
    · refine V_aload_n C 0 d_M_givesText_22 rfl ?_
      refine gM_M_testEnd C fl_M_72 d_M_givesText_23 ?_
      refine V_iload_n C 3 d_M_givesText_26 rfl ?_
      obtain ⟨hi27_2, hf⟩ := gu hf
      refine aM_17 (v := σ.2.1 17 x3.toNatClampNeg) C hi27_2 rfl d_M_givesText_27 ?_
      refine V_iload_n C 2 d_M_givesText_28 rfl ?_
      refine V_icmp_eq (pc := 29) (tgt := 47) C d_M_givesText_29 (by decide) hf (fun hf => ?_) (fun hf => ?_)
      · refine V.sub [0, 1, 3] rfl ?_
        exact w_M_givesText_47 C hR σ x1 x3 hf
      · refine V_aload_n C 0 d_M_givesText_32 rfl ?_
        refine V_iload_n C 1 d_M_givesText_33 rfl ?_
        refine V_iload_n C 2 d_M_givesText_34 rfl ?_
        refine V_aload_n C 0 d_M_givesText_35 rfl ?_
        refine gM_M_testEnd C fl_M_72 d_M_givesText_36 ?_
        refine V_iload_n C 3 d_M_givesText_39 rfl ?_
        obtain ⟨hi40_3, hf⟩ := gu hf
        refine aM_17 (v := σ.2.1 17 x3.toNatClampNeg) C hi40_3 rfl d_M_givesText_40 ?_
        obtain ⟨r41_4, σ41_4, hg, hf⟩ := bd2_of hf
        refine V_callVi C [.int x1, .int x2, .int (σ.2.1 17 x3.toNatClampNeg)] (c_M_worked C.2.2.2.2.2.2.2.1 hg) (by decide) cw_M_255 0 rfl rfl rfl rfl (Nat.le_of_ble_eq_true rfl) rfl d_M_givesText_41 ?_
        refine V_if_eq (pc := 44) (tgt := 65) C d_M_givesText_44 (by decide) hf (fun hf => ?_) (fun hf => ?_)
        · refine V_aload_n C 0 d_M_givesText_65 rfl ?_
          refine gM_M_lineEnd C fl_M_76 d_M_givesText_66 ?_
          refine V_iload_n C 3 d_M_givesText_69 rfl ?_
          obtain ⟨hi70_5, hf⟩ := gu hf
          refine aM_18 (v := σ41_4.2.1 18 x3.toNatClampNeg) C hi70_5 rfl d_M_givesText_70 ?_
          refine V_istore_n C d_M_givesText_71 (by decide) rfl ?_
          refine V_iinc (v := x3 + (1 : Int32)) C 3 d_M_givesText_72 rfl rfl (by decide) rfl ?_
          refine V_goto (pc := 75) (tgt := 7) C d_M_givesText_75 (by decide) ?_
          refine V.sub [2, 3, 1, 0] rfl ?_
          exact ih σ41_4 x1 (σ41_4.2.1 18 x3.toNatClampNeg) (x3 + (1 : Int32)) hf
        · refine V.sub [0, 1, 3] rfl ?_
          exact w_M_givesText_47 C hR σ41_4 x1 x3 hf
set_option maxRecDepth 4000 in
theorem w_M_givesText {E : Ev} {g : Gx} {r : Int32} {σ' : St} (C : Cx E classes 4 (wM g) b_M_givesText "WithTheRedsModel" 3) (hR : RetI E classes 4 (wM g) b_M_givesText r σ') {σ : St} {a1 : Int32} (hf : f_M_givesText σ a1 = some (r, σ')) : V E classes 4 (wM g) σ 0 [(0, .ref (g.2.1 0)), (1, .int a1)] [] := by
  unfold f_M_givesText at hf
  refine V_iconst (v := 0) C d_M_givesText_0 (by decide) ?_
  refine V_istore_n C d_M_givesText_1 (by decide) rfl ?_
  refine V_bipush (v := 61) C d_M_givesText_2 (by decide) ?_
  refine V_iload_n C 2 d_M_givesText_4 rfl ?_
  refine V_imul C d_M_givesText_5 ?_
  refine V_istore_n C d_M_givesText_6 (by decide) rfl ?_
  refine V.sub [2, 3, 1, 0] rfl ?_
  exact w_M_givesText_7 C hR FU σ a1 (0 : Int32) ((61 : Int32) * a1) hf
theorem c_M_givesText {l : Launch} {g : Gx} (hok : Wok classes (wM g)) {σ : St} {a1 : Int32} {r : Int32} {σ' : St} (hf : f_M_givesText σ a1 = some (r, σ')) : CtI classes l y_M_givesText b_M_givesText 4 (some .int) 3 (wM g) [.ref (g.2.1 0), .int a1] σ r σ' :=
  MetI (by decide +kernel) hok (Nat.le_of_ble_eq_true rfl) (fun E _ C hR => w_M_givesText C hR hf)
set_option maxRecDepth 4000 in
theorem w_M_givesBy_104 {E : Ev} {g : Gx} {r : Int32} {σ' : St} (C : Cx E classes 5 (wM g) b_M_givesBy "WithTheRedsModel" 4) (hR : RetI E classes 5 (wM g) b_M_givesBy r σ') : ∀ (σ : St) (x4 : Int32), f_M_givesBy_104 σ x4 = some (r, σ') → V E classes 5 (wM g) σ 104 [(4, .int x4)] [] := by
  intro σ x4 hf
  unfold f_M_givesBy_104 at hf
  refine V_iload C 0 d_M_givesBy_104 rfl ?_
  refine V_if_ge (pc := 106) (tgt := 113) C d_M_givesBy_106 (by decide) hf (fun hf => ?_) (fun hf => ?_)
  · refine V_iload C 0 d_M_givesBy_113 rfl ?_
    refine V_bipush (v := 99) C d_M_givesBy_115 (by decide) ?_
    refine V_icmp_le (pc := 117) (tgt := 125) C d_M_givesBy_117 (by decide) hf (fun hf => ?_) (fun hf => ?_)
    · refine V_iload C 0 d_M_givesBy_125 rfl ?_
      exact V_iretW hR hf d_M_givesBy_127
    · refine V_bipush (v := 99) C d_M_givesBy_120 (by decide) ?_
      refine V_goto (pc := 122) (tgt := 127) C d_M_givesBy_122 (by decide) ?_
      exact V_iretW hR hf d_M_givesBy_127
  · refine V_iconst (v := 0) C d_M_givesBy_109 (by decide) ?_
    refine V_goto (pc := 110) (tgt := 127) C d_M_givesBy_110 (by decide) ?_
    exact V_iretW hR hf d_M_givesBy_127
set_option maxRecDepth 4000 in
theorem w_M_givesBy_26 {E : Ev} {g : Gx} {r : Int32} {σ' : St} (C : Cx E classes 5 (wM g) b_M_givesBy "WithTheRedsModel" 4) (hR : RetI E classes 5 (wM g) b_M_givesBy r σ') : ∀ (σ : St) (x1 : Int32) (x2 : Int32) (x3 : Int32) (y0 : Int32), f_M_givesBy_26 σ x1 x2 x3 y0 = some (r, σ') → V E classes 5 (wM g) σ 26 [(0, .ref (g.2.1 0)), (1, .int x1), (2, .int x2), (3, .int x3)] [.int y0] := by
  intro σ x1 x2 x3 y0 hf
  unfold f_M_givesBy_26 at hf
  refine V_istore C d_M_givesBy_26 (by decide) rfl ?_
  refine V_aload_n C 1 d_M_givesBy_28 rfl ?_
  refine gM_M_hasLaw (v := σ.1 33) C fl_M_261 rfl d_M_givesBy_29 ?_
  refine V_if_eq (pc := 32) (tgt := 104) C d_M_givesBy_32 (by decide) hf (fun hf => ?_) (fun hf => ?_)
  · refine V.sub [0] rfl ?_
    exact w_M_givesBy_104 C hR σ y0 hf
  · refine V_aload_n C 1 d_M_givesBy_35 rfl ?_
    refine gM_M_facts C fl_M_79 d_M_givesBy_36 ?_
    refine V_iconst (v := 0) C d_M_givesBy_39 (by decide) ?_
    refine V_aload_n C 1 d_M_givesBy_40 rfl ?_
    refine gM_M_dye C fl_M_13 d_M_givesBy_41 ?_
    refine V_iload_n C 2 d_M_givesBy_44 rfl ?_
    obtain ⟨hi45_1, hf⟩ := gu hf
    refine aM_2 (v := σ.2.1 2 x1.toNatClampNeg) C hi45_1 rfl d_M_givesBy_45 ?_
    refine sM_19 C rfl d_M_givesBy_46 ?_
    refine V_aload_n C 1 d_M_givesBy_47 rfl ?_
    refine gM_M_facts C fl_M_79 d_M_givesBy_48 ?_
    refine V_iconst (v := 1) C d_M_givesBy_51 (by decide) ?_
    refine V_iload_n C 3 d_M_givesBy_52 rfl ?_
    refine sM_19 C rfl d_M_givesBy_53 ?_
    refine V_aload_n C 1 d_M_givesBy_54 rfl ?_
    refine gM_M_facts C fl_M_79 d_M_givesBy_55 ?_
    refine V_iconst (v := 2) C d_M_givesBy_58 (by decide) ?_
    refine V_iload_n C 4 d_M_givesBy_59 rfl ?_
    refine sM_19 C rfl d_M_givesBy_60 ?_
    refine V_aload_n C 1 d_M_givesBy_61 rfl ?_
    refine gM_M_facts C fl_M_79 d_M_givesBy_62 ?_
    refine V_iconst (v := 3) C d_M_givesBy_65 (by decide) ?_
    refine V_aload_n C 1 d_M_givesBy_66 rfl ?_
    refine gM_M_colour C fl_M_7 d_M_givesBy_67 ?_
    refine V_iload_n C 2 d_M_givesBy_70 rfl ?_
    obtain ⟨hi71_2, hf⟩ := gu hf
    refine aM_1 (v := σ.2.1 1 x1.toNatClampNeg) C hi71_2 rfl d_M_givesBy_71 ?_
    refine sM_19 C rfl d_M_givesBy_72 ?_
    refine V_aload_n C 1 d_M_givesBy_73 rfl ?_
    refine gM_M_facts C fl_M_79 d_M_givesBy_74 ?_
    refine V_iconst (v := 4) C d_M_givesBy_77 (by decide) ?_
    refine V_aload_n C 1 d_M_givesBy_78 rfl ?_
    refine gM_M_sizeOf C fl_M_22 d_M_givesBy_79 ?_
    refine V_iload_n C 2 d_M_givesBy_82 rfl ?_
    obtain ⟨hi83_3, hf⟩ := gu hf
    refine aM_5 (v := σ.2.1 5 x1.toNatClampNeg) C hi83_3 rfl d_M_givesBy_83 ?_
    refine sM_19 C rfl d_M_givesBy_84 ?_
    refine V_aload_n C 1 d_M_givesBy_85 rfl ?_
    refine gM_M_facts C fl_M_79 d_M_givesBy_86 ?_
    refine V_iconst (v := 5) C d_M_givesBy_89 (by decide) ?_
    refine V_aload_n C 1 d_M_givesBy_90 rfl ?_
    refine gM_M_bears C fl_M_19 d_M_givesBy_91 ?_
    refine V_iload_n C 2 d_M_givesBy_94 rfl ?_
    obtain ⟨hi95_4, hf⟩ := gu hf
    refine aM_4 (v := σ.2.1 4 x1.toNatClampNeg) C hi95_4 rfl d_M_givesBy_95 ?_
    refine sM_19 C rfl d_M_givesBy_96 ?_
    refine V_aload_n C 1 d_M_givesBy_97 rfl ?_
    refine V_iconst (v := 0) C d_M_givesBy_98 (by decide) ?_
    obtain ⟨r99_5, σ99_5, hg, hf⟩ := bd2_of hf
    refine V_callVi C [.int (0 : Int32)] (c_M_givesText C.2.2.2.2.2.2.2.1 hg) (by decide) cw_M_265 0 rfl rfl rfl rfl (Nat.le_of_ble_eq_true rfl) rfl d_M_givesBy_99 ?_
    refine V_istore C d_M_givesBy_102 (by decide) rfl ?_
    refine V.sub [0] rfl ?_
    exact w_M_givesBy_104 C hR σ99_5 r99_5 hf
set_option maxRecDepth 4000 in
theorem w_M_givesBy {E : Ev} {g : Gx} {r : Int32} {σ' : St} (C : Cx E classes 5 (wM g) b_M_givesBy "WithTheRedsModel" 4) (hR : RetI E classes 5 (wM g) b_M_givesBy r σ') {σ : St} {a1 : Int32} {a2 : Int32} {a3 : Int32} (hf : f_M_givesBy σ a1 a2 a3 = some (r, σ')) : V E classes 5 (wM g) σ 0 [(0, .ref (g.2.1 0)), (1, .int a1), (2, .int a2), (3, .int a3)] [] := by
  unfold f_M_givesBy at hf
  refine V_aload_n C 0 d_M_givesBy_0 rfl ?_
  refine gM_M_dye C fl_M_13 d_M_givesBy_1 ?_
  refine V_iload_n C 1 d_M_givesBy_4 rfl ?_
  obtain ⟨hi5_1, hf⟩ := gu hf
  refine aM_2 (v := σ.2.1 2 a1.toNatClampNeg) C hi5_1 rfl d_M_givesBy_5 ?_
  refine V_iload_n C 2 d_M_givesBy_6 rfl ?_
  refine V_icmp_le (pc := 7) (tgt := 25) C d_M_givesBy_7 (by decide) hf (fun hf => ?_) (fun hf => ?_)
  · refine V_iconst (v := 0) C d_M_givesBy_25 (by decide) ?_
    exact w_M_givesBy_26 C hR σ a1 a2 a3 (0 : Int32) hf
  · refine V_aload_n C 0 d_M_givesBy_10 rfl ?_
    refine gM_M_dye C fl_M_13 d_M_givesBy_11 ?_
    refine V_iload_n C 1 d_M_givesBy_14 rfl ?_
    obtain ⟨hi15_2, hf⟩ := gu hf
    refine aM_2 (v := σ.2.1 2 a1.toNatClampNeg) C hi15_2 rfl d_M_givesBy_15 ?_
    refine V_iload_n C 2 d_M_givesBy_16 rfl ?_
    refine V_isub C d_M_givesBy_17 ?_
    refine V_iload_n C 3 d_M_givesBy_18 rfl ?_
    refine V_imul C d_M_givesBy_19 ?_
    refine V_iconst (v := 3) C d_M_givesBy_20 (by decide) ?_
    refine V_idiv C d_M_givesBy_21 (by decide) ?_
    refine V_goto (pc := 22) (tgt := 26) C d_M_givesBy_22 (by decide) ?_
    exact w_M_givesBy_26 C hR σ a1 a2 a3 ((((σ.2.1 2 a1.toNatClampNeg) - a2) * a3) / (3 : Int32)) hf
theorem c_M_givesBy {l : Launch} {g : Gx} (hok : Wok classes (wM g)) {σ : St} {a1 : Int32} {a2 : Int32} {a3 : Int32} {r : Int32} {σ' : St} (hf : f_M_givesBy σ a1 a2 a3 = some (r, σ')) : CtI classes l y_M_givesBy b_M_givesBy 5 (some .int) 4 (wM g) [.ref (g.2.1 0), .int a1, .int a2, .int a3] σ r σ' :=
  MetI (by decide +kernel) hok (Nat.le_of_ble_eq_true rfl) (fun E _ C hR => w_M_givesBy C hR hf)
set_option maxRecDepth 4000 in
theorem w_M_isHeat {E : Ev} {g : Gx} {r : Int32} {σ : St} (C : Cx E classes 1 (wM g) b_M_isHeat "WithTheRedsModel" 2) (hR : RetZ E classes 1 (wM g) b_M_isHeat r σ) {a0 : Int32} (hf : f_M_isHeat a0 = some r) : V E classes 1 (wM g) σ 0 [(0, .int a0)] [] := by
  unfold f_M_isHeat at hf
  refine V_iload_n C 0 d_M_isHeat_0 rfl ?_
  refine V_iconst (v := 3) C d_M_isHeat_1 (by decide) ?_
  refine V_bipush (v := 9) C d_M_isHeat_2 (by decide) ?_
  obtain ⟨r4_1, hg, hf⟩ := bd hf
  refine V_callSi C [.int a0, .int (3 : Int32), .int (9 : Int32)] (c_M_in C.2.2.2.2.2.2.2.1 hg) (by decide) cw_M_153 rfl (Nat.le_of_ble_eq_true rfl) rfl d_M_isHeat_4 ?_
  obtain ⟨hz, hf⟩ := gu hf
  exact V_zret hR hf hz d_M_isHeat_7
theorem c_M_isHeat {l : Launch} {g : Gx} (hok : Wok classes (wM g)) {σ : St} {a0 : Int32} {r : Int32} (hf : f_M_isHeat a0 = some r) : CtI classes l y_M_isHeat b_M_isHeat 1 (some .boolean) 2 (wM g) [.int a0] σ r σ :=
  MetZ (by decide +kernel) hok (Nat.le_of_ble_eq_true rfl) (fun E _ C hR => w_M_isHeat C hR hf)
set_option maxRecDepth 4000 in
theorem w_M_isThing {E : Ev} {g : Gx} {r : Int32} {σ : St} (C : Cx E classes 2 (wM g) b_M_isThing "WithTheRedsModel" 2) (hR : RetZ E classes 2 (wM g) b_M_isThing r σ) {a1 : Int32} (hf : f_M_isThing σ a1 = some r) : V E classes 2 (wM g) σ 0 [(0, .ref (g.2.1 0)), (1, .int a1)] [] := by
  unfold f_M_isThing at hf
  refine V_iload_n C 1 d_M_isThing_0 rfl ?_
  refine V_iconst (v := 0) C d_M_isThing_1 (by decide) ?_
  refine V_aload_n C 0 d_M_isThing_2 rfl ?_
  refine gM_M_things (v := σ.1 1) C fl_M_150 rfl d_M_isThing_3 ?_
  refine V_iconst (v := 1) C d_M_isThing_6 (by decide) ?_
  refine V_isub C d_M_isThing_7 ?_
  obtain ⟨r8_1, hg, hf⟩ := bd hf
  refine V_callSi C [.int a1, .int (0 : Int32), .int ((σ.1 1) - (1 : Int32))] (c_M_in C.2.2.2.2.2.2.2.1 hg) (by decide) cw_M_153 rfl (Nat.le_of_ble_eq_true rfl) rfl d_M_isThing_8 ?_
  obtain ⟨hz, hf⟩ := gu hf
  exact V_zret hR hf hz d_M_isThing_11
theorem c_M_isThing {l : Launch} {g : Gx} (hok : Wok classes (wM g)) {σ : St} {a1 : Int32} {r : Int32} (hf : f_M_isThing σ a1 = some r) : CtI classes l y_M_isThing b_M_isThing 2 (some .boolean) 2 (wM g) [.ref (g.2.1 0), .int a1] σ r σ :=
  MetZ (by decide +kernel) hok (Nat.le_of_ble_eq_true rfl) (fun E _ C hR => w_M_isThing C hR hf)
set_option maxRecDepth 4000 in
theorem w_M_alone_48 {E : Ev} {g : Gx} {r : Int32} {σ' : St} (C : Cx E classes 4 (wM g) b_M_alone "WithTheRedsModel" 5) (hR : RetI E classes 4 (wM g) b_M_alone r σ') : ∀ (σ : St) (x1 : Int32) (x3 : Int32), f_M_alone_48 σ x1 x3 = some (r, σ') → V E classes 4 (wM g) σ 48 [(0, .ref (g.2.1 0)), (1, .int x1), (3, .int x3)] [] := by
  intro σ x1 x3 hf
  unfold f_M_alone_48 at hf
  refine V_iload_n C 2 d_M_alone_48 rfl ?_
  refine V_bipush (v := 99) C d_M_alone_49 (by decide) ?_
  refine V_icmp_le (pc := 51) (tgt := 59) C d_M_alone_51 (by decide) hf (fun hf => ?_) (fun hf => ?_)
  · refine V_iload_n C 2 d_M_alone_59 rfl ?_
    refine V_aload_n C 0 d_M_alone_60 rfl ?_
    refine gM_M_washed C fl_M_16 d_M_alone_61 ?_
    refine V_iload_n C 1 d_M_alone_64 rfl ?_
    obtain ⟨hi65_1, hf⟩ := gu hf
    refine aM_3 (v := σ.2.1 3 x1.toNatClampNeg) C hi65_1 rfl d_M_alone_65 ?_
    refine V_isub C d_M_alone_66 ?_
    exact V_iretW hR hf d_M_alone_67
  · refine V_bipush (v := -2) C d_M_alone_54 (by decide) ?_
    refine V_goto (pc := 56) (tgt := 67) C d_M_alone_56 (by decide) ?_
    exact V_iretW hR hf d_M_alone_67
set_option maxRecDepth 4000 in
theorem w_M_alone_20 {E : Ev} {g : Gx} {r : Int32} {σ' : St} (C : Cx E classes 4 (wM g) b_M_alone "WithTheRedsModel" 5) (hR : RetI E classes 4 (wM g) b_M_alone r σ') : ∀ (n : Nat) (σ : St) (x1 : Int32) (x2 : Int32) (x3 : Int32), f_M_alone_20 n σ x1 x2 x3 = some (r, σ') → V E classes 4 (wM g) σ 20 [(0, .ref (g.2.1 0)), (1, .int x1), (2, .int x2), (3, .int x3)] [] := by
  intro n
  induction n with
  | zero => intro σ x1 x2 x3 hf; exact absurd hf (by unfold f_M_alone_20; exact nofun)
  | succ n ih =>
    intro σ x1 x2 x3 hf
    unfold f_M_alone_20 at hf
    refine V_iload_n C 3 d_M_alone_20 rfl ?_
    refine V_aload_n C 0 d_M_alone_21 rfl ?_
    refine gM_M_washed C fl_M_16 d_M_alone_22 ?_
    refine V_iload_n C 1 d_M_alone_25 rfl ?_
    obtain ⟨hi26_1, hf⟩ := gu hf
    refine aM_3 (v := σ.2.1 3 x1.toNatClampNeg) C hi26_1 rfl d_M_alone_26 ?_
    refine V_icmp_le (pc := 27) (tgt := 48) C d_M_alone_27 (by decide) hf (fun hf => ?_) (fun hf => ?_)
    · refine V.sub [0, 1, 3] rfl ?_
      exact w_M_alone_48 C hR σ x1 x3 hf
    · refine V_aload_n C 0 d_M_alone_30 rfl ?_
      refine V_iload_n C 1 d_M_alone_31 rfl ?_
      refine V_iload_n C 3 d_M_alone_32 rfl ?_
      refine V_iconst (v := 1) C d_M_alone_33 (by decide) ?_
      refine V_isub C d_M_alone_34 ?_
      refine V_iload_n C 2 d_M_alone_35 rfl ?_
      obtain ⟨r36_2, σ36_2, hg, hf⟩ := bd2_of hf
      refine V_callVi C [.int x1, .int (x3 - (1 : Int32)), .int x2] (c_M_givesBy C.2.2.2.2.2.2.2.1 hg) (by decide) cw_M_268 0 rfl rfl rfl rfl (Nat.le_of_ble_eq_true rfl) rfl d_M_alone_36 ?_
      refine V_if_ne (pc := 39) (tgt := 48) C d_M_alone_39 (by decide) hf (fun hf => ?_) (fun hf => ?_)
      · refine V.sub [0, 1, 3] rfl ?_
        exact w_M_alone_48 C hR σ36_2 x1 x3 hf
      · refine V_iinc (v := x3 + (-1 : Int32)) C 3 d_M_alone_42 rfl rfl (by decide) rfl ?_
        refine V_goto (pc := 45) (tgt := 20) C d_M_alone_45 (by decide) ?_
        refine V.sub [1, 2, 3, 0] rfl ?_
        exact ih σ36_2 x1 x2 (x3 + (-1 : Int32)) hf
set_option maxRecDepth 4000 in
theorem w_M_alone {E : Ev} {g : Gx} {r : Int32} {σ' : St} (C : Cx E classes 4 (wM g) b_M_alone "WithTheRedsModel" 5) (hR : RetI E classes 4 (wM g) b_M_alone r σ') {σ : St} {a1 : Int32} {a2 : Int32} (hf : f_M_alone σ a1 a2 = some (r, σ')) : V E classes 4 (wM g) σ 0 [(0, .ref (g.2.1 0)), (1, .int a1), (2, .int a2)] [] := by
  unfold f_M_alone at hf
  refine V_aload_n C 0 d_M_alone_0 rfl ?_
  refine V_iload_n C 1 d_M_alone_1 rfl ?_
  obtain ⟨r2_1, hg, hf⟩ := bd hf
  refine V_callVi C [.int a1] (c_M_isThing C.2.2.2.2.2.2.2.1 hg) (by decide) cw_M_181 0 rfl rfl rfl rfl (Nat.le_of_ble_eq_true rfl) rfl d_M_alone_2 ?_
  refine V_if_eq (pc := 5) (tgt := 15) C d_M_alone_5 (by decide) hf (fun hf => ?_) (fun hf => ?_)
  · refine V_iconst (v := -1) C d_M_alone_15 (by decide) ?_
    exact V_iretW hR hf d_M_alone_16
  · refine V_iload_n C 2 d_M_alone_8 rfl ?_
    obtain ⟨r9_2, hg, hf⟩ := bd hf
    refine V_callSi C [.int a2] (c_M_isHeat C.2.2.2.2.2.2.2.1 hg) (by decide) cw_M_271 rfl (Nat.le_of_ble_eq_true rfl) rfl d_M_alone_9 ?_
    refine V_if_ne (pc := 12) (tgt := 17) C d_M_alone_12 (by decide) hf (fun hf => ?_) (fun hf => ?_)
    · refine V_bipush (v := 100) C d_M_alone_17 (by decide) ?_
      refine V_istore_n C d_M_alone_19 (by decide) rfl ?_
      refine V.sub [1, 2, 3, 0] rfl ?_
      exact w_M_alone_20 C hR FU σ a1 a2 (100 : Int32) hf
    · refine V_iconst (v := -1) C d_M_alone_15 (by decide) ?_
      exact V_iretW hR hf d_M_alone_16
theorem c_M_alone {l : Launch} {g : Gx} (hok : Wok classes (wM g)) {σ : St} {a1 : Int32} {a2 : Int32} {r : Int32} {σ' : St} (hf : f_M_alone σ a1 a2 = some (r, σ')) : CtI classes l y_M_alone b_M_alone 4 (some .int) 5 (wM g) [.ref (g.2.1 0), .int a1, .int a2] σ r σ' :=
  MetI (by decide +kernel) hok (Nat.le_of_ble_eq_true rfl) (fun E _ C hR => w_M_alone C hR hf)
set_option maxRecDepth 4000 in
theorem w_M_areHeat {E : Ev} {g : Gx} {r : Int32} {σ : St} (C : Cx E classes 1 (wM g) b_M_areHeat "WithTheRedsModel" 3) (hR : RetZ E classes 1 (wM g) b_M_areHeat r σ) {a0 : Int32} (hf : f_M_areHeat a0 = some r) : V E classes 1 (wM g) σ 0 [(0, .int a0)] [] := by
  unfold f_M_areHeat at hf
  refine V_iload_n C 0 d_M_areHeat_0 rfl ?_
  refine V_if_lt (pc := 1) (tgt := 26) C d_M_areHeat_1 (by decide) hf (fun hf => ?_) (fun hf => ?_)
  · refine V_iconst (v := 0) C d_M_areHeat_26 (by decide) ?_
    exact V_zret hR hf rfl d_M_areHeat_27
  · refine V_iload_n C 0 d_M_areHeat_4 rfl ?_
    refine V_bipush (v := 10) C d_M_areHeat_5 (by decide) ?_
    refine V_idiv C d_M_areHeat_7 (by decide) ?_
    obtain ⟨r8_1, hg, hf⟩ := bd hf
    refine V_callSi C [.int (a0 / (10 : Int32))] (c_M_isHeat C.2.2.2.2.2.2.2.1 hg) (by decide) cw_M_271 rfl (Nat.le_of_ble_eq_true rfl) rfl d_M_areHeat_8 ?_
    refine V_if_eq (pc := 11) (tgt := 26) C d_M_areHeat_11 (by decide) hf (fun hf => ?_) (fun hf => ?_)
    · refine V_iconst (v := 0) C d_M_areHeat_26 (by decide) ?_
      exact V_zret hR hf rfl d_M_areHeat_27
    · refine V_iload_n C 0 d_M_areHeat_14 rfl ?_
      refine V_bipush (v := 10) C d_M_areHeat_15 (by decide) ?_
      refine V_irem C d_M_areHeat_17 (by decide) ?_
      refine V_iconst (v := 1) C d_M_areHeat_18 (by decide) ?_
      refine V_icmp_gt (pc := 19) (tgt := 26) C d_M_areHeat_19 (by decide) hf (fun hf => ?_) (fun hf => ?_)
      · refine V_iconst (v := 0) C d_M_areHeat_26 (by decide) ?_
        exact V_zret hR hf rfl d_M_areHeat_27
      · refine V_iconst (v := 1) C d_M_areHeat_22 (by decide) ?_
        refine V_goto (pc := 23) (tgt := 27) C d_M_areHeat_23 (by decide) ?_
        exact V_zret hR hf rfl d_M_areHeat_27
theorem c_M_areHeat {l : Launch} {g : Gx} (hok : Wok classes (wM g)) {σ : St} {a0 : Int32} {r : Int32} (hf : f_M_areHeat a0 = some r) : CtI classes l y_M_areHeat b_M_areHeat 1 (some .boolean) 3 (wM g) [.int a0] σ r σ :=
  MetZ (by decide +kernel) hok (Nat.le_of_ble_eq_true rfl) (fun E _ C hR => w_M_areHeat C hR hf)
set_option maxRecDepth 4000 in
theorem w_M_areMost {E : Ev} {g : Gx} {r : Int32} {σ : St} (C : Cx E classes 1 (wM g) b_M_areMost "WithTheRedsModel" 3) (hR : RetZ E classes 1 (wM g) b_M_areMost r σ) {a0 : Int32} (hf : f_M_areMost a0 = some r) : V E classes 1 (wM g) σ 0 [(0, .int a0)] [] := by
  unfold f_M_areMost at hf
  refine V_iload_n C 0 d_M_areMost_0 rfl ?_
  refine V_if_lt (pc := 1) (tgt := 18) C d_M_areMost_1 (by decide) hf (fun hf => ?_) (fun hf => ?_)
  · refine V_iconst (v := 0) C d_M_areMost_18 (by decide) ?_
    exact V_zret hR hf rfl d_M_areMost_19
  · refine V_iload_n C 0 d_M_areMost_4 rfl ?_
    refine V_bipush (v := 100) C d_M_areMost_5 (by decide) ?_
    refine V_idiv C d_M_areMost_7 (by decide) ?_
    obtain ⟨r8_1, hg, hf⟩ := bd hf
    refine V_callSi C [.int (a0 / (100 : Int32))] (c_M_isHeat C.2.2.2.2.2.2.2.1 hg) (by decide) cw_M_271 rfl (Nat.le_of_ble_eq_true rfl) rfl d_M_areMost_8 ?_
    refine V_if_eq (pc := 11) (tgt := 18) C d_M_areMost_11 (by decide) hf (fun hf => ?_) (fun hf => ?_)
    · refine V_iconst (v := 0) C d_M_areMost_18 (by decide) ?_
      exact V_zret hR hf rfl d_M_areMost_19
    · refine V_iconst (v := 1) C d_M_areMost_14 (by decide) ?_
      refine V_goto (pc := 15) (tgt := 19) C d_M_areMost_15 (by decide) ?_
      exact V_zret hR hf rfl d_M_areMost_19
theorem c_M_areMost {l : Launch} {g : Gx} (hok : Wok classes (wM g)) {σ : St} {a0 : Int32} {r : Int32} (hf : f_M_areMost a0 = some r) : CtI classes l y_M_areMost b_M_areMost 1 (some .boolean) 3 (wM g) [.int a0] σ r σ :=
  MetZ (by decide +kernel) hok (Nat.le_of_ble_eq_true rfl) (fun E _ C hR => w_M_areMost C hR hf)
set_option maxRecDepth 4000 in
theorem w_M_goesSo_4 {E : Ev} {g : Gx} {r : Int32} {σ : St} (C : Cx E classes 4 (wM g) b_M_goesSo "WithTheRedsModel" 1) (hR : RetZ E classes 4 (wM g) b_M_goesSo r σ) : ∀ (n : Nat) (x1 : Int32) (x2 : Int32) (x3 : Int32), f_M_goesSo_4 n σ x1 x2 x3 = some r → V E classes 4 (wM g) σ 4 [(0, .ref (g.2.1 0)), (1, .int x1), (2, .int x2), (3, .int x3)] [] := by
  intro n
  induction n with
  | zero => intro x1 x2 x3 hf; exact absurd hf (by unfold f_M_goesSo_4; exact nofun)
  | succ n ih =>
    intro x1 x2 x3 hf
    unfold f_M_goesSo_4 at hf
    refine V_iload_n C 3 d_M_goesSo_4 rfl ?_
    refine V_aload_n C 0 d_M_goesSo_5 rfl ?_
    refine gM_M_things (v := σ.1 1) C fl_M_150 rfl d_M_goesSo_6 ?_
    refine V_icmp_ge (pc := 9) (tgt := 49) C d_M_goesSo_9 (by decide) hf (fun hf => ?_) (fun hf => ?_)
    · refine V_iload_n C 2 d_M_goesSo_49 rfl ?_
      refine V_aload_n C 0 d_M_goesSo_50 rfl ?_
      refine gM_M_drum (v := σ.1 10) C fl_M_34 rfl d_M_goesSo_51 ?_
      refine V_icmp_gt (pc := 54) (tgt := 61) C d_M_goesSo_54 (by decide) hf (fun hf => ?_) (fun hf => ?_)
      · refine V_iconst (v := 0) C d_M_goesSo_61 (by decide) ?_
        exact V_zret hR hf rfl d_M_goesSo_62
      · refine V_iconst (v := 1) C d_M_goesSo_57 (by decide) ?_
        refine V_goto (pc := 58) (tgt := 62) C d_M_goesSo_58 (by decide) ?_
        exact V_zret hR hf rfl d_M_goesSo_62
    · refine V_iload_n C 1 d_M_goesSo_12 rfl ?_
      refine V_iload_n C 3 d_M_goesSo_13 rfl ?_
      refine V_ishr C d_M_goesSo_14 ?_
      refine V_iconst (v := 1) C d_M_goesSo_15 (by decide) ?_
      refine V_iand C d_M_goesSo_16 ?_
      refine V_if_ne (pc := 17) (tgt := 23) C d_M_goesSo_17 (by decide) hf (fun hf => ?_) (fun hf => ?_)
      · refine V_aload_n C 0 d_M_goesSo_23 rfl ?_
        refine gM_M_away C fl_M_109 d_M_goesSo_24 ?_
        refine V_iload_n C 3 d_M_goesSo_27 rfl ?_
        obtain ⟨hi28_1, hf⟩ := gu hf
        refine aM_29 (v := σ.2.1 29 x3.toNatClampNeg) C hi28_1 rfl d_M_goesSo_28 ?_
        refine V_if_eq (pc := 29) (tgt := 34) C d_M_goesSo_29 (by decide) hf (fun hf => ?_) (fun hf => ?_)
        · refine V_iload_n C 2 d_M_goesSo_34 rfl ?_
          refine V_aload_n C 0 d_M_goesSo_35 rfl ?_
          refine gM_M_sizeOf C fl_M_22 d_M_goesSo_36 ?_
          refine V_iload_n C 3 d_M_goesSo_39 rfl ?_
          obtain ⟨hi40_2, hf⟩ := gu hf
          refine aM_5 (v := σ.2.1 5 x3.toNatClampNeg) C hi40_2 rfl d_M_goesSo_40 ?_
          refine V_iadd C d_M_goesSo_41 ?_
          refine V_istore_n C d_M_goesSo_42 (by decide) rfl ?_
          refine V_iinc (v := x3 + (1 : Int32)) C 3 d_M_goesSo_43 rfl rfl (by decide) rfl ?_
          refine V_goto (pc := 46) (tgt := 4) C d_M_goesSo_46 (by decide) ?_
          refine V.sub [2, 3, 1, 0] rfl ?_
          exact ih x1 (x2 + (σ.2.1 5 x3.toNatClampNeg)) (x3 + (1 : Int32)) hf
        · refine V_iconst (v := 0) C d_M_goesSo_32 (by decide) ?_
          exact V_zret hR hf rfl d_M_goesSo_33
      · refine V_goto (pc := 20) (tgt := 43) C d_M_goesSo_20 (by decide) ?_
        refine V_iinc (v := x3 + (1 : Int32)) C 3 d_M_goesSo_43 rfl rfl (by decide) rfl ?_
        refine V_goto (pc := 46) (tgt := 4) C d_M_goesSo_46 (by decide) ?_
        refine V.sub [1, 2, 3, 0] rfl ?_
        exact ih x1 x2 (x3 + (1 : Int32)) hf
set_option maxRecDepth 4000 in
theorem w_M_goesSo {E : Ev} {g : Gx} {r : Int32} {σ : St} (C : Cx E classes 4 (wM g) b_M_goesSo "WithTheRedsModel" 1) (hR : RetZ E classes 4 (wM g) b_M_goesSo r σ) {a1 : Int32} (hf : f_M_goesSo σ a1 = some r) : V E classes 4 (wM g) σ 0 [(0, .ref (g.2.1 0)), (1, .int a1)] [] := by
  unfold f_M_goesSo at hf
  refine V_iconst (v := 0) C d_M_goesSo_0 (by decide) ?_
  refine V_istore_n C d_M_goesSo_1 (by decide) rfl ?_
  refine V_iconst (v := 0) C d_M_goesSo_2 (by decide) ?_
  refine V_istore_n C d_M_goesSo_3 (by decide) rfl ?_
  refine V.sub [2, 3, 1, 0] rfl ?_
  exact w_M_goesSo_4 C hR FU a1 (0 : Int32) (0 : Int32) hf
theorem c_M_goesSo {l : Launch} {g : Gx} (hok : Wok classes (wM g)) {σ : St} {a1 : Int32} {r : Int32} (hf : f_M_goesSo σ a1 = some r) : CtI classes l y_M_goesSo b_M_goesSo 4 (some .boolean) 1 (wM g) [.ref (g.2.1 0), .int a1] σ r σ :=
  MetZ (by decide +kernel) hok (Nat.le_of_ble_eq_true rfl) (fun E _ C hR => w_M_goesSo C hR hf)
set_option maxRecDepth 4000 in
theorem w_M_dyeOf {E : Ev} {g : Gx} {r : Int32} {σ' : St} (C : Cx E classes 3 (wM g) b_M_dyeOf "WithTheRedsModel" 5) (hR : RetI E classes 3 (wM g) b_M_dyeOf r σ') {σ : St} {a1 : Int32} {a2 : Int32} (hf : f_M_dyeOf σ a1 a2 = some (r, σ')) : V E classes 3 (wM g) σ 0 [(0, .ref (g.2.1 0)), (1, .int a1), (2, .int a2)] [] := by
  unfold f_M_dyeOf at hf
  refine V_aload_n C 0 d_M_dyeOf_0 rfl ?_
  refine V_iload_n C 1 d_M_dyeOf_1 rfl ?_
  refine V_aload_n C 0 d_M_dyeOf_2 rfl ?_
  refine gM_M_washed C fl_M_16 d_M_dyeOf_3 ?_
  refine V_iload_n C 1 d_M_dyeOf_6 rfl ?_
  obtain ⟨hi7_1, hf⟩ := gu hf
  refine aM_3 (v := σ.2.1 3 a1.toNatClampNeg) C hi7_1 rfl d_M_dyeOf_7 ?_
  refine V_iload_n C 2 d_M_dyeOf_8 rfl ?_
  obtain ⟨r9_2, σ9_2, hg, hf⟩ := bd2_of hf
  refine V_callVi C [.int a1, .int (σ.2.1 3 a1.toNatClampNeg), .int a2] (c_M_givesBy C.2.2.2.2.2.2.2.1 hg) (by decide) cw_M_268 0 rfl rfl rfl rfl (Nat.le_of_ble_eq_true rfl) rfl d_M_dyeOf_9 ?_
  exact V_iretW hR hf d_M_dyeOf_12
theorem c_M_dyeOf {l : Launch} {g : Gx} (hok : Wok classes (wM g)) {σ : St} {a1 : Int32} {a2 : Int32} {r : Int32} {σ' : St} (hf : f_M_dyeOf σ a1 a2 = some (r, σ')) : CtI classes l y_M_dyeOf b_M_dyeOf 3 (some .int) 5 (wM g) [.ref (g.2.1 0), .int a1, .int a2] σ r σ' :=
  MetI (by decide +kernel) hok (Nat.le_of_ble_eq_true rfl) (fun E _ C hR => w_M_dyeOf C hR hf)
set_option maxRecDepth 4000 in
theorem w_M_loose_7 {E : Ev} {g : Gx} {r : Int32} {σ' : St} (C : Cx E classes 6 (wM g) b_M_loose "WithTheRedsModel" 6) (hR : RetI E classes 6 (wM g) b_M_loose r σ') : ∀ (n : Nat) (σ : St) (x1 : Int32) (x2 : Int32) (x4 : Int32) (x5 : Int32), f_M_loose_7 n σ x1 x2 x4 x5 = some (r, σ') → V E classes 6 (wM g) σ 7 [(0, .ref (g.2.1 0)), (1, .int x1), (2, .int x2), (4, .int x4), (5, .int x5)] [] := by
  intro n
  induction n with
  | zero => intro σ x1 x2 x4 x5 hf; exact absurd hf (by unfold f_M_loose_7; exact nofun)
  | succ n ih =>
    intro σ x1 x2 x4 x5 hf
    unfold f_M_loose_7 at hf
    refine V_iload C 4 d_M_loose_7 rfl ?_
    refine V_aload_n C 0 d_M_loose_9 rfl ?_
    refine gM_M_things (v := σ.1 1) C fl_M_150 rfl d_M_loose_10 ?_
    refine V_icmp_ge (pc := 13) (tgt := 44) C d_M_loose_13 (by decide) hf (fun hf => ?_) (fun hf => ?_)
    · refine V_iload C 3 d_M_loose_44 rfl ?_
      refine V_if_ge (pc := 46) (tgt := 53) C d_M_loose_46 (by decide) hf (fun hf => ?_) (fun hf => ?_)
      · refine V_iload C 3 d_M_loose_53 rfl ?_
        exact V_iretW hR hf d_M_loose_55
      · refine V_iconst (v := 0) C d_M_loose_49 (by decide) ?_
        refine V_goto (pc := 50) (tgt := 55) C d_M_loose_50 (by decide) ?_
        exact V_iretW hR hf d_M_loose_55
    · refine V_iload_n C 1 d_M_loose_16 rfl ?_
      refine V_iload C 4 d_M_loose_17 rfl ?_
      refine V_ishr C d_M_loose_19 ?_
      refine V_iconst (v := 1) C d_M_loose_20 (by decide) ?_
      refine V_iand C d_M_loose_21 ?_
      refine V_iconst (v := 1) C d_M_loose_22 (by decide) ?_
      refine V_icmp_ne (pc := 23) (tgt := 38) C d_M_loose_23 (by decide) hf (fun hf => ?_) (fun hf => ?_)
      · refine V_iinc (v := x5 + (1 : Int32)) C 4 d_M_loose_38 rfl rfl (by decide) rfl ?_
        refine V_goto (pc := 41) (tgt := 7) C d_M_loose_41 (by decide) ?_
        refine V.sub [1, 2, 3, 4, 0] rfl ?_
        exact ih σ x1 x2 x4 (x5 + (1 : Int32)) hf
      · refine V_iload C 3 d_M_loose_26 rfl ?_
        refine V_aload_n C 0 d_M_loose_28 rfl ?_
        refine V_iload C 4 d_M_loose_29 rfl ?_
        refine V_iload_n C 2 d_M_loose_31 rfl ?_
        obtain ⟨r32_1, σ32_1, hg, hf⟩ := bd2_of hf
        refine V_callVi C [.int x5, .int x2] (c_M_dyeOf C.2.2.2.2.2.2.2.1 hg) (by decide) cw_M_274 0 rfl rfl rfl rfl (Nat.le_of_ble_eq_true rfl) rfl d_M_loose_32 ?_
        refine V_iadd C d_M_loose_35 ?_
        refine V_istore C d_M_loose_36 (by decide) rfl ?_
        refine V_iinc (v := x5 + (1 : Int32)) C 4 d_M_loose_38 rfl rfl (by decide) rfl ?_
        refine V_goto (pc := 41) (tgt := 7) C d_M_loose_41 (by decide) ?_
        refine V.sub [2, 3, 4, 1, 0] rfl ?_
        exact ih σ32_1 x1 x2 (x4 + r32_1) (x5 + (1 : Int32)) hf
set_option maxRecDepth 4000 in
theorem w_M_loose {E : Ev} {g : Gx} {r : Int32} {σ' : St} (C : Cx E classes 6 (wM g) b_M_loose "WithTheRedsModel" 6) (hR : RetI E classes 6 (wM g) b_M_loose r σ') {σ : St} {a1 : Int32} {a2 : Int32} {a3 : Int32} (hf : f_M_loose σ a1 a2 a3 = some (r, σ')) : V E classes 6 (wM g) σ 0 [(0, .ref (g.2.1 0)), (1, .int a1), (2, .int a2), (3, .int a3)] [] := by
  unfold f_M_loose at hf
  refine V_iload_n C 3 d_M_loose_0 rfl ?_
  refine V_ineg C d_M_loose_1 ?_
  refine V_istore C d_M_loose_2 (by decide) rfl ?_
  refine V_iconst (v := 0) C d_M_loose_4 (by decide) ?_
  refine V_istore C d_M_loose_5 (by decide) rfl ?_
  refine V.sub [2, 3, 4, 1, 0] rfl ?_
  exact w_M_loose_7 C hR FU σ a1 a2 (-a3) (0 : Int32) hf
theorem c_M_loose {l : Launch} {g : Gx} (hok : Wok classes (wM g)) {σ : St} {a1 : Int32} {a2 : Int32} {a3 : Int32} {r : Int32} {σ' : St} (hf : f_M_loose σ a1 a2 a3 = some (r, σ')) : CtI classes l y_M_loose b_M_loose 6 (some .int) 6 (wM g) [.ref (g.2.1 0), .int a1, .int a2, .int a3] σ r σ' :=
  MetI (by decide +kernel) hok (Nat.le_of_ble_eq_true rfl) (fun E _ C hR => w_M_loose C hR hf)
set_option maxRecDepth 4000 in
theorem w_M_spoilt_5 {E : Ev} {g : Gx} {r : Int32} {σ : St} (C : Cx E classes 5 (wM g) b_M_spoilt "WithTheRedsModel" 1) (hR : RetI E classes 5 (wM g) b_M_spoilt r σ) : ∀ (n : Nat) (x1 : Int32) (x2 : Int32) (x3 : Int32) (x4 : Int32), f_M_spoilt_5 n σ x1 x2 x3 x4 = some r → V E classes 5 (wM g) σ 5 [(0, .ref (g.2.1 0)), (1, .int x1), (2, .int x2), (3, .int x3), (4, .int x4)] [] := by
  intro n
  induction n with
  | zero => intro x1 x2 x3 x4 hf; exact absurd hf (by unfold f_M_spoilt_5; exact nofun)
  | succ n ih =>
    intro x1 x2 x3 x4 hf
    unfold f_M_spoilt_5 at hf
    refine V_iload C 4 d_M_spoilt_5 rfl ?_
    refine V_aload_n C 0 d_M_spoilt_7 rfl ?_
    refine gM_M_things (v := σ.1 1) C fl_M_150 rfl d_M_spoilt_8 ?_
    refine V_icmp_ge (pc := 11) (tgt := 48) C d_M_spoilt_11 (by decide) hf (fun hf => ?_) (fun hf => ?_)
    · refine V_iload_n C 3 d_M_spoilt_48 rfl ?_
      exact V_iret hR hf d_M_spoilt_49
    · refine V_iload_n C 1 d_M_spoilt_14 rfl ?_
      refine V_iload C 4 d_M_spoilt_15 rfl ?_
      refine V_ishr C d_M_spoilt_17 ?_
      refine V_iconst (v := 1) C d_M_spoilt_18 (by decide) ?_
      refine V_iand C d_M_spoilt_19 ?_
      refine V_iconst (v := 1) C d_M_spoilt_20 (by decide) ?_
      refine V_icmp_ne (pc := 21) (tgt := 42) C d_M_spoilt_21 (by decide) hf (fun hf => ?_) (fun hf => ?_)
      · refine V_iinc (v := x4 + (1 : Int32)) C 4 d_M_spoilt_42 rfl rfl (by decide) rfl ?_
        refine V_goto (pc := 45) (tgt := 5) C d_M_spoilt_45 (by decide) ?_
        refine V.sub [1, 2, 3, 4, 0] rfl ?_
        exact ih x1 x2 x3 (x4 + (1 : Int32)) hf
      · refine V_aload_n C 0 d_M_spoilt_24 rfl ?_
        refine gM_M_bears C fl_M_19 d_M_spoilt_25 ?_
        refine V_iload C 4 d_M_spoilt_28 rfl ?_
        obtain ⟨hi30_1, hf⟩ := gu hf
        refine aM_4 (v := σ.2.1 4 x4.toNatClampNeg) C hi30_1 rfl d_M_spoilt_30 ?_
        refine V_iload_n C 2 d_M_spoilt_31 rfl ?_
        refine V_icmp_ge (pc := 32) (tgt := 42) C d_M_spoilt_32 (by decide) hf (fun hf => ?_) (fun hf => ?_)
        · refine V_iinc (v := x4 + (1 : Int32)) C 4 d_M_spoilt_42 rfl rfl (by decide) rfl ?_
          refine V_goto (pc := 45) (tgt := 5) C d_M_spoilt_45 (by decide) ?_
          refine V.sub [1, 2, 3, 4, 0] rfl ?_
          exact ih x1 x2 x3 (x4 + (1 : Int32)) hf
        · refine V_iload_n C 3 d_M_spoilt_35 rfl ?_
          refine V_iconst (v := 1) C d_M_spoilt_36 (by decide) ?_
          refine V_iload C 4 d_M_spoilt_37 rfl ?_
          refine V_ishl C d_M_spoilt_39 ?_
          refine V_ior C d_M_spoilt_40 ?_
          refine V_istore_n C d_M_spoilt_41 (by decide) rfl ?_
          refine V_iinc (v := x4 + (1 : Int32)) C 4 d_M_spoilt_42 rfl rfl (by decide) rfl ?_
          refine V_goto (pc := 45) (tgt := 5) C d_M_spoilt_45 (by decide) ?_
          refine V.sub [2, 3, 4, 1, 0] rfl ?_
          exact ih x1 x2 (x3 ||| ((1 : Int32) <<< (x4 &&& 31))) (x4 + (1 : Int32)) hf
set_option maxRecDepth 4000 in
theorem w_M_spoilt {E : Ev} {g : Gx} {r : Int32} {σ : St} (C : Cx E classes 5 (wM g) b_M_spoilt "WithTheRedsModel" 1) (hR : RetI E classes 5 (wM g) b_M_spoilt r σ) {a1 : Int32} {a2 : Int32} (hf : f_M_spoilt σ a1 a2 = some r) : V E classes 5 (wM g) σ 0 [(0, .ref (g.2.1 0)), (1, .int a1), (2, .int a2)] [] := by
  unfold f_M_spoilt at hf
  refine V_iconst (v := 0) C d_M_spoilt_0 (by decide) ?_
  refine V_istore_n C d_M_spoilt_1 (by decide) rfl ?_
  refine V_iconst (v := 0) C d_M_spoilt_2 (by decide) ?_
  refine V_istore C d_M_spoilt_3 (by decide) rfl ?_
  refine V.sub [2, 3, 4, 1, 0] rfl ?_
  exact w_M_spoilt_5 C hR FU a1 a2 (0 : Int32) (0 : Int32) hf
theorem c_M_spoilt {l : Launch} {g : Gx} (hok : Wok classes (wM g)) {σ : St} {a1 : Int32} {a2 : Int32} {r : Int32} (hf : f_M_spoilt σ a1 a2 = some r) : CtI classes l y_M_spoilt b_M_spoilt 5 (some .int) 1 (wM g) [.ref (g.2.1 0), .int a1, .int a2] σ r σ :=
  MetI (by decide +kernel) hok (Nat.le_of_ble_eq_true rfl) (fun E _ C hR => w_M_spoilt C hR hf)
set_option maxRecDepth 4000 in
theorem w_M_tinted {E : Ev} {g : Gx} {r : Int32} {σ' : St} (C : Cx E classes 5 (wM g) b_M_tinted "WithTheRedsModel" 6) (hR : RetI E classes 5 (wM g) b_M_tinted r σ') {σ : St} {a1 : Int32} {a2 : Int32} {a3 : Int32} (hf : f_M_tinted σ a1 a2 a3 = some (r, σ')) : V E classes 5 (wM g) σ 0 [(0, .ref (g.2.1 0)), (1, .int a1), (2, .int a2), (3, .int a3)] [] := by
  unfold f_M_tinted at hf
  refine V_iload_n C 2 d_M_tinted_0 rfl ?_
  refine V_aload_n C 0 d_M_tinted_1 rfl ?_
  refine V_iload_n C 1 d_M_tinted_2 rfl ?_
  refine V_iload_n C 3 d_M_tinted_3 rfl ?_
  obtain ⟨r4_1, σ4_1, hg, hf⟩ := bd2_of hf
  refine V_callVi C [.int a1, .int a3] (c_M_dyeOf C.2.2.2.2.2.2.2.1 hg) (by decide) cw_M_274 0 rfl rfl rfl rfl (Nat.le_of_ble_eq_true rfl) rfl d_M_tinted_4 ?_
  refine V_isub C d_M_tinted_7 ?_
  refine V_istore C d_M_tinted_8 (by decide) rfl ?_
  refine V_iload C 0 d_M_tinted_10 rfl ?_
  refine V_if_lt (pc := 12) (tgt := 25) C d_M_tinted_12 (by decide) hf (fun hf => ?_) (fun hf => ?_)
  · refine V_iconst (v := 0) C d_M_tinted_25 (by decide) ?_
    exact V_iretW hR hf d_M_tinted_26
  · refine V_aload_n C 1 d_M_tinted_15 rfl ?_
    refine gM_M_colour C fl_M_7 d_M_tinted_16 ?_
    refine V_iload_n C 2 d_M_tinted_19 rfl ?_
    obtain ⟨hi20_2, hf⟩ := gu hf
    refine aM_1 (v := σ4_1.2.1 1 a1.toNatClampNeg) C hi20_2 rfl d_M_tinted_20 ?_
    refine V_iconst (v := 3) C d_M_tinted_21 (by decide) ?_
    refine V_icmp_ne (pc := 22) (tgt := 27) C d_M_tinted_22 (by decide) hf (fun hf => ?_) (fun hf => ?_)
    · refine V_aload_n C 1 d_M_tinted_27 rfl ?_
      refine gM_M_colour C fl_M_7 d_M_tinted_28 ?_
      refine V_iload_n C 2 d_M_tinted_31 rfl ?_
      obtain ⟨hi32_3, hf⟩ := gu hf
      refine aM_1 (v := σ4_1.2.1 1 a1.toNatClampNeg) C hi32_3 rfl d_M_tinted_32 ?_
      refine V_if_ne (pc := 33) (tgt := 41) C d_M_tinted_33 (by decide) hf (fun hf => ?_) (fun hf => ?_)
      · refine V_aload_n C 1 d_M_tinted_41 rfl ?_
        refine gM_M_colour C fl_M_7 d_M_tinted_42 ?_
        refine V_iload_n C 2 d_M_tinted_45 rfl ?_
        obtain ⟨hi46_4, hf⟩ := gu hf
        refine aM_1 (v := σ4_1.2.1 1 a1.toNatClampNeg) C hi46_4 rfl d_M_tinted_46 ?_
        refine V_iconst (v := 1) C d_M_tinted_47 (by decide) ?_
        refine V_icmp_ne (pc := 48) (tgt := 58) C d_M_tinted_48 (by decide) hf (fun hf => ?_) (fun hf => ?_)
        · refine V_iload C 0 d_M_tinted_58 rfl ?_
          refine V_bipush (v := 10) C d_M_tinted_60 (by decide) ?_
          refine V_idiv C d_M_tinted_62 (by decide) ?_
          exact V_iretW hR hf d_M_tinted_63
        · refine V_iload C 0 d_M_tinted_51 rfl ?_
          refine V_iconst (v := 2) C d_M_tinted_53 (by decide) ?_
          refine V_idiv C d_M_tinted_54 (by decide) ?_
          refine V_goto (pc := 55) (tgt := 63) C d_M_tinted_55 (by decide) ?_
          exact V_iretW hR hf d_M_tinted_63
      · refine V_iload C 0 d_M_tinted_36 rfl ?_
        refine V_goto (pc := 38) (tgt := 63) C d_M_tinted_38 (by decide) ?_
        exact V_iretW hR hf d_M_tinted_63
    · refine V_iconst (v := 0) C d_M_tinted_25 (by decide) ?_
      exact V_iretW hR hf d_M_tinted_26
theorem c_M_tinted {l : Launch} {g : Gx} (hok : Wok classes (wM g)) {σ : St} {a1 : Int32} {a2 : Int32} {a3 : Int32} {r : Int32} {σ' : St} (hf : f_M_tinted σ a1 a2 a3 = some (r, σ')) : CtI classes l y_M_tinted b_M_tinted 5 (some .int) 6 (wM g) [.ref (g.2.1 0), .int a1, .int a2, .int a3] σ r σ' :=
  MetI (by decide +kernel) hok (Nat.le_of_ble_eq_true rfl) (fun E _ C hR => w_M_tinted C hR hf)
set_option maxRecDepth 4000 in
theorem w_M_isSafe_31 {E : Ev} {g : Gx} {r : Int32} {σ' : St} (C : Cx E classes 7 (wM g) b_M_isSafe "WithTheRedsModel" 7) (hR : RetZ E classes 7 (wM g) b_M_isSafe r σ') : ∀ (n : Nat) (σ : St) (x1 : Int32) (x2 : Int32) (x4 : Int32) (x5 : Int32) (x6 : Int32), f_M_isSafe_31 n σ x1 x2 x4 x5 x6 = some (r, σ') → V E classes 7 (wM g) σ 31 [(0, .ref (g.2.1 0)), (1, .int x1), (2, .int x2), (4, .int x4), (5, .int x5), (6, .int x6)] [] := by
  intro n
  induction n with
  | zero => intro σ x1 x2 x4 x5 x6 hf; exact absurd hf (by unfold f_M_isSafe_31; exact nofun)
  | succ n ih =>
    intro σ x1 x2 x4 x5 x6 hf
    unfold f_M_isSafe_31 at hf
    refine V_iload C 5 d_M_isSafe_31 rfl ?_
    refine V_aload_n C 0 d_M_isSafe_33 rfl ?_
    refine gM_M_things (v := σ.1 1) C fl_M_150 rfl d_M_isSafe_34 ?_
    refine V_icmp_ge (pc := 37) (tgt := 72) C d_M_isSafe_37 (by decide) hf (fun hf => ?_) (fun hf => ?_)
    · refine V_iconst (v := 1) C d_M_isSafe_72 (by decide) ?_
      exact V_zretW hR hf rfl d_M_isSafe_73
    · refine V_iload_n C 1 d_M_isSafe_40 rfl ?_
      refine V_iload C 5 d_M_isSafe_41 rfl ?_
      refine V_ishr C d_M_isSafe_43 ?_
      refine V_iconst (v := 1) C d_M_isSafe_44 (by decide) ?_
      refine V_iand C d_M_isSafe_45 ?_
      refine V_iconst (v := 1) C d_M_isSafe_46 (by decide) ?_
      refine V_icmp_ne (pc := 47) (tgt := 66) C d_M_isSafe_47 (by decide) hf (fun hf => ?_) (fun hf => ?_)
      · refine V_iinc (v := x6 + (1 : Int32)) C 5 d_M_isSafe_66 rfl rfl (by decide) rfl ?_
        refine V_goto (pc := 69) (tgt := 31) C d_M_isSafe_69 (by decide) ?_
        refine V.sub [1, 2, 3, 4, 5, 0] rfl ?_
        exact ih σ x1 x2 x4 x5 (x6 + (1 : Int32)) hf
      · refine V_aload_n C 0 d_M_isSafe_50 rfl ?_
        refine V_iload C 5 d_M_isSafe_51 rfl ?_
        refine V_iload C 4 d_M_isSafe_53 rfl ?_
        refine V_iload_n C 2 d_M_isSafe_55 rfl ?_
        obtain ⟨r56_1, σ56_1, hg, hf⟩ := bd2_of hf
        refine V_callVi C [.int x6, .int x5, .int x2] (c_M_tinted C.2.2.2.2.2.2.2.1 hg) (by decide) cw_M_280 0 rfl rfl rfl rfl (Nat.le_of_ble_eq_true rfl) rfl d_M_isSafe_56 ?_
        refine V_iload C 3 d_M_isSafe_59 rfl ?_
        refine V_icmp_le (pc := 61) (tgt := 66) C d_M_isSafe_61 (by decide) hf (fun hf => ?_) (fun hf => ?_)
        · refine V_iinc (v := x6 + (1 : Int32)) C 5 d_M_isSafe_66 rfl rfl (by decide) rfl ?_
          refine V_goto (pc := 69) (tgt := 31) C d_M_isSafe_69 (by decide) ?_
          refine V.sub [1, 2, 3, 4, 5, 0] rfl ?_
          exact ih σ56_1 x1 x2 x4 x5 (x6 + (1 : Int32)) hf
        · refine V_iconst (v := 0) C d_M_isSafe_64 (by decide) ?_
          exact V_zretW hR hf rfl d_M_isSafe_65
set_option maxRecDepth 4000 in
theorem w_M_isSafe {E : Ev} {g : Gx} {r : Int32} {σ' : St} (C : Cx E classes 7 (wM g) b_M_isSafe "WithTheRedsModel" 7) (hR : RetZ E classes 7 (wM g) b_M_isSafe r σ') {σ : St} {a1 : Int32} {a2 : Int32} {a3 : Int32} {a4 : Int32} (hf : f_M_isSafe σ a1 a2 a3 a4 = some (r, σ')) : V E classes 7 (wM g) σ 0 [(0, .ref (g.2.1 0)), (1, .int a1), (2, .int a2), (3, .int a3), (4, .int a4)] [] := by
  unfold f_M_isSafe at hf
  refine V_aload_n C 0 d_M_isSafe_0 rfl ?_
  refine V_iload_n C 1 d_M_isSafe_1 rfl ?_
  obtain ⟨r2_1, hg, hf⟩ := bd hf
  refine V_callVi C [.int a1] (c_M_goesSo C.2.2.2.2.2.2.2.1 hg) (by decide) cw_M_283 0 rfl rfl rfl rfl (Nat.le_of_ble_eq_true rfl) rfl d_M_isSafe_2 ?_
  refine V_if_eq (pc := 5) (tgt := 17) C d_M_isSafe_5 (by decide) hf (fun hf => ?_) (fun hf => ?_)
  · refine V_iconst (v := 0) C d_M_isSafe_17 (by decide) ?_
    exact V_zretW hR hf rfl d_M_isSafe_18
  · refine V_aload_n C 0 d_M_isSafe_8 rfl ?_
    refine V_iload_n C 1 d_M_isSafe_9 rfl ?_
    refine V_iload_n C 2 d_M_isSafe_10 rfl ?_
    obtain ⟨r11_2, hg, hf⟩ := bd hf
    refine V_callVi C [.int a1, .int a2] (c_M_spoilt C.2.2.2.2.2.2.2.1 hg) (by decide) cw_M_286 0 rfl rfl rfl rfl (Nat.le_of_ble_eq_true rfl) rfl d_M_isSafe_11 ?_
    refine V_if_eq (pc := 14) (tgt := 19) C d_M_isSafe_14 (by decide) hf (fun hf => ?_) (fun hf => ?_)
    · refine V_aload_n C 0 d_M_isSafe_19 rfl ?_
      refine V_iload_n C 1 d_M_isSafe_20 rfl ?_
      refine V_iload_n C 2 d_M_isSafe_21 rfl ?_
      refine V_iload_n C 3 d_M_isSafe_22 rfl ?_
      obtain ⟨r23_3, σ23_3, hg, hf⟩ := bd2_of hf
      refine V_callVi C [.int a1, .int a2, .int a3] (c_M_loose C.2.2.2.2.2.2.2.1 hg) (by decide) cw_M_277 0 rfl rfl rfl rfl (Nat.le_of_ble_eq_true rfl) rfl d_M_isSafe_23 ?_
      refine V_istore C d_M_isSafe_26 (by decide) rfl ?_
      refine V_iconst (v := 0) C d_M_isSafe_28 (by decide) ?_
      refine V_istore C d_M_isSafe_29 (by decide) rfl ?_
      refine V.sub [2, 3, 4, 6, 1, 0] rfl ?_
      exact w_M_isSafe_31 C hR FU σ23_3 a1 a2 a4 r23_3 (0 : Int32) hf
    · refine V_iconst (v := 0) C d_M_isSafe_17 (by decide) ?_
      exact V_zretW hR hf rfl d_M_isSafe_18
theorem c_M_isSafe {l : Launch} {g : Gx} (hok : Wok classes (wM g)) {σ : St} {a1 : Int32} {a2 : Int32} {a3 : Int32} {a4 : Int32} {r : Int32} {σ' : St} (hf : f_M_isSafe σ a1 a2 a3 a4 = some (r, σ')) : CtI classes l y_M_isSafe b_M_isSafe 7 (some .boolean) 7 (wM g) [.ref (g.2.1 0), .int a1, .int a2, .int a3, .int a4] σ r σ' :=
  MetZ (by decide +kernel) hok (Nat.le_of_ble_eq_true rfl) (fun E _ C hR => w_M_isSafe C hR hf)
set_option maxRecDepth 4000 in
theorem w_M_areSafe_2 {E : Ev} {g : Gx} {r : Int32} {σ' : St} (C : Cx E classes 4 (wM g) b_M_areSafe "WithTheRedsModel" 8) (hR : RetZ E classes 4 (wM g) b_M_areSafe r σ') : ∀ (n : Nat) (σ : St) (x1 : Int32) (x2 : Int32) (x3 : Int32), f_M_areSafe_2 n σ x1 x2 x3 = some (r, σ') → V E classes 4 (wM g) σ 2 [(0, .ref (g.2.1 0)), (1, .int x1), (2, .int x2), (3, .int x3)] [] := by
  intro n
  induction n with
  | zero => intro σ x1 x2 x3 hf; exact absurd hf (by unfold f_M_areSafe_2; exact nofun)
  | succ n ih =>
    intro σ x1 x2 x3 hf
    unfold f_M_areSafe_2 at hf
    refine V_iload_n C 3 d_M_areSafe_2 rfl ?_
    refine V_iload_n C 1 d_M_areSafe_3 rfl ?_
    refine V_icmp_ge (pc := 4) (tgt := 37) C d_M_areSafe_4 (by decide) hf (fun hf => ?_) (fun hf => ?_)
    · refine V_iconst (v := 1) C d_M_areSafe_37 (by decide) ?_
      exact V_zretW hR hf rfl d_M_areSafe_38
    · refine V_aload_n C 0 d_M_areSafe_7 rfl ?_
      refine V_aload_n C 0 d_M_areSafe_8 rfl ?_
      refine gM_M_heap C fl_M_85 d_M_areSafe_9 ?_
      refine V_iload_n C 3 d_M_areSafe_12 rfl ?_
      obtain ⟨hi13_1, hf⟩ := gu hf
      refine aM_21 (v := σ.2.1 21 x3.toNatClampNeg) C hi13_1 rfl d_M_areSafe_13 ?_
      refine V_iload_n C 2 d_M_areSafe_14 rfl ?_
      refine V_bipush (v := 100) C d_M_areSafe_15 (by decide) ?_
      refine V_idiv C d_M_areSafe_17 (by decide) ?_
      refine V_iconst (v := 0) C d_M_areSafe_18 (by decide) ?_
      refine V_iload_n C 2 d_M_areSafe_19 rfl ?_
      refine V_bipush (v := 100) C d_M_areSafe_20 (by decide) ?_
      refine V_irem C d_M_areSafe_22 (by decide) ?_
      obtain ⟨r23_2, σ23_2, hg, hf⟩ := bd2_of hf
      refine V_callVi C [.int (σ.2.1 21 x3.toNatClampNeg), .int (x2 / (100 : Int32)), .int (0 : Int32), .int (irem x2 (100 : Int32))] (c_M_isSafe C.2.2.2.2.2.2.2.1 hg) (by decide) cw_M_301 0 rfl rfl rfl rfl (Nat.le_of_ble_eq_true rfl) rfl d_M_areSafe_23 ?_
      refine V_if_ne (pc := 26) (tgt := 31) C d_M_areSafe_26 (by decide) hf (fun hf => ?_) (fun hf => ?_)
      · refine V_iinc (v := x3 + (1 : Int32)) C 3 d_M_areSafe_31 rfl rfl (by decide) rfl ?_
        refine V_goto (pc := 34) (tgt := 2) C d_M_areSafe_34 (by decide) ?_
        refine V.sub [1, 2, 3, 0] rfl ?_
        exact ih σ23_2 x1 x2 (x3 + (1 : Int32)) hf
      · refine V_iconst (v := 0) C d_M_areSafe_29 (by decide) ?_
        exact V_zretW hR hf rfl d_M_areSafe_30
set_option maxRecDepth 4000 in
theorem w_M_areSafe {E : Ev} {g : Gx} {r : Int32} {σ' : St} (C : Cx E classes 4 (wM g) b_M_areSafe "WithTheRedsModel" 8) (hR : RetZ E classes 4 (wM g) b_M_areSafe r σ') {σ : St} {a1 : Int32} {a2 : Int32} (hf : f_M_areSafe σ a1 a2 = some (r, σ')) : V E classes 4 (wM g) σ 0 [(0, .ref (g.2.1 0)), (1, .int a1), (2, .int a2)] [] := by
  unfold f_M_areSafe at hf
  refine V_iconst (v := 0) C d_M_areSafe_0 (by decide) ?_
  refine V_istore_n C d_M_areSafe_1 (by decide) rfl ?_
  refine V.sub [1, 2, 3, 0] rfl ?_
  exact w_M_areSafe_2 C hR FU σ a1 a2 (0 : Int32) hf
theorem c_M_areSafe {l : Launch} {g : Gx} (hok : Wok classes (wM g)) {σ : St} {a1 : Int32} {a2 : Int32} {r : Int32} {σ' : St} (hf : f_M_areSafe σ a1 a2 = some (r, σ')) : CtI classes l y_M_areSafe b_M_areSafe 4 (some .boolean) 8 (wM g) [.ref (g.2.1 0), .int a1, .int a2] σ r σ' :=
  MetZ (by decide +kernel) hok (Nat.le_of_ble_eq_true rfl) (fun E _ C hR => w_M_areSafe C hR hf)
set_option maxRecDepth 4000 in
theorem w_M_areThings {E : Ev} {g : Gx} {r : Int32} {σ : St} (C : Cx E classes 2 (wM g) b_M_areThings "WithTheRedsModel" 2) (hR : RetZ E classes 2 (wM g) b_M_areThings r σ) {a1 : Int32} (hf : f_M_areThings σ a1 = some r) : V E classes 2 (wM g) σ 0 [(0, .ref (g.2.1 0)), (1, .int a1)] [] := by
  unfold f_M_areThings at hf
  refine V_iload_n C 1 d_M_areThings_0 rfl ?_
  refine V_iconst (v := 0) C d_M_areThings_1 (by decide) ?_
  refine V_iconst (v := 1) C d_M_areThings_2 (by decide) ?_
  refine V_aload_n C 0 d_M_areThings_3 rfl ?_
  refine gM_M_things (v := σ.1 1) C fl_M_150 rfl d_M_areThings_4 ?_
  refine V_ishl C d_M_areThings_7 ?_
  refine V_iconst (v := 1) C d_M_areThings_8 (by decide) ?_
  refine V_isub C d_M_areThings_9 ?_
  obtain ⟨r10_1, hg, hf⟩ := bd hf
  refine V_callSi C [.int a1, .int (0 : Int32), .int (((1 : Int32) <<< ((σ.1 1) &&& 31)) - (1 : Int32))] (c_M_in C.2.2.2.2.2.2.2.1 hg) (by decide) cw_M_153 rfl (Nat.le_of_ble_eq_true rfl) rfl d_M_areThings_10 ?_
  obtain ⟨hz, hf⟩ := gu hf
  exact V_zret hR hf hz d_M_areThings_13
theorem c_M_areThings {l : Launch} {g : Gx} (hok : Wok classes (wM g)) {σ : St} {a1 : Int32} {r : Int32} (hf : f_M_areThings σ a1 = some r) : CtI classes l y_M_areThings b_M_areThings 2 (some .boolean) 2 (wM g) [.ref (g.2.1 0), .int a1] σ r σ :=
  MetZ (by decide +kernel) hok (Nat.le_of_ble_eq_true rfl) (fun E _ C hR => w_M_areThings C hR hf)
set_option maxRecDepth 4000 in
theorem w_M_at {E : Ev} {g : Gx} {r : Int32} {σ : St} (C : Cx E classes 3 (wM g) b_M_at "WithTheRedsModel" 1) (hR : RetI E classes 3 (wM g) b_M_at r σ) {a1 : Int32} {a2 : Int32} (hf : f_M_at σ a1 a2 = some r) : V E classes 3 (wM g) σ 0 [(0, .ref (g.2.1 0)), (1, .int a1), (2, .int a2)] [] := by
  unfold f_M_at at hf
  refine V_aload_n C 0 d_M_at_0 rfl ?_
  refine gM_M_elements C fl_M_140 d_M_at_1 ?_
  refine V_bipush (v := 60) C d_M_at_4 (by decide) ?_
  refine V_iload_n C 1 d_M_at_6 rfl ?_
  refine V_imul C d_M_at_7 ?_
  refine V_iload_n C 2 d_M_at_8 rfl ?_
  refine V_iadd C d_M_at_9 ?_
  obtain ⟨hi10_1, hf⟩ := gu hf
  refine aM_39 (v := σ.2.2 39 (((60 : Int32) * a1) + a2).toNatClampNeg) C hi10_1 rfl d_M_at_10 ?_
  refine V_l2i C d_M_at_11 ?_
  exact V_iret hR hf d_M_at_12
theorem c_M_at {l : Launch} {g : Gx} (hok : Wok classes (wM g)) {σ : St} {a1 : Int32} {a2 : Int32} {r : Int32} (hf : f_M_at σ a1 a2 = some r) : CtI classes l y_M_at b_M_at 3 (some .int) 1 (wM g) [.ref (g.2.1 0), .int a1, .int a2] σ r σ :=
  MetI (by decide +kernel) hok (Nat.le_of_ble_eq_true rfl) (fun E _ C hR => w_M_at C hR hf)
set_option maxRecDepth 4000 in
theorem w_M_back_100 {E : Ev} {g : Gx} {r : Int32} {σ' : St} (C : Cx E classes 2 (wM g) b_M_back "WithTheRedsModel" 1) (hR : RetI E classes 2 (wM g) b_M_back r σ') : ∀ (n : Nat) (σ : St) (x1 : Int32), f_M_back_100 n σ x1 = some (r, σ') → V E classes 2 (wM g) σ 100 [(0, .ref (g.2.1 0)), (1, .int x1)] [] := by
  intro n
  induction n with
  | zero => intro σ x1 hf; exact absurd hf (by unfold f_M_back_100; exact nofun)
  | succ n ih =>
    intro σ x1 hf
    unfold f_M_back_100 at hf
    refine V_iload_n C 1 d_M_back_100 rfl ?_
    refine V_iconst (v := 5) C d_M_back_101 (by decide) ?_
    refine V_icmp_ge (pc := 102) (tgt := 123) C d_M_back_102 (by decide) hf (fun hf => ?_) (fun hf => ?_)
    · refine V_aload_n C 0 d_M_back_123 rfl ?_
      refine gM_M_ledOf C fl_M_113 d_M_back_124 ?_
      refine V_iconst (v := 0) C d_M_back_127 (by decide) ?_
      refine aM_30 (v := σ.2.1 30 (0 : Int32).toNatClampNeg) C rfl rfl d_M_back_128 ?_
      exact V_iretW hR hf d_M_back_129
    · refine V_aload_n C 0 d_M_back_105 rfl ?_
      refine gM_M_ledOf C fl_M_113 d_M_back_106 ?_
      refine V_iload_n C 1 d_M_back_109 rfl ?_
      refine V_aload_n C 0 d_M_back_110 rfl ?_
      refine gM_M_keptLed C fl_M_125 d_M_back_111 ?_
      refine V_iload_n C 1 d_M_back_114 rfl ?_
      obtain ⟨hi115_1, hf⟩ := gu hf
      refine aM_34 (v := σ.2.1 34 x1.toNatClampNeg) C hi115_1 rfl d_M_back_115 ?_
      obtain ⟨hi116_2, hf⟩ := gu hf
      refine sM_30 C hi116_2 d_M_back_116 ?_
      refine V_iinc (v := x1 + (1 : Int32)) C 1 d_M_back_117 rfl rfl (by decide) rfl ?_
      refine V_goto (pc := 120) (tgt := 100) C d_M_back_120 (by decide) ?_
      refine V.sub [1, 0] rfl ?_
      exact ih (upA σ 30 x1.toNatClampNeg (σ.2.1 34 x1.toNatClampNeg)) (x1 + (1 : Int32)) hf
set_option maxRecDepth 4000 in
theorem w_M_back_63 {E : Ev} {g : Gx} {r : Int32} {σ' : St} (C : Cx E classes 2 (wM g) b_M_back "WithTheRedsModel" 1) (hR : RetI E classes 2 (wM g) b_M_back r σ') {k12 : St → Int32 → Option (Int32 × St)} (hk12 : ∀ (σ : St) (x1 : Int32), k12 σ x1 = some (r, σ') → V E classes 2 (wM g) σ 12 [(0, .ref (g.2.1 0)), (1, .int x1)] []) : ∀ (σ : St) (x1 : Int32) (y0 : Int32) (y1 : Int32), f_M_back_63 k12 σ x1 y0 y1 = some (r, σ') → V E classes 2 (wM g) σ 63 [(0, .ref (g.2.1 0)), (1, .int x1)] [.int y0, .int y1, .ref (g.2.1 28)] := by
  intro σ x1 y0 y1 hf
  unfold f_M_back_63 at hf
  obtain ⟨hi63_1, hf⟩ := gu hf
  refine sM_28 C hi63_1 d_M_back_63 ?_
  refine V_aload_n C 0 d_M_back_64 rfl ?_
  refine gM_M_away C fl_M_109 d_M_back_65 ?_
  refine V_iload_n C 1 d_M_back_68 rfl ?_
  refine V_iload_n C 1 d_M_back_69 rfl ?_
  refine V_aload_n C 0 d_M_back_70 rfl ?_
  refine gM_M_keptMany (v := σ.1 49) C fl_M_379 rfl d_M_back_71 ?_
  refine V_icmp_ge (pc := 74) (tgt := 90) C d_M_back_74 (by decide) hf (fun hf => ?_) (fun hf => ?_)
  · refine V_iconst (v := 0) C d_M_back_90 (by decide) ?_
    obtain ⟨hi91_2, hf⟩ := gu hf
    refine sM_29 C hi91_2 d_M_back_91 ?_
    refine V_iinc (v := x1 + (1 : Int32)) C 1 d_M_back_92 rfl rfl (by decide) rfl ?_
    refine V_goto (pc := 95) (tgt := 12) C d_M_back_95 (by decide) ?_
    refine V.sub [1, 0] rfl ?_
    exact hk12 (upA (upA σ 28 y1.toNatClampNeg y0) 29 x1.toNatClampNeg (vp_nar .boolean (0 : Int32))) (x1 + (1 : Int32)) hf
  · refine V_aload_n C 0 d_M_back_77 rfl ?_
    refine gM_M_keptAway C fl_M_122 d_M_back_78 ?_
    refine V_iload_n C 1 d_M_back_81 rfl ?_
    obtain ⟨hi82_3, hf⟩ := gu hf
    refine aM_33 (v := σ.2.1 33 x1.toNatClampNeg) C hi82_3 rfl d_M_back_82 ?_
    refine V_if_eq (pc := 83) (tgt := 90) C d_M_back_83 (by decide) hf (fun hf => ?_) (fun hf => ?_)
    · refine V_iconst (v := 0) C d_M_back_90 (by decide) ?_
      obtain ⟨hi91_4, hf⟩ := gu hf
      refine sM_29 C hi91_4 d_M_back_91 ?_
      refine V_iinc (v := x1 + (1 : Int32)) C 1 d_M_back_92 rfl rfl (by decide) rfl ?_
      refine V_goto (pc := 95) (tgt := 12) C d_M_back_95 (by decide) ?_
      refine V.sub [1, 0] rfl ?_
      exact hk12 (upA (upA σ 28 y1.toNatClampNeg y0) 29 x1.toNatClampNeg (vp_nar .boolean (0 : Int32))) (x1 + (1 : Int32)) hf
    · refine V_iconst (v := 1) C d_M_back_86 (by decide) ?_
      refine V_goto (pc := 87) (tgt := 91) C d_M_back_87 (by decide) ?_
      obtain ⟨hi91_5, hf⟩ := gu hf
      refine sM_29 C hi91_5 d_M_back_91 ?_
      refine V_iinc (v := x1 + (1 : Int32)) C 1 d_M_back_92 rfl rfl (by decide) rfl ?_
      refine V_goto (pc := 95) (tgt := 12) C d_M_back_95 (by decide) ?_
      refine V.sub [1, 0] rfl ?_
      exact hk12 (upA (upA σ 28 y1.toNatClampNeg y0) 29 x1.toNatClampNeg (vp_nar .boolean (1 : Int32))) (x1 + (1 : Int32)) hf
set_option maxRecDepth 4000 in
theorem w_M_back_40 {E : Ev} {g : Gx} {r : Int32} {σ' : St} (C : Cx E classes 2 (wM g) b_M_back "WithTheRedsModel" 1) (hR : RetI E classes 2 (wM g) b_M_back r σ') {k12 : St → Int32 → Option (Int32 × St)} (hk12 : ∀ (σ : St) (x1 : Int32), k12 σ x1 = some (r, σ') → V E classes 2 (wM g) σ 12 [(0, .ref (g.2.1 0)), (1, .int x1)] []) : ∀ (σ : St) (x1 : Int32), f_M_back_40 k12 σ x1 = some (r, σ') → V E classes 2 (wM g) σ 40 [(0, .ref (g.2.1 0)), (1, .int x1)] [] := by
  intro σ x1 hf
  unfold f_M_back_40 at hf
  refine V_aload_n C 0 d_M_back_40 rfl ?_
  refine gM_M_tintNow C fl_M_106 d_M_back_41 ?_
  refine V_iload_n C 1 d_M_back_44 rfl ?_
  refine V_iload_n C 1 d_M_back_45 rfl ?_
  refine V_aload_n C 0 d_M_back_46 rfl ?_
  refine gM_M_keptMany (v := σ.1 49) C fl_M_379 rfl d_M_back_47 ?_
  refine V_icmp_ge (pc := 50) (tgt := 62) C d_M_back_50 (by decide) hf (fun hf => ?_) (fun hf => ?_)
  · refine V_iconst (v := 0) C d_M_back_62 (by decide) ?_
    exact w_M_back_63 C hR hk12 σ x1 (0 : Int32) x1 hf
  · refine V_aload_n C 0 d_M_back_53 rfl ?_
    refine gM_M_keptTint C fl_M_119 d_M_back_54 ?_
    refine V_iload_n C 1 d_M_back_57 rfl ?_
    obtain ⟨hi58_1, hf⟩ := gu hf
    refine aM_32 (v := σ.2.1 32 x1.toNatClampNeg) C hi58_1 rfl d_M_back_58 ?_
    refine V_goto (pc := 59) (tgt := 63) C d_M_back_59 (by decide) ?_
    exact w_M_back_63 C hR hk12 σ x1 (σ.2.1 32 x1.toNatClampNeg) x1 hf
set_option maxRecDepth 4000 in
theorem w_M_back_12 {E : Ev} {g : Gx} {r : Int32} {σ' : St} (C : Cx E classes 2 (wM g) b_M_back "WithTheRedsModel" 1) (hR : RetI E classes 2 (wM g) b_M_back r σ') : ∀ (n : Nat) (σ : St) (x1 : Int32), f_M_back_12 n σ x1 = some (r, σ') → V E classes 2 (wM g) σ 12 [(0, .ref (g.2.1 0)), (1, .int x1)] [] := by
  intro n
  induction n with
  | zero => intro σ x1 hf; exact absurd hf (by unfold f_M_back_12; exact nofun)
  | succ n ih =>
    intro σ x1 hf
    unfold f_M_back_12 at hf
    refine V_iload_n C 1 d_M_back_12 rfl ?_
    refine V_aload_n C 0 d_M_back_13 rfl ?_
    refine gM_M_things (v := σ.1 1) C fl_M_150 rfl d_M_back_14 ?_
    refine V_icmp_ge (pc := 17) (tgt := 98) C d_M_back_17 (by decide) hf (fun hf => ?_) (fun hf => ?_)
    · refine V_iconst (v := 0) C d_M_back_98 (by decide) ?_
      refine V_istore_n C d_M_back_99 (by decide) rfl ?_
      refine V.sub [1, 0] rfl ?_
      exact w_M_back_100 C hR FU σ (0 : Int32) hf
    · refine V_iload_n C 1 d_M_back_20 rfl ?_
      refine V_aload_n C 0 d_M_back_21 rfl ?_
      refine gM_M_keptMany (v := σ.1 49) C fl_M_379 rfl d_M_back_22 ?_
      refine V_icmp_ge (pc := 25) (tgt := 40) C d_M_back_25 (by decide) hf (fun hf => ?_) (fun hf => ?_)
      · exact w_M_back_40 C hR ih σ x1 hf
      · refine V_aload_n C 0 d_M_back_28 rfl ?_
        refine gM_M_washed C fl_M_16 d_M_back_29 ?_
        refine V_iload_n C 1 d_M_back_32 rfl ?_
        refine V_aload_n C 0 d_M_back_33 rfl ?_
        refine gM_M_keptWashed C fl_M_116 d_M_back_34 ?_
        refine V_iload_n C 1 d_M_back_37 rfl ?_
        obtain ⟨hi38_1, hf⟩ := gu hf
        refine aM_31 (v := σ.2.1 31 x1.toNatClampNeg) C hi38_1 rfl d_M_back_38 ?_
        obtain ⟨hi39_2, hf⟩ := gu hf
        refine sM_3 C hi39_2 d_M_back_39 ?_
        exact w_M_back_40 C hR ih (upA σ 3 x1.toNatClampNeg (σ.2.1 31 x1.toNatClampNeg)) x1 hf
set_option maxRecDepth 4000 in
theorem w_M_back {E : Ev} {g : Gx} {r : Int32} {σ' : St} (C : Cx E classes 2 (wM g) b_M_back "WithTheRedsModel" 1) (hR : RetI E classes 2 (wM g) b_M_back r σ') {σ : St} (hf : f_M_back σ = some (r, σ')) : V E classes 2 (wM g) σ 0 [(0, .ref (g.2.1 0))] [] := by
  unfold f_M_back at hf
  refine V_aload_n C 0 d_M_back_0 rfl ?_
  refine gM_M_hasImage (v := σ.1 48) C fl_M_376 rfl d_M_back_1 ?_
  refine V_if_ne (pc := 4) (tgt := 10) C d_M_back_4 (by decide) hf (fun hf => ?_) (fun hf => ?_)
  · refine V_iconst (v := 0) C d_M_back_10 (by decide) ?_
    refine V_istore_n C d_M_back_11 (by decide) rfl ?_
    refine V.sub [1, 0] rfl ?_
    exact w_M_back_12 C hR FU σ (0 : Int32) hf
  · refine V_bipush (v := -5) C d_M_back_7 (by decide) ?_
    exact V_iretW hR hf d_M_back_9
theorem c_M_back {l : Launch} {g : Gx} (hok : Wok classes (wM g)) {σ : St} {r : Int32} {σ' : St} (hf : f_M_back σ = some (r, σ')) : CtI classes l y_M_back b_M_back 2 (some .int) 1 (wM g) [.ref (g.2.1 0)] σ r σ' :=
  MetI (by decide +kernel) hok (Nat.le_of_ble_eq_true rfl) (fun E _ C hR => w_M_back C hR hf)
set_option maxRecDepth 4000 in
theorem w_M_bitsOf_4 {E : Ev} {g : Gx} {r : Int32} {σ : St} (C : Cx E classes 3 (wM g) b_M_bitsOf "WithTheRedsModel" 1) (hR : RetI E classes 3 (wM g) b_M_bitsOf r σ) : ∀ (n : Nat) (x1 : Int32) (x2 : Int32), f_M_bitsOf_4 n x1 x2 = some r → V E classes 3 (wM g) σ 4 [(1, .int x1), (2, .int x2)] [] := by
  intro n
  induction n with
  | zero => intro x1 x2 hf; exact absurd hf (by unfold f_M_bitsOf_4; exact nofun)
  | succ n ih =>
    intro x1 x2 hf
    unfold f_M_bitsOf_4 at hf
    refine V_iload_n C 1 d_M_bitsOf_4 rfl ?_
    refine V_if_eq (pc := 5) (tgt := 20) C d_M_bitsOf_5 (by decide) hf (fun hf => ?_) (fun hf => ?_)
    · refine V_iload_n C 0 d_M_bitsOf_20 rfl ?_
      exact V_iret hR hf d_M_bitsOf_21
    · refine V_iinc (v := x1 + (1 : Int32)) C 0 d_M_bitsOf_8 rfl rfl (by decide) rfl ?_
      refine V_iload_n C 1 d_M_bitsOf_11 rfl ?_
      refine V_iload_n C 1 d_M_bitsOf_12 rfl ?_
      refine V_iconst (v := 1) C d_M_bitsOf_13 (by decide) ?_
      refine V_isub C d_M_bitsOf_14 ?_
      refine V_iand C d_M_bitsOf_15 ?_
      refine V_istore_n C d_M_bitsOf_16 (by decide) rfl ?_
      refine V_goto (pc := 17) (tgt := 4) C d_M_bitsOf_17 (by decide) ?_
      refine V.sub [1, 0] rfl ?_
      exact ih (x1 + (1 : Int32)) (x2 &&& (x2 - (1 : Int32))) hf
set_option maxRecDepth 4000 in
theorem w_M_bitsOf {E : Ev} {g : Gx} {r : Int32} {σ : St} (C : Cx E classes 3 (wM g) b_M_bitsOf "WithTheRedsModel" 1) (hR : RetI E classes 3 (wM g) b_M_bitsOf r σ) {a0 : Int32} (hf : f_M_bitsOf a0 = some r) : V E classes 3 (wM g) σ 0 [(0, .int a0)] [] := by
  unfold f_M_bitsOf at hf
  refine V_iconst (v := 0) C d_M_bitsOf_0 (by decide) ?_
  refine V_istore_n C d_M_bitsOf_1 (by decide) rfl ?_
  refine V_iload_n C 1 d_M_bitsOf_2 rfl ?_
  refine V_istore_n C d_M_bitsOf_3 (by decide) rfl ?_
  refine V.sub [1, 0] rfl ?_
  exact w_M_bitsOf_4 C hR FU (0 : Int32) a0 hf
theorem c_M_bitsOf {l : Launch} {g : Gx} (hok : Wok classes (wM g)) {σ : St} {a0 : Int32} {r : Int32} (hf : f_M_bitsOf a0 = some r) : CtI classes l y_M_bitsOf b_M_bitsOf 3 (some .int) 1 (wM g) [.int a0] σ r σ :=
  MetI (by decide +kernel) hok (Nat.le_of_ble_eq_true rfl) (fun E _ C hR => w_M_bitsOf C hR hf)
set_option maxRecDepth 4000 in
theorem w_M_bleach {E : Ev} {g : Gx} {r : Int32} {σ' : St} (C : Cx E classes 3 (wM g) b_M_bleach "WithTheRedsModel" 3) (hR : RetI E classes 3 (wM g) b_M_bleach r σ') {σ : St} {a1 : Int32} (hf : f_M_bleach σ a1 = some (r, σ')) : V E classes 3 (wM g) σ 0 [(0, .ref (g.2.1 0)), (1, .int a1)] [] := by
  unfold f_M_bleach at hf
  refine V_aload_n C 0 d_M_bleach_0 rfl ?_
  refine V_iload_n C 1 d_M_bleach_1 rfl ?_
  obtain ⟨r2_1, hg, hf⟩ := bd hf
  refine V_callVi C [.int a1] (c_M_isThing C.2.2.2.2.2.2.2.1 hg) (by decide) cw_M_181 0 rfl rfl rfl rfl (Nat.le_of_ble_eq_true rfl) rfl d_M_bleach_2 ?_
  refine V_if_ne (pc := 5) (tgt := 10) C d_M_bleach_5 (by decide) hf (fun hf => ?_) (fun hf => ?_)
  · refine V_aload_n C 0 d_M_bleach_10 rfl ?_
    refine gM_M_tintNow C fl_M_106 d_M_bleach_11 ?_
    refine V_iload_n C 1 d_M_bleach_14 rfl ?_
    obtain ⟨hi15_2, hf⟩ := gu hf
    refine aM_28 (v := σ.2.1 28 a1.toNatClampNeg) C hi15_2 rfl d_M_bleach_15 ?_
    refine V_istore_n C d_M_bleach_16 (by decide) rfl ?_
    refine V_aload_n C 1 d_M_bleach_17 rfl ?_
    refine gM_M_tintNow C fl_M_106 d_M_bleach_18 ?_
    refine V_iload_n C 2 d_M_bleach_21 rfl ?_
    refine V_iconst (v := 0) C d_M_bleach_22 (by decide) ?_
    obtain ⟨hi23_3, hf⟩ := gu hf
    refine sM_28 C hi23_3 d_M_bleach_23 ?_
    refine V_iload_n C 0 d_M_bleach_24 rfl ?_
    exact V_iretW hR hf d_M_bleach_25
  · refine V_iconst (v := -1) C d_M_bleach_8 (by decide) ?_
    exact V_iretW hR hf d_M_bleach_9
theorem c_M_bleach {l : Launch} {g : Gx} (hok : Wok classes (wM g)) {σ : St} {a1 : Int32} {r : Int32} {σ' : St} (hf : f_M_bleach σ a1 = some (r, σ')) : CtI classes l y_M_bleach b_M_bleach 3 (some .int) 3 (wM g) [.ref (g.2.1 0), .int a1] σ r σ' :=
  MetI (by decide +kernel) hok (Nat.le_of_ble_eq_true rfl) (fun E _ C hR => w_M_bleach C hR hf)
set_option maxRecDepth 4000 in
theorem w_M_body {E : Ev} {g : Gx} {r : Int32} {σ' : St} (C : Cx E classes 2 (wM g) b_M_body "WithTheRedsModel" 2) (hR : RetI E classes 2 (wM g) b_M_body r σ') {σ : St} {a1 : Int32} (hf : f_M_body σ a1 = some (r, σ')) : V E classes 2 (wM g) σ 0 [(0, .ref (g.2.1 0)), (1, .int a1)] [] := by
  unfold f_M_body at hf
  refine V_iload_n C 1 d_M_body_0 rfl ?_
  refine V_iconst (v := 0) C d_M_body_1 (by decide) ?_
  refine V_bipush (v := 7) C d_M_body_2 (by decide) ?_
  obtain ⟨r4_1, hg, hf⟩ := bd hf
  refine V_callSi C [.int a1, .int (0 : Int32), .int (7 : Int32)] (c_M_in C.2.2.2.2.2.2.2.1 hg) (by decide) cw_M_153 rfl (Nat.le_of_ble_eq_true rfl) rfl d_M_body_4 ?_
  refine V_if_ne (pc := 7) (tgt := 12) C d_M_body_7 (by decide) hf (fun hf => ?_) (fun hf => ?_)
  · refine V_aload_n C 0 d_M_body_12 rfl ?_
    refine gM_M_bodies (v := σ.1 54) C fl_M_382 rfl d_M_body_13 ?_
    refine V_bipush (v := 50) C d_M_body_16 (by decide) ?_
    refine V_icmp_ne (pc := 18) (tgt := 24) C d_M_body_18 (by decide) hf (fun hf => ?_) (fun hf => ?_)
    · refine V_aload_n C 0 d_M_body_24 rfl ?_
      refine gM_M_kind C fl_M_128 d_M_body_25 ?_
      refine V_aload_n C 0 d_M_body_28 rfl ?_
      refine gM_M_bodies (v := σ.1 54) C fl_M_382 rfl d_M_body_29 ?_
      refine V_iload_n C 1 d_M_body_32 rfl ?_
      obtain ⟨hi33_2, hf⟩ := gu hf
      refine sM_35 C hi33_2 d_M_body_33 ?_
      refine V_aload_n C 0 d_M_body_34 rfl ?_
      refine V_dup C d_M_body_35 rfl ?_
      refine gM_M_bodies (v := σ.1 54) C fl_M_382 rfl d_M_body_36 ?_
      refine V_iconst (v := 1) C d_M_body_39 (by decide) ?_
      refine V_iadd C d_M_body_40 ?_
      refine pM_M_bodies C fl_M_382 d_M_body_41 ?_
      refine V_aload_n C 0 d_M_body_44 rfl ?_
      refine gM_M_bodies (v := ((σ.1 54) + (1 : Int32))) C fl_M_382 rfl d_M_body_45 ?_
      refine V_iconst (v := 1) C d_M_body_48 (by decide) ?_
      refine V_isub C d_M_body_49 ?_
      exact V_iretW hR hf d_M_body_50
    · refine V_bipush (v := -3) C d_M_body_21 (by decide) ?_
      exact V_iretW hR hf d_M_body_23
  · refine V_iconst (v := -1) C d_M_body_10 (by decide) ?_
    exact V_iretW hR hf d_M_body_11
theorem c_M_body {l : Launch} {g : Gx} (hok : Wok classes (wM g)) {σ : St} {a1 : Int32} {r : Int32} {σ' : St} (hf : f_M_body σ a1 = some (r, σ')) : CtI classes l y_M_body b_M_body 2 (some .int) 2 (wM g) [.ref (g.2.1 0), .int a1] σ r σ' :=
  MetI (by decide +kernel) hok (Nat.le_of_ble_eq_true rfl) (fun E _ C hR => w_M_body C hR hf)
set_option maxRecDepth 4000 in
theorem w_M_look {E : Ev} {g : Gx} {r : Int32} {σ : St} (C : Cx E classes 1 (wM g) b_M_look "WithTheRedsModel" 1) (hR : RetI E classes 1 (wM g) b_M_look r σ) (hf : f_M_look σ = some r) : V E classes 1 (wM g) σ 0 [(0, .ref (g.2.1 0))] [] := by
  unfold f_M_look at hf
  refine V_aload_n C 0 d_M_look_0 rfl ?_
  refine gM_M_here (v := σ.1 22) C fl_M_197 rfl d_M_look_1 ?_
  refine V_aload_n C 0 d_M_look_4 rfl ?_
  refine gM_M_taped (v := σ.1 21) C fl_M_194 rfl d_M_look_5 ?_
  refine V_icmp_ge (pc := 8) (tgt := 23) C d_M_look_8 (by decide) hf (fun hf => ?_) (fun hf => ?_)
  · refine V_iconst (v := -1) C d_M_look_23 (by decide) ?_
    exact V_iret hR hf d_M_look_24
  · refine V_aload_n C 0 d_M_look_11 rfl ?_
    refine gM_M_tape C fl_M_59 d_M_look_12 ?_
    refine V_aload_n C 0 d_M_look_15 rfl ?_
    refine gM_M_here (v := σ.1 22) C fl_M_197 rfl d_M_look_16 ?_
    obtain ⟨hi19_1, hf⟩ := gu hf
    refine aM_13 (v := σ.2.1 13 (σ.1 22).toNatClampNeg) C hi19_1 rfl d_M_look_19 ?_
    refine V_goto (pc := 20) (tgt := 24) C d_M_look_20 (by decide) ?_
    exact V_iret hR hf d_M_look_24
theorem c_M_look {l : Launch} {g : Gx} (hok : Wok classes (wM g)) {σ : St} {r : Int32} (hf : f_M_look σ = some r) : CtI classes l y_M_look b_M_look 1 (some .int) 1 (wM g) [.ref (g.2.1 0)] σ r σ :=
  MetI (by decide +kernel) hok (Nat.le_of_ble_eq_true rfl) (fun E _ C hR => w_M_look C hR hf)
set_option maxRecDepth 4000 in
theorem w_M_wrong {E : Ev} {g : Gx} {σ' : St} (C : Cx E classes 1 (wM g) b_M_wrong "WithTheRedsModel" 1) (hR : RetV E classes 1 (wM g) b_M_wrong σ') {σ : St} (hf : f_M_wrong σ = some σ') : V E classes 1 (wM g) σ 0 [(0, .ref (g.2.1 0))] [] := by
  unfold f_M_wrong at hf
  refine V_aload_n C 0 d_M_wrong_0 rfl ?_
  refine gM_M_fault (v := σ.1 23) C fl_M_200 rfl d_M_wrong_1 ?_
  refine V_if_ge (pc := 4) (tgt := 15) C d_M_wrong_4 (by decide) hf (fun hf => ?_) (fun hf => ?_)
  · exact V_vret hR hf d_M_wrong_15
  · refine V_aload_n C 0 d_M_wrong_7 rfl ?_
    refine V_aload_n C 0 d_M_wrong_8 rfl ?_
    refine gM_M_here (v := σ.1 22) C fl_M_197 rfl d_M_wrong_9 ?_
    refine pM_M_fault C fl_M_200 d_M_wrong_12 ?_
    exact V_vret hR hf d_M_wrong_15
theorem c_M_wrong {l : Launch} {g : Gx} (hok : Wok classes (wM g)) {σ : St} {σ' : St} (hf : f_M_wrong σ = some σ') : CtV classes l y_M_wrong b_M_wrong 1 none 1 (wM g) [.ref (g.2.1 0)] σ σ' :=
  MetV (by decide +kernel) hok (Nat.le_of_ble_eq_true rfl) (fun E _ C hR => w_M_wrong C hR hf)
set_option maxRecDepth 4000 in
theorem w_M_figure_70 {E : Ev} {g : Gx} {σ' : St} (C : Cx E classes 3 (wM g) b_M_figure "WithTheRedsModel" 2) (hR : RetV E classes 3 (wM g) b_M_figure σ') : ∀ (σ : St) (x1 : Int32), f_M_figure_70 σ x1 = some σ' → V E classes 3 (wM g) σ 70 [(0, .ref (g.2.1 0)), (1, .int x1)] [] := by
  intro σ x1 hf
  unfold f_M_figure_70 at hf
  refine V_aload_n C 0 d_M_figure_70 rfl ?_
  obtain ⟨σ71_1, hg, hf⟩ := bd hf
  refine V_callVv C [] (c_M_wrong C.2.2.2.2.2.2.2.1 hg) (by decide) cw_M_209 0 rfl rfl rfl rfl (Nat.le_of_ble_eq_true rfl) rfl d_M_figure_71 ?_
  refine V_aload_n C 0 d_M_figure_74 rfl ?_
  refine V_iconst (v := 1) C d_M_figure_75 (by decide) ?_
  refine V_iload_n C 1 d_M_figure_76 rfl ?_
  obtain ⟨σ77_2, hg, hf⟩ := bd hf
  refine V_callVv C [.int (1 : Int32), .int x1] (c_M_addStep C.2.2.2.2.2.2.2.1 hg) (by decide) cw_M_216 0 rfl rfl rfl rfl (Nat.le_of_ble_eq_true rfl) rfl d_M_figure_77 ?_
  exact V_vret hR hf d_M_figure_80
set_option maxRecDepth 4000 in
theorem w_M_figure_52 {E : Ev} {g : Gx} {σ' : St} (C : Cx E classes 3 (wM g) b_M_figure "WithTheRedsModel" 2) (hR : RetV E classes 3 (wM g) b_M_figure σ') : ∀ (σ : St) (x1 : Int32) (x2 : Int32), f_M_figure_52 σ x1 x2 = some σ' → V E classes 3 (wM g) σ 52 [(0, .ref (g.2.1 0)), (1, .int x1), (2, .int x2)] [] := by
  intro σ x1 x2 hf
  unfold f_M_figure_52 at hf
  refine V_iload_n C 2 d_M_figure_52 rfl ?_
  refine V_if_eq (pc := 53) (tgt := 70) C d_M_figure_53 (by decide) hf (fun hf => ?_) (fun hf => ?_)
  · refine V.sub [0, 1] rfl ?_
    exact w_M_figure_70 C hR σ x1 hf
  · refine V_aload_n C 0 d_M_figure_56 rfl ?_
    obtain ⟨r57_1, hg, hf⟩ := bd hf
    refine V_callVi C [] (c_M_look C.2.2.2.2.2.2.2.1 hg) (by decide) cw_M_212 0 rfl rfl rfl rfl (Nat.le_of_ble_eq_true rfl) rfl d_M_figure_57 ?_
    refine V_bipush (v := 48) C d_M_figure_60 (by decide) ?_
    refine V_bipush (v := 57) C d_M_figure_62 (by decide) ?_
    obtain ⟨r64_2, hg, hf⟩ := bd hf
    refine V_callSi C [.int r57_1, .int (48 : Int32), .int (57 : Int32)] (c_M_in C.2.2.2.2.2.2.2.1 hg) (by decide) cw_M_153 rfl (Nat.le_of_ble_eq_true rfl) rfl d_M_figure_64 ?_
    refine V_if_eq (pc := 67) (tgt := 74) C d_M_figure_67 (by decide) hf (fun hf => ?_) (fun hf => ?_)
    · refine V_aload_n C 0 d_M_figure_74 rfl ?_
      refine V_iconst (v := 1) C d_M_figure_75 (by decide) ?_
      refine V_iload_n C 1 d_M_figure_76 rfl ?_
      obtain ⟨σ77_3, hg, hf⟩ := bd hf
      refine V_callVv C [.int (1 : Int32), .int x1] (c_M_addStep C.2.2.2.2.2.2.2.1 hg) (by decide) cw_M_216 0 rfl rfl rfl rfl (Nat.le_of_ble_eq_true rfl) rfl d_M_figure_77 ?_
      exact V_vret hR hf d_M_figure_80
    · refine V.sub [0, 1] rfl ?_
      exact w_M_figure_70 C hR σ x1 hf
set_option maxRecDepth 4000 in
theorem w_M_figure_4 {E : Ev} {g : Gx} {σ' : St} (C : Cx E classes 3 (wM g) b_M_figure "WithTheRedsModel" 2) (hR : RetV E classes 3 (wM g) b_M_figure σ') : ∀ (n : Nat) (σ : St) (x1 : Int32) (x2 : Int32), f_M_figure_4 n σ x1 x2 = some σ' → V E classes 3 (wM g) σ 4 [(0, .ref (g.2.1 0)), (1, .int x1), (2, .int x2)] [] := by
  intro n
  induction n with
  | zero => intro σ x1 x2 hf; exact absurd hf (by unfold f_M_figure_4; exact nofun)
  | succ n ih =>
    intro σ x1 x2 hf
    unfold f_M_figure_4 at hf
    refine V_iload_n C 2 d_M_figure_4 rfl ?_
    refine V_iconst (v := 4) C d_M_figure_5 (by decide) ?_
    refine V_icmp_ge (pc := 6) (tgt := 52) C d_M_figure_6 (by decide) hf (fun hf => ?_) (fun hf => ?_)
    · exact w_M_figure_52 C hR σ x1 x2 hf
    · refine V_aload_n C 0 d_M_figure_9 rfl ?_
      obtain ⟨r10_1, hg, hf⟩ := bd hf
      refine V_callVi C [] (c_M_look C.2.2.2.2.2.2.2.1 hg) (by decide) cw_M_212 0 rfl rfl rfl rfl (Nat.le_of_ble_eq_true rfl) rfl d_M_figure_10 ?_
      refine V_bipush (v := 48) C d_M_figure_13 (by decide) ?_
      refine V_bipush (v := 57) C d_M_figure_15 (by decide) ?_
      obtain ⟨r17_2, hg, hf⟩ := bd hf
      refine V_callSi C [.int r10_1, .int (48 : Int32), .int (57 : Int32)] (c_M_in C.2.2.2.2.2.2.2.1 hg) (by decide) cw_M_153 rfl (Nat.le_of_ble_eq_true rfl) rfl d_M_figure_17 ?_
      refine V_if_eq (pc := 20) (tgt := 52) C d_M_figure_20 (by decide) hf (fun hf => ?_) (fun hf => ?_)
      · exact w_M_figure_52 C hR σ x1 x2 hf
      · refine V_bipush (v := 10) C d_M_figure_23 (by decide) ?_
        refine V_iload_n C 1 d_M_figure_25 rfl ?_
        refine V_imul C d_M_figure_26 ?_
        refine V_aload_n C 0 d_M_figure_27 rfl ?_
        obtain ⟨r28_3, hg, hf⟩ := bd hf
        refine V_callVi C [] (c_M_look C.2.2.2.2.2.2.2.1 hg) (by decide) cw_M_212 0 rfl rfl rfl rfl (Nat.le_of_ble_eq_true rfl) rfl d_M_figure_28 ?_
        refine V_iadd C d_M_figure_31 ?_
        refine V_bipush (v := 48) C d_M_figure_32 (by decide) ?_
        refine V_isub C d_M_figure_34 ?_
        refine V_istore_n C d_M_figure_35 (by decide) rfl ?_
        refine V_iinc (v := x2 + (1 : Int32)) C 2 d_M_figure_36 rfl rfl (by decide) rfl ?_
        refine V_aload_n C 2 d_M_figure_39 rfl ?_
        refine V_dup C d_M_figure_40 rfl ?_
        refine gM_M_here (v := σ.1 22) C fl_M_197 rfl d_M_figure_41 ?_
        refine V_iconst (v := 1) C d_M_figure_44 (by decide) ?_
        refine V_iadd C d_M_figure_45 ?_
        refine pM_M_here C fl_M_197 d_M_figure_46 ?_
        refine V_goto (pc := 49) (tgt := 4) C d_M_figure_49 (by decide) ?_
        refine V.sub [2, 1, 0] rfl ?_
        exact ih (upI σ 22 ((σ.1 22) + (1 : Int32))) ((((10 : Int32) * x1) + r28_3) - (48 : Int32)) (x2 + (1 : Int32)) hf
set_option maxRecDepth 4000 in
theorem w_M_figure {E : Ev} {g : Gx} {σ' : St} (C : Cx E classes 3 (wM g) b_M_figure "WithTheRedsModel" 2) (hR : RetV E classes 3 (wM g) b_M_figure σ') {σ : St} (hf : f_M_figure σ = some σ') : V E classes 3 (wM g) σ 0 [(0, .ref (g.2.1 0))] [] := by
  unfold f_M_figure at hf
  refine V_iconst (v := 0) C d_M_figure_0 (by decide) ?_
  refine V_istore_n C d_M_figure_1 (by decide) rfl ?_
  refine V_iconst (v := 0) C d_M_figure_2 (by decide) ?_
  refine V_istore_n C d_M_figure_3 (by decide) rfl ?_
  refine V.sub [2, 1, 0] rfl ?_
  exact w_M_figure_4 C hR FU σ (0 : Int32) (0 : Int32) hf
theorem c_M_figure {l : Launch} {g : Gx} (hok : Wok classes (wM g)) {σ : St} {σ' : St} (hf : f_M_figure σ = some σ') : CtV classes l y_M_figure b_M_figure 3 none 2 (wM g) [.ref (g.2.1 0)] σ σ' :=
  MetV (by decide +kernel) hok (Nat.le_of_ble_eq_true rfl) (fun E _ C hR => w_M_figure C hR hf)
set_option maxRecDepth 4000 in
theorem w_M_nameOf {E : Ev} {g : Gx} {r : Int32} {σ : St} (C : Cx E classes 1 (wM g) b_M_nameOf "WithTheRedsModel" 1) (hR : RetI E classes 1 (wM g) b_M_nameOf r σ) {a0 : Int32} (hf : f_M_nameOf a0 = some r) : V E classes 1 (wM g) σ 0 [(0, .int a0)] [] := by
  unfold f_M_nameOf at hf
  refine V_iload_n C 0 d_M_nameOf_0 rfl ?_
  by_cases hc0 : a0 = 98
  · have hf := ite_t hf hc0
    refine V_tin (off := 97) (tgt := 98) C d_M_nameOf_1 (by rw [hc0]; decide) (by rw [hc0]; decide) (by rw [hc0]; decide) (by decide) ?_
    refine V_iconst (v := 5) C d_M_nameOf_98 (by decide) ?_
    exact V_iret hR hf d_M_nameOf_99
  have hf := ite_f hf hc0
  by_cases hc1 : a0 = 99
  · have hf := ite_t hf hc1
    refine V_tin (off := 93) (tgt := 94) C d_M_nameOf_1 (by rw [hc1]; decide) (by rw [hc1]; decide) (by rw [hc1]; decide) (by decide) ?_
    refine V_iconst (v := 3) C d_M_nameOf_94 (by decide) ?_
    exact V_iret hR hf d_M_nameOf_95
  have hf := ite_f hf hc1
  by_cases hc2 : a0 = 100
  · have hf := ite_t hf hc2
    refine V_tin (off := 99) (tgt := 100) C d_M_nameOf_1 (by rw [hc2]; decide) (by rw [hc2]; decide) (by rw [hc2]; decide) (by decide) ?_
    refine V_iconst (v := -1) C d_M_nameOf_100 (by decide) ?_
    exact V_iret hR hf d_M_nameOf_101
  have hf := ite_f hf hc2
  by_cases hc3 : a0 = 101
  · have hf := ite_t hf hc3
    refine V_tin (off := 99) (tgt := 100) C d_M_nameOf_1 (by rw [hc3]; decide) (by rw [hc3]; decide) (by rw [hc3]; decide) (by decide) ?_
    refine V_iconst (v := -1) C d_M_nameOf_100 (by decide) ?_
    exact V_iret hR hf d_M_nameOf_101
  have hf := ite_f hf hc3
  by_cases hc4 : a0 = 102
  · have hf := ite_t hf hc4
    refine V_tin (off := 99) (tgt := 100) C d_M_nameOf_1 (by rw [hc4]; decide) (by rw [hc4]; decide) (by rw [hc4]; decide) (by decide) ?_
    refine V_iconst (v := -1) C d_M_nameOf_100 (by decide) ?_
    exact V_iret hR hf d_M_nameOf_101
  have hf := ite_f hf hc4
  by_cases hc5 : a0 = 103
  · have hf := ite_t hf hc5
    refine V_tin (off := 99) (tgt := 100) C d_M_nameOf_1 (by rw [hc5]; decide) (by rw [hc5]; decide) (by rw [hc5]; decide) (by decide) ?_
    refine V_iconst (v := -1) C d_M_nameOf_100 (by decide) ?_
    exact V_iret hR hf d_M_nameOf_101
  have hf := ite_f hf hc5
  by_cases hc6 : a0 = 104
  · have hf := ite_t hf hc6
    refine V_tin (off := 91) (tgt := 92) C d_M_nameOf_1 (by rw [hc6]; decide) (by rw [hc6]; decide) (by rw [hc6]; decide) (by decide) ?_
    refine V_iconst (v := 2) C d_M_nameOf_92 (by decide) ?_
    exact V_iret hR hf d_M_nameOf_93
  have hf := ite_f hf hc6
  by_cases hc7 : a0 = 105
  · have hf := ite_t hf hc7
    refine V_tin (off := 99) (tgt := 100) C d_M_nameOf_1 (by rw [hc7]; decide) (by rw [hc7]; decide) (by rw [hc7]; decide) (by decide) ?_
    refine V_iconst (v := -1) C d_M_nameOf_100 (by decide) ?_
    exact V_iret hR hf d_M_nameOf_101
  have hf := ite_f hf hc7
  by_cases hc8 : a0 = 106
  · have hf := ite_t hf hc8
    refine V_tin (off := 99) (tgt := 100) C d_M_nameOf_1 (by rw [hc8]; decide) (by rw [hc8]; decide) (by rw [hc8]; decide) (by decide) ?_
    refine V_iconst (v := -1) C d_M_nameOf_100 (by decide) ?_
    exact V_iret hR hf d_M_nameOf_101
  have hf := ite_f hf hc8
  by_cases hc9 : a0 = 107
  · have hf := ite_t hf hc9
    refine V_tin (off := 99) (tgt := 100) C d_M_nameOf_1 (by rw [hc9]; decide) (by rw [hc9]; decide) (by rw [hc9]; decide) (by decide) ?_
    refine V_iconst (v := -1) C d_M_nameOf_100 (by decide) ?_
    exact V_iret hR hf d_M_nameOf_101
  have hf := ite_f hf hc9
  by_cases hc10 : a0 = 108
  · have hf := ite_t hf hc10
    refine V_tin (off := 99) (tgt := 100) C d_M_nameOf_1 (by rw [hc10]; decide) (by rw [hc10]; decide) (by rw [hc10]; decide) (by decide) ?_
    refine V_iconst (v := -1) C d_M_nameOf_100 (by decide) ?_
    exact V_iret hR hf d_M_nameOf_101
  have hf := ite_f hf hc10
  by_cases hc11 : a0 = 109
  · have hf := ite_t hf hc11
    refine V_tin (off := 99) (tgt := 100) C d_M_nameOf_1 (by rw [hc11]; decide) (by rw [hc11]; decide) (by rw [hc11]; decide) (by decide) ?_
    refine V_iconst (v := -1) C d_M_nameOf_100 (by decide) ?_
    exact V_iret hR hf d_M_nameOf_101
  have hf := ite_f hf hc11
  by_cases hc12 : a0 = 110
  · have hf := ite_t hf hc12
    refine V_tin (off := 89) (tgt := 90) C d_M_nameOf_1 (by rw [hc12]; decide) (by rw [hc12]; decide) (by rw [hc12]; decide) (by decide) ?_
    refine V_iconst (v := 1) C d_M_nameOf_90 (by decide) ?_
    exact V_iret hR hf d_M_nameOf_91
  have hf := ite_f hf hc12
  by_cases hc13 : a0 = 111
  · have hf := ite_t hf hc13
    refine V_tin (off := 99) (tgt := 100) C d_M_nameOf_1 (by rw [hc13]; decide) (by rw [hc13]; decide) (by rw [hc13]; decide) (by decide) ?_
    refine V_iconst (v := -1) C d_M_nameOf_100 (by decide) ?_
    exact V_iret hR hf d_M_nameOf_101
  have hf := ite_f hf hc13
  by_cases hc14 : a0 = 112
  · have hf := ite_t hf hc14
    refine V_tin (off := 99) (tgt := 100) C d_M_nameOf_1 (by rw [hc14]; decide) (by rw [hc14]; decide) (by rw [hc14]; decide) (by decide) ?_
    refine V_iconst (v := -1) C d_M_nameOf_100 (by decide) ?_
    exact V_iret hR hf d_M_nameOf_101
  have hf := ite_f hf hc14
  by_cases hc15 : a0 = 113
  · have hf := ite_t hf hc15
    refine V_tin (off := 99) (tgt := 100) C d_M_nameOf_1 (by rw [hc15]; decide) (by rw [hc15]; decide) (by rw [hc15]; decide) (by decide) ?_
    refine V_iconst (v := -1) C d_M_nameOf_100 (by decide) ?_
    exact V_iret hR hf d_M_nameOf_101
  have hf := ite_f hf hc15
  by_cases hc16 : a0 = 114
  · have hf := ite_t hf hc16
    refine V_tin (off := 87) (tgt := 88) C d_M_nameOf_1 (by rw [hc16]; decide) (by rw [hc16]; decide) (by rw [hc16]; decide) (by decide) ?_
    refine V_iconst (v := 0) C d_M_nameOf_88 (by decide) ?_
    exact V_iret hR hf d_M_nameOf_89
  have hf := ite_f hf hc16
  by_cases hc17 : a0 = 115
  · have hf := ite_t hf hc17
    refine V_tin (off := 95) (tgt := 96) C d_M_nameOf_1 (by rw [hc17]; decide) (by rw [hc17]; decide) (by rw [hc17]; decide) (by decide) ?_
    refine V_iconst (v := 4) C d_M_nameOf_96 (by decide) ?_
    exact V_iret hR hf d_M_nameOf_97
  have hf := ite_f hf hc17
  have hc0t := neT (k := 98) 98 (by decide) hc0
  have hc1t := neT (k := 99) 99 (by decide) hc1
  have hc2t := neT (k := 100) 100 (by decide) hc2
  have hc3t := neT (k := 101) 101 (by decide) hc3
  have hc4t := neT (k := 102) 102 (by decide) hc4
  have hc5t := neT (k := 103) 103 (by decide) hc5
  have hc6t := neT (k := 104) 104 (by decide) hc6
  have hc7t := neT (k := 105) 105 (by decide) hc7
  have hc8t := neT (k := 106) 106 (by decide) hc8
  have hc9t := neT (k := 107) 107 (by decide) hc9
  have hc10t := neT (k := 108) 108 (by decide) hc10
  have hc11t := neT (k := 109) 109 (by decide) hc11
  have hc12t := neT (k := 110) 110 (by decide) hc12
  have hc13t := neT (k := 111) 111 (by decide) hc13
  have hc14t := neT (k := 112) 112 (by decide) hc14
  have hc15t := neT (k := 113) 113 (by decide) hc15
  have hc16t := neT (k := 114) 114 (by decide) hc16
  have hc17t := neT (k := 115) 115 (by decide) hc17
  refine V_tout (tgt := 100) C d_M_nameOf_1 (by omega) (by decide) ?_
  refine V_iconst (v := -1) C d_M_nameOf_100 (by decide) ?_
  exact V_iret hR hf d_M_nameOf_101
theorem c_M_nameOf {l : Launch} {g : Gx} (hok : Wok classes (wM g)) {σ : St} {a0 : Int32} {r : Int32} (hf : f_M_nameOf a0 = some r) : CtI classes l y_M_nameOf b_M_nameOf 1 (some .int) 1 (wM g) [.int a0] σ r σ :=
  MetI (by decide +kernel) hok (Nat.le_of_ble_eq_true rfl) (fun E _ C hR => w_M_nameOf C hR hf)
set_option maxRecDepth 4000 in
theorem w_M_opens {E : Ev} {g : Gx} {r : Int32} {σ' : St} (C : Cx E classes 1 (wM g) b_M_opens "WithTheRedsModel" 2) (hR : RetZ E classes 1 (wM g) b_M_opens r σ') {σ : St} (hf : f_M_opens σ = some (r, σ')) : V E classes 1 (wM g) σ 0 [(0, .ref (g.2.1 0))] [] := by
  unfold f_M_opens at hf
  refine V_aload_n C 0 d_M_opens_0 rfl ?_
  refine gM_M_open (v := σ.1 24) C fl_M_206 rfl d_M_opens_1 ?_
  refine V_bipush (v := 6) C d_M_opens_4 (by decide) ?_
  refine V_icmp_ne (pc := 6) (tgt := 15) C d_M_opens_6 (by decide) hf (fun hf => ?_) (fun hf => ?_)
  · refine V_aload_n C 0 d_M_opens_15 rfl ?_
    refine V_dup C d_M_opens_16 rfl ?_
    refine gM_M_open (v := σ.1 24) C fl_M_206 rfl d_M_opens_17 ?_
    refine V_iconst (v := 1) C d_M_opens_20 (by decide) ?_
    refine V_iadd C d_M_opens_21 ?_
    refine pM_M_open C fl_M_206 d_M_opens_22 ?_
    refine V_aload_n C 0 d_M_opens_25 rfl ?_
    refine V_dup C d_M_opens_26 rfl ?_
    refine gM_M_here (v := σ.1 22) C fl_M_197 rfl d_M_opens_27 ?_
    refine V_iconst (v := 1) C d_M_opens_30 (by decide) ?_
    refine V_iadd C d_M_opens_31 ?_
    refine pM_M_here C fl_M_197 d_M_opens_32 ?_
    refine V_iconst (v := 1) C d_M_opens_35 (by decide) ?_
    exact V_zretW hR hf rfl d_M_opens_36
  · refine V_aload_n C 0 d_M_opens_9 rfl ?_
    obtain ⟨σ10_1, hg, hf⟩ := bd hf
    refine V_callVv C [] (c_M_wrong C.2.2.2.2.2.2.2.1 hg) (by decide) cw_M_209 0 rfl rfl rfl rfl (Nat.le_of_ble_eq_true rfl) rfl d_M_opens_10 ?_
    refine V_iconst (v := 0) C d_M_opens_13 (by decide) ?_
    exact V_zretW hR hf rfl d_M_opens_14
theorem c_M_opens {l : Launch} {g : Gx} (hok : Wok classes (wM g)) {σ : St} {r : Int32} {σ' : St} (hf : f_M_opens σ = some (r, σ')) : CtI classes l y_M_opens b_M_opens 1 (some .boolean) 2 (wM g) [.ref (g.2.1 0)] σ r σ' :=
  MetZ (by decide +kernel) hok (Nat.le_of_ble_eq_true rfl) (fun E _ C hR => w_M_opens C hR hf)
set_option maxRecDepth 4000 in
theorem w_M_product_38 {E : Ev} {g : Gx} {σ' : St} {rec : St → Option St} {D : Nat} (hD : 3 ≤ D) (hrec : ∀ {l : Launch} {σ : St} {σ' : St}, rec σ = some σ' → CtV classes l y_M_operand b_M_operand 2 none D (wM g) [.ref (g.2.1 0)] σ σ') (C : Cx E classes 2 (wM g) b_M_product "WithTheRedsModel" (D + 1)) (hR : RetV E classes 2 (wM g) b_M_product σ') {k4 : St → Option St} (hk4 : ∀ (σ : St), k4 σ = some σ' → V E classes 2 (wM g) σ 4 [(0, .ref (g.2.1 0))] []) : ∀ (σ : St), f_M_product_38 rec k4 σ = some σ' → V E classes 2 (wM g) σ 38 [(0, .ref (g.2.1 0))] [] := by
  intro σ hf
  unfold f_M_product_38 at hf
  refine V_aload_n C 0 d_M_product_38 rfl ?_
  obtain ⟨r39_1, hg, hf⟩ := bd hf
  refine V_callVi C [] (c_M_look C.2.2.2.2.2.2.2.1 hg) (by omega) cw_M_212 0 rfl rfl rfl rfl (Nat.le_of_ble_eq_true rfl) rfl d_M_product_39 ?_
  refine V_istore_n C d_M_product_42 (by decide) rfl ?_
  refine V_aload_n C 1 d_M_product_43 rfl ?_
  refine V_dup C d_M_product_44 rfl ?_
  refine gM_M_here (v := σ.1 22) C fl_M_197 rfl d_M_product_45 ?_
  refine V_iconst (v := 1) C d_M_product_48 (by decide) ?_
  refine V_iadd C d_M_product_49 ?_
  refine pM_M_here C fl_M_197 d_M_product_50 ?_
  refine V_aload_n C 1 d_M_product_53 rfl ?_
  obtain ⟨σ54_2, hg, hf⟩ := bd hf
  refine V_callVv C [] (hrec hg) (by omega) cw_M_228 0 rfl rfl rfl rfl (Nat.le_of_ble_eq_true rfl) rfl d_M_product_54 ?_
  refine V_aload_n C 1 d_M_product_57 rfl ?_
  refine V_iload_n C 0 d_M_product_58 rfl ?_
  refine V_iconst (v := 0) C d_M_product_59 (by decide) ?_
  obtain ⟨σ60_3, hg, hf⟩ := bd hf
  refine V_callVv C [.int r39_1, .int (0 : Int32)] (c_M_addStep C.2.2.2.2.2.2.2.1 hg) (by omega) cw_M_216 0 rfl rfl rfl rfl (Nat.le_of_ble_eq_true rfl) rfl d_M_product_60 ?_
  refine V_goto (pc := 63) (tgt := 4) C d_M_product_63 (by decide) ?_
  refine V.sub [1] rfl ?_
  exact hk4 σ60_3 hf
set_option maxRecDepth 4000 in
theorem w_M_product_4 {E : Ev} {g : Gx} {σ' : St} {rec : St → Option St} {D : Nat} (hD : 3 ≤ D) (hrec : ∀ {l : Launch} {σ : St} {σ' : St}, rec σ = some σ' → CtV classes l y_M_operand b_M_operand 2 none D (wM g) [.ref (g.2.1 0)] σ σ') (C : Cx E classes 2 (wM g) b_M_product "WithTheRedsModel" (D + 1)) (hR : RetV E classes 2 (wM g) b_M_product σ') : ∀ (n : Nat) (σ : St), f_M_product_4 rec n σ = some σ' → V E classes 2 (wM g) σ 4 [(0, .ref (g.2.1 0))] [] := by
  intro n
  induction n with
  | zero => intro σ hf; exact absurd hf (by unfold f_M_product_4; exact nofun)
  | succ n ih =>
    intro σ hf
    unfold f_M_product_4 at hf
    refine V_aload_n C 0 d_M_product_4 rfl ?_
    refine gM_M_fault (v := σ.1 23) C fl_M_200 rfl d_M_product_5 ?_
    refine V_if_ge (pc := 8) (tgt := 66) C d_M_product_8 (by decide) hf (fun hf => ?_) (fun hf => ?_)
    · exact V_vret hR hf d_M_product_66
    · refine V_aload_n C 0 d_M_product_11 rfl ?_
      obtain ⟨r12_1, hg, hf⟩ := bd hf
      refine V_callVi C [] (c_M_look C.2.2.2.2.2.2.2.1 hg) (by omega) cw_M_212 0 rfl rfl rfl rfl (Nat.le_of_ble_eq_true rfl) rfl d_M_product_12 ?_
      refine V_bipush (v := 42) C d_M_product_15 (by decide) ?_
      refine V_icmp_eq (pc := 17) (tgt := 38) C d_M_product_17 (by decide) hf (fun hf => ?_) (fun hf => ?_)
      · exact w_M_product_38 hD hrec C hR ih σ hf
      · refine V_aload_n C 0 d_M_product_20 rfl ?_
        obtain ⟨r21_2, hg, hf⟩ := bd hf
        refine V_callVi C [] (c_M_look C.2.2.2.2.2.2.2.1 hg) (by omega) cw_M_212 0 rfl rfl rfl rfl (Nat.le_of_ble_eq_true rfl) rfl d_M_product_21 ?_
        refine V_bipush (v := 47) C d_M_product_24 (by decide) ?_
        refine V_icmp_eq (pc := 26) (tgt := 38) C d_M_product_26 (by decide) hf (fun hf => ?_) (fun hf => ?_)
        · exact w_M_product_38 hD hrec C hR ih σ hf
        · refine V_aload_n C 0 d_M_product_29 rfl ?_
          obtain ⟨r30_3, hg, hf⟩ := bd hf
          refine V_callVi C [] (c_M_look C.2.2.2.2.2.2.2.1 hg) (by omega) cw_M_212 0 rfl rfl rfl rfl (Nat.le_of_ble_eq_true rfl) rfl d_M_product_30 ?_
          refine V_bipush (v := 37) C d_M_product_33 (by decide) ?_
          refine V_icmp_ne (pc := 35) (tgt := 66) C d_M_product_35 (by decide) hf (fun hf => ?_) (fun hf => ?_)
          · exact V_vret hR hf d_M_product_66
          · exact w_M_product_38 hD hrec C hR ih σ hf
set_option maxRecDepth 4000 in
theorem w_M_product {E : Ev} {g : Gx} {σ' : St} {rec : St → Option St} {D : Nat} (hD : 3 ≤ D) (hrec : ∀ {l : Launch} {σ : St} {σ' : St}, rec σ = some σ' → CtV classes l y_M_operand b_M_operand 2 none D (wM g) [.ref (g.2.1 0)] σ σ') (C : Cx E classes 2 (wM g) b_M_product "WithTheRedsModel" (D + 1)) (hR : RetV E classes 2 (wM g) b_M_product σ') {σ : St} (hf : f_M_product rec σ = some σ') : V E classes 2 (wM g) σ 0 [(0, .ref (g.2.1 0))] [] := by
  unfold f_M_product at hf
  refine V_aload_n C 0 d_M_product_0 rfl ?_
  obtain ⟨σ1_1, hg, hf⟩ := bd hf
  refine V_callVv C [] (hrec hg) (by omega) cw_M_228 0 rfl rfl rfl rfl (Nat.le_of_ble_eq_true rfl) rfl d_M_product_1 ?_
  exact w_M_product_4 hD hrec C hR FU σ1_1 hf
theorem c_M_product {l : Launch} {g : Gx} (hok : Wok classes (wM g)) {rec : St → Option St} {D : Nat} (hD : 3 ≤ D) (hrec : ∀ {l : Launch} {σ : St} {σ' : St}, rec σ = some σ' → CtV classes l y_M_operand b_M_operand 2 none D (wM g) [.ref (g.2.1 0)] σ σ') {σ : St} {σ' : St} (hf : f_M_product rec σ = some σ') : CtV classes l y_M_product b_M_product 2 none (D + 1) (wM g) [.ref (g.2.1 0)] σ σ' :=
  MetV (by decide +kernel) hok (Nat.le_of_ble_eq_true rfl) (fun E _ C hR => w_M_product hD hrec C hR hf)
set_option maxRecDepth 4000 in
theorem w_M_sum_29 {E : Ev} {g : Gx} {σ' : St} {rec : St → Option St} {D : Nat} (hD : 3 ≤ D) (hrec : ∀ {l : Launch} {σ : St} {σ' : St}, rec σ = some σ' → CtV classes l y_M_operand b_M_operand 2 none D (wM g) [.ref (g.2.1 0)] σ σ') (C : Cx E classes 2 (wM g) b_M_sum "WithTheRedsModel" (D + 2)) (hR : RetV E classes 2 (wM g) b_M_sum σ') {k4 : St → Option St} (hk4 : ∀ (σ : St), k4 σ = some σ' → V E classes 2 (wM g) σ 4 [(0, .ref (g.2.1 0))] []) : ∀ (σ : St), f_M_sum_29 rec k4 σ = some σ' → V E classes 2 (wM g) σ 29 [(0, .ref (g.2.1 0))] [] := by
  intro σ hf
  unfold f_M_sum_29 at hf
  refine V_aload_n C 0 d_M_sum_29 rfl ?_
  obtain ⟨r30_1, hg, hf⟩ := bd hf
  refine V_callVi C [] (c_M_look C.2.2.2.2.2.2.2.1 hg) (by omega) cw_M_212 0 rfl rfl rfl rfl (Nat.le_of_ble_eq_true rfl) rfl d_M_sum_30 ?_
  refine V_istore_n C d_M_sum_33 (by decide) rfl ?_
  refine V_aload_n C 1 d_M_sum_34 rfl ?_
  refine V_dup C d_M_sum_35 rfl ?_
  refine gM_M_here (v := σ.1 22) C fl_M_197 rfl d_M_sum_36 ?_
  refine V_iconst (v := 1) C d_M_sum_39 (by decide) ?_
  refine V_iadd C d_M_sum_40 ?_
  refine pM_M_here C fl_M_197 d_M_sum_41 ?_
  refine V_aload_n C 1 d_M_sum_44 rfl ?_
  obtain ⟨σ45_2, hg, hf⟩ := bd hf
  refine V_callVv C [] (c_M_product C.2.2.2.2.2.2.2.1 hD hrec hg) (by omega) cw_M_237 0 rfl rfl rfl rfl (Nat.le_of_ble_eq_true rfl) rfl d_M_sum_45 ?_
  refine V_aload_n C 1 d_M_sum_48 rfl ?_
  refine V_iload_n C 0 d_M_sum_49 rfl ?_
  refine V_iconst (v := 0) C d_M_sum_50 (by decide) ?_
  obtain ⟨σ51_3, hg, hf⟩ := bd hf
  refine V_callVv C [.int r30_1, .int (0 : Int32)] (c_M_addStep C.2.2.2.2.2.2.2.1 hg) (by omega) cw_M_216 0 rfl rfl rfl rfl (Nat.le_of_ble_eq_true rfl) rfl d_M_sum_51 ?_
  refine V_goto (pc := 54) (tgt := 4) C d_M_sum_54 (by decide) ?_
  refine V.sub [1] rfl ?_
  exact hk4 σ51_3 hf
set_option maxRecDepth 4000 in
theorem w_M_sum_4 {E : Ev} {g : Gx} {σ' : St} {rec : St → Option St} {D : Nat} (hD : 3 ≤ D) (hrec : ∀ {l : Launch} {σ : St} {σ' : St}, rec σ = some σ' → CtV classes l y_M_operand b_M_operand 2 none D (wM g) [.ref (g.2.1 0)] σ σ') (C : Cx E classes 2 (wM g) b_M_sum "WithTheRedsModel" (D + 2)) (hR : RetV E classes 2 (wM g) b_M_sum σ') : ∀ (n : Nat) (σ : St), f_M_sum_4 rec n σ = some σ' → V E classes 2 (wM g) σ 4 [(0, .ref (g.2.1 0))] [] := by
  intro n
  induction n with
  | zero => intro σ hf; exact absurd hf (by unfold f_M_sum_4; exact nofun)
  | succ n ih =>
    intro σ hf
    unfold f_M_sum_4 at hf
    refine V_aload_n C 0 d_M_sum_4 rfl ?_
    refine gM_M_fault (v := σ.1 23) C fl_M_200 rfl d_M_sum_5 ?_
    refine V_if_ge (pc := 8) (tgt := 57) C d_M_sum_8 (by decide) hf (fun hf => ?_) (fun hf => ?_)
    · exact V_vret hR hf d_M_sum_57
    · refine V_aload_n C 0 d_M_sum_11 rfl ?_
      obtain ⟨r12_1, hg, hf⟩ := bd hf
      refine V_callVi C [] (c_M_look C.2.2.2.2.2.2.2.1 hg) (by omega) cw_M_212 0 rfl rfl rfl rfl (Nat.le_of_ble_eq_true rfl) rfl d_M_sum_12 ?_
      refine V_bipush (v := 43) C d_M_sum_15 (by decide) ?_
      refine V_icmp_eq (pc := 17) (tgt := 29) C d_M_sum_17 (by decide) hf (fun hf => ?_) (fun hf => ?_)
      · exact w_M_sum_29 hD hrec C hR ih σ hf
      · refine V_aload_n C 0 d_M_sum_20 rfl ?_
        obtain ⟨r21_2, hg, hf⟩ := bd hf
        refine V_callVi C [] (c_M_look C.2.2.2.2.2.2.2.1 hg) (by omega) cw_M_212 0 rfl rfl rfl rfl (Nat.le_of_ble_eq_true rfl) rfl d_M_sum_21 ?_
        refine V_bipush (v := 45) C d_M_sum_24 (by decide) ?_
        refine V_icmp_ne (pc := 26) (tgt := 57) C d_M_sum_26 (by decide) hf (fun hf => ?_) (fun hf => ?_)
        · exact V_vret hR hf d_M_sum_57
        · exact w_M_sum_29 hD hrec C hR ih σ hf
set_option maxRecDepth 4000 in
theorem w_M_sum {E : Ev} {g : Gx} {σ' : St} {rec : St → Option St} {D : Nat} (hD : 3 ≤ D) (hrec : ∀ {l : Launch} {σ : St} {σ' : St}, rec σ = some σ' → CtV classes l y_M_operand b_M_operand 2 none D (wM g) [.ref (g.2.1 0)] σ σ') (C : Cx E classes 2 (wM g) b_M_sum "WithTheRedsModel" (D + 2)) (hR : RetV E classes 2 (wM g) b_M_sum σ') {σ : St} (hf : f_M_sum rec σ = some σ') : V E classes 2 (wM g) σ 0 [(0, .ref (g.2.1 0))] [] := by
  unfold f_M_sum at hf
  refine V_aload_n C 0 d_M_sum_0 rfl ?_
  obtain ⟨σ1_1, hg, hf⟩ := bd hf
  refine V_callVv C [] (c_M_product C.2.2.2.2.2.2.2.1 hD hrec hg) (by omega) cw_M_237 0 rfl rfl rfl rfl (Nat.le_of_ble_eq_true rfl) rfl d_M_sum_1 ?_
  exact w_M_sum_4 hD hrec C hR FU σ1_1 hf
theorem c_M_sum {l : Launch} {g : Gx} (hok : Wok classes (wM g)) {rec : St → Option St} {D : Nat} (hD : 3 ≤ D) (hrec : ∀ {l : Launch} {σ : St} {σ' : St}, rec σ = some σ' → CtV classes l y_M_operand b_M_operand 2 none D (wM g) [.ref (g.2.1 0)] σ σ') {σ : St} {σ' : St} (hf : f_M_sum rec σ = some σ') : CtV classes l y_M_sum b_M_sum 2 none (D + 2) (wM g) [.ref (g.2.1 0)] σ σ' :=
  MetV (by decide +kernel) hok (Nat.le_of_ble_eq_true rfl) (fun E _ C hR => w_M_sum hD hrec C hR hf)
set_option maxRecDepth 4000 in
theorem w_M_compared_35 {E : Ev} {g : Gx} {σ' : St} {rec : St → Option St} {D : Nat} (hD : 3 ≤ D) (hrec : ∀ {l : Launch} {σ : St} {σ' : St}, rec σ = some σ' → CtV classes l y_M_operand b_M_operand 2 none D (wM g) [.ref (g.2.1 0)] σ σ') (C : Cx E classes 2 (wM g) b_M_compared "WithTheRedsModel" (D + 3)) (hR : RetV E classes 2 (wM g) b_M_compared σ') : ∀ (σ : St) (x1 : Int32), f_M_compared_35 rec σ x1 = some σ' → V E classes 2 (wM g) σ 35 [(0, .ref (g.2.1 0)), (1, .int x1)] [] := by
  intro σ x1 hf
  unfold f_M_compared_35 at hf
  refine V_aload_n C 0 d_M_compared_35 rfl ?_
  refine V_dup C d_M_compared_36 rfl ?_
  refine gM_M_here (v := σ.1 22) C fl_M_197 rfl d_M_compared_37 ?_
  refine V_iconst (v := 1) C d_M_compared_40 (by decide) ?_
  refine V_iadd C d_M_compared_41 ?_
  refine pM_M_here C fl_M_197 d_M_compared_42 ?_
  refine V_aload_n C 0 d_M_compared_45 rfl ?_
  obtain ⟨σ46_1, hg, hf⟩ := bd hf
  refine V_callVv C [] (c_M_sum C.2.2.2.2.2.2.2.1 hD hrec hg) (by omega) cw_M_240 0 rfl rfl rfl rfl (Nat.le_of_ble_eq_true rfl) rfl d_M_compared_46 ?_
  refine V_aload_n C 0 d_M_compared_49 rfl ?_
  refine V_iload_n C 1 d_M_compared_50 rfl ?_
  refine V_iconst (v := 0) C d_M_compared_51 (by decide) ?_
  obtain ⟨σ52_2, hg, hf⟩ := bd hf
  refine V_callVv C [.int x1, .int (0 : Int32)] (c_M_addStep C.2.2.2.2.2.2.2.1 hg) (by omega) cw_M_216 0 rfl rfl rfl rfl (Nat.le_of_ble_eq_true rfl) rfl d_M_compared_52 ?_
  exact V_vret hR hf d_M_compared_55
set_option maxRecDepth 4000 in
theorem w_M_compared {E : Ev} {g : Gx} {σ' : St} {rec : St → Option St} {D : Nat} (hD : 3 ≤ D) (hrec : ∀ {l : Launch} {σ : St} {σ' : St}, rec σ = some σ' → CtV classes l y_M_operand b_M_operand 2 none D (wM g) [.ref (g.2.1 0)] σ σ') (C : Cx E classes 2 (wM g) b_M_compared "WithTheRedsModel" (D + 3)) (hR : RetV E classes 2 (wM g) b_M_compared σ') {σ : St} (hf : f_M_compared rec σ = some σ') : V E classes 2 (wM g) σ 0 [(0, .ref (g.2.1 0))] [] := by
  unfold f_M_compared at hf
  refine V_aload_n C 0 d_M_compared_0 rfl ?_
  obtain ⟨σ1_1, hg, hf⟩ := bd hf
  refine V_callVv C [] (c_M_sum C.2.2.2.2.2.2.2.1 hD hrec hg) (by omega) cw_M_240 0 rfl rfl rfl rfl (Nat.le_of_ble_eq_true rfl) rfl d_M_compared_1 ?_
  refine V_aload_n C 0 d_M_compared_4 rfl ?_
  obtain ⟨r5_2, hg, hf⟩ := bd hf
  refine V_callVi C [] (c_M_look C.2.2.2.2.2.2.2.1 hg) (by omega) cw_M_212 0 rfl rfl rfl rfl (Nat.le_of_ble_eq_true rfl) rfl d_M_compared_5 ?_
  refine V_istore_n C d_M_compared_8 (by decide) rfl ?_
  refine V_aload_n C 1 d_M_compared_9 rfl ?_
  refine gM_M_fault (v := σ1_1.1 23) C fl_M_200 rfl d_M_compared_10 ?_
  refine V_if_ge (pc := 13) (tgt := 34) C d_M_compared_13 (by decide) hf (fun hf => ?_) (fun hf => ?_)
  · exact V_vret hR hf d_M_compared_34
  · refine V_iload_n C 0 d_M_compared_16 rfl ?_
    refine V_bipush (v := 60) C d_M_compared_17 (by decide) ?_
    refine V_icmp_eq (pc := 19) (tgt := 35) C d_M_compared_19 (by decide) hf (fun hf => ?_) (fun hf => ?_)
    · refine V.sub [1, 0] rfl ?_
      exact w_M_compared_35 hD hrec C hR σ1_1 r5_2 hf
    · refine V_iload_n C 0 d_M_compared_22 rfl ?_
      refine V_bipush (v := 61) C d_M_compared_23 (by decide) ?_
      refine V_icmp_eq (pc := 25) (tgt := 35) C d_M_compared_25 (by decide) hf (fun hf => ?_) (fun hf => ?_)
      · refine V.sub [1, 0] rfl ?_
        exact w_M_compared_35 hD hrec C hR σ1_1 r5_2 hf
      · refine V_iload_n C 0 d_M_compared_28 rfl ?_
        refine V_bipush (v := 62) C d_M_compared_29 (by decide) ?_
        refine V_icmp_eq (pc := 31) (tgt := 35) C d_M_compared_31 (by decide) hf (fun hf => ?_) (fun hf => ?_)
        · refine V.sub [1, 0] rfl ?_
          exact w_M_compared_35 hD hrec C hR σ1_1 r5_2 hf
        · exact V_vret hR hf d_M_compared_34
theorem c_M_compared {l : Launch} {g : Gx} (hok : Wok classes (wM g)) {rec : St → Option St} {D : Nat} (hD : 3 ≤ D) (hrec : ∀ {l : Launch} {σ : St} {σ' : St}, rec σ = some σ' → CtV classes l y_M_operand b_M_operand 2 none D (wM g) [.ref (g.2.1 0)] σ σ') {σ : St} {σ' : St} (hf : f_M_compared rec σ = some σ') : CtV classes l y_M_compared b_M_compared 2 none (D + 3) (wM g) [.ref (g.2.1 0)] σ σ' :=
  MetV (by decide +kernel) hok (Nat.le_of_ble_eq_true rfl) (fun E _ C hR => w_M_compared hD hrec C hR hf)
set_option maxRecDepth 4000 in
theorem w_M_both_4 {E : Ev} {g : Gx} {σ' : St} {rec : St → Option St} {D : Nat} (hD : 3 ≤ D) (hrec : ∀ {l : Launch} {σ : St} {σ' : St}, rec σ = some σ' → CtV classes l y_M_operand b_M_operand 2 none D (wM g) [.ref (g.2.1 0)] σ σ') (C : Cx E classes 1 (wM g) b_M_both "WithTheRedsModel" (D + 4)) (hR : RetV E classes 1 (wM g) b_M_both σ') : ∀ (n : Nat) (σ : St), f_M_both_4 rec n σ = some σ' → V E classes 1 (wM g) σ 4 [(0, .ref (g.2.1 0))] [] := by
  intro n
  induction n with
  | zero => intro σ hf; exact absurd hf (by unfold f_M_both_4; exact nofun)
  | succ n ih =>
    intro σ hf
    unfold f_M_both_4 at hf
    refine V_aload_n C 0 d_M_both_4 rfl ?_
    refine gM_M_fault (v := σ.1 23) C fl_M_200 rfl d_M_both_5 ?_
    refine V_if_ge (pc := 8) (tgt := 44) C d_M_both_8 (by decide) hf (fun hf => ?_) (fun hf => ?_)
    · exact V_vret hR hf d_M_both_44
    · refine V_aload_n C 0 d_M_both_11 rfl ?_
      obtain ⟨r12_1, hg, hf⟩ := bd hf
      refine V_callVi C [] (c_M_look C.2.2.2.2.2.2.2.1 hg) (by omega) cw_M_212 0 rfl rfl rfl rfl (Nat.le_of_ble_eq_true rfl) rfl d_M_both_12 ?_
      refine V_bipush (v := 38) C d_M_both_15 (by decide) ?_
      refine V_icmp_ne (pc := 17) (tgt := 44) C d_M_both_17 (by decide) hf (fun hf => ?_) (fun hf => ?_)
      · exact V_vret hR hf d_M_both_44
      · refine V_aload_n C 0 d_M_both_20 rfl ?_
        refine V_dup C d_M_both_21 rfl ?_
        refine gM_M_here (v := σ.1 22) C fl_M_197 rfl d_M_both_22 ?_
        refine V_iconst (v := 1) C d_M_both_25 (by decide) ?_
        refine V_iadd C d_M_both_26 ?_
        refine pM_M_here C fl_M_197 d_M_both_27 ?_
        refine V_aload_n C 0 d_M_both_30 rfl ?_
        obtain ⟨σ31_2, hg, hf⟩ := bd hf
        refine V_callVv C [] (c_M_compared C.2.2.2.2.2.2.2.1 hD hrec hg) (by omega) cw_M_243 0 rfl rfl rfl rfl (Nat.le_of_ble_eq_true rfl) rfl d_M_both_31 ?_
        refine V_aload_n C 0 d_M_both_34 rfl ?_
        refine V_bipush (v := 38) C d_M_both_35 (by decide) ?_
        refine V_iconst (v := 0) C d_M_both_37 (by decide) ?_
        obtain ⟨σ38_3, hg, hf⟩ := bd hf
        refine V_callVv C [.int (38 : Int32), .int (0 : Int32)] (c_M_addStep C.2.2.2.2.2.2.2.1 hg) (by omega) cw_M_216 0 rfl rfl rfl rfl (Nat.le_of_ble_eq_true rfl) rfl d_M_both_38 ?_
        refine V_goto (pc := 41) (tgt := 4) C d_M_both_41 (by decide) ?_
        exact ih σ38_3 hf
set_option maxRecDepth 4000 in
theorem w_M_both {E : Ev} {g : Gx} {σ' : St} {rec : St → Option St} {D : Nat} (hD : 3 ≤ D) (hrec : ∀ {l : Launch} {σ : St} {σ' : St}, rec σ = some σ' → CtV classes l y_M_operand b_M_operand 2 none D (wM g) [.ref (g.2.1 0)] σ σ') (C : Cx E classes 1 (wM g) b_M_both "WithTheRedsModel" (D + 4)) (hR : RetV E classes 1 (wM g) b_M_both σ') {σ : St} (hf : f_M_both rec σ = some σ') : V E classes 1 (wM g) σ 0 [(0, .ref (g.2.1 0))] [] := by
  unfold f_M_both at hf
  refine V_aload_n C 0 d_M_both_0 rfl ?_
  obtain ⟨σ1_1, hg, hf⟩ := bd hf
  refine V_callVv C [] (c_M_compared C.2.2.2.2.2.2.2.1 hD hrec hg) (by omega) cw_M_243 0 rfl rfl rfl rfl (Nat.le_of_ble_eq_true rfl) rfl d_M_both_1 ?_
  exact w_M_both_4 hD hrec C hR FU σ1_1 hf
theorem c_M_both {l : Launch} {g : Gx} (hok : Wok classes (wM g)) {rec : St → Option St} {D : Nat} (hD : 3 ≤ D) (hrec : ∀ {l : Launch} {σ : St} {σ' : St}, rec σ = some σ' → CtV classes l y_M_operand b_M_operand 2 none D (wM g) [.ref (g.2.1 0)] σ σ') {σ : St} {σ' : St} (hf : f_M_both rec σ = some σ') : CtV classes l y_M_both b_M_both 1 none (D + 4) (wM g) [.ref (g.2.1 0)] σ σ' :=
  MetV (by decide +kernel) hok (Nat.le_of_ble_eq_true rfl) (fun E _ C hR => w_M_both hD hrec C hR hf)
set_option maxRecDepth 4000 in
theorem w_M_either_4 {E : Ev} {g : Gx} {σ' : St} {rec : St → Option St} {D : Nat} (hD : 3 ≤ D) (hrec : ∀ {l : Launch} {σ : St} {σ' : St}, rec σ = some σ' → CtV classes l y_M_operand b_M_operand 2 none D (wM g) [.ref (g.2.1 0)] σ σ') (C : Cx E classes 1 (wM g) b_M_either "WithTheRedsModel" (D + 5)) (hR : RetV E classes 1 (wM g) b_M_either σ') : ∀ (n : Nat) (σ : St), f_M_either_4 rec n σ = some σ' → V E classes 1 (wM g) σ 4 [(0, .ref (g.2.1 0))] [] := by
  intro n
  induction n with
  | zero => intro σ hf; exact absurd hf (by unfold f_M_either_4; exact nofun)
  | succ n ih =>
    intro σ hf
    unfold f_M_either_4 at hf
    refine V_aload_n C 0 d_M_either_4 rfl ?_
    refine gM_M_fault (v := σ.1 23) C fl_M_200 rfl d_M_either_5 ?_
    refine V_if_ge (pc := 8) (tgt := 44) C d_M_either_8 (by decide) hf (fun hf => ?_) (fun hf => ?_)
    · exact V_vret hR hf d_M_either_44
    · refine V_aload_n C 0 d_M_either_11 rfl ?_
      obtain ⟨r12_1, hg, hf⟩ := bd hf
      refine V_callVi C [] (c_M_look C.2.2.2.2.2.2.2.1 hg) (by omega) cw_M_212 0 rfl rfl rfl rfl (Nat.le_of_ble_eq_true rfl) rfl d_M_either_12 ?_
      refine V_bipush (v := 124) C d_M_either_15 (by decide) ?_
      refine V_icmp_ne (pc := 17) (tgt := 44) C d_M_either_17 (by decide) hf (fun hf => ?_) (fun hf => ?_)
      · exact V_vret hR hf d_M_either_44
      · refine V_aload_n C 0 d_M_either_20 rfl ?_
        refine V_dup C d_M_either_21 rfl ?_
        refine gM_M_here (v := σ.1 22) C fl_M_197 rfl d_M_either_22 ?_
        refine V_iconst (v := 1) C d_M_either_25 (by decide) ?_
        refine V_iadd C d_M_either_26 ?_
        refine pM_M_here C fl_M_197 d_M_either_27 ?_
        refine V_aload_n C 0 d_M_either_30 rfl ?_
        obtain ⟨σ31_2, hg, hf⟩ := bd hf
        refine V_callVv C [] (c_M_both C.2.2.2.2.2.2.2.1 hD hrec hg) (by omega) cw_M_246 0 rfl rfl rfl rfl (Nat.le_of_ble_eq_true rfl) rfl d_M_either_31 ?_
        refine V_aload_n C 0 d_M_either_34 rfl ?_
        refine V_bipush (v := 124) C d_M_either_35 (by decide) ?_
        refine V_iconst (v := 0) C d_M_either_37 (by decide) ?_
        obtain ⟨σ38_3, hg, hf⟩ := bd hf
        refine V_callVv C [.int (124 : Int32), .int (0 : Int32)] (c_M_addStep C.2.2.2.2.2.2.2.1 hg) (by omega) cw_M_216 0 rfl rfl rfl rfl (Nat.le_of_ble_eq_true rfl) rfl d_M_either_38 ?_
        refine V_goto (pc := 41) (tgt := 4) C d_M_either_41 (by decide) ?_
        exact ih σ38_3 hf
set_option maxRecDepth 4000 in
theorem w_M_either {E : Ev} {g : Gx} {σ' : St} {rec : St → Option St} {D : Nat} (hD : 3 ≤ D) (hrec : ∀ {l : Launch} {σ : St} {σ' : St}, rec σ = some σ' → CtV classes l y_M_operand b_M_operand 2 none D (wM g) [.ref (g.2.1 0)] σ σ') (C : Cx E classes 1 (wM g) b_M_either "WithTheRedsModel" (D + 5)) (hR : RetV E classes 1 (wM g) b_M_either σ') {σ : St} (hf : f_M_either rec σ = some σ') : V E classes 1 (wM g) σ 0 [(0, .ref (g.2.1 0))] [] := by
  unfold f_M_either at hf
  refine V_aload_n C 0 d_M_either_0 rfl ?_
  obtain ⟨σ1_1, hg, hf⟩ := bd hf
  refine V_callVv C [] (c_M_both C.2.2.2.2.2.2.2.1 hD hrec hg) (by omega) cw_M_246 0 rfl rfl rfl rfl (Nat.le_of_ble_eq_true rfl) rfl d_M_either_1 ?_
  exact w_M_either_4 hD hrec C hR FU σ1_1 hf
theorem c_M_either {l : Launch} {g : Gx} (hok : Wok classes (wM g)) {rec : St → Option St} {D : Nat} (hD : 3 ≤ D) (hrec : ∀ {l : Launch} {σ : St} {σ' : St}, rec σ = some σ' → CtV classes l y_M_operand b_M_operand 2 none D (wM g) [.ref (g.2.1 0)] σ σ') {σ : St} {σ' : St} (hf : f_M_either rec σ = some σ') : CtV classes l y_M_either b_M_either 1 none (D + 5) (wM g) [.ref (g.2.1 0)] σ σ' :=
  MetV (by decide +kernel) hok (Nat.le_of_ble_eq_true rfl) (fun E _ C hR => w_M_either hD hrec C hR hf)
