set_option maxRecDepth 4000 in
theorem w_M_rain_35 {E : Ev} {g : Gx} {r : Int32} {σ' : St} (C : Cx E classes 5 (wM g) b_M_rain "WithTheRedsModel" 3) (hR : RetI E classes 5 (wM g) b_M_rain r σ') : ∀ (n : Nat) (σ : St) (x2 : Int32) (x3 : Int32) (x4 : Int32), f_M_rain_35 n σ x2 x3 x4 = some (r, σ') → V E classes 5 (wM g) σ 35 [(0, .ref (g.2.1 0)), (2, .int x2), (3, .int x3), (4, .int x4)] [] := by
  intro n
  induction n with
  | zero => intro σ x2 x3 x4 hf; exact absurd hf (by unfold f_M_rain_35; exact nofun)
  | succ n ih =>
    intro σ x2 x3 x4 hf
    unfold f_M_rain_35 at hf
    refine V_iload C 3 d_M_rain_35 rfl ?_
    refine V_aload_n C 0 d_M_rain_37 rfl ?_
    refine gM_M_hangMany (v := σ.1 42) C fl_M_343 rfl d_M_rain_38 ?_
    refine V_icmp_ge (pc := 41) (tgt := 109) C d_M_rain_41 (by decide) hf (fun hf => ?_) (fun hf => ?_)
    · refine V_iload_n C 2 d_M_rain_109 rfl ?_
      exact V_iretW hR hf d_M_rain_110
    · refine V_aload_n C 0 d_M_rain_44 rfl ?_
      refine gM_M_hungAt C fl_M_94 d_M_rain_45 ?_
      refine V_aload_n C 0 d_M_rain_48 rfl ?_
      refine gM_M_hangs C fl_M_100 d_M_rain_49 ?_
      refine V_iload C 3 d_M_rain_52 rfl ?_
      obtain ⟨hi54_1, hf⟩ := gu hf
      refine aM_26 (v := σ.2.1 26 x4.toNatClampNeg) C hi54_1 rfl d_M_rain_54 ?_
      obtain ⟨hi55_2, hf⟩ := gu hf
      refine aM_24 (v := σ.2.1 24 (σ.2.1 26 x4.toNatClampNeg).toNatClampNeg) C hi55_2 rfl d_M_rain_55 ?_
      refine V_if_lt (pc := 56) (tgt := 103) C d_M_rain_56 (by decide) hf (fun hf => ?_) (fun hf => ?_)
      · refine V_iinc (v := x4 + (1 : Int32)) C 3 d_M_rain_103 rfl rfl (by decide) rfl ?_
        refine V_goto (pc := 106) (tgt := 35) C d_M_rain_106 (by decide) ?_
        refine V.sub [1, 2, 3, 0] rfl ?_
        exact ih σ x2 x3 (x4 + (1 : Int32)) hf
      · refine V_aload_n C 0 d_M_rain_59 rfl ?_
        refine gM_M_hungAt C fl_M_94 d_M_rain_60 ?_
        refine V_aload_n C 0 d_M_rain_63 rfl ?_
        refine gM_M_hangs C fl_M_100 d_M_rain_64 ?_
        refine V_iload C 3 d_M_rain_67 rfl ?_
        obtain ⟨hi69_3, hf⟩ := gu hf
        refine aM_26 (v := σ.2.1 26 x4.toNatClampNeg) C hi69_3 rfl d_M_rain_69 ?_
        obtain ⟨hi70_4, hf⟩ := gu hf
        refine aM_24 (v := σ.2.1 24 (σ.2.1 26 x4.toNatClampNeg).toNatClampNeg) C hi70_4 rfl d_M_rain_70 ?_
        refine V_iload_n C 1 d_M_rain_71 rfl ?_
        refine V_icmp_gt (pc := 72) (tgt := 103) C d_M_rain_72 (by decide) hf (fun hf => ?_) (fun hf => ?_)
        · refine V_iinc (v := x4 + (1 : Int32)) C 3 d_M_rain_103 rfl rfl (by decide) rfl ?_
          refine V_goto (pc := 106) (tgt := 35) C d_M_rain_106 (by decide) ?_
          refine V.sub [1, 2, 3, 0] rfl ?_
          exact ih σ x2 x3 (x4 + (1 : Int32)) hf
        · refine V_aload_n C 0 d_M_rain_75 rfl ?_
          refine gM_M_dryAt C fl_M_97 d_M_rain_76 ?_
          refine V_aload_n C 0 d_M_rain_79 rfl ?_
          refine gM_M_hangs C fl_M_100 d_M_rain_80 ?_
          refine V_iload C 3 d_M_rain_83 rfl ?_
          obtain ⟨hi85_5, hf⟩ := gu hf
          refine aM_26 (v := σ.2.1 26 x4.toNatClampNeg) C hi85_5 rfl d_M_rain_85 ?_
          obtain ⟨hi86_6, hf⟩ := gu hf
          refine aM_25 (v := σ.2.1 25 (σ.2.1 26 x4.toNatClampNeg).toNatClampNeg) C hi86_6 rfl d_M_rain_86 ?_
          refine V_iload_n C 1 d_M_rain_87 rfl ?_
          refine V_icmp_le (pc := 88) (tgt := 103) C d_M_rain_88 (by decide) hf (fun hf => ?_) (fun hf => ?_)
          · refine V_iinc (v := x4 + (1 : Int32)) C 3 d_M_rain_103 rfl rfl (by decide) rfl ?_
            refine V_goto (pc := 106) (tgt := 35) C d_M_rain_106 (by decide) ?_
            refine V.sub [1, 2, 3, 0] rfl ?_
            exact ih σ x2 x3 (x4 + (1 : Int32)) hf
          · refine V_iload_n C 2 d_M_rain_91 rfl ?_
            refine V_iconst (v := 1) C d_M_rain_92 (by decide) ?_
            refine V_aload_n C 0 d_M_rain_93 rfl ?_
            refine gM_M_hangs C fl_M_100 d_M_rain_94 ?_
            refine V_iload C 3 d_M_rain_97 rfl ?_
            obtain ⟨hi99_7, hf⟩ := gu hf
            refine aM_26 (v := σ.2.1 26 x4.toNatClampNeg) C hi99_7 rfl d_M_rain_99 ?_
            refine V_ishl C d_M_rain_100 ?_
            refine V_ior C d_M_rain_101 ?_
            refine V_istore_n C d_M_rain_102 (by decide) rfl ?_
            refine V_iinc (v := x4 + (1 : Int32)) C 3 d_M_rain_103 rfl rfl (by decide) rfl ?_
            refine V_goto (pc := 106) (tgt := 35) C d_M_rain_106 (by decide) ?_
            refine V.sub [2, 3, 1, 0] rfl ?_
            exact ih σ x2 (x3 ||| ((1 : Int32) <<< ((σ.2.1 26 x4.toNatClampNeg) &&& 31))) (x4 + (1 : Int32)) hf
set_option maxRecDepth 4000 in
theorem w_M_rain {E : Ev} {g : Gx} {r : Int32} {σ' : St} (C : Cx E classes 5 (wM g) b_M_rain "WithTheRedsModel" 3) (hR : RetI E classes 5 (wM g) b_M_rain r σ') {σ : St} {a1 : Int32} {a2 : Int32} (hf : f_M_rain σ a1 a2 = some (r, σ')) : V E classes 5 (wM g) σ 0 [(0, .ref (g.2.1 0)), (1, .int a1), (2, .int a2)] [] := by
  unfold f_M_rain at hf
  refine V_aload_n C 0 d_M_rain_0 rfl ?_
  refine V_iload_n C 1 d_M_rain_1 rfl ?_
  obtain ⟨r2_1, hg, hf⟩ := bd hf
  refine V_callVi C [.int a1] (c_M_areThings C.2.2.2.2.2.2.2.1 hg) (by decide) cw_M_289 0 rfl rfl rfl rfl (Nat.le_of_ble_eq_true rfl) rfl d_M_rain_2 ?_
  refine V_if_eq (pc := 5) (tgt := 19) C d_M_rain_5 (by decide) hf (fun hf => ?_) (fun hf => ?_)
  · refine V_iconst (v := -1) C d_M_rain_19 (by decide) ?_
    exact V_iretW hR hf d_M_rain_20
  · refine V_iload_n C 2 d_M_rain_8 rfl ?_
    refine V_iconst (v := 0) C d_M_rain_9 (by decide) ?_
    refine V_sipush (v := 999) C d_M_rain_10 (by decide) ?_
    obtain ⟨r13_2, hg, hf⟩ := bd hf
    refine V_callSi C [.int a2, .int (0 : Int32), .int (999 : Int32)] (c_M_in C.2.2.2.2.2.2.2.1 hg) (by decide) cw_M_153 rfl (Nat.le_of_ble_eq_true rfl) rfl d_M_rain_13 ?_
    refine V_if_ne (pc := 16) (tgt := 21) C d_M_rain_16 (by decide) hf (fun hf => ?_) (fun hf => ?_)
    · refine V_aload_n C 0 d_M_rain_21 rfl ?_
      refine V_iload_n C 1 d_M_rain_22 rfl ?_
      obtain ⟨σ23_3, hg, hf⟩ := bd hf
      refine V_callVv C [.int a1] (c_M_layLine C.2.2.2.2.2.2.2.1 hg) (by decide) cw_M_352 0 rfl rfl rfl rfl (Nat.le_of_ble_eq_true rfl) rfl d_M_rain_23 ?_
      refine V_aload_n C 0 d_M_rain_26 rfl ?_
      obtain ⟨σ27_4, hg, hf⟩ := bd hf
      refine V_callVv C [] (c_M_goLine C.2.2.2.2.2.2.2.1 hg) (by decide) cw_M_356 0 rfl rfl rfl rfl (Nat.le_of_ble_eq_true rfl) rfl d_M_rain_27 ?_
      refine V_iconst (v := 0) C d_M_rain_30 (by decide) ?_
      refine V_istore_n C d_M_rain_31 (by decide) rfl ?_
      refine V_iconst (v := 0) C d_M_rain_32 (by decide) ?_
      refine V_istore C d_M_rain_33 (by decide) rfl ?_
      refine V.sub [2, 4, 1, 0] rfl ?_
      exact w_M_rain_35 C hR FU σ27_4 a2 (0 : Int32) (0 : Int32) hf
    · refine V_iconst (v := -1) C d_M_rain_19 (by decide) ?_
      exact V_iretW hR hf d_M_rain_20
theorem c_M_rain {l : Launch} {g : Gx} (hok : Wok classes (wM g)) {σ : St} {a1 : Int32} {a2 : Int32} {r : Int32} {σ' : St} (hf : f_M_rain σ a1 a2 = some (r, σ')) : CtI classes l y_M_rain b_M_rain 5 (some .int) 3 (wM g) [.ref (g.2.1 0), .int a1, .int a2] σ r σ' :=
  MetI (by decide +kernel) hok (Nat.le_of_ble_eq_true rfl) (fun E _ C hR => w_M_rain C hR hf)
set_option maxRecDepth 4000 in
theorem w_M_redo {E : Ev} {g : Gx} {r : Int32} {σ' : St} (C : Cx E classes 1 (wM g) b_M_redo "WithTheRedsModel" 2) (hR : RetI E classes 1 (wM g) b_M_redo r σ') {σ : St} (hf : f_M_redo σ = some (r, σ')) : V E classes 1 (wM g) σ 0 [(0, .ref (g.2.1 0))] [] := by
  unfold f_M_redo at hf
  refine V_aload_n C 0 d_M_redo_0 rfl ?_
  refine gM_M_undoneMany (v := σ.1 15) C fl_M_171 rfl d_M_redo_1 ?_
  refine V_if_ne (pc := 4) (tgt := 10) C d_M_redo_4 (by decide) hf (fun hf => ?_) (fun hf => ?_)
  · refine V_aload_n C 0 d_M_redo_10 rfl ?_
    refine V_aload_n C 0 d_M_redo_11 rfl ?_
    refine gM_M_changeOf C fl_M_47 d_M_redo_12 ?_
    refine V_aload_n C 0 d_M_redo_15 rfl ?_
    refine gM_M_doneMany (v := σ.1 14) C fl_M_174 rfl d_M_redo_16 ?_
    obtain ⟨hi19_1, hf⟩ := gu hf
    refine aM_9 (v := σ.2.1 9 (σ.1 14).toNatClampNeg) C hi19_1 rfl d_M_redo_19 ?_
    refine V_aload_n C 0 d_M_redo_20 rfl ?_
    refine gM_M_changeAt C fl_M_50 d_M_redo_21 ?_
    refine V_aload_n C 0 d_M_redo_24 rfl ?_
    refine gM_M_doneMany (v := σ.1 14) C fl_M_174 rfl d_M_redo_25 ?_
    obtain ⟨hi28_2, hf⟩ := gu hf
    refine aM_10 (v := σ.2.1 10 (σ.1 14).toNatClampNeg) C hi28_2 rfl d_M_redo_28 ?_
    refine V_aload_n C 0 d_M_redo_29 rfl ?_
    refine gM_M_behind C fl_M_56 d_M_redo_30 ?_
    refine V_aload_n C 0 d_M_redo_33 rfl ?_
    refine gM_M_doneMany (v := σ.1 14) C fl_M_174 rfl d_M_redo_34 ?_
    obtain ⟨hi37_3, hf⟩ := gu hf
    refine aM_12 (v := σ.2.1 12 (σ.1 14).toNatClampNeg) C hi37_3 rfl d_M_redo_37 ?_
    obtain ⟨σ38_4, hg, hf⟩ := bd hf
    refine V_callVv C [.int (σ.2.1 9 (σ.1 14).toNatClampNeg), .int (σ.2.1 10 (σ.1 14).toNatClampNeg), .int (σ.2.1 12 (σ.1 14).toNatClampNeg)] (c_M_lays C.2.2.2.2.2.2.2.1 hg) (by decide) cw_M_177 0 rfl rfl rfl rfl (Nat.le_of_ble_eq_true rfl) rfl d_M_redo_38 ?_
    refine V_aload_n C 0 d_M_redo_41 rfl ?_
    refine V_dup C d_M_redo_42 rfl ?_
    refine gM_M_doneMany (v := σ38_4.1 14) C fl_M_174 rfl d_M_redo_43 ?_
    refine V_iconst (v := 1) C d_M_redo_46 (by decide) ?_
    refine V_iadd C d_M_redo_47 ?_
    refine pM_M_doneMany C fl_M_174 d_M_redo_48 ?_
    refine V_aload_n C 0 d_M_redo_51 rfl ?_
    refine V_dup C d_M_redo_52 rfl ?_
    refine gM_M_undoneMany (v := σ38_4.1 15) C fl_M_171 rfl d_M_redo_53 ?_
    refine V_iconst (v := 1) C d_M_redo_56 (by decide) ?_
    refine V_isub C d_M_redo_57 ?_
    refine pM_M_undoneMany C fl_M_171 d_M_redo_58 ?_
    refine V_aload_n C 0 d_M_redo_61 rfl ?_
    refine gM_M_undoneMany (v := ((σ38_4.1 15) - (1 : Int32))) C fl_M_171 rfl d_M_redo_62 ?_
    exact V_iretW hR hf d_M_redo_65
  · refine V_bipush (v := -5) C d_M_redo_7 (by decide) ?_
    exact V_iretW hR hf d_M_redo_9
theorem c_M_redo {l : Launch} {g : Gx} (hok : Wok classes (wM g)) {σ : St} {r : Int32} {σ' : St} (hf : f_M_redo σ = some (r, σ')) : CtI classes l y_M_redo b_M_redo 1 (some .int) 2 (wM g) [.ref (g.2.1 0)] σ r σ' :=
  MetI (by decide +kernel) hok (Nat.le_of_ble_eq_true rfl) (fun E _ C hR => w_M_redo C hR hf)
set_option maxRecDepth 4000 in
theorem w_M_row_54 {E : Ev} {g : Gx} {r : Int32} {σ' : St} (C : Cx E classes 5 (wM g) b_M_row "WithTheRedsModel" 3) (hR : RetI E classes 5 (wM g) b_M_row r σ') : ∀ (n : Nat) (σ : St) (x1 : Int32) (x4 : Int32), f_M_row_54 n σ x1 x4 = some (r, σ') → V E classes 5 (wM g) σ 54 [(0, .ref (g.2.1 0)), (1, .int x1), (4, .int x4)] [] := by
  intro n
  induction n with
  | zero => intro σ x1 x4 hf; exact absurd hf (by unfold f_M_row_54; exact nofun)
  | succ n ih =>
    intro σ x1 x4 hf
    unfold f_M_row_54 at hf
    refine V_iload C 2 d_M_row_54 rfl ?_
    refine V_bipush (v := 60) C d_M_row_56 (by decide) ?_
    refine V_iload_n C 1 d_M_row_58 rfl ?_
    refine V_imul C d_M_row_59 ?_
    refine V_bipush (v := 60) C d_M_row_60 (by decide) ?_
    refine V_iadd C d_M_row_62 ?_
    refine V_icmp_ge (pc := 63) (tgt := 80) C d_M_row_63 (by decide) hf (fun hf => ?_) (fun hf => ?_)
    · refine V_iconst (v := 1) C d_M_row_80 (by decide) ?_
      exact V_iretW hR hf d_M_row_81
    · refine V_aload_n C 0 d_M_row_66 rfl ?_
      refine gM_M_elements C fl_M_140 d_M_row_67 ?_
      refine V_iload C 2 d_M_row_70 rfl ?_
      refine V_lconst (v := 0) C d_M_row_72 (by decide) ?_
      obtain ⟨hi73_1, hf⟩ := gu hf
      refine sM_39 C hi73_1 d_M_row_73 ?_
      refine V_iinc (v := x4 + (1 : Int32)) C 2 d_M_row_74 rfl rfl (by decide) rfl ?_
      refine V_goto (pc := 77) (tgt := 54) C d_M_row_77 (by decide) ?_
      refine V.sub [1, 2, 0] rfl ?_
      exact ih (upL σ 39 x4.toNatClampNeg (0 : Int64)) x1 (x4 + (1 : Int32)) hf
set_option maxRecDepth 4000 in
theorem w_M_row {E : Ev} {g : Gx} {r : Int32} {σ' : St} (C : Cx E classes 5 (wM g) b_M_row "WithTheRedsModel" 3) (hR : RetI E classes 5 (wM g) b_M_row r σ') {σ : St} {a1 : Int32} {a2 : Int32} {a3 : Int32} (hf : f_M_row σ a1 a2 a3 = some (r, σ')) : V E classes 5 (wM g) σ 0 [(0, .ref (g.2.1 0)), (1, .int a1), (2, .int a2), (3, .int a3)] [] := by
  unfold f_M_row at hf
  refine V_iload_n C 1 d_M_row_0 rfl ?_
  obtain ⟨r1_1, hg, hf⟩ := bd hf
  refine V_callSi C [.int a1] (c_M_isShelf C.2.2.2.2.2.2.2.1 hg) (by decide) cw_M_161 rfl (Nat.le_of_ble_eq_true rfl) rfl d_M_row_1 ?_
  refine V_if_eq (pc := 4) (tgt := 22) C d_M_row_4 (by decide) hf (fun hf => ?_) (fun hf => ?_)
  · refine V_iconst (v := -1) C d_M_row_22 (by decide) ?_
    exact V_iretW hR hf d_M_row_23
  · refine V_iload_n C 2 d_M_row_7 rfl ?_
    refine V_iconst (v := 0) C d_M_row_8 (by decide) ?_
    refine V_iconst (v := 4) C d_M_row_9 (by decide) ?_
    obtain ⟨r10_2, hg, hf⟩ := bd hf
    refine V_callSi C [.int a2, .int (0 : Int32), .int (4 : Int32)] (c_M_in C.2.2.2.2.2.2.2.1 hg) (by decide) cw_M_153 rfl (Nat.le_of_ble_eq_true rfl) rfl d_M_row_10 ?_
    refine V_if_eq (pc := 13) (tgt := 22) C d_M_row_13 (by decide) hf (fun hf => ?_) (fun hf => ?_)
    · refine V_iconst (v := -1) C d_M_row_22 (by decide) ?_
      exact V_iretW hR hf d_M_row_23
    · refine V_iload_n C 3 d_M_row_16 rfl ?_
      refine V_bipush (v := 60) C d_M_row_17 (by decide) ?_
      refine V_icmp_le (pc := 19) (tgt := 24) C d_M_row_19 (by decide) hf (fun hf => ?_) (fun hf => ?_)
      · refine V_iload_n C 3 d_M_row_24 rfl ?_
        refine V_if_ge (pc := 25) (tgt := 31) C d_M_row_25 (by decide) hf (fun hf => ?_) (fun hf => ?_)
        · refine V_aload_n C 0 d_M_row_31 rfl ?_
          refine gM_M_holds C fl_M_134 d_M_row_32 ?_
          refine V_iload_n C 1 d_M_row_35 rfl ?_
          refine V_bipush (v := -2) C d_M_row_36 (by decide) ?_
          refine V_iload_n C 2 d_M_row_38 rfl ?_
          refine V_isub C d_M_row_39 ?_
          obtain ⟨hi40_3, hf⟩ := gu hf
          refine sM_37 C hi40_3 d_M_row_40 ?_
          refine V_aload_n C 0 d_M_row_41 rfl ?_
          refine gM_M_size C fl_M_137 d_M_row_42 ?_
          refine V_iload_n C 1 d_M_row_45 rfl ?_
          refine V_iload_n C 3 d_M_row_46 rfl ?_
          obtain ⟨hi47_4, hf⟩ := gu hf
          refine sM_38 C hi47_4 d_M_row_47 ?_
          refine V_bipush (v := 60) C d_M_row_48 (by decide) ?_
          refine V_iload_n C 1 d_M_row_50 rfl ?_
          refine V_imul C d_M_row_51 ?_
          refine V_istore C d_M_row_52 (by decide) rfl ?_
          refine V.sub [1, 2, 0] rfl ?_
          exact w_M_row_54 C hR FU (upA (upA σ 37 a1.toNatClampNeg ((-2 : Int32) - a2)) 38 a1.toNatClampNeg a3) a1 ((60 : Int32) * a1) hf
        · refine V_bipush (v := -14) C d_M_row_28 (by decide) ?_
          exact V_iretW hR hf d_M_row_30
      · refine V_iconst (v := -1) C d_M_row_22 (by decide) ?_
        exact V_iretW hR hf d_M_row_23
theorem c_M_row {l : Launch} {g : Gx} (hok : Wok classes (wM g)) {σ : St} {a1 : Int32} {a2 : Int32} {a3 : Int32} {r : Int32} {σ' : St} (hf : f_M_row σ a1 a2 a3 = some (r, σ')) : CtI classes l y_M_row b_M_row 5 (some .int) 3 (wM g) [.ref (g.2.1 0), .int a1, .int a2, .int a3] σ r σ' :=
  MetI (by decide +kernel) hok (Nat.le_of_ble_eq_true rfl) (fun E _ C hR => w_M_row C hR hf)
set_option maxRecDepth 4000 in
theorem w_M_run {E : Ev} {g : Gx} {r : Int32} {σ' : St} (C : Cx E classes 4 (wM g) b_M_run "WithTheRedsModel" 8) (hR : RetI E classes 4 (wM g) b_M_run r σ') {σ : St} {a1 : Int32} {a2 : Int32} {a3 : Int32} (hf : f_M_run σ a1 a2 a3 = some (r, σ')) : V E classes 4 (wM g) σ 0 [(0, .ref (g.2.1 0)), (1, .int a1), (2, .int a2), (3, .int a3)] [] := by
  unfold f_M_run at hf
  refine V_aload_n C 0 d_M_run_0 rfl ?_
  refine V_iload_n C 1 d_M_run_1 rfl ?_
  obtain ⟨r2_1, hg, hf⟩ := bd hf
  refine V_callVi C [.int a1] (c_M_areThings C.2.2.2.2.2.2.2.1 hg) (by decide) cw_M_289 0 rfl rfl rfl rfl (Nat.le_of_ble_eq_true rfl) rfl d_M_run_2 ?_
  refine V_if_eq (pc := 5) (tgt := 24) C d_M_run_5 (by decide) hf (fun hf => ?_) (fun hf => ?_)
  · refine V_iconst (v := -1) C d_M_run_24 (by decide) ?_
    exact V_iretW hR hf d_M_run_25
  · refine V_iload_n C 2 d_M_run_8 rfl ?_
    obtain ⟨r9_2, hg, hf⟩ := bd hf
    refine V_callSi C [.int a2] (c_M_areHeat C.2.2.2.2.2.2.2.1 hg) (by decide) cw_M_292 rfl (Nat.le_of_ble_eq_true rfl) rfl d_M_run_9 ?_
    refine V_if_eq (pc := 12) (tgt := 24) C d_M_run_12 (by decide) hf (fun hf => ?_) (fun hf => ?_)
    · refine V_iconst (v := -1) C d_M_run_24 (by decide) ?_
      exact V_iretW hR hf d_M_run_25
    · refine V_iload_n C 3 d_M_run_15 rfl ?_
      refine V_iconst (v := 0) C d_M_run_16 (by decide) ?_
      refine V_iconst (v := 3) C d_M_run_17 (by decide) ?_
      obtain ⟨r18_3, hg, hf⟩ := bd hf
      refine V_callSi C [.int a3, .int (0 : Int32), .int (3 : Int32)] (c_M_in C.2.2.2.2.2.2.2.1 hg) (by decide) cw_M_153 rfl (Nat.le_of_ble_eq_true rfl) rfl d_M_run_18 ?_
      refine V_if_ne (pc := 21) (tgt := 26) C d_M_run_21 (by decide) hf (fun hf => ?_) (fun hf => ?_)
      · refine V_iload_n C 3 d_M_run_26 rfl ?_
        by_cases hc0 : a3 = 0
        · have hf := ite_t hf hc0
          refine V_tin (off := 25) (tgt := 52) C d_M_run_27 (by rw [hc0]; decide) (by rw [hc0]; decide) (by rw [hc0]; decide) (by decide) ?_
          refine V_aload_n C 0 d_M_run_52 rfl ?_
          refine V_iload_n C 1 d_M_run_53 rfl ?_
          refine V_iload_n C 2 d_M_run_54 rfl ?_
          refine V_bipush (v := 10) C d_M_run_55 (by decide) ?_
          refine V_idiv C d_M_run_57 (by decide) ?_
          refine V_aload_n C 0 d_M_run_58 rfl ?_
          refine V_iload_n C 2 d_M_run_59 rfl ?_
          obtain ⟨r60_4, hg, hf⟩ := bd hf
          refine V_callVi C [.int a2] (c_M_offBy C.2.2.2.2.2.2.2.1 hg) (by decide) cw_M_295 0 rfl rfl rfl rfl (Nat.le_of_ble_eq_true rfl) rfl d_M_run_60 ?_
          obtain ⟨r63_5, σ63_5, hg, hf⟩ := bd2_of hf
          refine V_callVi C [.int a1, .int (a2 / (10 : Int32)), .int r60_4] (c_M_loose C.2.2.2.2.2.2.2.1 hg) (by decide) cw_M_277 0 rfl rfl rfl rfl (Nat.le_of_ble_eq_true rfl) rfl d_M_run_63 ?_
          exact V_iretW hR hf d_M_run_66
        have hf := ite_f hf hc0
        by_cases hc1 : a3 = 1
        · have hf := ite_t hf hc1
          refine V_tin (off := 40) (tgt := 67) C d_M_run_27 (by rw [hc1]; decide) (by rw [hc1]; decide) (by rw [hc1]; decide) (by decide) ?_
          refine V_aload_n C 0 d_M_run_67 rfl ?_
          refine V_iload_n C 1 d_M_run_68 rfl ?_
          refine V_iload_n C 2 d_M_run_69 rfl ?_
          refine V_bipush (v := 10) C d_M_run_70 (by decide) ?_
          refine V_idiv C d_M_run_72 (by decide) ?_
          refine V_aload_n C 0 d_M_run_73 rfl ?_
          refine V_iload_n C 2 d_M_run_74 rfl ?_
          obtain ⟨r75_6, hg, hf⟩ := bd hf
          refine V_callVi C [.int a2] (c_M_offBy C.2.2.2.2.2.2.2.1 hg) (by decide) cw_M_295 0 rfl rfl rfl rfl (Nat.le_of_ble_eq_true rfl) rfl d_M_run_75 ?_
          obtain ⟨r78_7, σ78_7, hg, hf⟩ := bd2_of hf
          refine V_callVi C [.int a1, .int (a2 / (10 : Int32)), .int r75_6] (c_M_tints C.2.2.2.2.2.2.2.1 hg) (by decide) cw_M_298 0 rfl rfl rfl rfl (Nat.le_of_ble_eq_true rfl) rfl d_M_run_78 ?_
          exact V_iretW hR hf d_M_run_81
        have hf := ite_f hf hc1
        by_cases hc2 : a3 = 2
        · have hf := ite_t hf hc2
          refine V_tin (off := 55) (tgt := 82) C d_M_run_27 (by rw [hc2]; decide) (by rw [hc2]; decide) (by rw [hc2]; decide) (by decide) ?_
          refine V_aload_n C 0 d_M_run_82 rfl ?_
          refine V_iload_n C 1 d_M_run_83 rfl ?_
          refine V_iload_n C 2 d_M_run_84 rfl ?_
          refine V_bipush (v := 10) C d_M_run_85 (by decide) ?_
          refine V_idiv C d_M_run_87 (by decide) ?_
          obtain ⟨r88_8, hg, hf⟩ := bd hf
          refine V_callVi C [.int a1, .int (a2 / (10 : Int32))] (c_M_spoilt C.2.2.2.2.2.2.2.1 hg) (by decide) cw_M_286 0 rfl rfl rfl rfl (Nat.le_of_ble_eq_true rfl) rfl d_M_run_88 ?_
          exact V_iretW hR hf d_M_run_91
        have hf := ite_f hf hc2
        have hc0t := neT (k := 0) 0 (by decide) hc0
        have hc1t := neT (k := 1) 1 (by decide) hc1
        have hc2t := neT (k := 2) 2 (by decide) hc2
        refine V_tout (tgt := 92) C d_M_run_27 (by omega) (by decide) ?_
        refine V_aload_n C 0 d_M_run_92 rfl ?_
        refine V_iload_n C 1 d_M_run_93 rfl ?_
        obtain ⟨r94_9, hg, hf⟩ := bd hf
        refine V_callVi C [.int a1] (c_M_goesSo C.2.2.2.2.2.2.2.1 hg) (by decide) cw_M_283 0 rfl rfl rfl rfl (Nat.le_of_ble_eq_true rfl) rfl d_M_run_94 ?_
        refine V_if_eq (pc := 97) (tgt := 104) C d_M_run_97 (by decide) hf (fun hf => ?_) (fun hf => ?_)
        · refine V_iconst (v := 0) C d_M_run_104 (by decide) ?_
          exact V_iretW hR hf d_M_run_105
        · refine V_iconst (v := 1) C d_M_run_100 (by decide) ?_
          refine V_goto (pc := 101) (tgt := 105) C d_M_run_101 (by decide) ?_
          exact V_iretW hR hf d_M_run_105
      · refine V_iconst (v := -1) C d_M_run_24 (by decide) ?_
        exact V_iretW hR hf d_M_run_25
theorem c_M_run {l : Launch} {g : Gx} (hok : Wok classes (wM g)) {σ : St} {a1 : Int32} {a2 : Int32} {a3 : Int32} {r : Int32} {σ' : St} (hf : f_M_run σ a1 a2 a3 = some (r, σ')) : CtI classes l y_M_run b_M_run 4 (some .int) 8 (wM g) [.ref (g.2.1 0), .int a1, .int a2, .int a3] σ r σ' :=
  MetI (by decide +kernel) hok (Nat.le_of_ble_eq_true rfl) (fun E _ C hR => w_M_run C hR hf)
set_option maxRecDepth 4000 in
theorem w_M_safe {E : Ev} {g : Gx} {r : Int32} {σ' : St} (C : Cx E classes 4 (wM g) b_M_safe "WithTheRedsModel" 8) (hR : RetI E classes 4 (wM g) b_M_safe r σ') {σ : St} {a1 : Int32} {a2 : Int32} {a3 : Int32} (hf : f_M_safe σ a1 a2 a3 = some (r, σ')) : V E classes 4 (wM g) σ 0 [(0, .ref (g.2.1 0)), (1, .int a1), (2, .int a2), (3, .int a3)] [] := by
  unfold f_M_safe at hf
  refine V_aload_n C 0 d_M_safe_0 rfl ?_
  refine V_iload_n C 1 d_M_safe_1 rfl ?_
  obtain ⟨r2_1, hg, hf⟩ := bd hf
  refine V_callVi C [.int a1] (c_M_areThings C.2.2.2.2.2.2.2.1 hg) (by decide) cw_M_289 0 rfl rfl rfl rfl (Nat.le_of_ble_eq_true rfl) rfl d_M_safe_2 ?_
  refine V_if_eq (pc := 5) (tgt := 25) C d_M_safe_5 (by decide) hf (fun hf => ?_) (fun hf => ?_)
  · refine V_iconst (v := -1) C d_M_safe_25 (by decide) ?_
    exact V_iretW hR hf d_M_safe_26
  · refine V_iload_n C 2 d_M_safe_8 rfl ?_
    obtain ⟨r9_2, hg, hf⟩ := bd hf
    refine V_callSi C [.int a2] (c_M_areHeat C.2.2.2.2.2.2.2.1 hg) (by decide) cw_M_292 rfl (Nat.le_of_ble_eq_true rfl) rfl d_M_safe_9 ?_
    refine V_if_eq (pc := 12) (tgt := 25) C d_M_safe_12 (by decide) hf (fun hf => ?_) (fun hf => ?_)
    · refine V_iconst (v := -1) C d_M_safe_25 (by decide) ?_
      exact V_iretW hR hf d_M_safe_26
    · refine V_iload_n C 3 d_M_safe_15 rfl ?_
      refine V_iconst (v := 0) C d_M_safe_16 (by decide) ?_
      refine V_bipush (v := 99) C d_M_safe_17 (by decide) ?_
      obtain ⟨r19_3, hg, hf⟩ := bd hf
      refine V_callSi C [.int a3, .int (0 : Int32), .int (99 : Int32)] (c_M_in C.2.2.2.2.2.2.2.1 hg) (by decide) cw_M_153 rfl (Nat.le_of_ble_eq_true rfl) rfl d_M_safe_19 ?_
      refine V_if_ne (pc := 22) (tgt := 27) C d_M_safe_22 (by decide) hf (fun hf => ?_) (fun hf => ?_)
      · refine V_aload_n C 0 d_M_safe_27 rfl ?_
        refine V_iload_n C 1 d_M_safe_28 rfl ?_
        refine V_iload_n C 2 d_M_safe_29 rfl ?_
        refine V_bipush (v := 10) C d_M_safe_30 (by decide) ?_
        refine V_idiv C d_M_safe_32 (by decide) ?_
        refine V_aload_n C 0 d_M_safe_33 rfl ?_
        refine V_iload_n C 2 d_M_safe_34 rfl ?_
        obtain ⟨r35_4, hg, hf⟩ := bd hf
        refine V_callVi C [.int a2] (c_M_offBy C.2.2.2.2.2.2.2.1 hg) (by decide) cw_M_295 0 rfl rfl rfl rfl (Nat.le_of_ble_eq_true rfl) rfl d_M_safe_35 ?_
        refine V_iload_n C 3 d_M_safe_38 rfl ?_
        obtain ⟨r39_5, σ39_5, hg, hf⟩ := bd2_of hf
        refine V_callVi C [.int a1, .int (a2 / (10 : Int32)), .int r35_4, .int a3] (c_M_isSafe C.2.2.2.2.2.2.2.1 hg) (by decide) cw_M_301 0 rfl rfl rfl rfl (Nat.le_of_ble_eq_true rfl) rfl d_M_safe_39 ?_
        refine V_if_eq (pc := 42) (tgt := 49) C d_M_safe_42 (by decide) hf (fun hf => ?_) (fun hf => ?_)
        · refine V_iconst (v := 0) C d_M_safe_49 (by decide) ?_
          exact V_iretW hR hf d_M_safe_50
        · refine V_iconst (v := 1) C d_M_safe_45 (by decide) ?_
          refine V_goto (pc := 46) (tgt := 50) C d_M_safe_46 (by decide) ?_
          exact V_iretW hR hf d_M_safe_50
      · refine V_iconst (v := -1) C d_M_safe_25 (by decide) ?_
        exact V_iretW hR hf d_M_safe_26
theorem c_M_safe {l : Launch} {g : Gx} (hok : Wok classes (wM g)) {σ : St} {a1 : Int32} {a2 : Int32} {a3 : Int32} {r : Int32} {σ' : St} (hf : f_M_safe σ a1 a2 a3 = some (r, σ')) : CtI classes l y_M_safe b_M_safe 4 (some .int) 8 (wM g) [.ref (g.2.1 0), .int a1, .int a2, .int a3] σ r σ' :=
  MetI (by decide +kernel) hok (Nat.le_of_ble_eq_true rfl) (fun E _ C hR => w_M_safe C hR hf)
set_option maxRecDepth 4000 in
theorem w_M_shift_150 {E : Ev} {g : Gx} {r : Int32} {σ' : St} (C : Cx E classes 7 (wM g) b_M_shift "WithTheRedsModel" 3) (hR : RetI E classes 7 (wM g) b_M_shift r σ') : ∀ (n : Nat) (σ : St) (x3 : Int32) (x4 : Int32) (x5 : Int32) (x6 : Int32), f_M_shift_150 n σ x3 x4 x5 x6 = some (r, σ') → V E classes 7 (wM g) σ 150 [(0, .ref (g.2.1 0)), (3, .int x3), (4, .int x4), (5, .int x5), (6, .int x6)] [] := by
  intro n
  induction n with
  | zero => intro σ x3 x4 x5 x6 hf; exact absurd hf (by unfold f_M_shift_150; exact nofun)
  | succ n ih =>
    intro σ x3 x4 x5 x6 hf
    unfold f_M_shift_150 at hf
    refine V_iload C 4 d_M_shift_150 rfl ?_
    refine V_iload C 3 d_M_shift_152 rfl ?_
    refine V_icmp_ge (pc := 154) (tgt := 185) C d_M_shift_154 (by decide) hf (fun hf => ?_) (fun hf => ?_)
    · refine V_iload C 3 d_M_shift_185 rfl ?_
      exact V_iretW hR hf d_M_shift_187
    · refine V_aload_n C 0 d_M_shift_157 rfl ?_
      refine gM_M_elements C fl_M_140 d_M_shift_158 ?_
      refine V_bipush (v := 60) C d_M_shift_161 (by decide) ?_
      refine V_iload_n C 1 d_M_shift_163 rfl ?_
      refine V_imul C d_M_shift_164 ?_
      refine V_iload C 2 d_M_shift_165 rfl ?_
      refine V_iadd C d_M_shift_167 ?_
      refine V_iload C 4 d_M_shift_168 rfl ?_
      refine V_iadd C d_M_shift_170 ?_
      refine V_aload_n C 0 d_M_shift_171 rfl ?_
      refine gM_M_shifted C fl_M_144 d_M_shift_172 ?_
      refine V_iload C 4 d_M_shift_175 rfl ?_
      obtain ⟨hi177_1, hf⟩ := gu hf
      refine aM_40 (v := σ.2.2 40 x6.toNatClampNeg) C hi177_1 rfl d_M_shift_177 ?_
      obtain ⟨hi178_2, hf⟩ := gu hf
      refine sM_39 C hi178_2 d_M_shift_178 ?_
      refine V_iinc (v := x6 + (1 : Int32)) C 4 d_M_shift_179 rfl rfl (by decide) rfl ?_
      refine V_goto (pc := 182) (tgt := 150) C d_M_shift_182 (by decide) ?_
      refine V.sub [1, 2, 3, 4, 0] rfl ?_
      exact ih (upL σ 39 (((((60 : Int32) * x3) + x4) + x6).toNatClampNeg) (σ.2.2 40 x6.toNatClampNeg)) x3 x4 x5 (x6 + (1 : Int32)) hf
set_option maxRecDepth 4000 in
theorem w_M_shift_113 {E : Ev} {g : Gx} {r : Int32} {σ' : St} (C : Cx E classes 7 (wM g) b_M_shift "WithTheRedsModel" 3) (hR : RetI E classes 7 (wM g) b_M_shift r σ') : ∀ (n : Nat) (σ : St) (x1 : Int32) (x2 : Int32) (x3 : Int32) (x4 : Int32) (x5 : Int32) (x6 : Int32), f_M_shift_113 n σ x1 x2 x3 x4 x5 x6 = some (r, σ') → V E classes 7 (wM g) σ 113 [(0, .ref (g.2.1 0)), (1, .int x1), (2, .int x2), (3, .int x3), (4, .int x4), (5, .int x5), (6, .int x6)] [] := by
  intro n
  induction n with
  | zero => intro σ x1 x2 x3 x4 x5 x6 hf; exact absurd hf (by unfold f_M_shift_113; exact nofun)
  | succ n ih =>
    intro σ x1 x2 x3 x4 x5 x6 hf
    unfold f_M_shift_113 at hf
    refine V_iload C 6 d_M_shift_113 rfl ?_
    refine V_iload C 5 d_M_shift_115 rfl ?_
    refine V_icmp_ge (pc := 117) (tgt := 147) C d_M_shift_117 (by decide) hf (fun hf => ?_) (fun hf => ?_)
    · refine V_iconst (v := 0) C d_M_shift_147 (by decide) ?_
      refine V_istore C d_M_shift_148 (by decide) rfl ?_
      refine V.sub [1, 4, 5, 6, 0] rfl ?_
      exact w_M_shift_150 C hR FU σ x3 x4 x5 (0 : Int32) hf
    · refine V_aload_n C 0 d_M_shift_120 rfl ?_
      refine gM_M_shifted C fl_M_144 d_M_shift_121 ?_
      refine V_iload C 6 d_M_shift_124 rfl ?_
      refine V_aload_n C 0 d_M_shift_126 rfl ?_
      refine gM_M_elements C fl_M_140 d_M_shift_127 ?_
      refine V_bipush (v := 60) C d_M_shift_130 (by decide) ?_
      refine V_iload_n C 1 d_M_shift_132 rfl ?_
      refine V_imul C d_M_shift_133 ?_
      refine V_iload_n C 2 d_M_shift_134 rfl ?_
      refine V_iadd C d_M_shift_135 ?_
      refine V_iload C 6 d_M_shift_136 rfl ?_
      refine V_iadd C d_M_shift_138 ?_
      obtain ⟨hi139_1, hf⟩ := gu hf
      refine aM_39 (v := σ.2.2 39 ((((60 : Int32) * x1) + x2) + x6).toNatClampNeg) C hi139_1 rfl d_M_shift_139 ?_
      obtain ⟨hi140_2, hf⟩ := gu hf
      refine sM_40 C hi140_2 d_M_shift_140 ?_
      refine V_iinc (v := x6 + (1 : Int32)) C 6 d_M_shift_141 rfl rfl (by decide) rfl ?_
      refine V_goto (pc := 144) (tgt := 113) C d_M_shift_144 (by decide) ?_
      refine V.sub [1, 2, 3, 4, 5, 6, 0] rfl ?_
      exact ih (upL σ 40 x6.toNatClampNeg (σ.2.2 39 ((((60 : Int32) * x1) + x2) + x6).toNatClampNeg)) x1 x2 x3 x4 x5 (x6 + (1 : Int32)) hf
set_option maxRecDepth 4000 in
theorem w_M_shift {E : Ev} {g : Gx} {r : Int32} {σ' : St} (C : Cx E classes 7 (wM g) b_M_shift "WithTheRedsModel" 3) (hR : RetI E classes 7 (wM g) b_M_shift r σ') {σ : St} {a1 : Int32} {a2 : Int32} {a3 : Int32} {a4 : Int32} {a5 : Int32} (hf : f_M_shift σ a1 a2 a3 a4 a5 = some (r, σ')) : V E classes 7 (wM g) σ 0 [(0, .ref (g.2.1 0)), (1, .int a1), (2, .int a2), (3, .int a3), (4, .int a4), (5, .int a5)] [] := by
  unfold f_M_shift at hf
  refine V_iload_n C 1 d_M_shift_0 rfl ?_
  obtain ⟨r1_1, hg, hf⟩ := bd hf
  refine V_callSi C [.int a1] (c_M_isShelf C.2.2.2.2.2.2.2.1 hg) (by decide) cw_M_161 rfl (Nat.le_of_ble_eq_true rfl) rfl d_M_shift_1 ?_
  refine V_if_eq (pc := 4) (tgt := 14) C d_M_shift_4 (by decide) hf (fun hf => ?_) (fun hf => ?_)
  · refine V_iconst (v := -1) C d_M_shift_14 (by decide) ?_
    exact V_iretW hR hf d_M_shift_15
  · refine V_iload_n C 3 d_M_shift_7 rfl ?_
    obtain ⟨r8_2, hg, hf⟩ := bd hf
    refine V_callSi C [.int a3] (c_M_isShelf C.2.2.2.2.2.2.2.1 hg) (by decide) cw_M_161 rfl (Nat.le_of_ble_eq_true rfl) rfl d_M_shift_8 ?_
    refine V_if_ne (pc := 11) (tgt := 16) C d_M_shift_11 (by decide) hf (fun hf => ?_) (fun hf => ?_)
    · refine V_aload_n C 0 d_M_shift_16 rfl ?_
      refine gM_M_holds C fl_M_134 d_M_shift_17 ?_
      refine V_iload_n C 1 d_M_shift_20 rfl ?_
      obtain ⟨hi21_3, hf⟩ := gu hf
      refine aM_37 (v := σ.2.1 37 a1.toNatClampNeg) C hi21_3 rfl d_M_shift_21 ?_
      refine V_iconst (v := -1) C d_M_shift_22 (by decide) ?_
      refine V_icmp_eq (pc := 23) (tgt := 36) C d_M_shift_23 (by decide) hf (fun hf => ?_) (fun hf => ?_)
      · refine V_bipush (v := -11) C d_M_shift_36 (by decide) ?_
        exact V_iretW hR hf d_M_shift_38
      · refine V_aload_n C 0 d_M_shift_26 rfl ?_
        refine gM_M_holds C fl_M_134 d_M_shift_27 ?_
        refine V_iload_n C 3 d_M_shift_30 rfl ?_
        obtain ⟨hi31_4, hf⟩ := gu hf
        refine aM_37 (v := σ.2.1 37 a3.toNatClampNeg) C hi31_4 rfl d_M_shift_31 ?_
        refine V_iconst (v := -1) C d_M_shift_32 (by decide) ?_
        refine V_icmp_ne (pc := 33) (tgt := 39) C d_M_shift_33 (by decide) hf (fun hf => ?_) (fun hf => ?_)
        · refine V_aload_n C 0 d_M_shift_39 rfl ?_
          refine gM_M_holds C fl_M_134 d_M_shift_40 ?_
          refine V_iload_n C 1 d_M_shift_43 rfl ?_
          obtain ⟨hi44_5, hf⟩ := gu hf
          refine aM_37 (v := σ.2.1 37 a1.toNatClampNeg) C hi44_5 rfl d_M_shift_44 ?_
          refine V_if_ge (pc := 45) (tgt := 63) C d_M_shift_45 (by decide) hf (fun hf => ?_) (fun hf => ?_)
          · refine V_bipush (v := -12) C d_M_shift_63 (by decide) ?_
            exact V_iretW hR hf d_M_shift_65
          · refine V_aload_n C 0 d_M_shift_48 rfl ?_
            refine gM_M_holds C fl_M_134 d_M_shift_49 ?_
            refine V_iload_n C 1 d_M_shift_52 rfl ?_
            obtain ⟨hi53_6, hf⟩ := gu hf
            refine aM_37 (v := σ.2.1 37 a1.toNatClampNeg) C hi53_6 rfl d_M_shift_53 ?_
            refine V_aload_n C 0 d_M_shift_54 rfl ?_
            refine gM_M_holds C fl_M_134 d_M_shift_55 ?_
            refine V_iload_n C 3 d_M_shift_58 rfl ?_
            obtain ⟨hi59_7, hf⟩ := gu hf
            refine aM_37 (v := σ.2.1 37 a3.toNatClampNeg) C hi59_7 rfl d_M_shift_59 ?_
            refine V_icmp_eq (pc := 60) (tgt := 66) C d_M_shift_60 (by decide) hf (fun hf => ?_) (fun hf => ?_)
            · refine V_iload C 5 d_M_shift_66 rfl ?_
              refine V_if_lt (pc := 68) (tgt := 107) C d_M_shift_68 (by decide) hf (fun hf => ?_) (fun hf => ?_)
              · refine V_bipush (v := -13) C d_M_shift_107 (by decide) ?_
                exact V_iretW hR hf d_M_shift_109
              · refine V_iload_n C 2 d_M_shift_71 rfl ?_
                refine V_if_lt (pc := 72) (tgt := 107) C d_M_shift_72 (by decide) hf (fun hf => ?_) (fun hf => ?_)
                · refine V_bipush (v := -13) C d_M_shift_107 (by decide) ?_
                  exact V_iretW hR hf d_M_shift_109
                · refine V_iload C 4 d_M_shift_75 rfl ?_
                  refine V_if_lt (pc := 77) (tgt := 107) C d_M_shift_77 (by decide) hf (fun hf => ?_) (fun hf => ?_)
                  · refine V_bipush (v := -13) C d_M_shift_107 (by decide) ?_
                    exact V_iretW hR hf d_M_shift_109
                  · refine V_iload_n C 2 d_M_shift_80 rfl ?_
                    refine V_aload_n C 0 d_M_shift_81 rfl ?_
                    refine gM_M_size C fl_M_137 d_M_shift_82 ?_
                    refine V_iload_n C 1 d_M_shift_85 rfl ?_
                    obtain ⟨hi86_8, hf⟩ := gu hf
                    refine aM_38 (v := σ.2.1 38 a1.toNatClampNeg) C hi86_8 rfl d_M_shift_86 ?_
                    refine V_iload C 5 d_M_shift_87 rfl ?_
                    refine V_isub C d_M_shift_89 ?_
                    refine V_icmp_gt (pc := 90) (tgt := 107) C d_M_shift_90 (by decide) hf (fun hf => ?_) (fun hf => ?_)
                    · refine V_bipush (v := -13) C d_M_shift_107 (by decide) ?_
                      exact V_iretW hR hf d_M_shift_109
                    · refine V_iload C 4 d_M_shift_93 rfl ?_
                      refine V_aload_n C 0 d_M_shift_95 rfl ?_
                      refine gM_M_size C fl_M_137 d_M_shift_96 ?_
                      refine V_iload_n C 3 d_M_shift_99 rfl ?_
                      obtain ⟨hi100_9, hf⟩ := gu hf
                      refine aM_38 (v := σ.2.1 38 a3.toNatClampNeg) C hi100_9 rfl d_M_shift_100 ?_
                      refine V_iload C 5 d_M_shift_101 rfl ?_
                      refine V_isub C d_M_shift_103 ?_
                      refine V_icmp_le (pc := 104) (tgt := 110) C d_M_shift_104 (by decide) hf (fun hf => ?_) (fun hf => ?_)
                      · refine V_iconst (v := 0) C d_M_shift_110 (by decide) ?_
                        refine V_istore C d_M_shift_111 (by decide) rfl ?_
                        refine V.sub [1, 2, 3, 4, 5, 6, 0] rfl ?_
                        exact w_M_shift_113 C hR FU σ a1 a2 a3 a4 a5 (0 : Int32) hf
                      · refine V_bipush (v := -13) C d_M_shift_107 (by decide) ?_
                        exact V_iretW hR hf d_M_shift_109
            · refine V_bipush (v := -12) C d_M_shift_63 (by decide) ?_
              exact V_iretW hR hf d_M_shift_65
        · refine V_bipush (v := -11) C d_M_shift_36 (by decide) ?_
          exact V_iretW hR hf d_M_shift_38
    · refine V_iconst (v := -1) C d_M_shift_14 (by decide) ?_
      exact V_iretW hR hf d_M_shift_15
theorem c_M_shift {l : Launch} {g : Gx} (hok : Wok classes (wM g)) {σ : St} {a1 : Int32} {a2 : Int32} {a3 : Int32} {a4 : Int32} {a5 : Int32} {r : Int32} {σ' : St} (hf : f_M_shift σ a1 a2 a3 a4 a5 = some (r, σ')) : CtI classes l y_M_shift b_M_shift 7 (some .int) 3 (wM g) [.ref (g.2.1 0), .int a1, .int a2, .int a3, .int a4, .int a5] σ r σ' :=
  MetI (by decide +kernel) hok (Nat.le_of_ble_eq_true rfl) (fun E _ C hR => w_M_shift C hR hf)
set_option maxRecDepth 4000 in
theorem w_M_sock_74 {E : Ev} {g : Gx} {r : Int32} {σ' : St} (C : Cx E classes 9 (wM g) b_M_sock "WithTheRedsModel" 8) (hR : RetI E classes 9 (wM g) b_M_sock r σ') : ∀ (n : Nat) (σ : St) (x1 : Int32) (x2 : Int32) (x3 : Int32) (x4 : Int32) (x6 : Int32) (x7 : Int32) (x8 : Int32), f_M_sock_74 n σ x1 x2 x3 x4 x6 x7 x8 = some (r, σ') → V E classes 9 (wM g) σ 74 [(0, .ref (g.2.1 0)), (1, .int x1), (2, .int x2), (3, .int x3), (4, .int x4), (6, .int x6), (7, .int x7), (8, .int x8)] [] := by
  intro n
  induction n with
  | zero => intro σ x1 x2 x3 x4 x6 x7 x8 hf; exact absurd hf (by unfold f_M_sock_74; exact nofun)
  | succ n ih =>
    intro σ x1 x2 x3 x4 x6 x7 x8 hf
    unfold f_M_sock_74 at hf
    refine V_iload C 7 d_M_sock_74 rfl ?_
    refine V_bipush (v := 9) C d_M_sock_76 (by decide) ?_
    refine V_icmp_gt (pc := 78) (tgt := 117) C d_M_sock_78 (by decide) hf (fun hf => ?_) (fun hf => ?_)
    · refine V_aload_n C 0 d_M_sock_117 rfl ?_
      refine gM_M_dye C fl_M_13 d_M_sock_118 ?_
      refine V_iload C 4 d_M_sock_121 rfl ?_
      refine V_iload C 5 d_M_sock_123 rfl ?_
      obtain ⟨hi125_1, hf⟩ := gu hf
      refine sM_2 C hi125_1 d_M_sock_125 ?_
      refine V_iload C 6 d_M_sock_126 rfl ?_
      exact V_iretW hR hf d_M_sock_128
    · refine V_iload C 6 d_M_sock_81 rfl ?_
      refine V_if_ge (pc := 83) (tgt := 117) C d_M_sock_83 (by decide) hf (fun hf => ?_) (fun hf => ?_)
      · refine V_aload_n C 0 d_M_sock_117 rfl ?_
        refine gM_M_dye C fl_M_13 d_M_sock_118 ?_
        refine V_iload C 4 d_M_sock_121 rfl ?_
        refine V_iload C 5 d_M_sock_123 rfl ?_
        obtain ⟨hi125_2, hf⟩ := gu hf
        refine sM_2 C hi125_2 d_M_sock_125 ?_
        refine V_iload C 6 d_M_sock_126 rfl ?_
        exact V_iretW hR hf d_M_sock_128
      · refine V_aload_n C 0 d_M_sock_86 rfl ?_
        refine gM_M_dye C fl_M_13 d_M_sock_87 ?_
        refine V_iload C 4 d_M_sock_90 rfl ?_
        refine V_iload C 7 d_M_sock_92 rfl ?_
        obtain ⟨hi94_3, hf⟩ := gu hf
        refine sM_2 C hi94_3 d_M_sock_94 ?_
        refine V_aload_n C 0 d_M_sock_95 rfl ?_
        refine V_iload_n C 1 d_M_sock_96 rfl ?_
        refine V_iload_n C 2 d_M_sock_97 rfl ?_
        refine V_iload_n C 2 d_M_sock_98 rfl ?_
        refine V_iload_n C 3 d_M_sock_99 rfl ?_
        refine V_iconst (v := 0) C d_M_sock_100 (by decide) ?_
        obtain ⟨r101_4, σ101_4, hg, hf⟩ := bd2_of hf
        refine V_callVi C [.int x1, .int x2, .int x2, .int x3, .int (0 : Int32)] (c_M_wrongPink C.2.2.2.2.2.2.2.1 hg) (by decide) cw_M_368 0 rfl rfl rfl rfl (Nat.le_of_ble_eq_true rfl) rfl d_M_sock_101 ?_
        refine V_if_ge (pc := 104) (tgt := 111) C d_M_sock_104 (by decide) hf (fun hf => ?_) (fun hf => ?_)
        · refine V_iinc (v := x8 + (1 : Int32)) C 7 d_M_sock_111 rfl rfl (by decide) rfl ?_
          refine V_goto (pc := 114) (tgt := 74) C d_M_sock_114 (by decide) ?_
          refine V.sub [1, 2, 3, 4, 5, 6, 7, 0] rfl ?_
          exact ih σ101_4 x1 x2 x3 x4 x6 x7 (x8 + (1 : Int32)) hf
        · refine V_iload C 7 d_M_sock_107 rfl ?_
          refine V_istore C d_M_sock_109 (by decide) rfl ?_
          refine V_iinc (v := x8 + (1 : Int32)) C 7 d_M_sock_111 rfl rfl (by decide) rfl ?_
          refine V_goto (pc := 114) (tgt := 74) C d_M_sock_114 (by decide) ?_
          refine V.sub [2, 3, 4, 5, 6, 7, 1, 0] rfl ?_
          exact ih σ101_4 x1 x2 x3 x4 x6 x8 (x8 + (1 : Int32)) hf
set_option maxRecDepth 4000 in
theorem w_M_sock {E : Ev} {g : Gx} {r : Int32} {σ' : St} (C : Cx E classes 9 (wM g) b_M_sock "WithTheRedsModel" 8) (hR : RetI E classes 9 (wM g) b_M_sock r σ') {σ : St} {a1 : Int32} {a2 : Int32} {a3 : Int32} {a4 : Int32} (hf : f_M_sock σ a1 a2 a3 a4 = some (r, σ')) : V E classes 9 (wM g) σ 0 [(0, .ref (g.2.1 0)), (1, .int a1), (2, .int a2), (3, .int a3), (4, .int a4)] [] := by
  unfold f_M_sock at hf
  refine V_iload_n C 1 d_M_sock_0 rfl ?_
  obtain ⟨r1_1, hg, hf⟩ := bd hf
  refine V_callSi C [.int a1] (c_M_isShelf C.2.2.2.2.2.2.2.1 hg) (by decide) cw_M_161 rfl (Nat.le_of_ble_eq_true rfl) rfl d_M_sock_1 ?_
  refine V_if_eq (pc := 4) (tgt := 40) C d_M_sock_4 (by decide) hf (fun hf => ?_) (fun hf => ?_)
  · refine V_iconst (v := -1) C d_M_sock_40 (by decide) ?_
    exact V_iretW hR hf d_M_sock_41
  · refine V_aload_n C 0 d_M_sock_7 rfl ?_
    refine V_iload_n C 2 d_M_sock_8 rfl ?_
    obtain ⟨r9_2, hg, hf⟩ := bd hf
    refine V_callVi C [.int a2] (c_M_areThings C.2.2.2.2.2.2.2.1 hg) (by decide) cw_M_289 0 rfl rfl rfl rfl (Nat.le_of_ble_eq_true rfl) rfl d_M_sock_9 ?_
    refine V_if_eq (pc := 12) (tgt := 40) C d_M_sock_12 (by decide) hf (fun hf => ?_) (fun hf => ?_)
    · refine V_iconst (v := -1) C d_M_sock_40 (by decide) ?_
      exact V_iretW hR hf d_M_sock_41
    · refine V_iload_n C 3 d_M_sock_15 rfl ?_
      obtain ⟨r16_3, hg, hf⟩ := bd hf
      refine V_callSi C [.int a3] (c_M_isHeat C.2.2.2.2.2.2.2.1 hg) (by decide) cw_M_271 rfl (Nat.le_of_ble_eq_true rfl) rfl d_M_sock_16 ?_
      refine V_if_eq (pc := 19) (tgt := 40) C d_M_sock_19 (by decide) hf (fun hf => ?_) (fun hf => ?_)
      · refine V_iconst (v := -1) C d_M_sock_40 (by decide) ?_
        exact V_iretW hR hf d_M_sock_41
      · refine V_aload_n C 0 d_M_sock_22 rfl ?_
        refine V_iload C 4 d_M_sock_23 rfl ?_
        obtain ⟨r25_4, hg, hf⟩ := bd hf
        refine V_callVi C [.int a4] (c_M_isThing C.2.2.2.2.2.2.2.1 hg) (by decide) cw_M_181 0 rfl rfl rfl rfl (Nat.le_of_ble_eq_true rfl) rfl d_M_sock_25 ?_
        refine V_if_eq (pc := 28) (tgt := 40) C d_M_sock_28 (by decide) hf (fun hf => ?_) (fun hf => ?_)
        · refine V_iconst (v := -1) C d_M_sock_40 (by decide) ?_
          exact V_iretW hR hf d_M_sock_41
        · refine V_iload_n C 2 d_M_sock_31 rfl ?_
          refine V_iload C 4 d_M_sock_32 rfl ?_
          refine V_ishr C d_M_sock_34 ?_
          refine V_iconst (v := 1) C d_M_sock_35 (by decide) ?_
          refine V_iand C d_M_sock_36 ?_
          refine V_if_ne (pc := 37) (tgt := 42) C d_M_sock_37 (by decide) hf (fun hf => ?_) (fun hf => ?_)
          · refine V_aload_n C 0 d_M_sock_42 rfl ?_
            refine V_iload_n C 1 d_M_sock_43 rfl ?_
            refine V_iconst (v := 1) C d_M_sock_44 (by decide) ?_
            obtain ⟨r45_5, hg, hf⟩ := bd hf
            refine V_callVi C [.int a1, .int (1 : Int32)] (c_M_rowFault C.2.2.2.2.2.2.2.1 hg) (by decide) cw_M_337 0 rfl rfl rfl rfl (Nat.le_of_ble_eq_true rfl) rfl d_M_sock_45 ?_
            refine V_istore C d_M_sock_48 (by decide) rfl ?_
            refine V_iload C 0 d_M_sock_50 rfl ?_
            refine V_if_ge (pc := 52) (tgt := 58) C d_M_sock_52 (by decide) hf (fun hf => ?_) (fun hf => ?_)
            · refine V_aload_n C 1 d_M_sock_58 rfl ?_
              refine gM_M_dye C fl_M_13 d_M_sock_59 ?_
              refine V_iload C 5 d_M_sock_62 rfl ?_
              obtain ⟨hi64_6, hf⟩ := gu hf
              refine aM_2 (v := σ.2.1 2 a4.toNatClampNeg) C hi64_6 rfl d_M_sock_64 ?_
              refine V_istore C d_M_sock_65 (by decide) rfl ?_
              refine V_bipush (v := -2) C d_M_sock_67 (by decide) ?_
              refine V_istore C d_M_sock_69 (by decide) rfl ?_
              refine V_iconst (v := 0) C d_M_sock_71 (by decide) ?_
              refine V_istore C d_M_sock_72 (by decide) rfl ?_
              refine V.sub [4, 5, 6, 7, 8, 2, 1, 0] rfl ?_
              exact w_M_sock_74 C hR FU σ a1 a2 a3 a4 (σ.2.1 2 a4.toNatClampNeg) (-2 : Int32) (0 : Int32) hf
            · refine V_iload C 0 d_M_sock_55 rfl ?_
              exact V_iretW hR hf d_M_sock_57
          · refine V_iconst (v := -1) C d_M_sock_40 (by decide) ?_
            exact V_iretW hR hf d_M_sock_41
theorem c_M_sock {l : Launch} {g : Gx} (hok : Wok classes (wM g)) {σ : St} {a1 : Int32} {a2 : Int32} {a3 : Int32} {a4 : Int32} {r : Int32} {σ' : St} (hf : f_M_sock σ a1 a2 a3 a4 = some (r, σ')) : CtI classes l y_M_sock b_M_sock 9 (some .int) 8 (wM g) [.ref (g.2.1 0), .int a1, .int a2, .int a3, .int a4] σ r σ' :=
  MetI (by decide +kernel) hok (Nat.le_of_ble_eq_true rfl) (fun E _ C hR => w_M_sock C hR hf)
set_option maxRecDepth 4000 in
theorem w_M_soon_39 {E : Ev} {g : Gx} {r : Int32} {σ : St} (C : Cx E classes 7 (wM g) b_M_soon "WithTheRedsModel" 3) (hR : RetI E classes 7 (wM g) b_M_soon r σ) : ∀ (n : Nat) (x1 : Int32) (x2 : Int32) (x4 : Int32) (x5 : Int32), f_M_soon_39 n σ x1 x2 x4 x5 = some r → V E classes 7 (wM g) σ 39 [(0, .ref (g.2.1 0)), (1, .int x1), (2, .int x2), (4, .int x4), (5, .int x5)] [] := by
  intro n
  induction n with
  | zero => intro x1 x2 x4 x5 hf; exact absurd hf (by unfold f_M_soon_39; exact nofun)
  | succ n ih =>
    intro x1 x2 x4 x5 hf
    unfold f_M_soon_39 at hf
    refine V_iload C 4 d_M_soon_39 rfl ?_
    refine V_aload_n C 0 d_M_soon_41 rfl ?_
    refine gM_M_things (v := σ.1 1) C fl_M_150 rfl d_M_soon_42 ?_
    refine V_icmp_ge (pc := 45) (tgt := 98) C d_M_soon_45 (by decide) hf (fun hf => ?_) (fun hf => ?_)
    · refine V_iload C 3 d_M_soon_98 rfl ?_
      exact V_iret hR hf d_M_soon_100
    · refine V_aload_n C 0 d_M_soon_48 rfl ?_
      refine gM_M_whoOf C fl_M_28 d_M_soon_49 ?_
      refine V_iload C 4 d_M_soon_52 rfl ?_
      obtain ⟨hi54_1, hf⟩ := gu hf
      refine aM_7 (v := σ.2.1 7 x5.toNatClampNeg) C hi54_1 rfl d_M_soon_54 ?_
      refine V_iload_n C 2 d_M_soon_55 rfl ?_
      refine V_icmp_eq (pc := 56) (tgt := 62) C d_M_soon_56 (by decide) hf (fun hf => ?_) (fun hf => ?_)
      · refine V_aload_n C 0 d_M_soon_62 rfl ?_
        refine V_iload_n C 1 d_M_soon_63 rfl ?_
        refine V_iload C 4 d_M_soon_64 rfl ?_
        refine V_iconst (v := 0) C d_M_soon_66 (by decide) ?_
        refine V_iconst (v := 0) C d_M_soon_67 (by decide) ?_
        obtain ⟨r68_2, hg, hf⟩ := bd hf
        refine V_callVi C [.int x1, .int x5, .int (0 : Int32), .int (0 : Int32)] (c_M_dayOf C.2.2.2.2.2.2.2.1 hg) (by decide) cw_M_333 0 rfl rfl rfl rfl (Nat.le_of_ble_eq_true rfl) rfl d_M_soon_68 ?_
        refine V_istore C d_M_soon_71 (by decide) rfl ?_
        refine V_iload C 0 d_M_soon_73 rfl ?_
        refine V_if_ge (pc := 75) (tgt := 81) C d_M_soon_75 (by decide) hf (fun hf => ?_) (fun hf => ?_)
        · refine V_iload C 0 d_M_soon_81 rfl ?_
          refine V_iload C 4 d_M_soon_83 rfl ?_
          refine V_icmp_le (pc := 85) (tgt := 92) C d_M_soon_85 (by decide) hf (fun hf => ?_) (fun hf => ?_)
          · refine V_iinc (v := x5 + (1 : Int32)) C 5 d_M_soon_92 rfl rfl (by decide) rfl ?_
            refine V_goto (pc := 95) (tgt := 39) C d_M_soon_95 (by decide) ?_
            refine V.sub [2, 3, 4, 5, 0] rfl ?_
            exact ih x1 x2 x4 (x5 + (1 : Int32)) hf
          · refine V_iload C 0 d_M_soon_88 rfl ?_
            refine V_istore C d_M_soon_90 (by decide) rfl ?_
            refine V_iinc (v := x5 + (1 : Int32)) C 5 d_M_soon_92 rfl rfl (by decide) rfl ?_
            refine V_goto (pc := 95) (tgt := 39) C d_M_soon_95 (by decide) ?_
            refine V.sub [3, 4, 5, 1, 0] rfl ?_
            exact ih x1 x2 r68_2 (x5 + (1 : Int32)) hf
        · refine V_bipush (v := -2) C d_M_soon_78 (by decide) ?_
          exact V_iret hR hf d_M_soon_80
      · refine V_goto (pc := 59) (tgt := 92) C d_M_soon_59 (by decide) ?_
        refine V_iinc (v := x5 + (1 : Int32)) C 4 d_M_soon_92 rfl rfl (by decide) rfl ?_
        refine V_goto (pc := 95) (tgt := 39) C d_M_soon_95 (by decide) ?_
        refine V.sub [1, 2, 3, 4, 0] rfl ?_
        exact ih x1 x2 x4 (x5 + (1 : Int32)) hf
set_option maxRecDepth 4000 in
theorem w_M_soon {E : Ev} {g : Gx} {r : Int32} {σ : St} (C : Cx E classes 7 (wM g) b_M_soon "WithTheRedsModel" 3) (hR : RetI E classes 7 (wM g) b_M_soon r σ) {a1 : Int32} {a2 : Int32} (hf : f_M_soon σ a1 a2 = some r) : V E classes 7 (wM g) σ 0 [(0, .ref (g.2.1 0)), (1, .int a1), (2, .int a2)] [] := by
  unfold f_M_soon at hf
  refine V_iload_n C 1 d_M_soon_0 rfl ?_
  obtain ⟨r1_1, hg, hf⟩ := bd hf
  refine V_callSi C [.int a1] (c_M_isShelf C.2.2.2.2.2.2.2.1 hg) (by decide) cw_M_161 rfl (Nat.le_of_ble_eq_true rfl) rfl d_M_soon_1 ?_
  refine V_if_eq (pc := 4) (tgt := 17) C d_M_soon_4 (by decide) hf (fun hf => ?_) (fun hf => ?_)
  · refine V_iconst (v := -1) C d_M_soon_17 (by decide) ?_
    exact V_iret hR hf d_M_soon_18
  · refine V_iload_n C 2 d_M_soon_7 rfl ?_
    refine V_iconst (v := 0) C d_M_soon_8 (by decide) ?_
    refine V_bipush (v := 8) C d_M_soon_9 (by decide) ?_
    obtain ⟨r11_2, hg, hf⟩ := bd hf
    refine V_callSi C [.int a2, .int (0 : Int32), .int (8 : Int32)] (c_M_in C.2.2.2.2.2.2.2.1 hg) (by decide) cw_M_153 rfl (Nat.le_of_ble_eq_true rfl) rfl d_M_soon_11 ?_
    refine V_if_ne (pc := 14) (tgt := 19) C d_M_soon_14 (by decide) hf (fun hf => ?_) (fun hf => ?_)
    · refine V_aload_n C 0 d_M_soon_19 rfl ?_
      refine V_iload_n C 1 d_M_soon_20 rfl ?_
      refine V_iconst (v := 0) C d_M_soon_21 (by decide) ?_
      obtain ⟨r22_3, hg, hf⟩ := bd hf
      refine V_callVi C [.int a1, .int (0 : Int32)] (c_M_rowFault C.2.2.2.2.2.2.2.1 hg) (by decide) cw_M_337 0 rfl rfl rfl rfl (Nat.le_of_ble_eq_true rfl) rfl d_M_soon_22 ?_
      refine V_istore_n C d_M_soon_25 (by decide) rfl ?_
      refine V_iload_n C 0 d_M_soon_26 rfl ?_
      refine V_if_ge (pc := 27) (tgt := 32) C d_M_soon_27 (by decide) hf (fun hf => ?_) (fun hf => ?_)
      · refine V_bipush (v := -2) C d_M_soon_32 (by decide) ?_
        refine V_istore C d_M_soon_34 (by decide) rfl ?_
        refine V_iconst (v := 0) C d_M_soon_36 (by decide) ?_
        refine V_istore C d_M_soon_37 (by decide) rfl ?_
        refine V.sub [3, 4, 5, 1, 0] rfl ?_
        exact w_M_soon_39 C hR FU a1 a2 (-2 : Int32) (0 : Int32) hf
      · refine V_iload_n C 0 d_M_soon_30 rfl ?_
        exact V_iret hR hf d_M_soon_31
    · refine V_iconst (v := -1) C d_M_soon_17 (by decide) ?_
      exact V_iret hR hf d_M_soon_18
theorem c_M_soon {l : Launch} {g : Gx} (hok : Wok classes (wM g)) {σ : St} {a1 : Int32} {a2 : Int32} {r : Int32} (hf : f_M_soon σ a1 a2 = some r) : CtI classes l y_M_soon b_M_soon 7 (some .int) 3 (wM g) [.ref (g.2.1 0), .int a1, .int a2] σ r σ :=
  MetI (by decide +kernel) hok (Nat.le_of_ble_eq_true rfl) (fun E _ C hR => w_M_soon C hR hf)
set_option maxRecDepth 4000 in
theorem w_M_swap_50 {E : Ev} {g : Gx} {r : Int32} {σ : St} (C : Cx E classes 8 (wM g) b_M_swap "WithTheRedsModel" 4) (hR : RetI E classes 8 (wM g) b_M_swap r σ) {k37 : St → Int32 → Int32 → Int32 → Int32 → Option Int32} (hk37 : ∀ (x1 : Int32) (x3 : Int32) (x4 : Int32) (x5 : Int32), k37 σ x1 x3 x4 x5 = some r → V E classes 8 (wM g) σ 37 [(0, .ref (g.2.1 0)), (1, .int x1), (3, .int x3), (4, .int x4), (5, .int x5)] []) : ∀ (n : Nat) (x1 : Int32) (x3 : Int32) (x4 : Int32) (x5 : Int32) (x6 : Int32), f_M_swap_50 k37 n σ x1 x3 x4 x5 x6 = some r → V E classes 8 (wM g) σ 50 [(0, .ref (g.2.1 0)), (1, .int x1), (3, .int x3), (4, .int x4), (5, .int x5), (6, .int x6)] [] := by
  intro n
  induction n with
  | zero => intro x1 x3 x4 x5 x6 hf; exact absurd hf (by unfold f_M_swap_50; exact nofun)
  | succ n ih =>
    intro x1 x3 x4 x5 x6 hf
    unfold f_M_swap_50 at hf
    refine V_iload C 5 d_M_swap_50 rfl ?_
    refine V_bipush (v := 20) C d_M_swap_52 (by decide) ?_
    refine V_icmp_ge (pc := 54) (tgt := 97) C d_M_swap_54 (by decide) hf (fun hf => ?_) (fun hf => ?_)
    · refine V_iinc (v := x5 + (1 : Int32)) C 4 d_M_swap_97 rfl rfl (by decide) rfl ?_
      refine V_goto (pc := 100) (tgt := 37) C d_M_swap_100 (by decide) ?_
      refine V.sub [1, 2, 3, 4, 0] rfl ?_
      exact hk37 x1 x3 x4 (x5 + (1 : Int32)) hf
    · refine V_aload_n C 0 d_M_swap_57 rfl ?_
      refine V_iload_n C 1 d_M_swap_58 rfl ?_
      refine V_iload C 4 d_M_swap_59 rfl ?_
      refine V_iload C 5 d_M_swap_61 rfl ?_
      obtain ⟨r63_1, hg, hf⟩ := bd hf
      refine V_callVi C [.int x1, .int x5, .int x6] (c_M_daysLate C.2.2.2.2.2.2.2.1 hg) (by decide) cw_M_340 0 rfl rfl rfl rfl (Nat.le_of_ble_eq_true rfl) rfl d_M_swap_63 ?_
      refine V_istore C d_M_swap_66 (by decide) rfl ?_
      refine V_iload C 0 d_M_swap_68 rfl ?_
      refine V_iload C 4 d_M_swap_70 rfl ?_
      refine V_icmp_lt (pc := 72) (tgt := 78) C d_M_swap_72 (by decide) hf (fun hf => ?_) (fun hf => ?_)
      · refine V_bipush (v := 20) C d_M_swap_78 (by decide) ?_
        refine V_iload C 5 d_M_swap_80 rfl ?_
        refine V_imul C d_M_swap_82 ?_
        refine V_iload C 6 d_M_swap_83 rfl ?_
        refine V_iadd C d_M_swap_85 ?_
        refine V_istore_n C d_M_swap_86 (by decide) rfl ?_
        refine V_iload C 1 d_M_swap_87 rfl ?_
        refine V_istore C d_M_swap_89 (by decide) rfl ?_
        refine V_iinc (v := x6 + (1 : Int32)) C 6 d_M_swap_91 rfl rfl (by decide) rfl ?_
        refine V_goto (pc := 94) (tgt := 50) C d_M_swap_94 (by decide) ?_
        refine V.sub [4, 5, 2, 1, 6, 0] rfl ?_
        exact ih x1 (((20 : Int32) * x5) + x6) r63_1 x5 (x6 + (1 : Int32)) hf
      · refine V_goto (pc := 75) (tgt := 91) C d_M_swap_75 (by decide) ?_
        refine V_iinc (v := x6 + (1 : Int32)) C 6 d_M_swap_91 rfl rfl (by decide) rfl ?_
        refine V_goto (pc := 94) (tgt := 50) C d_M_swap_94 (by decide) ?_
        refine V.sub [2, 3, 4, 5, 6, 0] rfl ?_
        exact ih x1 x3 x4 x5 (x6 + (1 : Int32)) hf
set_option maxRecDepth 4000 in
theorem w_M_swap_37 {E : Ev} {g : Gx} {r : Int32} {σ : St} (C : Cx E classes 8 (wM g) b_M_swap "WithTheRedsModel" 4) (hR : RetI E classes 8 (wM g) b_M_swap r σ) : ∀ (n : Nat) (x1 : Int32) (x3 : Int32) (x4 : Int32) (x5 : Int32), f_M_swap_37 n σ x1 x3 x4 x5 = some r → V E classes 8 (wM g) σ 37 [(0, .ref (g.2.1 0)), (1, .int x1), (3, .int x3), (4, .int x4), (5, .int x5)] [] := by
  intro n
  induction n with
  | zero => intro x1 x3 x4 x5 hf; exact absurd hf (by unfold f_M_swap_37; exact nofun)
  | succ n ih =>
    intro x1 x3 x4 x5 hf
    unfold f_M_swap_37 at hf
    refine V_iload C 4 d_M_swap_37 rfl ?_
    refine V_bipush (v := 20) C d_M_swap_39 (by decide) ?_
    refine V_icmp_ge (pc := 41) (tgt := 103) C d_M_swap_41 (by decide) hf (fun hf => ?_) (fun hf => ?_)
    · refine V_iload_n C 2 d_M_swap_103 rfl ?_
      exact V_iret hR hf d_M_swap_104
    · refine V_iload C 4 d_M_swap_44 rfl ?_
      refine V_iconst (v := 1) C d_M_swap_46 (by decide) ?_
      refine V_iadd C d_M_swap_47 ?_
      refine V_istore C d_M_swap_48 (by decide) rfl ?_
      refine V.sub [1, 2, 3, 4, 5, 0] rfl ?_
      exact w_M_swap_50 C hR ih FU x1 x3 x4 x5 (x5 + (1 : Int32)) hf
set_option maxRecDepth 4000 in
theorem w_M_swap {E : Ev} {g : Gx} {r : Int32} {σ : St} (C : Cx E classes 8 (wM g) b_M_swap "WithTheRedsModel" 4) (hR : RetI E classes 8 (wM g) b_M_swap r σ) {a1 : Int32} (hf : f_M_swap σ a1 = some r) : V E classes 8 (wM g) σ 0 [(0, .ref (g.2.1 0)), (1, .int a1)] [] := by
  unfold f_M_swap at hf
  refine V_iload_n C 1 d_M_swap_0 rfl ?_
  obtain ⟨r1_1, hg, hf⟩ := bd hf
  refine V_callSi C [.int a1] (c_M_isShelf C.2.2.2.2.2.2.2.1 hg) (by decide) cw_M_161 rfl (Nat.le_of_ble_eq_true rfl) rfl d_M_swap_1 ?_
  refine V_if_ne (pc := 4) (tgt := 9) C d_M_swap_4 (by decide) hf (fun hf => ?_) (fun hf => ?_)
  · refine V_aload_n C 0 d_M_swap_9 rfl ?_
    refine V_iload_n C 1 d_M_swap_10 rfl ?_
    refine V_iconst (v := 0) C d_M_swap_11 (by decide) ?_
    obtain ⟨r12_2, hg, hf⟩ := bd hf
    refine V_callVi C [.int a1, .int (0 : Int32)] (c_M_rowFault C.2.2.2.2.2.2.2.1 hg) (by decide) cw_M_337 0 rfl rfl rfl rfl (Nat.le_of_ble_eq_true rfl) rfl d_M_swap_12 ?_
    refine V_istore_n C d_M_swap_15 (by decide) rfl ?_
    refine V_iload_n C 0 d_M_swap_16 rfl ?_
    refine V_if_ge (pc := 17) (tgt := 22) C d_M_swap_17 (by decide) hf (fun hf => ?_) (fun hf => ?_)
    · refine V_bipush (v := -2) C d_M_swap_22 (by decide) ?_
      refine V_istore_n C d_M_swap_24 (by decide) rfl ?_
      refine V_aload_n C 2 d_M_swap_25 rfl ?_
      refine V_iload_n C 3 d_M_swap_26 rfl ?_
      refine V_iconst (v := 0) C d_M_swap_27 (by decide) ?_
      refine V_iconst (v := 0) C d_M_swap_28 (by decide) ?_
      obtain ⟨r29_3, hg, hf⟩ := bd hf
      refine V_callVi C [.int a1, .int (0 : Int32), .int (0 : Int32)] (c_M_daysLate C.2.2.2.2.2.2.2.1 hg) (by decide) cw_M_340 0 rfl rfl rfl rfl (Nat.le_of_ble_eq_true rfl) rfl d_M_swap_29 ?_
      refine V_istore C d_M_swap_32 (by decide) rfl ?_
      refine V_iconst (v := 0) C d_M_swap_34 (by decide) ?_
      refine V_istore C d_M_swap_35 (by decide) rfl ?_
      refine V.sub [4, 5, 2, 1, 0] rfl ?_
      exact w_M_swap_37 C hR FU a1 (-2 : Int32) r29_3 (0 : Int32) hf
    · refine V_iload_n C 0 d_M_swap_20 rfl ?_
      exact V_iret hR hf d_M_swap_21
  · refine V_iconst (v := -1) C d_M_swap_7 (by decide) ?_
    exact V_iret hR hf d_M_swap_8
theorem c_M_swap {l : Launch} {g : Gx} (hok : Wok classes (wM g)) {σ : St} {a1 : Int32} {r : Int32} (hf : f_M_swap σ a1 = some r) : CtI classes l y_M_swap b_M_swap 8 (some .int) 4 (wM g) [.ref (g.2.1 0), .int a1] σ r σ :=
  MetI (by decide +kernel) hok (Nat.le_of_ble_eq_true rfl) (fun E _ C hR => w_M_swap C hR hf)
set_option maxRecDepth 4000 in
theorem w_M_taken {E : Ev} {g : Gx} {r : Int32} {σ : St} (C : Cx E classes 3 (wM g) b_M_taken "WithTheRedsModel" 3) (hR : RetI E classes 3 (wM g) b_M_taken r σ) {a1 : Int32} {a2 : Int32} (hf : f_M_taken σ a1 a2 = some r) : V E classes 3 (wM g) σ 0 [(0, .ref (g.2.1 0)), (1, .int a1), (2, .int a2)] [] := by
  unfold f_M_taken at hf
  refine V_iload_n C 1 d_M_taken_0 rfl ?_
  obtain ⟨r1_1, hg, hf⟩ := bd hf
  refine V_callSi C [.int a1] (c_M_isShelf C.2.2.2.2.2.2.2.1 hg) (by decide) cw_M_161 rfl (Nat.le_of_ble_eq_true rfl) rfl d_M_taken_1 ?_
  refine V_if_eq (pc := 4) (tgt := 17) C d_M_taken_4 (by decide) hf (fun hf => ?_) (fun hf => ?_)
  · refine V_iconst (v := -1) C d_M_taken_17 (by decide) ?_
    exact V_iret hR hf d_M_taken_18
  · refine V_iload_n C 2 d_M_taken_7 rfl ?_
    refine V_iconst (v := 0) C d_M_taken_8 (by decide) ?_
    refine V_bipush (v := 7) C d_M_taken_9 (by decide) ?_
    obtain ⟨r11_2, hg, hf⟩ := bd hf
    refine V_callSi C [.int a2, .int (0 : Int32), .int (7 : Int32)] (c_M_in C.2.2.2.2.2.2.2.1 hg) (by decide) cw_M_153 rfl (Nat.le_of_ble_eq_true rfl) rfl d_M_taken_11 ?_
    refine V_if_ne (pc := 14) (tgt := 19) C d_M_taken_14 (by decide) hf (fun hf => ?_) (fun hf => ?_)
    · refine V_aload_n C 0 d_M_taken_19 rfl ?_
      refine gM_M_holds C fl_M_134 d_M_taken_20 ?_
      refine V_iload_n C 1 d_M_taken_23 rfl ?_
      obtain ⟨hi24_3, hf⟩ := gu hf
      refine aM_37 (v := σ.2.1 37 a1.toNatClampNeg) C hi24_3 rfl d_M_taken_24 ?_
      refine V_iconst (v := -1) C d_M_taken_25 (by decide) ?_
      refine V_icmp_ne (pc := 26) (tgt := 32) C d_M_taken_26 (by decide) hf (fun hf => ?_) (fun hf => ?_)
      · refine V_aload_n C 0 d_M_taken_32 rfl ?_
        refine gM_M_holds C fl_M_134 d_M_taken_33 ?_
        refine V_iload_n C 1 d_M_taken_36 rfl ?_
        obtain ⟨hi37_4, hf⟩ := gu hf
        refine aM_37 (v := σ.2.1 37 a1.toNatClampNeg) C hi37_4 rfl d_M_taken_37 ?_
        refine V_if_lt (pc := 38) (tgt := 73) C d_M_taken_38 (by decide) hf (fun hf => ?_) (fun hf => ?_)
        · refine V_bipush (v := -12) C d_M_taken_73 (by decide) ?_
          exact V_iret hR hf d_M_taken_75
        · refine V_aload_n C 0 d_M_taken_41 rfl ?_
          refine gM_M_kind C fl_M_128 d_M_taken_42 ?_
          refine V_aload_n C 0 d_M_taken_45 rfl ?_
          refine gM_M_holds C fl_M_134 d_M_taken_46 ?_
          refine V_iload_n C 1 d_M_taken_49 rfl ?_
          obtain ⟨hi50_5, hf⟩ := gu hf
          refine aM_37 (v := σ.2.1 37 a1.toNatClampNeg) C hi50_5 rfl d_M_taken_50 ?_
          obtain ⟨hi51_6, hf⟩ := gu hf
          refine aM_35 (v := σ.2.1 35 (σ.2.1 37 a1.toNatClampNeg).toNatClampNeg) C hi51_6 rfl d_M_taken_51 ?_
          refine V_iload_n C 2 d_M_taken_52 rfl ?_
          obtain ⟨r53_7, hg, hf⟩ := bd hf
          refine V_callSi C [.int (σ.2.1 35 (σ.2.1 37 a1.toNatClampNeg).toNatClampNeg), .int a2] (c_M_isUnder C.2.2.2.2.2.2.2.1 hg) (by decide) cw_M_394 rfl (Nat.le_of_ble_eq_true rfl) rfl d_M_taken_53 ?_
          refine V_if_eq (pc := 56) (tgt := 73) C d_M_taken_56 (by decide) hf (fun hf => ?_) (fun hf => ?_)
          · refine V_bipush (v := -12) C d_M_taken_73 (by decide) ?_
            exact V_iret hR hf d_M_taken_75
          · refine V_aload_n C 0 d_M_taken_59 rfl ?_
            refine gM_M_kind C fl_M_128 d_M_taken_60 ?_
            refine V_aload_n C 0 d_M_taken_63 rfl ?_
            refine gM_M_holds C fl_M_134 d_M_taken_64 ?_
            refine V_iload_n C 1 d_M_taken_67 rfl ?_
            obtain ⟨hi68_8, hf⟩ := gu hf
            refine aM_37 (v := σ.2.1 37 a1.toNatClampNeg) C hi68_8 rfl d_M_taken_68 ?_
            obtain ⟨hi69_9, hf⟩ := gu hf
            refine aM_35 (v := σ.2.1 35 (σ.2.1 37 a1.toNatClampNeg).toNatClampNeg) C hi69_9 rfl d_M_taken_69 ?_
            refine V_goto (pc := 70) (tgt := 75) C d_M_taken_70 (by decide) ?_
            exact V_iret hR hf d_M_taken_75
      · refine V_bipush (v := -11) C d_M_taken_29 (by decide) ?_
        exact V_iret hR hf d_M_taken_31
    · refine V_iconst (v := -1) C d_M_taken_17 (by decide) ?_
      exact V_iret hR hf d_M_taken_18
theorem c_M_taken {l : Launch} {g : Gx} (hok : Wok classes (wM g)) {σ : St} {a1 : Int32} {a2 : Int32} {r : Int32} (hf : f_M_taken σ a1 a2 = some r) : CtI classes l y_M_taken b_M_taken 3 (some .int) 3 (wM g) [.ref (g.2.1 0), .int a1, .int a2] σ r σ :=
  MetI (by decide +kernel) hok (Nat.le_of_ble_eq_true rfl) (fun E _ C hR => w_M_taken C hR hf)
set_option maxRecDepth 4000 in
theorem w_M_test_29 {E : Ev} {g : Gx} {r : Int32} {σ' : St} (C : Cx E classes 5 (wM g) b_M_test "WithTheRedsModel" 6) (hR : RetI E classes 5 (wM g) b_M_test r σ') : ∀ (n : Nat) (σ : St) (x1 : Int32) (x2 : Int32) (x3 : Int32) (x4 : Int32), f_M_test_29 n σ x1 x2 x3 x4 = some (r, σ') → V E classes 5 (wM g) σ 29 [(0, .ref (g.2.1 0)), (1, .int x1), (2, .int x2), (3, .int x3), (4, .int x4)] [] := by
  intro n
  induction n with
  | zero => intro σ x1 x2 x3 x4 hf; exact absurd hf (by unfold f_M_test_29; exact nofun)
  | succ n ih =>
    intro σ x1 x2 x3 x4 hf
    unfold f_M_test_29 at hf
    refine V_iload C 4 d_M_test_29 rfl ?_
    refine V_aload_n C 0 d_M_test_31 rfl ?_
    refine gM_M_things (v := σ.1 1) C fl_M_150 rfl d_M_test_32 ?_
    refine V_icmp_ge (pc := 35) (tgt := 88) C d_M_test_35 (by decide) hf (fun hf => ?_) (fun hf => ?_)
    · refine V_iload_n C 3 d_M_test_88 rfl ?_
      exact V_iretW hR hf d_M_test_89
    · refine V_iload_n C 1 d_M_test_38 rfl ?_
      refine V_iload C 4 d_M_test_39 rfl ?_
      refine V_ishr C d_M_test_41 ?_
      refine V_iconst (v := 1) C d_M_test_42 (by decide) ?_
      refine V_iand C d_M_test_43 ?_
      refine V_iconst (v := 1) C d_M_test_44 (by decide) ?_
      refine V_icmp_ne (pc := 45) (tgt := 82) C d_M_test_45 (by decide) hf (fun hf => ?_) (fun hf => ?_)
      · refine V_iinc (v := x4 + (1 : Int32)) C 4 d_M_test_82 rfl rfl (by decide) rfl ?_
        refine V_goto (pc := 85) (tgt := 29) C d_M_test_85 (by decide) ?_
        refine V.sub [1, 2, 3, 4, 0] rfl ?_
        exact ih σ x1 x2 x3 (x4 + (1 : Int32)) hf
      · refine V_aload_n C 0 d_M_test_48 rfl ?_
        refine V_iload C 4 d_M_test_49 rfl ?_
        refine V_iconst (v := 3) C d_M_test_51 (by decide) ?_
        obtain ⟨r52_1, σ52_1, hg, hf⟩ := bd2_of hf
        refine V_callVi C [.int x4, .int (3 : Int32)] (c_M_dyeOf C.2.2.2.2.2.2.2.1 hg) (by decide) cw_M_274 0 rfl rfl rfl rfl (Nat.le_of_ble_eq_true rfl) rfl d_M_test_52 ?_
        refine V_iload_n C 2 d_M_test_55 rfl ?_
        refine V_bipush (v := 100) C d_M_test_56 (by decide) ?_
        refine V_irem C d_M_test_58 (by decide) ?_
        refine V_icmp_ge (pc := 59) (tgt := 82) C d_M_test_59 (by decide) hf (fun hf => ?_) (fun hf => ?_)
        · refine V_iinc (v := x4 + (1 : Int32)) C 4 d_M_test_82 rfl rfl (by decide) rfl ?_
          refine V_goto (pc := 85) (tgt := 29) C d_M_test_85 (by decide) ?_
          refine V.sub [1, 2, 3, 4, 0] rfl ?_
          exact ih σ52_1 x1 x2 x3 (x4 + (1 : Int32)) hf
        · refine V_aload_n C 0 d_M_test_62 rfl ?_
          refine V_iload C 4 d_M_test_63 rfl ?_
          refine V_iload_n C 2 d_M_test_65 rfl ?_
          refine V_bipush (v := 100) C d_M_test_66 (by decide) ?_
          refine V_idiv C d_M_test_68 (by decide) ?_
          obtain ⟨r69_2, σ69_2, hg, hf⟩ := bd2_of hf
          refine V_callVi C [.int x4, .int (x2 / (100 : Int32))] (c_M_dyeOf C.2.2.2.2.2.2.2.1 hg) (by decide) cw_M_274 0 rfl rfl rfl rfl (Nat.le_of_ble_eq_true rfl) rfl d_M_test_69 ?_
          refine V_if_le (pc := 72) (tgt := 82) C d_M_test_72 (by decide) hf (fun hf => ?_) (fun hf => ?_)
          · refine V_iinc (v := x4 + (1 : Int32)) C 4 d_M_test_82 rfl rfl (by decide) rfl ?_
            refine V_goto (pc := 85) (tgt := 29) C d_M_test_85 (by decide) ?_
            refine V.sub [1, 2, 3, 4, 0] rfl ?_
            exact ih σ69_2 x1 x2 x3 (x4 + (1 : Int32)) hf
          · refine V_iload_n C 3 d_M_test_75 rfl ?_
            refine V_iconst (v := 1) C d_M_test_76 (by decide) ?_
            refine V_iload C 4 d_M_test_77 rfl ?_
            refine V_ishl C d_M_test_79 ?_
            refine V_ior C d_M_test_80 ?_
            refine V_istore_n C d_M_test_81 (by decide) rfl ?_
            refine V_iinc (v := x4 + (1 : Int32)) C 4 d_M_test_82 rfl rfl (by decide) rfl ?_
            refine V_goto (pc := 85) (tgt := 29) C d_M_test_85 (by decide) ?_
            refine V.sub [2, 3, 4, 1, 0] rfl ?_
            exact ih σ69_2 x1 x2 (x3 ||| ((1 : Int32) <<< (x4 &&& 31))) (x4 + (1 : Int32)) hf
set_option maxRecDepth 4000 in
theorem w_M_test {E : Ev} {g : Gx} {r : Int32} {σ' : St} (C : Cx E classes 5 (wM g) b_M_test "WithTheRedsModel" 6) (hR : RetI E classes 5 (wM g) b_M_test r σ') {σ : St} {a1 : Int32} {a2 : Int32} (hf : f_M_test σ a1 a2 = some (r, σ')) : V E classes 5 (wM g) σ 0 [(0, .ref (g.2.1 0)), (1, .int a1), (2, .int a2)] [] := by
  unfold f_M_test at hf
  refine V_aload_n C 0 d_M_test_0 rfl ?_
  refine V_iload_n C 1 d_M_test_1 rfl ?_
  obtain ⟨r2_1, hg, hf⟩ := bd hf
  refine V_callVi C [.int a1] (c_M_areThings C.2.2.2.2.2.2.2.1 hg) (by decide) cw_M_289 0 rfl rfl rfl rfl (Nat.le_of_ble_eq_true rfl) rfl d_M_test_2 ?_
  refine V_if_eq (pc := 5) (tgt := 22) C d_M_test_5 (by decide) hf (fun hf => ?_) (fun hf => ?_)
  · refine V_iconst (v := -1) C d_M_test_22 (by decide) ?_
    exact V_iretW hR hf d_M_test_23
  · refine V_iload_n C 2 d_M_test_8 rfl ?_
    obtain ⟨r9_2, hg, hf⟩ := bd hf
    refine V_callSi C [.int a2] (c_M_areMost C.2.2.2.2.2.2.2.1 hg) (by decide) cw_M_305 rfl (Nat.le_of_ble_eq_true rfl) rfl d_M_test_9 ?_
    refine V_if_eq (pc := 12) (tgt := 22) C d_M_test_12 (by decide) hf (fun hf => ?_) (fun hf => ?_)
    · refine V_iconst (v := -1) C d_M_test_22 (by decide) ?_
      exact V_iretW hR hf d_M_test_23
    · refine V_iload_n C 2 d_M_test_15 rfl ?_
      refine V_bipush (v := 100) C d_M_test_16 (by decide) ?_
      refine V_irem C d_M_test_18 (by decide) ?_
      refine V_if_ne (pc := 19) (tgt := 24) C d_M_test_19 (by decide) hf (fun hf => ?_) (fun hf => ?_)
      · refine V_iconst (v := 0) C d_M_test_24 (by decide) ?_
        refine V_istore_n C d_M_test_25 (by decide) rfl ?_
        refine V_iconst (v := 0) C d_M_test_26 (by decide) ?_
        refine V_istore C d_M_test_27 (by decide) rfl ?_
        refine V.sub [2, 3, 4, 1, 0] rfl ?_
        exact w_M_test_29 C hR FU σ a1 a2 (0 : Int32) (0 : Int32) hf
      · refine V_iconst (v := -1) C d_M_test_22 (by decide) ?_
        exact V_iretW hR hf d_M_test_23
theorem c_M_test {l : Launch} {g : Gx} (hok : Wok classes (wM g)) {σ : St} {a1 : Int32} {a2 : Int32} {r : Int32} {σ' : St} (hf : f_M_test σ a1 a2 = some (r, σ')) : CtI classes l y_M_test b_M_test 5 (some .int) 6 (wM g) [.ref (g.2.1 0), .int a1, .int a2] σ r σ' :=
  MetI (by decide +kernel) hok (Nat.le_of_ble_eq_true rfl) (fun E _ C hR => w_M_test C hR hf)
set_option maxRecDepth 4000 in
theorem w_M_thing {E : Ev} {g : Gx} {r : Int32} {σ' : St} (C : Cx E classes 3 (wM g) b_M_thing "WithTheRedsModel" 2) (hR : RetI E classes 3 (wM g) b_M_thing r σ') {σ : St} {a1 : Int32} {a2 : Int32} (hf : f_M_thing σ a1 a2 = some (r, σ')) : V E classes 3 (wM g) σ 0 [(0, .ref (g.2.1 0)), (1, .int a1), (2, .int a2)] [] := by
  unfold f_M_thing at hf
  refine V_iload_n C 1 d_M_thing_0 rfl ?_
  refine V_iconst (v := 0) C d_M_thing_1 (by decide) ?_
  refine V_iconst (v := 3) C d_M_thing_2 (by decide) ?_
  obtain ⟨r3_1, hg, hf⟩ := bd hf
  refine V_callSi C [.int a1, .int (0 : Int32), .int (3 : Int32)] (c_M_in C.2.2.2.2.2.2.2.1 hg) (by decide) cw_M_153 rfl (Nat.le_of_ble_eq_true rfl) rfl d_M_thing_3 ?_
  refine V_if_eq (pc := 6) (tgt := 19) C d_M_thing_6 (by decide) hf (fun hf => ?_) (fun hf => ?_)
  · refine V_iconst (v := -1) C d_M_thing_19 (by decide) ?_
    exact V_iretW hR hf d_M_thing_20
  · refine V_iload_n C 2 d_M_thing_9 rfl ?_
    refine V_iconst (v := 1) C d_M_thing_10 (by decide) ?_
    refine V_bipush (v := 9) C d_M_thing_11 (by decide) ?_
    obtain ⟨r13_2, hg, hf⟩ := bd hf
    refine V_callSi C [.int a2, .int (1 : Int32), .int (9 : Int32)] (c_M_in C.2.2.2.2.2.2.2.1 hg) (by decide) cw_M_153 rfl (Nat.le_of_ble_eq_true rfl) rfl d_M_thing_13 ?_
    refine V_if_ne (pc := 16) (tgt := 21) C d_M_thing_16 (by decide) hf (fun hf => ?_) (fun hf => ?_)
    · refine V_aload_n C 0 d_M_thing_21 rfl ?_
      refine gM_M_things (v := σ.1 1) C fl_M_150 rfl d_M_thing_22 ?_
      refine V_bipush (v := 10) C d_M_thing_25 (by decide) ?_
      refine V_icmp_ne (pc := 27) (tgt := 35) C d_M_thing_27 (by decide) hf (fun hf => ?_) (fun hf => ?_)
      · refine V_aload_n C 0 d_M_thing_35 rfl ?_
        refine V_iload_n C 1 d_M_thing_36 rfl ?_
        refine V_iconst (v := 0) C d_M_thing_37 (by decide) ?_
        refine V_iload_n C 2 d_M_thing_38 rfl ?_
        obtain ⟨r39_3, σ39_3, hg, hf⟩ := bd2_of hf
        refine V_callVi C [.int a1, .int (0 : Int32), .int a2] (c_M_addThing C.2.2.2.2.2.2.2.1 hg) (by decide) cw_M_157 0 rfl rfl rfl rfl (Nat.le_of_ble_eq_true rfl) rfl d_M_thing_39 ?_
        exact V_iretW hR hf d_M_thing_42
      · refine V_bipush (v := -3) C d_M_thing_30 (by decide) ?_
        refine V_goto (pc := 32) (tgt := 42) C d_M_thing_32 (by decide) ?_
        exact V_iretW hR hf d_M_thing_42
    · refine V_iconst (v := -1) C d_M_thing_19 (by decide) ?_
      exact V_iretW hR hf d_M_thing_20
theorem c_M_thing {l : Launch} {g : Gx} (hok : Wok classes (wM g)) {σ : St} {a1 : Int32} {a2 : Int32} {r : Int32} {σ' : St} (hf : f_M_thing σ a1 a2 = some (r, σ')) : CtI classes l y_M_thing b_M_thing 3 (some .int) 2 (wM g) [.ref (g.2.1 0), .int a1, .int a2] σ r σ' :=
  MetI (by decide +kernel) hok (Nat.le_of_ble_eq_true rfl) (fun E _ C hR => w_M_thing C hR hf)
set_option maxRecDepth 4000 in
theorem w_M_things_58 {E : Ev} {g : Gx} {r : Int32} {σ' : St} (C : Cx E classes 8 (wM g) b_M_things "WithTheRedsModel" 3) (hR : RetI E classes 8 (wM g) b_M_things r σ') : ∀ (n : Nat) (σ : St) (x1 : Int32) (x2 : Int32) (x3 : Int32) (x4 : Int32), f_M_things_58 n σ x1 x2 x3 x4 = some (r, σ') → V E classes 8 (wM g) σ 58 [(0, .ref (g.2.1 0)), (1, .int x1), (2, .int x2), (3, .int x3), (4, .int x4)] [] := by
  intro n
  induction n with
  | zero => intro σ x1 x2 x3 x4 hf; exact absurd hf (by unfold f_M_things_58; exact nofun)
  | succ n ih =>
    intro σ x1 x2 x3 x4 hf
    unfold f_M_things_58 at hf
    refine V_iload C 4 d_M_things_58 rfl ?_
    refine V_iload_n C 3 d_M_things_60 rfl ?_
    refine V_icmp_ge (pc := 61) (tgt := 216) C d_M_things_61 (by decide) hf (fun hf => ?_) (fun hf => ?_)
    · refine V_iload_n C 3 d_M_things_216 rfl ?_
      exact V_iretW hR hf d_M_things_217
    · refine V_iload_n C 2 d_M_things_64 rfl ?_
      refine V_i2l C d_M_things_65 ?_
      refine V_iconst (v := 3) C d_M_things_66 (by decide) ?_
      refine V_iload C 4 d_M_things_67 rfl ?_
      refine V_imul C d_M_things_69 ?_
      refine V_i2l C d_M_things_70 ?_
      refine V_ladd C d_M_things_71 ?_
      refine V_lstore C d_M_things_72 (by decide) rfl ?_
      refine V_lload C 0 d_M_things_74 rfl ?_
      refine V_lconst (v := 0) C d_M_things_76 (by decide) ?_
      refine V_lcmp C d_M_things_77 ?_
      refine V_if_lt (pc := 78) (tgt := 107) C d_M_things_78 (by decide) hf (fun hf => ?_) (fun hf => ?_)
      · refine V_iload C 5 d_M_things_107 rfl ?_
        exact V_iretW hR hf d_M_things_109
      · refine V_lload C 0 d_M_things_81 rfl ?_
        refine V_ldc2 C kc_M_165 d_M_things_83 ?_
        refine V_ladd C d_M_things_86 ?_
        refine V_aload_n C 1 d_M_things_87 rfl ?_
        refine gM_M_size C fl_M_137 d_M_things_88 ?_
        refine V_iload_n C 2 d_M_things_91 rfl ?_
        obtain ⟨hi92_1, hf⟩ := gu hf
        refine aM_38 (v := σ.2.1 38 x1.toNatClampNeg) C hi92_1 rfl d_M_things_92 ?_
        refine V_i2l C d_M_things_93 ?_
        refine V_lcmp C d_M_things_94 ?_
        refine V_if_ge (pc := 95) (tgt := 107) C d_M_things_95 (by decide) hf (fun hf => ?_) (fun hf => ?_)
        · refine V_iload C 5 d_M_things_107 rfl ?_
          exact V_iretW hR hf d_M_things_109
        · refine V_aload_n C 1 d_M_things_98 rfl ?_
          refine gM_M_things (v := σ.1 1) C fl_M_150 rfl d_M_things_99 ?_
          refine V_bipush (v := 10) C d_M_things_102 (by decide) ?_
          refine V_icmp_ne (pc := 104) (tgt := 110) C d_M_things_104 (by decide) hf (fun hf => ?_) (fun hf => ?_)
          · refine V_bipush (v := 60) C d_M_things_110 (by decide) ?_
            refine V_iload_n C 2 d_M_things_112 rfl ?_
            refine V_imul C d_M_things_113 ?_
            refine V_lload C 0 d_M_things_114 rfl ?_
            refine V_l2i C d_M_things_116 ?_
            refine V_iadd C d_M_things_117 ?_
            refine V_istore C d_M_things_118 (by decide) rfl ?_
            refine V_aload_n C 2 d_M_things_120 rfl ?_
            refine gM_M_elements C fl_M_140 d_M_things_121 ?_
            refine V_iload C 0 d_M_things_124 rfl ?_
            obtain ⟨hi126_2, hf⟩ := gu hf
            refine aM_39 (v := σ.2.2 39 (((60 : Int32) * x1) + (((x2.toInt64) + (((3 : Int32) * x4).toInt64)).toInt32)).toNatClampNeg) C hi126_2 rfl d_M_things_126 ?_
            refine V_l2i C d_M_things_127 ?_
            refine V_iconst (v := 0) C d_M_things_128 (by decide) ?_
            refine V_iconst (v := 3) C d_M_things_129 (by decide) ?_
            obtain ⟨r130_3, hg, hf⟩ := bd hf
            refine V_callSi C [.int ((σ.2.2 39 (((60 : Int32) * x1) + (((x2.toInt64) + (((3 : Int32) * x4).toInt64)).toInt32)).toNatClampNeg).toInt32), .int (0 : Int32), .int (3 : Int32)] (c_M_in C.2.2.2.2.2.2.2.1 hg) (by decide) cw_M_153 rfl (Nat.le_of_ble_eq_true rfl) rfl d_M_things_130 ?_
            refine V_if_eq (pc := 133) (tgt := 174) C d_M_things_133 (by decide) hf (fun hf => ?_) (fun hf => ?_)
            · refine V_iload C 6 d_M_things_174 rfl ?_
              exact V_iretW hR hf d_M_things_176
            · refine V_aload_n C 2 d_M_things_136 rfl ?_
              refine gM_M_elements C fl_M_140 d_M_things_137 ?_
              refine V_iload C 0 d_M_things_140 rfl ?_
              refine V_iconst (v := 1) C d_M_things_142 (by decide) ?_
              refine V_iadd C d_M_things_143 ?_
              obtain ⟨hi144_4, hf⟩ := gu hf
              refine aM_39 (v := σ.2.2 39 ((((60 : Int32) * x1) + (((x2.toInt64) + (((3 : Int32) * x4).toInt64)).toInt32)) + (1 : Int32)).toNatClampNeg) C hi144_4 rfl d_M_things_144 ?_
              refine V_l2i C d_M_things_145 ?_
              refine V_iconst (v := 0) C d_M_things_146 (by decide) ?_
              refine V_bipush (v := 9) C d_M_things_147 (by decide) ?_
              obtain ⟨r149_5, hg, hf⟩ := bd hf
              refine V_callSi C [.int ((σ.2.2 39 ((((60 : Int32) * x1) + (((x2.toInt64) + (((3 : Int32) * x4).toInt64)).toInt32)) + (1 : Int32)).toNatClampNeg).toInt32), .int (0 : Int32), .int (9 : Int32)] (c_M_in C.2.2.2.2.2.2.2.1 hg) (by decide) cw_M_153 rfl (Nat.le_of_ble_eq_true rfl) rfl d_M_things_149 ?_
              refine V_if_eq (pc := 152) (tgt := 174) C d_M_things_152 (by decide) hf (fun hf => ?_) (fun hf => ?_)
              · refine V_iload C 6 d_M_things_174 rfl ?_
                exact V_iretW hR hf d_M_things_176
              · refine V_aload_n C 2 d_M_things_155 rfl ?_
                refine gM_M_elements C fl_M_140 d_M_things_156 ?_
                refine V_iload C 0 d_M_things_159 rfl ?_
                refine V_iconst (v := 2) C d_M_things_161 (by decide) ?_
                refine V_iadd C d_M_things_162 ?_
                obtain ⟨hi163_6, hf⟩ := gu hf
                refine aM_39 (v := σ.2.2 39 ((((60 : Int32) * x1) + (((x2.toInt64) + (((3 : Int32) * x4).toInt64)).toInt32)) + (2 : Int32)).toNatClampNeg) C hi163_6 rfl d_M_things_163 ?_
                refine V_l2i C d_M_things_164 ?_
                refine V_iconst (v := 1) C d_M_things_165 (by decide) ?_
                refine V_bipush (v := 9) C d_M_things_166 (by decide) ?_
                obtain ⟨r168_7, hg, hf⟩ := bd hf
                refine V_callSi C [.int ((σ.2.2 39 ((((60 : Int32) * x1) + (((x2.toInt64) + (((3 : Int32) * x4).toInt64)).toInt32)) + (2 : Int32)).toNatClampNeg).toInt32), .int (1 : Int32), .int (9 : Int32)] (c_M_in C.2.2.2.2.2.2.2.1 hg) (by decide) cw_M_153 rfl (Nat.le_of_ble_eq_true rfl) rfl d_M_things_168 ?_
                refine V_if_ne (pc := 171) (tgt := 177) C d_M_things_171 (by decide) hf (fun hf => ?_) (fun hf => ?_)
                · refine V_aload_n C 2 d_M_things_177 rfl ?_
                  refine V_aload_n C 2 d_M_things_178 rfl ?_
                  refine gM_M_elements C fl_M_140 d_M_things_179 ?_
                  refine V_iload C 0 d_M_things_182 rfl ?_
                  obtain ⟨hi184_8, hf⟩ := gu hf
                  refine aM_39 (v := σ.2.2 39 (((60 : Int32) * x1) + (((x2.toInt64) + (((3 : Int32) * x4).toInt64)).toInt32)).toNatClampNeg) C hi184_8 rfl d_M_things_184 ?_
                  refine V_l2i C d_M_things_185 ?_
                  refine V_aload_n C 2 d_M_things_186 rfl ?_
                  refine gM_M_elements C fl_M_140 d_M_things_187 ?_
                  refine V_iload C 0 d_M_things_190 rfl ?_
                  refine V_iconst (v := 1) C d_M_things_192 (by decide) ?_
                  refine V_iadd C d_M_things_193 ?_
                  obtain ⟨hi194_9, hf⟩ := gu hf
                  refine aM_39 (v := σ.2.2 39 ((((60 : Int32) * x1) + (((x2.toInt64) + (((3 : Int32) * x4).toInt64)).toInt32)) + (1 : Int32)).toNatClampNeg) C hi194_9 rfl d_M_things_194 ?_
                  refine V_l2i C d_M_things_195 ?_
                  refine V_aload_n C 2 d_M_things_196 rfl ?_
                  refine gM_M_elements C fl_M_140 d_M_things_197 ?_
                  refine V_iload C 0 d_M_things_200 rfl ?_
                  refine V_iconst (v := 2) C d_M_things_202 (by decide) ?_
                  refine V_iadd C d_M_things_203 ?_
                  obtain ⟨hi204_10, hf⟩ := gu hf
                  refine aM_39 (v := σ.2.2 39 ((((60 : Int32) * x1) + (((x2.toInt64) + (((3 : Int32) * x4).toInt64)).toInt32)) + (2 : Int32)).toNatClampNeg) C hi204_10 rfl d_M_things_204 ?_
                  refine V_l2i C d_M_things_205 ?_
                  obtain ⟨r206_11, σ206_11, hg, hf⟩ := bd2_of hf
                  refine V_callVi C [.int ((σ.2.2 39 (((60 : Int32) * x1) + (((x2.toInt64) + (((3 : Int32) * x4).toInt64)).toInt32)).toNatClampNeg).toInt32), .int ((σ.2.2 39 ((((60 : Int32) * x1) + (((x2.toInt64) + (((3 : Int32) * x4).toInt64)).toInt32)) + (1 : Int32)).toNatClampNeg).toInt32), .int ((σ.2.2 39 ((((60 : Int32) * x1) + (((x2.toInt64) + (((3 : Int32) * x4).toInt64)).toInt32)) + (2 : Int32)).toNatClampNeg).toInt32)] (c_M_addThing C.2.2.2.2.2.2.2.1 hg) (by decide) cw_M_157 0 rfl rfl rfl rfl (Nat.le_of_ble_eq_true rfl) rfl d_M_things_206 ?_
                  refine V_pop C d_M_things_209 rfl ?_
                  refine V_iinc (v := x4 + (1 : Int32)) C 6 d_M_things_210 rfl rfl (by decide) rfl ?_
                  refine V_goto (pc := 213) (tgt := 58) C d_M_things_213 (by decide) ?_
                  refine V.sub [3, 4, 5, 6, 0] rfl ?_
                  exact ih σ206_11 x1 x2 x3 (x4 + (1 : Int32)) hf
                · refine V_iload C 6 d_M_things_174 rfl ?_
                  exact V_iretW hR hf d_M_things_176
          · refine V_iload C 5 d_M_things_107 rfl ?_
            exact V_iretW hR hf d_M_things_109
set_option maxRecDepth 4000 in
theorem w_M_things {E : Ev} {g : Gx} {r : Int32} {σ' : St} (C : Cx E classes 8 (wM g) b_M_things "WithTheRedsModel" 3) (hR : RetI E classes 8 (wM g) b_M_things r σ') {σ : St} {a1 : Int32} {a2 : Int32} {a3 : Int32} (hf : f_M_things σ a1 a2 a3 = some (r, σ')) : V E classes 8 (wM g) σ 0 [(0, .ref (g.2.1 0)), (1, .int a1), (2, .int a2), (3, .int a3)] [] := by
  unfold f_M_things at hf
  refine V_iload_n C 1 d_M_things_0 rfl ?_
  obtain ⟨r1_1, hg, hf⟩ := bd hf
  refine V_callSi C [.int a1] (c_M_isShelf C.2.2.2.2.2.2.2.1 hg) (by decide) cw_M_161 rfl (Nat.le_of_ble_eq_true rfl) rfl d_M_things_1 ?_
  refine V_if_eq (pc := 4) (tgt := 17) C d_M_things_4 (by decide) hf (fun hf => ?_) (fun hf => ?_)
  · refine V_iconst (v := -1) C d_M_things_17 (by decide) ?_
    exact V_iretW hR hf d_M_things_18
  · refine V_iload_n C 3 d_M_things_7 rfl ?_
    refine V_iconst (v := 1) C d_M_things_8 (by decide) ?_
    refine V_bipush (v := 10) C d_M_things_9 (by decide) ?_
    obtain ⟨r11_2, hg, hf⟩ := bd hf
    refine V_callSi C [.int a3, .int (1 : Int32), .int (10 : Int32)] (c_M_in C.2.2.2.2.2.2.2.1 hg) (by decide) cw_M_153 rfl (Nat.le_of_ble_eq_true rfl) rfl d_M_things_11 ?_
    refine V_if_ne (pc := 14) (tgt := 19) C d_M_things_14 (by decide) hf (fun hf => ?_) (fun hf => ?_)
    · refine V_aload_n C 0 d_M_things_19 rfl ?_
      refine gM_M_holds C fl_M_134 d_M_things_20 ?_
      refine V_iload_n C 1 d_M_things_23 rfl ?_
      obtain ⟨hi24_3, hf⟩ := gu hf
      refine aM_37 (v := σ.2.1 37 a1.toNatClampNeg) C hi24_3 rfl d_M_things_24 ?_
      refine V_iconst (v := -1) C d_M_things_25 (by decide) ?_
      refine V_icmp_eq (pc := 26) (tgt := 43) C d_M_things_26 (by decide) hf (fun hf => ?_) (fun hf => ?_)
      · refine V_aload_n C 0 d_M_things_43 rfl ?_
        refine gM_M_holds C fl_M_134 d_M_things_44 ?_
        refine V_iload_n C 1 d_M_things_47 rfl ?_
        obtain ⟨hi48_4, hf⟩ := gu hf
        refine aM_37 (v := σ.2.1 37 a1.toNatClampNeg) C hi48_4 rfl d_M_things_48 ?_
        refine V_iconst (v := -1) C d_M_things_49 (by decide) ?_
        refine V_icmp_ne (pc := 50) (tgt := 55) C d_M_things_50 (by decide) hf (fun hf => ?_) (fun hf => ?_)
        · refine V_iconst (v := 0) C d_M_things_55 (by decide) ?_
          refine V_istore C d_M_things_56 (by decide) rfl ?_
          refine V.sub [1, 2, 3, 4, 0] rfl ?_
          exact w_M_things_58 C hR FU σ a1 a2 a3 (0 : Int32) hf
        · refine V_iconst (v := 0) C d_M_things_53 (by decide) ?_
          exact V_iretW hR hf d_M_things_54
      · refine V_aload_n C 0 d_M_things_29 rfl ?_
        refine gM_M_holds C fl_M_134 d_M_things_30 ?_
        refine V_iload_n C 1 d_M_things_33 rfl ?_
        obtain ⟨hi34_5, hf⟩ := gu hf
        refine aM_37 (v := σ.2.1 37 a1.toNatClampNeg) C hi34_5 rfl d_M_things_34 ?_
        refine V_bipush (v := -2) C d_M_things_35 (by decide) ?_
        refine V_icmp_eq (pc := 37) (tgt := 43) C d_M_things_37 (by decide) hf (fun hf => ?_) (fun hf => ?_)
        · refine V_aload_n C 0 d_M_things_43 rfl ?_
          refine gM_M_holds C fl_M_134 d_M_things_44 ?_
          refine V_iload_n C 1 d_M_things_47 rfl ?_
          obtain ⟨hi48_6, hf⟩ := gu hf
          refine aM_37 (v := σ.2.1 37 a1.toNatClampNeg) C hi48_6 rfl d_M_things_48 ?_
          refine V_iconst (v := -1) C d_M_things_49 (by decide) ?_
          refine V_icmp_ne (pc := 50) (tgt := 55) C d_M_things_50 (by decide) hf (fun hf => ?_) (fun hf => ?_)
          · refine V_iconst (v := 0) C d_M_things_55 (by decide) ?_
            refine V_istore C d_M_things_56 (by decide) rfl ?_
            refine V.sub [1, 2, 3, 4, 0] rfl ?_
            exact w_M_things_58 C hR FU σ a1 a2 a3 (0 : Int32) hf
          · refine V_iconst (v := 0) C d_M_things_53 (by decide) ?_
            exact V_iretW hR hf d_M_things_54
        · refine V_bipush (v := -12) C d_M_things_40 (by decide) ?_
          exact V_iretW hR hf d_M_things_42
    · refine V_iconst (v := -1) C d_M_things_17 (by decide) ?_
      exact V_iretW hR hf d_M_things_18
theorem c_M_things {l : Launch} {g : Gx} (hok : Wok classes (wM g)) {σ : St} {a1 : Int32} {a2 : Int32} {a3 : Int32} {r : Int32} {σ' : St} (hf : f_M_things σ a1 a2 a3 = some (r, σ')) : CtI classes l y_M_things b_M_things 8 (some .int) 3 (wM g) [.ref (g.2.1 0), .int a1, .int a2, .int a3] σ r σ' :=
  MetI (by decide +kernel) hok (Nat.le_of_ble_eq_true rfl) (fun E _ C hR => w_M_things C hR hf)
set_option maxRecDepth 4000 in
theorem w_M_throwAway {E : Ev} {g : Gx} {r : Int32} {σ' : St} (C : Cx E classes 2 (wM g) b_M_throwAway "WithTheRedsModel" 3) (hR : RetI E classes 2 (wM g) b_M_throwAway r σ') {σ : St} {a1 : Int32} (hf : f_M_throwAway σ a1 = some (r, σ')) : V E classes 2 (wM g) σ 0 [(0, .ref (g.2.1 0)), (1, .int a1)] [] := by
  unfold f_M_throwAway at hf
  refine V_aload_n C 0 d_M_throwAway_0 rfl ?_
  refine V_iload_n C 1 d_M_throwAway_1 rfl ?_
  obtain ⟨r2_1, hg, hf⟩ := bd hf
  refine V_callVi C [.int a1] (c_M_isThing C.2.2.2.2.2.2.2.1 hg) (by decide) cw_M_181 0 rfl rfl rfl rfl (Nat.le_of_ble_eq_true rfl) rfl d_M_throwAway_2 ?_
  refine V_if_ne (pc := 5) (tgt := 10) C d_M_throwAway_5 (by decide) hf (fun hf => ?_) (fun hf => ?_)
  · refine V_aload_n C 0 d_M_throwAway_10 rfl ?_
    refine gM_M_away C fl_M_109 d_M_throwAway_11 ?_
    refine V_iload_n C 1 d_M_throwAway_14 rfl ?_
    obtain ⟨hi15_2, hf⟩ := gu hf
    refine aM_29 (v := σ.2.1 29 a1.toNatClampNeg) C hi15_2 rfl d_M_throwAway_15 ?_
    refine V_if_eq (pc := 16) (tgt := 22) C d_M_throwAway_16 (by decide) hf (fun hf => ?_) (fun hf => ?_)
    · refine V_aload_n C 0 d_M_throwAway_22 rfl ?_
      refine gM_M_away C fl_M_109 d_M_throwAway_23 ?_
      refine V_iload_n C 1 d_M_throwAway_26 rfl ?_
      refine V_iconst (v := 1) C d_M_throwAway_27 (by decide) ?_
      obtain ⟨hi28_3, hf⟩ := gu hf
      refine sM_29 C hi28_3 d_M_throwAway_28 ?_
      refine V_aload_n C 0 d_M_throwAway_29 rfl ?_
      refine gM_M_ledOf C fl_M_113 d_M_throwAway_30 ?_
      refine V_iconst (v := 4) C d_M_throwAway_33 (by decide) ?_
      refine V_dup2 C d_M_throwAway_34 rfl rfl ?_
      refine aM_30 (v := σ.2.1 30 (4 : Int32).toNatClampNeg) C rfl rfl d_M_throwAway_35 ?_
      refine V_iconst (v := 1) C d_M_throwAway_36 (by decide) ?_
      refine V_iadd C d_M_throwAway_37 ?_
      refine sM_30 C rfl d_M_throwAway_38 ?_
      refine V_aload_n C 0 d_M_throwAway_39 rfl ?_
      obtain ⟨r40_4, hg, hf⟩ := bd hf
      refine V_callVi C [] (c_M_leftMany C.2.2.2.2.2.2.2.1 hg) (by decide) cw_M_373 0 rfl rfl rfl rfl (Nat.le_of_ble_eq_true rfl) rfl d_M_throwAway_40 ?_
      exact V_iretW hR hf d_M_throwAway_43
    · refine V_bipush (v := -5) C d_M_throwAway_19 (by decide) ?_
      exact V_iretW hR hf d_M_throwAway_21
  · refine V_iconst (v := -1) C d_M_throwAway_8 (by decide) ?_
    exact V_iretW hR hf d_M_throwAway_9
theorem c_M_throwAway {l : Launch} {g : Gx} (hok : Wok classes (wM g)) {σ : St} {a1 : Int32} {r : Int32} {σ' : St} (hf : f_M_throwAway σ a1 = some (r, σ')) : CtI classes l y_M_throwAway b_M_throwAway 2 (some .int) 3 (wM g) [.ref (g.2.1 0), .int a1] σ r σ' :=
  MetI (by decide +kernel) hok (Nat.le_of_ble_eq_true rfl) (fun E _ C hR => w_M_throwAway C hR hf)
set_option maxRecDepth 4000 in
theorem w_M_tint {E : Ev} {g : Gx} {r : Int32} {σ' : St} (C : Cx E classes 4 (wM g) b_M_tint "WithTheRedsModel" 7) (hR : RetI E classes 4 (wM g) b_M_tint r σ') {σ : St} {a1 : Int32} {a2 : Int32} {a3 : Int32} (hf : f_M_tint σ a1 a2 a3 = some (r, σ')) : V E classes 4 (wM g) σ 0 [(0, .ref (g.2.1 0)), (1, .int a1), (2, .int a2), (3, .int a3)] [] := by
  unfold f_M_tint at hf
  refine V_aload_n C 0 d_M_tint_0 rfl ?_
  refine V_iload_n C 1 d_M_tint_1 rfl ?_
  obtain ⟨r2_1, hg, hf⟩ := bd hf
  refine V_callVi C [.int a1] (c_M_areThings C.2.2.2.2.2.2.2.1 hg) (by decide) cw_M_289 0 rfl rfl rfl rfl (Nat.le_of_ble_eq_true rfl) rfl d_M_tint_2 ?_
  refine V_if_eq (pc := 5) (tgt := 31) C d_M_tint_5 (by decide) hf (fun hf => ?_) (fun hf => ?_)
  · refine V_iconst (v := -1) C d_M_tint_31 (by decide) ?_
    exact V_iretW hR hf d_M_tint_32
  · refine V_iload_n C 2 d_M_tint_8 rfl ?_
    obtain ⟨r9_2, hg, hf⟩ := bd hf
    refine V_callSi C [.int a2] (c_M_areHeat C.2.2.2.2.2.2.2.1 hg) (by decide) cw_M_292 rfl (Nat.le_of_ble_eq_true rfl) rfl d_M_tint_9 ?_
    refine V_if_eq (pc := 12) (tgt := 31) C d_M_tint_12 (by decide) hf (fun hf => ?_) (fun hf => ?_)
    · refine V_iconst (v := -1) C d_M_tint_31 (by decide) ?_
      exact V_iretW hR hf d_M_tint_32
    · refine V_aload_n C 0 d_M_tint_15 rfl ?_
      refine V_iload_n C 3 d_M_tint_16 rfl ?_
      obtain ⟨r17_3, hg, hf⟩ := bd hf
      refine V_callVi C [.int a3] (c_M_isThing C.2.2.2.2.2.2.2.1 hg) (by decide) cw_M_181 0 rfl rfl rfl rfl (Nat.le_of_ble_eq_true rfl) rfl d_M_tint_17 ?_
      refine V_if_eq (pc := 20) (tgt := 31) C d_M_tint_20 (by decide) hf (fun hf => ?_) (fun hf => ?_)
      · refine V_iconst (v := -1) C d_M_tint_31 (by decide) ?_
        exact V_iretW hR hf d_M_tint_32
      · refine V_iload_n C 1 d_M_tint_23 rfl ?_
        refine V_iload_n C 3 d_M_tint_24 rfl ?_
        refine V_ishr C d_M_tint_25 ?_
        refine V_iconst (v := 1) C d_M_tint_26 (by decide) ?_
        refine V_iand C d_M_tint_27 ?_
        refine V_if_ne (pc := 28) (tgt := 33) C d_M_tint_28 (by decide) hf (fun hf => ?_) (fun hf => ?_)
        · refine V_aload_n C 0 d_M_tint_33 rfl ?_
          refine V_iload_n C 3 d_M_tint_34 rfl ?_
          refine V_aload_n C 0 d_M_tint_35 rfl ?_
          refine V_iload_n C 1 d_M_tint_36 rfl ?_
          refine V_iload_n C 2 d_M_tint_37 rfl ?_
          refine V_bipush (v := 10) C d_M_tint_38 (by decide) ?_
          refine V_idiv C d_M_tint_40 (by decide) ?_
          refine V_aload_n C 0 d_M_tint_41 rfl ?_
          refine V_iload_n C 2 d_M_tint_42 rfl ?_
          obtain ⟨r43_4, hg, hf⟩ := bd hf
          refine V_callVi C [.int a2] (c_M_offBy C.2.2.2.2.2.2.2.1 hg) (by decide) cw_M_295 0 rfl rfl rfl rfl (Nat.le_of_ble_eq_true rfl) rfl d_M_tint_43 ?_
          obtain ⟨r46_5, σ46_5, hg, hf⟩ := bd2_of hf
          refine V_callVi C [.int a1, .int (a2 / (10 : Int32)), .int r43_4] (c_M_loose C.2.2.2.2.2.2.2.1 hg) (by decide) cw_M_277 0 rfl rfl rfl rfl (Nat.le_of_ble_eq_true rfl) rfl d_M_tint_46 ?_
          refine V_iload_n C 2 d_M_tint_49 rfl ?_
          refine V_bipush (v := 10) C d_M_tint_50 (by decide) ?_
          refine V_idiv C d_M_tint_52 (by decide) ?_
          obtain ⟨r53_6, σ53_6, hg, hf⟩ := bd2_of hf
          refine V_callVi C [.int a3, .int r46_5, .int (a2 / (10 : Int32))] (c_M_tinted C.2.2.2.2.2.2.2.1 hg) (by decide) cw_M_280 0 rfl rfl rfl rfl (Nat.le_of_ble_eq_true rfl) rfl d_M_tint_53 ?_
          exact V_iretW hR hf d_M_tint_56
        · refine V_iconst (v := -1) C d_M_tint_31 (by decide) ?_
          exact V_iretW hR hf d_M_tint_32
theorem c_M_tint {l : Launch} {g : Gx} (hok : Wok classes (wM g)) {σ : St} {a1 : Int32} {a2 : Int32} {a3 : Int32} {r : Int32} {σ' : St} (hf : f_M_tint σ a1 a2 a3 = some (r, σ')) : CtI classes l y_M_tint b_M_tint 4 (some .int) 7 (wM g) [.ref (g.2.1 0), .int a1, .int a2, .int a3] σ r σ' :=
  MetI (by decide +kernel) hok (Nat.le_of_ble_eq_true rfl) (fun E _ C hR => w_M_tint C hR hf)
set_option maxRecDepth 4000 in
theorem w_M_together_22 {E : Ev} {g : Gx} {r : Int32} {σ' : St} (C : Cx E classes 5 (wM g) b_M_together "WithTheRedsModel" 8) (hR : RetI E classes 5 (wM g) b_M_together r σ') : ∀ (n : Nat) (σ : St) (x1 : Int32) (x2 : Int32) (x3 : Int32) (x4 : Int32), f_M_together_22 n σ x1 x2 x3 x4 = some (r, σ') → V E classes 5 (wM g) σ 22 [(0, .ref (g.2.1 0)), (1, .int x1), (2, .int x2), (3, .int x3), (4, .int x4)] [] := by
  intro n
  induction n with
  | zero => intro σ x1 x2 x3 x4 hf; exact absurd hf (by unfold f_M_together_22; exact nofun)
  | succ n ih =>
    intro σ x1 x2 x3 x4 hf
    unfold f_M_together_22 at hf
    refine V_iload C 4 d_M_together_22 rfl ?_
    refine V_aload_n C 0 d_M_together_24 rfl ?_
    refine gM_M_things (v := σ.1 1) C fl_M_150 rfl d_M_together_25 ?_
    refine V_icmp_ge (pc := 28) (tgt := 74) C d_M_together_28 (by decide) hf (fun hf => ?_) (fun hf => ?_)
    · refine V_iload_n C 3 d_M_together_74 rfl ?_
      exact V_iretW hR hf d_M_together_75
    · refine V_iload C 4 d_M_together_31 rfl ?_
      refine V_iload_n C 1 d_M_together_33 rfl ?_
      refine V_icmp_eq (pc := 34) (tgt := 68) C d_M_together_34 (by decide) hf (fun hf => ?_) (fun hf => ?_)
      · refine V_iinc (v := x4 + (1 : Int32)) C 4 d_M_together_68 rfl rfl (by decide) rfl ?_
        refine V_goto (pc := 71) (tgt := 22) C d_M_together_71 (by decide) ?_
        refine V.sub [1, 2, 3, 4, 0] rfl ?_
        exact ih σ x1 x2 x3 (x4 + (1 : Int32)) hf
      · refine V_aload_n C 0 d_M_together_37 rfl ?_
        refine V_iconst (v := 1) C d_M_together_38 (by decide) ?_
        refine V_iload_n C 1 d_M_together_39 rfl ?_
        refine V_ishl C d_M_together_40 ?_
        refine V_iconst (v := 1) C d_M_together_41 (by decide) ?_
        refine V_iload C 4 d_M_together_42 rfl ?_
        refine V_ishl C d_M_together_44 ?_
        refine V_ior C d_M_together_45 ?_
        refine V_iload_n C 2 d_M_together_46 rfl ?_
        refine V_bipush (v := 100) C d_M_together_47 (by decide) ?_
        refine V_idiv C d_M_together_49 (by decide) ?_
        refine V_iconst (v := 0) C d_M_together_50 (by decide) ?_
        refine V_iload_n C 2 d_M_together_51 rfl ?_
        refine V_bipush (v := 100) C d_M_together_52 (by decide) ?_
        refine V_irem C d_M_together_54 (by decide) ?_
        obtain ⟨r55_1, σ55_1, hg, hf⟩ := bd2_of hf
        refine V_callVi C [.int (((1 : Int32) <<< (x1 &&& 31)) ||| ((1 : Int32) <<< (x4 &&& 31))), .int (x2 / (100 : Int32)), .int (0 : Int32), .int (irem x2 (100 : Int32))] (c_M_isSafe C.2.2.2.2.2.2.2.1 hg) (by decide) cw_M_301 0 rfl rfl rfl rfl (Nat.le_of_ble_eq_true rfl) rfl d_M_together_55 ?_
        refine V_if_eq (pc := 58) (tgt := 68) C d_M_together_58 (by decide) hf (fun hf => ?_) (fun hf => ?_)
        · refine V_iinc (v := x4 + (1 : Int32)) C 4 d_M_together_68 rfl rfl (by decide) rfl ?_
          refine V_goto (pc := 71) (tgt := 22) C d_M_together_71 (by decide) ?_
          refine V.sub [1, 2, 3, 4, 0] rfl ?_
          exact ih σ55_1 x1 x2 x3 (x4 + (1 : Int32)) hf
        · refine V_iload_n C 3 d_M_together_61 rfl ?_
          refine V_iconst (v := 1) C d_M_together_62 (by decide) ?_
          refine V_iload C 4 d_M_together_63 rfl ?_
          refine V_ishl C d_M_together_65 ?_
          refine V_ior C d_M_together_66 ?_
          refine V_istore_n C d_M_together_67 (by decide) rfl ?_
          refine V_iinc (v := x4 + (1 : Int32)) C 4 d_M_together_68 rfl rfl (by decide) rfl ?_
          refine V_goto (pc := 71) (tgt := 22) C d_M_together_71 (by decide) ?_
          refine V.sub [2, 3, 4, 1, 0] rfl ?_
          exact ih σ55_1 x1 x2 (x3 ||| ((1 : Int32) <<< (x4 &&& 31))) (x4 + (1 : Int32)) hf
set_option maxRecDepth 4000 in
theorem w_M_together {E : Ev} {g : Gx} {r : Int32} {σ' : St} (C : Cx E classes 5 (wM g) b_M_together "WithTheRedsModel" 8) (hR : RetI E classes 5 (wM g) b_M_together r σ') {σ : St} {a1 : Int32} {a2 : Int32} (hf : f_M_together σ a1 a2 = some (r, σ')) : V E classes 5 (wM g) σ 0 [(0, .ref (g.2.1 0)), (1, .int a1), (2, .int a2)] [] := by
  unfold f_M_together at hf
  refine V_aload_n C 0 d_M_together_0 rfl ?_
  refine V_iload_n C 1 d_M_together_1 rfl ?_
  obtain ⟨r2_1, hg, hf⟩ := bd hf
  refine V_callVi C [.int a1] (c_M_isThing C.2.2.2.2.2.2.2.1 hg) (by decide) cw_M_181 0 rfl rfl rfl rfl (Nat.le_of_ble_eq_true rfl) rfl d_M_together_2 ?_
  refine V_if_eq (pc := 5) (tgt := 15) C d_M_together_5 (by decide) hf (fun hf => ?_) (fun hf => ?_)
  · refine V_iconst (v := -1) C d_M_together_15 (by decide) ?_
    exact V_iretW hR hf d_M_together_16
  · refine V_iload_n C 2 d_M_together_8 rfl ?_
    obtain ⟨r9_2, hg, hf⟩ := bd hf
    refine V_callSi C [.int a2] (c_M_areMost C.2.2.2.2.2.2.2.1 hg) (by decide) cw_M_305 rfl (Nat.le_of_ble_eq_true rfl) rfl d_M_together_9 ?_
    refine V_if_ne (pc := 12) (tgt := 17) C d_M_together_12 (by decide) hf (fun hf => ?_) (fun hf => ?_)
    · refine V_iconst (v := 0) C d_M_together_17 (by decide) ?_
      refine V_istore_n C d_M_together_18 (by decide) rfl ?_
      refine V_iconst (v := 0) C d_M_together_19 (by decide) ?_
      refine V_istore C d_M_together_20 (by decide) rfl ?_
      refine V.sub [2, 3, 4, 1, 0] rfl ?_
      exact w_M_together_22 C hR FU σ a1 a2 (0 : Int32) (0 : Int32) hf
    · refine V_iconst (v := -1) C d_M_together_15 (by decide) ?_
      exact V_iretW hR hf d_M_together_16
theorem c_M_together {l : Launch} {g : Gx} (hok : Wok classes (wM g)) {σ : St} {a1 : Int32} {a2 : Int32} {r : Int32} {σ' : St} (hf : f_M_together σ a1 a2 = some (r, σ')) : CtI classes l y_M_together b_M_together 5 (some .int) 8 (wM g) [.ref (g.2.1 0), .int a1, .int a2] σ r σ' :=
  MetI (by decide +kernel) hok (Nat.le_of_ble_eq_true rfl) (fun E _ C hR => w_M_together C hR hf)
set_option maxRecDepth 4000 in
theorem w_M_trace {E : Ev} {g : Gx} {r : Int32} {σ : St} (C : Cx E classes 2 (wM g) b_M_trace "WithTheRedsModel" 1) (hR : RetI E classes 2 (wM g) b_M_trace r σ) {a1 : Int32} (hf : f_M_trace σ a1 = some r) : V E classes 2 (wM g) σ 0 [(0, .ref (g.2.1 0)), (1, .int a1)] [] := by
  unfold f_M_trace at hf
  refine V_iload_n C 1 d_M_trace_0 rfl ?_
  refine V_if_lt (pc := 1) (tgt := 27) C d_M_trace_1 (by decide) hf (fun hf => ?_) (fun hf => ?_)
  · refine V_iconst (v := -1) C d_M_trace_27 (by decide) ?_
    exact V_iret hR hf d_M_trace_28
  · refine V_iload_n C 1 d_M_trace_4 rfl ?_
    refine V_aload_n C 0 d_M_trace_5 rfl ?_
    refine gM_M_traces (v := σ.1 56) C fl_M_385 rfl d_M_trace_6 ?_
    refine V_icmp_ge (pc := 9) (tgt := 27) C d_M_trace_9 (by decide) hf (fun hf => ?_) (fun hf => ?_)
    · refine V_iconst (v := -1) C d_M_trace_27 (by decide) ?_
      exact V_iret hR hf d_M_trace_28
    · refine V_iload_n C 1 d_M_trace_12 rfl ?_
      refine V_bipush (v := 24) C d_M_trace_13 (by decide) ?_
      refine V_icmp_ge (pc := 15) (tgt := 27) C d_M_trace_15 (by decide) hf (fun hf => ?_) (fun hf => ?_)
      · refine V_iconst (v := -1) C d_M_trace_27 (by decide) ?_
        exact V_iret hR hf d_M_trace_28
      · refine V_aload_n C 0 d_M_trace_18 rfl ?_
        refine gM_M_traced C fl_M_131 d_M_trace_19 ?_
        refine V_iload_n C 1 d_M_trace_22 rfl ?_
        obtain ⟨hi23_1, hf⟩ := gu hf
        refine aM_36 (v := σ.2.1 36 a1.toNatClampNeg) C hi23_1 rfl d_M_trace_23 ?_
        refine V_goto (pc := 24) (tgt := 28) C d_M_trace_24 (by decide) ?_
        exact V_iret hR hf d_M_trace_28
theorem c_M_trace {l : Launch} {g : Gx} (hok : Wok classes (wM g)) {σ : St} {a1 : Int32} {r : Int32} (hf : f_M_trace σ a1 = some r) : CtI classes l y_M_trace b_M_trace 2 (some .int) 1 (wM g) [.ref (g.2.1 0), .int a1] σ r σ :=
  MetI (by decide +kernel) hok (Nat.le_of_ble_eq_true rfl) (fun E _ C hR => w_M_trace C hR hf)
set_option maxRecDepth 4000 in
theorem w_M_undo {E : Ev} {g : Gx} {r : Int32} {σ' : St} (C : Cx E classes 1 (wM g) b_M_undo "WithTheRedsModel" 2) (hR : RetI E classes 1 (wM g) b_M_undo r σ') {σ : St} (hf : f_M_undo σ = some (r, σ')) : V E classes 1 (wM g) σ 0 [(0, .ref (g.2.1 0))] [] := by
  unfold f_M_undo at hf
  refine V_aload_n C 0 d_M_undo_0 rfl ?_
  refine gM_M_doneMany (v := σ.1 14) C fl_M_174 rfl d_M_undo_1 ?_
  refine V_if_ne (pc := 4) (tgt := 10) C d_M_undo_4 (by decide) hf (fun hf => ?_) (fun hf => ?_)
  · refine V_aload_n C 0 d_M_undo_10 rfl ?_
    refine V_dup C d_M_undo_11 rfl ?_
    refine gM_M_doneMany (v := σ.1 14) C fl_M_174 rfl d_M_undo_12 ?_
    refine V_iconst (v := 1) C d_M_undo_15 (by decide) ?_
    refine V_isub C d_M_undo_16 ?_
    refine pM_M_doneMany C fl_M_174 d_M_undo_17 ?_
    refine V_aload_n C 0 d_M_undo_20 rfl ?_
    refine V_dup C d_M_undo_21 rfl ?_
    refine gM_M_undoneMany (v := σ.1 15) C fl_M_171 rfl d_M_undo_22 ?_
    refine V_iconst (v := 1) C d_M_undo_25 (by decide) ?_
    refine V_iadd C d_M_undo_26 ?_
    refine pM_M_undoneMany C fl_M_171 d_M_undo_27 ?_
    refine V_aload_n C 0 d_M_undo_30 rfl ?_
    refine V_aload_n C 0 d_M_undo_31 rfl ?_
    refine gM_M_changeOf C fl_M_47 d_M_undo_32 ?_
    refine V_aload_n C 0 d_M_undo_35 rfl ?_
    refine gM_M_doneMany (v := ((σ.1 14) - (1 : Int32))) C fl_M_174 rfl d_M_undo_36 ?_
    obtain ⟨hi39_1, hf⟩ := gu hf
    refine aM_9 (v := σ.2.1 9 ((σ.1 14) - (1 : Int32)).toNatClampNeg) C hi39_1 rfl d_M_undo_39 ?_
    refine V_aload_n C 0 d_M_undo_40 rfl ?_
    refine gM_M_changeAt C fl_M_50 d_M_undo_41 ?_
    refine V_aload_n C 0 d_M_undo_44 rfl ?_
    refine gM_M_doneMany (v := ((σ.1 14) - (1 : Int32))) C fl_M_174 rfl d_M_undo_45 ?_
    obtain ⟨hi48_2, hf⟩ := gu hf
    refine aM_10 (v := σ.2.1 10 ((σ.1 14) - (1 : Int32)).toNatClampNeg) C hi48_2 rfl d_M_undo_48 ?_
    refine V_aload_n C 0 d_M_undo_49 rfl ?_
    refine gM_M_before C fl_M_53 d_M_undo_50 ?_
    refine V_aload_n C 0 d_M_undo_53 rfl ?_
    refine gM_M_doneMany (v := ((σ.1 14) - (1 : Int32))) C fl_M_174 rfl d_M_undo_54 ?_
    obtain ⟨hi57_3, hf⟩ := gu hf
    refine aM_11 (v := σ.2.1 11 ((σ.1 14) - (1 : Int32)).toNatClampNeg) C hi57_3 rfl d_M_undo_57 ?_
    obtain ⟨σ58_4, hg, hf⟩ := bd hf
    refine V_callVv C [.int (σ.2.1 9 ((σ.1 14) - (1 : Int32)).toNatClampNeg), .int (σ.2.1 10 ((σ.1 14) - (1 : Int32)).toNatClampNeg), .int (σ.2.1 11 ((σ.1 14) - (1 : Int32)).toNatClampNeg)] (c_M_lays C.2.2.2.2.2.2.2.1 hg) (by decide) cw_M_177 0 rfl rfl rfl rfl (Nat.le_of_ble_eq_true rfl) rfl d_M_undo_58 ?_
    refine V_aload_n C 0 d_M_undo_61 rfl ?_
    refine gM_M_doneMany (v := σ58_4.1 14) C fl_M_174 rfl d_M_undo_62 ?_
    exact V_iretW hR hf d_M_undo_65
  · refine V_bipush (v := -5) C d_M_undo_7 (by decide) ?_
    exact V_iretW hR hf d_M_undo_9
theorem c_M_undo {l : Launch} {g : Gx} (hok : Wok classes (wM g)) {σ : St} {r : Int32} {σ' : St} (hf : f_M_undo σ = some (r, σ')) : CtI classes l y_M_undo b_M_undo 1 (some .int) 2 (wM g) [.ref (g.2.1 0)] σ r σ' :=
  MetI (by decide +kernel) hok (Nat.le_of_ble_eq_true rfl) (fun E _ C hR => w_M_undo C hR hf)
set_option maxRecDepth 4000 in
theorem w_M_wash_184 {E : Ev} {g : Gx} {r : Int32} {σ' : St} (C : Cx E classes 8 (wM g) b_M_wash "WithTheRedsModel" 8) (hR : RetI E classes 8 (wM g) b_M_wash r σ') : ∀ (n : Nat) (σ : St) (x1 : Int32) (x5 : Int32) (x6 : Int32), f_M_wash_184 n σ x1 x5 x6 = some (r, σ') → V E classes 8 (wM g) σ 184 [(0, .ref (g.2.1 0)), (1, .int x1), (5, .int x5), (6, .int x6)] [] := by
  intro n
  induction n with
  | zero => intro σ x1 x5 x6 hf; exact absurd hf (by unfold f_M_wash_184; exact nofun)
  | succ n ih =>
    intro σ x1 x5 x6 hf
    unfold f_M_wash_184 at hf
    refine V_iload C 3 d_M_wash_184 rfl ?_
    refine V_aload_n C 0 d_M_wash_186 rfl ?_
    refine gM_M_things (v := σ.1 1) C fl_M_150 rfl d_M_wash_187 ?_
    refine V_icmp_ge (pc := 190) (tgt := 232) C d_M_wash_190 (by decide) hf (fun hf => ?_) (fun hf => ?_)
    · refine V_iload C 2 d_M_wash_232 rfl ?_
      exact V_iretW hR hf d_M_wash_234
    · refine V_iload_n C 1 d_M_wash_193 rfl ?_
      refine V_iload C 3 d_M_wash_194 rfl ?_
      refine V_ishr C d_M_wash_196 ?_
      refine V_iconst (v := 1) C d_M_wash_197 (by decide) ?_
      refine V_iand C d_M_wash_198 ?_
      refine V_iconst (v := 1) C d_M_wash_199 (by decide) ?_
      refine V_icmp_ne (pc := 200) (tgt := 226) C d_M_wash_200 (by decide) hf (fun hf => ?_) (fun hf => ?_)
      · refine V_iinc (v := x6 + (1 : Int32)) C 3 d_M_wash_226 rfl rfl (by decide) rfl ?_
        refine V_goto (pc := 229) (tgt := 184) C d_M_wash_229 (by decide) ?_
        refine V.sub [1, 2, 3, 0] rfl ?_
        exact ih σ x1 x5 (x6 + (1 : Int32)) hf
      · refine V_aload_n C 0 d_M_wash_203 rfl ?_
        refine gM_M_washed C fl_M_16 d_M_wash_204 ?_
        refine V_iload C 3 d_M_wash_207 rfl ?_
        obtain ⟨hi209_1, hf⟩ := gu hf
        refine aM_3 (v := σ.2.1 3 x6.toNatClampNeg) C hi209_1 rfl d_M_wash_209 ?_
        refine V_bipush (v := 99) C d_M_wash_210 (by decide) ?_
        refine V_icmp_ge (pc := 212) (tgt := 226) C d_M_wash_212 (by decide) hf (fun hf => ?_) (fun hf => ?_)
        · refine V_iinc (v := x6 + (1 : Int32)) C 3 d_M_wash_226 rfl rfl (by decide) rfl ?_
          refine V_goto (pc := 229) (tgt := 184) C d_M_wash_229 (by decide) ?_
          refine V.sub [1, 2, 3, 0] rfl ?_
          exact ih σ x1 x5 (x6 + (1 : Int32)) hf
        · refine V_aload_n C 0 d_M_wash_215 rfl ?_
          refine gM_M_washed C fl_M_16 d_M_wash_216 ?_
          refine V_iload C 3 d_M_wash_219 rfl ?_
          refine V_dup2 C d_M_wash_221 rfl rfl ?_
          obtain ⟨hi222_2, hf⟩ := gu hf
          refine aM_3 (v := σ.2.1 3 x6.toNatClampNeg) C hi222_2 rfl d_M_wash_222 ?_
          refine V_iconst (v := 1) C d_M_wash_223 (by decide) ?_
          refine V_iadd C d_M_wash_224 ?_
          obtain ⟨hi225_3, hf⟩ := gu hf
          refine sM_3 C hi225_3 d_M_wash_225 ?_
          refine V_iinc (v := x6 + (1 : Int32)) C 3 d_M_wash_226 rfl rfl (by decide) rfl ?_
          refine V_goto (pc := 229) (tgt := 184) C d_M_wash_229 (by decide) ?_
          refine V.sub [1, 2, 3, 0] rfl ?_
          exact ih (upA σ 3 x6.toNatClampNeg ((σ.2.1 3 x6.toNatClampNeg) + (1 : Int32))) x1 x5 (x6 + (1 : Int32)) hf
set_option maxRecDepth 4000 in
theorem w_M_wash_114 {E : Ev} {g : Gx} {r : Int32} {σ' : St} (C : Cx E classes 8 (wM g) b_M_wash "WithTheRedsModel" 8) (hR : RetI E classes 8 (wM g) b_M_wash r σ') : ∀ (n : Nat) (σ : St) (x1 : Int32) (x3 : Int32) (x4 : Int32) (x5 : Int32) (x6 : Int32), f_M_wash_114 n σ x1 x3 x4 x5 x6 = some (r, σ') → V E classes 8 (wM g) σ 114 [(0, .ref (g.2.1 0)), (1, .int x1), (3, .int x3), (4, .int x4), (5, .int x5), (6, .int x6)] [] := by
  intro n
  induction n with
  | zero => intro σ x1 x3 x4 x5 x6 hf; exact absurd hf (by unfold f_M_wash_114; exact nofun)
  | succ n ih =>
    intro σ x1 x3 x4 x5 x6 hf
    unfold f_M_wash_114 at hf
    refine V_iload C 5 d_M_wash_114 rfl ?_
    refine V_aload_n C 0 d_M_wash_116 rfl ?_
    refine gM_M_things (v := σ.1 1) C fl_M_150 rfl d_M_wash_117 ?_
    refine V_icmp_ge (pc := 120) (tgt := 181) C d_M_wash_120 (by decide) hf (fun hf => ?_) (fun hf => ?_)
    · refine V_iconst (v := 0) C d_M_wash_181 (by decide) ?_
      refine V_istore C d_M_wash_182 (by decide) rfl ?_
      refine V.sub [1, 2, 5, 0] rfl ?_
      exact w_M_wash_184 C hR FU σ x1 x5 (0 : Int32) hf
    · refine V_iload_n C 1 d_M_wash_123 rfl ?_
      refine V_iload C 5 d_M_wash_124 rfl ?_
      refine V_ishr C d_M_wash_126 ?_
      refine V_iconst (v := 1) C d_M_wash_127 (by decide) ?_
      refine V_iand C d_M_wash_128 ?_
      refine V_if_ne (pc := 129) (tgt := 135) C d_M_wash_129 (by decide) hf (fun hf => ?_) (fun hf => ?_)
      · refine V_aload_n C 0 d_M_wash_135 rfl ?_
        refine gM_M_tintNow C fl_M_106 d_M_wash_136 ?_
        refine V_iload C 5 d_M_wash_139 rfl ?_
        obtain ⟨hi141_1, hf⟩ := gu hf
        refine aM_28 (v := σ.2.1 28 x6.toNatClampNeg) C hi141_1 rfl d_M_wash_141 ?_
        refine V_aload_n C 0 d_M_wash_142 rfl ?_
        refine V_iload C 5 d_M_wash_143 rfl ?_
        refine V_iload C 3 d_M_wash_145 rfl ?_
        refine V_iload_n C 2 d_M_wash_147 rfl ?_
        obtain ⟨r148_2, σ148_2, hg, hf⟩ := bd2_of hf
        refine V_callVi C [.int x6, .int x4, .int x3] (c_M_tinted C.2.2.2.2.2.2.2.1 hg) (by decide) cw_M_280 0 rfl rfl rfl rfl (Nat.le_of_ble_eq_true rfl) rfl d_M_wash_148 ?_
        refine V_iadd C d_M_wash_151 ?_
        refine V_istore C d_M_wash_152 (by decide) rfl ?_
        refine V_aload_n C 1 d_M_wash_154 rfl ?_
        refine gM_M_tintNow C fl_M_106 d_M_wash_155 ?_
        refine V_iload C 6 d_M_wash_158 rfl ?_
        refine V_iload C 0 d_M_wash_160 rfl ?_
        refine V_bipush (v := 99) C d_M_wash_162 (by decide) ?_
        refine V_icmp_le (pc := 164) (tgt := 172) C d_M_wash_164 (by decide) hf (fun hf => ?_) (fun hf => ?_)
        · refine V_iload C 0 d_M_wash_172 rfl ?_
          obtain ⟨hi174_3, hf⟩ := gu hf
          refine sM_28 C hi174_3 d_M_wash_174 ?_
          refine V_iinc (v := x6 + (1 : Int32)) C 6 d_M_wash_175 rfl rfl (by decide) rfl ?_
          refine V_goto (pc := 178) (tgt := 114) C d_M_wash_178 (by decide) ?_
          refine V.sub [2, 3, 4, 5, 6, 0] rfl ?_
          exact ih (upA σ148_2 28 x6.toNatClampNeg ((σ.2.1 28 x6.toNatClampNeg) + r148_2)) x1 x3 x4 x5 (x6 + (1 : Int32)) hf
        · refine V_bipush (v := 99) C d_M_wash_167 (by decide) ?_
          refine V_goto (pc := 169) (tgt := 174) C d_M_wash_169 (by decide) ?_
          obtain ⟨hi174_4, hf⟩ := gu hf
          refine sM_28 C hi174_4 d_M_wash_174 ?_
          refine V_iinc (v := x6 + (1 : Int32)) C 6 d_M_wash_175 rfl rfl (by decide) rfl ?_
          refine V_goto (pc := 178) (tgt := 114) C d_M_wash_178 (by decide) ?_
          refine V.sub [2, 3, 4, 5, 6, 0] rfl ?_
          exact ih (upA σ148_2 28 x6.toNatClampNeg (99 : Int32)) x1 x3 x4 x5 (x6 + (1 : Int32)) hf
      · refine V_goto (pc := 132) (tgt := 175) C d_M_wash_132 (by decide) ?_
        refine V_iinc (v := x6 + (1 : Int32)) C 5 d_M_wash_175 rfl rfl (by decide) rfl ?_
        refine V_goto (pc := 178) (tgt := 114) C d_M_wash_178 (by decide) ?_
        refine V.sub [1, 2, 3, 4, 5, 0] rfl ?_
        exact ih σ x1 x3 x4 x5 (x6 + (1 : Int32)) hf
set_option maxRecDepth 4000 in
theorem w_M_wash {E : Ev} {g : Gx} {r : Int32} {σ' : St} (C : Cx E classes 8 (wM g) b_M_wash "WithTheRedsModel" 8) (hR : RetI E classes 8 (wM g) b_M_wash r σ') {σ : St} {a1 : Int32} {a2 : Int32} (hf : f_M_wash σ a1 a2 = some (r, σ')) : V E classes 8 (wM g) σ 0 [(0, .ref (g.2.1 0)), (1, .int a1), (2, .int a2)] [] := by
  unfold f_M_wash at hf
  refine V_aload_n C 0 d_M_wash_0 rfl ?_
  refine V_iload_n C 1 d_M_wash_1 rfl ?_
  obtain ⟨r2_1, hg, hf⟩ := bd hf
  refine V_callVi C [.int a1] (c_M_areThings C.2.2.2.2.2.2.2.1 hg) (by decide) cw_M_289 0 rfl rfl rfl rfl (Nat.le_of_ble_eq_true rfl) rfl d_M_wash_2 ?_
  refine V_if_eq (pc := 5) (tgt := 15) C d_M_wash_5 (by decide) hf (fun hf => ?_) (fun hf => ?_)
  · refine V_iconst (v := -1) C d_M_wash_15 (by decide) ?_
    exact V_iretW hR hf d_M_wash_16
  · refine V_iload_n C 2 d_M_wash_8 rfl ?_
    obtain ⟨r9_2, hg, hf⟩ := bd hf
    refine V_callSi C [.int a2] (c_M_areHeat C.2.2.2.2.2.2.2.1 hg) (by decide) cw_M_292 rfl (Nat.le_of_ble_eq_true rfl) rfl d_M_wash_9 ?_
    refine V_if_ne (pc := 12) (tgt := 17) C d_M_wash_12 (by decide) hf (fun hf => ?_) (fun hf => ?_)
    · refine V_aload_n C 0 d_M_wash_17 rfl ?_
      refine V_iload_n C 1 d_M_wash_18 rfl ?_
      obtain ⟨r19_3, hg, hf⟩ := bd hf
      refine V_callVi C [.int a1] (c_M_goesSo C.2.2.2.2.2.2.2.1 hg) (by decide) cw_M_283 0 rfl rfl rfl rfl (Nat.le_of_ble_eq_true rfl) rfl d_M_wash_19 ?_
      refine V_if_ne (pc := 22) (tgt := 28) C d_M_wash_22 (by decide) hf (fun hf => ?_) (fun hf => ?_)
      · refine V_iload_n C 2 d_M_wash_28 rfl ?_
        refine V_bipush (v := 10) C d_M_wash_29 (by decide) ?_
        refine V_idiv C d_M_wash_31 (by decide) ?_
        refine V_istore_n C d_M_wash_32 (by decide) rfl ?_
        refine V_aload_n C 1 d_M_wash_33 rfl ?_
        refine V_iload_n C 2 d_M_wash_34 rfl ?_
        refine V_iload_n C 0 d_M_wash_35 rfl ?_
        refine V_aload_n C 1 d_M_wash_36 rfl ?_
        refine V_iload_n C 3 d_M_wash_37 rfl ?_
        obtain ⟨r38_4, hg, hf⟩ := bd hf
        refine V_callVi C [.int a2] (c_M_offBy C.2.2.2.2.2.2.2.1 hg) (by decide) cw_M_295 0 rfl rfl rfl rfl (Nat.le_of_ble_eq_true rfl) rfl d_M_wash_38 ?_
        obtain ⟨r41_5, σ41_5, hg, hf⟩ := bd2_of hf
        refine V_callVi C [.int a1, .int (a2 / (10 : Int32)), .int r38_4] (c_M_loose C.2.2.2.2.2.2.2.1 hg) (by decide) cw_M_277 0 rfl rfl rfl rfl (Nat.le_of_ble_eq_true rfl) rfl d_M_wash_41 ?_
        refine V_istore C d_M_wash_44 (by decide) rfl ?_
        refine V_aload_n C 2 d_M_wash_46 rfl ?_
        refine V_iload_n C 3 d_M_wash_47 rfl ?_
        refine V_iload_n C 1 d_M_wash_48 rfl ?_
        refine V_aload_n C 2 d_M_wash_49 rfl ?_
        refine V_iload_n C 4 d_M_wash_50 rfl ?_
        obtain ⟨r51_6, hg, hf⟩ := bd hf
        refine V_callVi C [.int a2] (c_M_offBy C.2.2.2.2.2.2.2.1 hg) (by decide) cw_M_295 0 rfl rfl rfl rfl (Nat.le_of_ble_eq_true rfl) rfl d_M_wash_51 ?_
        obtain ⟨r54_7, σ54_7, hg, hf⟩ := bd2_of hf
        refine V_callVi C [.int a1, .int (a2 / (10 : Int32)), .int r51_6] (c_M_tints C.2.2.2.2.2.2.2.1 hg) (by decide) cw_M_298 0 rfl rfl rfl rfl (Nat.le_of_ble_eq_true rfl) rfl d_M_wash_54 ?_
        refine V_istore C d_M_wash_57 (by decide) rfl ?_
        refine V_aload_n C 3 d_M_wash_59 rfl ?_
        refine gM_M_ledOf C fl_M_113 d_M_wash_60 ?_
        refine V_iconst (v := 0) C d_M_wash_63 (by decide) ?_
        refine V_dup2 C d_M_wash_64 rfl rfl ?_
        refine aM_30 (v := σ54_7.2.1 30 (0 : Int32).toNatClampNeg) C rfl rfl d_M_wash_65 ?_
        refine V_iconst (v := 1) C d_M_wash_66 (by decide) ?_
        refine V_iadd C d_M_wash_67 ?_
        refine sM_30 C rfl d_M_wash_68 ?_
        refine V_aload_n C 3 d_M_wash_69 rfl ?_
        refine gM_M_ledOf C fl_M_113 d_M_wash_70 ?_
        refine V_iconst (v := 1) C d_M_wash_73 (by decide) ?_
        refine V_dup2 C d_M_wash_74 rfl rfl ?_
        refine aM_30 (v := (upd (σ54_7.2.1 30) ((0 : Int32).toNatClampNeg) ((σ54_7.2.1 30 (0 : Int32).toNatClampNeg) + (1 : Int32))) (1 : Int32).toNatClampNeg) C rfl rfl d_M_wash_75 ?_
        refine V_iload C 0 d_M_wash_76 rfl ?_
        refine V_iadd C d_M_wash_78 ?_
        refine sM_30 C rfl d_M_wash_79 ?_
        refine V_aload_n C 3 d_M_wash_80 rfl ?_
        refine gM_M_ledOf C fl_M_113 d_M_wash_81 ?_
        refine V_iconst (v := 2) C d_M_wash_84 (by decide) ?_
        refine V_dup2 C d_M_wash_85 rfl rfl ?_
        refine aM_30 (v := (upd (upd (σ54_7.2.1 30) ((0 : Int32).toNatClampNeg) ((σ54_7.2.1 30 (0 : Int32).toNatClampNeg) + (1 : Int32))) ((1 : Int32).toNatClampNeg) (((upd (σ54_7.2.1 30) ((0 : Int32).toNatClampNeg) ((σ54_7.2.1 30 (0 : Int32).toNatClampNeg) + (1 : Int32))) (1 : Int32).toNatClampNeg) + r54_7)) (2 : Int32).toNatClampNeg) C rfl rfl d_M_wash_86 ?_
        refine V_aload_n C 3 d_M_wash_87 rfl ?_
        refine V_iload_n C 4 d_M_wash_88 rfl ?_
        refine V_iload_n C 2 d_M_wash_89 rfl ?_
        obtain ⟨r90_8, hg, hf⟩ := bd hf
        refine V_callVi C [.int a1, .int (a2 / (10 : Int32))] (c_M_spoilt C.2.2.2.2.2.2.2.1 hg) (by decide) cw_M_286 0 rfl rfl rfl rfl (Nat.le_of_ble_eq_true rfl) rfl d_M_wash_90 ?_
        obtain ⟨r93_9, hg, hf⟩ := bd hf
        refine V_callSi C [.int r90_8] (c_M_bitsOf C.2.2.2.2.2.2.2.1 hg) (by decide) cw_M_318 rfl (Nat.le_of_ble_eq_true rfl) rfl d_M_wash_93 ?_
        refine V_iadd C d_M_wash_96 ?_
        refine sM_30 C rfl d_M_wash_97 ?_
        refine V_aload_n C 3 d_M_wash_98 rfl ?_
        refine gM_M_ledOf C fl_M_113 d_M_wash_99 ?_
        refine V_iconst (v := 3) C d_M_wash_102 (by decide) ?_
        refine V_dup2 C d_M_wash_103 rfl rfl ?_
        refine aM_30 (v := (upd (upd (upd (σ54_7.2.1 30) ((0 : Int32).toNatClampNeg) ((σ54_7.2.1 30 (0 : Int32).toNatClampNeg) + (1 : Int32))) ((1 : Int32).toNatClampNeg) (((upd (σ54_7.2.1 30) ((0 : Int32).toNatClampNeg) ((σ54_7.2.1 30 (0 : Int32).toNatClampNeg) + (1 : Int32))) (1 : Int32).toNatClampNeg) + r54_7)) ((2 : Int32).toNatClampNeg) (((upd (upd (σ54_7.2.1 30) ((0 : Int32).toNatClampNeg) ((σ54_7.2.1 30 (0 : Int32).toNatClampNeg) + (1 : Int32))) ((1 : Int32).toNatClampNeg) (((upd (σ54_7.2.1 30) ((0 : Int32).toNatClampNeg) ((σ54_7.2.1 30 (0 : Int32).toNatClampNeg) + (1 : Int32))) (1 : Int32).toNatClampNeg) + r54_7)) (2 : Int32).toNatClampNeg) + r93_9)) (3 : Int32).toNatClampNeg) C rfl rfl d_M_wash_104 ?_
        refine V_iload_n C 5 d_M_wash_105 rfl ?_
        refine V_bipush (v := 10) C d_M_wash_106 (by decide) ?_
        refine V_irem C d_M_wash_108 (by decide) ?_
        refine V_iadd C d_M_wash_109 ?_
        refine sM_30 C rfl d_M_wash_110 ?_
        refine V_iconst (v := 0) C d_M_wash_111 (by decide) ?_
        refine V_istore C d_M_wash_112 (by decide) rfl ?_
        refine V.sub [4, 5, 3, 2, 1, 0] rfl ?_
        exact w_M_wash_114 C hR FU (upA (upA (upA (upA σ54_7 30 ((0 : Int32).toNatClampNeg) ((σ54_7.2.1 30 (0 : Int32).toNatClampNeg) + (1 : Int32))) 30 ((1 : Int32).toNatClampNeg) (((upd (σ54_7.2.1 30) ((0 : Int32).toNatClampNeg) ((σ54_7.2.1 30 (0 : Int32).toNatClampNeg) + (1 : Int32))) (1 : Int32).toNatClampNeg) + r54_7)) 30 ((2 : Int32).toNatClampNeg) (((upd (upd (σ54_7.2.1 30) ((0 : Int32).toNatClampNeg) ((σ54_7.2.1 30 (0 : Int32).toNatClampNeg) + (1 : Int32))) ((1 : Int32).toNatClampNeg) (((upd (σ54_7.2.1 30) ((0 : Int32).toNatClampNeg) ((σ54_7.2.1 30 (0 : Int32).toNatClampNeg) + (1 : Int32))) (1 : Int32).toNatClampNeg) + r54_7)) (2 : Int32).toNatClampNeg) + r93_9)) 30 ((3 : Int32).toNatClampNeg) (((upd (upd (upd (σ54_7.2.1 30) ((0 : Int32).toNatClampNeg) ((σ54_7.2.1 30 (0 : Int32).toNatClampNeg) + (1 : Int32))) ((1 : Int32).toNatClampNeg) (((upd (σ54_7.2.1 30) ((0 : Int32).toNatClampNeg) ((σ54_7.2.1 30 (0 : Int32).toNatClampNeg) + (1 : Int32))) (1 : Int32).toNatClampNeg) + r54_7)) ((2 : Int32).toNatClampNeg) (((upd (upd (σ54_7.2.1 30) ((0 : Int32).toNatClampNeg) ((σ54_7.2.1 30 (0 : Int32).toNatClampNeg) + (1 : Int32))) ((1 : Int32).toNatClampNeg) (((upd (σ54_7.2.1 30) ((0 : Int32).toNatClampNeg) ((σ54_7.2.1 30 (0 : Int32).toNatClampNeg) + (1 : Int32))) (1 : Int32).toNatClampNeg) + r54_7)) (2 : Int32).toNatClampNeg) + r93_9)) (3 : Int32).toNatClampNeg) + (irem a2 (10 : Int32)))) a1 (a2 / (10 : Int32)) r41_5 r54_7 (0 : Int32) hf
      · refine V_bipush (v := -5) C d_M_wash_25 (by decide) ?_
        exact V_iretW hR hf d_M_wash_27
    · refine V_iconst (v := -1) C d_M_wash_15 (by decide) ?_
      exact V_iretW hR hf d_M_wash_16
theorem c_M_wash {l : Launch} {g : Gx} (hok : Wok classes (wM g)) {σ : St} {a1 : Int32} {a2 : Int32} {r : Int32} {σ' : St} (hf : f_M_wash σ a1 a2 = some (r, σ')) : CtI classes l y_M_wash b_M_wash 8 (some .int) 8 (wM g) [.ref (g.2.1 0), .int a1, .int a2] σ r σ' :=
  MetI (by decide +kernel) hok (Nat.le_of_ble_eq_true rfl) (fun E _ C hR => w_M_wash C hR hf)
set_option maxRecDepth 4000 in
theorem w_M_which_60 {E : Ev} {g : Gx} {r : Int32} {σ' : St} (C : Cx E classes 9 (wM g) b_M_which "WithTheRedsModel" 8) (hR : RetI E classes 9 (wM g) b_M_which r σ') : ∀ (n : Nat) (σ : St) (x1 : Int32) (x2 : Int32) (x3 : Int32) (x4 : Int32) (x6 : Int32) (x7 : Int32) (x8 : Int32), f_M_which_60 n σ x1 x2 x3 x4 x6 x7 x8 = some (r, σ') → V E classes 9 (wM g) σ 60 [(0, .ref (g.2.1 0)), (1, .int x1), (2, .int x2), (3, .int x3), (4, .int x4), (6, .int x6), (7, .int x7), (8, .int x8)] [] := by
  intro n
  induction n with
  | zero => intro σ x1 x2 x3 x4 x6 x7 x8 hf; exact absurd hf (by unfold f_M_which_60; exact nofun)
  | succ n ih =>
    intro σ x1 x2 x3 x4 x6 x7 x8 hf
    unfold f_M_which_60 at hf
    refine V_iload C 7 d_M_which_60 rfl ?_
    refine V_aload_n C 0 d_M_which_62 rfl ?_
    refine gM_M_things (v := σ.1 1) C fl_M_150 rfl d_M_which_63 ?_
    refine V_icmp_ge (pc := 66) (tgt := 124) C d_M_which_66 (by decide) hf (fun hf => ?_) (fun hf => ?_)
    · refine V_iload C 4 d_M_which_124 rfl ?_
      refine V_if_ne (pc := 126) (tgt := 134) C d_M_which_126 (by decide) hf (fun hf => ?_) (fun hf => ?_)
      · refine V_iload C 6 d_M_which_134 rfl ?_
        exact V_iretW hR hf d_M_which_136
      · refine V_iload C 5 d_M_which_129 rfl ?_
        refine V_goto (pc := 131) (tgt := 136) C d_M_which_131 (by decide) ?_
        exact V_iretW hR hf d_M_which_136
    · refine V_iload_n C 2 d_M_which_69 rfl ?_
      refine V_iload C 7 d_M_which_70 rfl ?_
      refine V_ishr C d_M_which_72 ?_
      refine V_iconst (v := 1) C d_M_which_73 (by decide) ?_
      refine V_iand C d_M_which_74 ?_
      refine V_iconst (v := 1) C d_M_which_75 (by decide) ?_
      refine V_icmp_eq (pc := 76) (tgt := 118) C d_M_which_76 (by decide) hf (fun hf => ?_) (fun hf => ?_)
      · refine V_iinc (v := x8 + (1 : Int32)) C 7 d_M_which_118 rfl rfl (by decide) rfl ?_
        refine V_goto (pc := 121) (tgt := 60) C d_M_which_121 (by decide) ?_
        refine V.sub [1, 2, 3, 4, 5, 6, 7, 0] rfl ?_
        exact ih σ x1 x2 x3 x4 x6 x7 (x8 + (1 : Int32)) hf
      · refine V_aload_n C 0 d_M_which_79 rfl ?_
        refine V_iload_n C 1 d_M_which_80 rfl ?_
        refine V_iload_n C 2 d_M_which_81 rfl ?_
        refine V_iload_n C 2 d_M_which_82 rfl ?_
        refine V_iconst (v := 1) C d_M_which_83 (by decide) ?_
        refine V_iload C 7 d_M_which_84 rfl ?_
        refine V_ishl C d_M_which_86 ?_
        refine V_ior C d_M_which_87 ?_
        refine V_iload_n C 3 d_M_which_88 rfl ?_
        refine V_bipush (v := 10) C d_M_which_89 (by decide) ?_
        refine V_idiv C d_M_which_91 (by decide) ?_
        refine V_aload_n C 0 d_M_which_92 rfl ?_
        refine V_iload_n C 3 d_M_which_93 rfl ?_
        obtain ⟨r94_1, hg, hf⟩ := bd hf
        refine V_callVi C [.int x3] (c_M_offBy C.2.2.2.2.2.2.2.1 hg) (by decide) cw_M_295 0 rfl rfl rfl rfl (Nat.le_of_ble_eq_true rfl) rfl d_M_which_94 ?_
        obtain ⟨r97_2, σ97_2, hg, hf⟩ := bd2_of hf
        refine V_callVi C [.int x1, .int x2, .int (x2 ||| ((1 : Int32) <<< (x8 &&& 31))), .int (x3 / (10 : Int32)), .int r94_1] (c_M_wrongPink C.2.2.2.2.2.2.2.1 hg) (by decide) cw_M_368 0 rfl rfl rfl rfl (Nat.le_of_ble_eq_true rfl) rfl d_M_which_97 ?_
        refine V_if_lt (pc := 100) (tgt := 106) C d_M_which_100 (by decide) hf (fun hf => ?_) (fun hf => ?_)
        · refine V_iload C 5 d_M_which_106 rfl ?_
          refine V_if_ne (pc := 108) (tgt := 115) C d_M_which_108 (by decide) hf (fun hf => ?_) (fun hf => ?_)
          · refine V_iinc (v := x6 + (1 : Int32)) C 5 d_M_which_115 rfl rfl (by decide) rfl ?_
            refine V_iinc (v := x8 + (1 : Int32)) C 7 d_M_which_118 rfl rfl (by decide) rfl ?_
            refine V_goto (pc := 121) (tgt := 60) C d_M_which_121 (by decide) ?_
            refine V.sub [2, 3, 4, 5, 6, 1, 7, 0] rfl ?_
            exact ih σ97_2 x1 x2 x3 x4 (x6 + (1 : Int32)) x7 (x8 + (1 : Int32)) hf
          · refine V_iload C 7 d_M_which_111 rfl ?_
            refine V_istore C d_M_which_113 (by decide) rfl ?_
            refine V_iinc (v := x6 + (1 : Int32)) C 6 d_M_which_115 rfl rfl (by decide) rfl ?_
            refine V_iinc (v := x8 + (1 : Int32)) C 7 d_M_which_118 rfl rfl (by decide) rfl ?_
            refine V_goto (pc := 121) (tgt := 60) C d_M_which_121 (by decide) ?_
            refine V.sub [3, 4, 5, 6, 7, 1, 2, 0] rfl ?_
            exact ih σ97_2 x1 x2 x3 x4 (x6 + (1 : Int32)) x8 (x8 + (1 : Int32)) hf
        · refine V_goto (pc := 103) (tgt := 118) C d_M_which_103 (by decide) ?_
          refine V_iinc (v := x8 + (1 : Int32)) C 7 d_M_which_118 rfl rfl (by decide) rfl ?_
          refine V_goto (pc := 121) (tgt := 60) C d_M_which_121 (by decide) ?_
          refine V.sub [1, 2, 3, 4, 5, 6, 7, 0] rfl ?_
          exact ih σ97_2 x1 x2 x3 x4 x6 x7 (x8 + (1 : Int32)) hf
set_option maxRecDepth 4000 in
theorem w_M_which {E : Ev} {g : Gx} {r : Int32} {σ' : St} (C : Cx E classes 9 (wM g) b_M_which "WithTheRedsModel" 8) (hR : RetI E classes 9 (wM g) b_M_which r σ') {σ : St} {a1 : Int32} {a2 : Int32} {a3 : Int32} {a4 : Int32} (hf : f_M_which σ a1 a2 a3 a4 = some (r, σ')) : V E classes 9 (wM g) σ 0 [(0, .ref (g.2.1 0)), (1, .int a1), (2, .int a2), (3, .int a3), (4, .int a4)] [] := by
  unfold f_M_which at hf
  refine V_iload_n C 1 d_M_which_0 rfl ?_
  obtain ⟨r1_1, hg, hf⟩ := bd hf
  refine V_callSi C [.int a1] (c_M_isShelf C.2.2.2.2.2.2.2.1 hg) (by decide) cw_M_161 rfl (Nat.le_of_ble_eq_true rfl) rfl d_M_which_1 ?_
  refine V_if_eq (pc := 4) (tgt := 32) C d_M_which_4 (by decide) hf (fun hf => ?_) (fun hf => ?_)
  · refine V_iconst (v := -1) C d_M_which_32 (by decide) ?_
    exact V_iretW hR hf d_M_which_33
  · refine V_aload_n C 0 d_M_which_7 rfl ?_
    refine V_iload_n C 2 d_M_which_8 rfl ?_
    obtain ⟨r9_2, hg, hf⟩ := bd hf
    refine V_callVi C [.int a2] (c_M_areThings C.2.2.2.2.2.2.2.1 hg) (by decide) cw_M_289 0 rfl rfl rfl rfl (Nat.le_of_ble_eq_true rfl) rfl d_M_which_9 ?_
    refine V_if_eq (pc := 12) (tgt := 32) C d_M_which_12 (by decide) hf (fun hf => ?_) (fun hf => ?_)
    · refine V_iconst (v := -1) C d_M_which_32 (by decide) ?_
      exact V_iretW hR hf d_M_which_33
    · refine V_iload_n C 3 d_M_which_15 rfl ?_
      obtain ⟨r16_3, hg, hf⟩ := bd hf
      refine V_callSi C [.int a3] (c_M_areHeat C.2.2.2.2.2.2.2.1 hg) (by decide) cw_M_292 rfl (Nat.le_of_ble_eq_true rfl) rfl d_M_which_16 ?_
      refine V_if_eq (pc := 19) (tgt := 32) C d_M_which_19 (by decide) hf (fun hf => ?_) (fun hf => ?_)
      · refine V_iconst (v := -1) C d_M_which_32 (by decide) ?_
        exact V_iretW hR hf d_M_which_33
      · refine V_iload C 4 d_M_which_22 rfl ?_
        refine V_iconst (v := 0) C d_M_which_24 (by decide) ?_
        refine V_iconst (v := 1) C d_M_which_25 (by decide) ?_
        obtain ⟨r26_4, hg, hf⟩ := bd hf
        refine V_callSi C [.int a4, .int (0 : Int32), .int (1 : Int32)] (c_M_in C.2.2.2.2.2.2.2.1 hg) (by decide) cw_M_153 rfl (Nat.le_of_ble_eq_true rfl) rfl d_M_which_26 ?_
        refine V_if_ne (pc := 29) (tgt := 34) C d_M_which_29 (by decide) hf (fun hf => ?_) (fun hf => ?_)
        · refine V_aload_n C 0 d_M_which_34 rfl ?_
          refine V_iload_n C 1 d_M_which_35 rfl ?_
          refine V_iconst (v := 1) C d_M_which_36 (by decide) ?_
          obtain ⟨r37_5, hg, hf⟩ := bd hf
          refine V_callVi C [.int a1, .int (1 : Int32)] (c_M_rowFault C.2.2.2.2.2.2.2.1 hg) (by decide) cw_M_337 0 rfl rfl rfl rfl (Nat.le_of_ble_eq_true rfl) rfl d_M_which_37 ?_
          refine V_istore C d_M_which_40 (by decide) rfl ?_
          refine V_iload C 0 d_M_which_42 rfl ?_
          refine V_if_ge (pc := 44) (tgt := 50) C d_M_which_44 (by decide) hf (fun hf => ?_) (fun hf => ?_)
          · refine V_iconst (v := 0) C d_M_which_50 (by decide) ?_
            refine V_istore C d_M_which_51 (by decide) rfl ?_
            refine V_bipush (v := -2) C d_M_which_53 (by decide) ?_
            refine V_istore C d_M_which_55 (by decide) rfl ?_
            refine V_iconst (v := 0) C d_M_which_57 (by decide) ?_
            refine V_istore C d_M_which_58 (by decide) rfl ?_
            refine V.sub [4, 5, 6, 7, 8, 2, 1, 0] rfl ?_
            exact w_M_which_60 C hR FU σ a1 a2 a3 a4 (0 : Int32) (-2 : Int32) (0 : Int32) hf
          · refine V_iload C 0 d_M_which_47 rfl ?_
            exact V_iretW hR hf d_M_which_49
        · refine V_iconst (v := -1) C d_M_which_32 (by decide) ?_
          exact V_iretW hR hf d_M_which_33
theorem c_M_which {l : Launch} {g : Gx} (hok : Wok classes (wM g)) {σ : St} {a1 : Int32} {a2 : Int32} {a3 : Int32} {a4 : Int32} {r : Int32} {σ' : St} (hf : f_M_which σ a1 a2 a3 a4 = some (r, σ')) : CtI classes l y_M_which b_M_which 9 (some .int) 8 (wM g) [.ref (g.2.1 0), .int a1, .int a2, .int a3, .int a4] σ r σ' :=
  MetI (by decide +kernel) hok (Nat.le_of_ble_eq_true rfl) (fun E _ C hR => w_M_which C hR hf)
