set_option maxRecDepth 4000 in
theorem w_M_operand_46 {E : Ev} {g : Gx} {σ' : St} {rec : St → Option St} {D : Nat} (hD : 3 ≤ D) (hrec : ∀ {l : Launch} {σ : St} {σ' : St}, rec σ = some σ' → CtV classes l y_M_operand b_M_operand 2 none D (wM g) [.ref (g.2.1 0)] σ σ') (C : Cx E classes 2 (wM g) b_M_operand "WithTheRedsModel" (D + 6)) (hR : RetV E classes 2 (wM g) b_M_operand σ') : ∀ (σ : St) (x1 : Int32), f_M_operand_46 rec σ x1 = some σ' → V E classes 2 (wM g) σ 46 [(0, .ref (g.2.1 0)), (1, .int x1)] [] := by
  intro σ x1 hf
  unfold f_M_operand_46 at hf
  refine V_aload_n C 0 d_M_operand_46 rfl ?_
  obtain ⟨r47_1, σ47_1, hg, hf⟩ := bd2_of hf
  refine V_callVi C [] (c_M_opens C.2.2.2.2.2.2.2.1 hg) (by omega) cw_M_224 0 rfl rfl rfl rfl (Nat.le_of_ble_eq_true rfl) rfl d_M_operand_47 ?_
  refine V_if_ne (pc := 50) (tgt := 54) C d_M_operand_50 (by decide) hf (fun hf => ?_) (fun hf => ?_)
  · refine V_aload_n C 0 d_M_operand_54 rfl ?_
    obtain ⟨σ55_2, hg, hf⟩ := bd hf
    refine V_callVv C [] (hrec hg) (by omega) cw_M_228 0 rfl rfl rfl rfl (Nat.le_of_ble_eq_true rfl) rfl d_M_operand_55 ?_
    refine V_aload_n C 0 d_M_operand_58 rfl ?_
    refine V_dup C d_M_operand_59 rfl ?_
    refine gM_M_open (v := σ55_2.1 24) C fl_M_206 rfl d_M_operand_60 ?_
    refine V_iconst (v := 1) C d_M_operand_63 (by decide) ?_
    refine V_isub C d_M_operand_64 ?_
    refine pM_M_open C fl_M_206 d_M_operand_65 ?_
    refine V_aload_n C 0 d_M_operand_68 rfl ?_
    refine V_iload_n C 1 d_M_operand_69 rfl ?_
    refine V_bipush (v := 33) C d_M_operand_70 (by decide) ?_
    refine V_icmp_ne (pc := 72) (tgt := 79) C d_M_operand_72 (by decide) hf (fun hf => ?_) (fun hf => ?_)
    · refine V_iconst (v := 4) C d_M_operand_79 (by decide) ?_
      refine V_iconst (v := 0) C d_M_operand_80 (by decide) ?_
      obtain ⟨σ81_3, hg, hf⟩ := bd hf
      refine V_callVv C [.int (4 : Int32), .int (0 : Int32)] (c_M_addStep C.2.2.2.2.2.2.2.1 hg) (by omega) cw_M_216 0 rfl rfl rfl rfl (Nat.le_of_ble_eq_true rfl) rfl d_M_operand_81 ?_
      refine V_goto (pc := 84) (tgt := 154) C d_M_operand_84 (by decide) ?_
      exact V_vret hR hf d_M_operand_154
    · refine V_iconst (v := 3) C d_M_operand_75 (by decide) ?_
      refine V_goto (pc := 76) (tgt := 80) C d_M_operand_76 (by decide) ?_
      refine V_iconst (v := 0) C d_M_operand_80 (by decide) ?_
      obtain ⟨σ81_4, hg, hf⟩ := bd hf
      refine V_callVv C [.int (3 : Int32), .int (0 : Int32)] (c_M_addStep C.2.2.2.2.2.2.2.1 hg) (by omega) cw_M_216 0 rfl rfl rfl rfl (Nat.le_of_ble_eq_true rfl) rfl d_M_operand_81 ?_
      refine V_goto (pc := 84) (tgt := 154) C d_M_operand_84 (by decide) ?_
      exact V_vret hR hf d_M_operand_154
  · exact V_vret hR hf d_M_operand_53
set_option maxRecDepth 4000 in
theorem w_M_operand_F {E : Ev} {g : Gx} {σ' : St} {rec : St → Option St} {D : Nat} (hD : 3 ≤ D) (hrec : ∀ {l : Launch} {σ : St} {σ' : St}, rec σ = some σ' → CtV classes l y_M_operand b_M_operand 2 none D (wM g) [.ref (g.2.1 0)] σ σ') (C : Cx E classes 2 (wM g) b_M_operand "WithTheRedsModel" (D + 6)) (hR : RetV E classes 2 (wM g) b_M_operand σ') {σ : St} (hf : f_M_operand_F rec σ = some σ') : V E classes 2 (wM g) σ 0 [(0, .ref (g.2.1 0))] [] := by
  unfold f_M_operand_F at hf
  refine V_aload_n C 0 d_M_operand_0 rfl ?_
  obtain ⟨r1_1, hg, hf⟩ := bd hf
  refine V_callVi C [] (c_M_look C.2.2.2.2.2.2.2.1 hg) (by omega) cw_M_212 0 rfl rfl rfl rfl (Nat.le_of_ble_eq_true rfl) rfl d_M_operand_1 ?_
  refine V_istore_n C d_M_operand_4 (by decide) rfl ?_
  refine V_iload_n C 0 d_M_operand_5 rfl ?_
  obtain ⟨r6_2, hg, hf⟩ := bd hf
  refine V_callSi C [.int r1_1] (c_M_nameOf C.2.2.2.2.2.2.2.1 hg) (by omega) cw_M_220 rfl (Nat.le_of_ble_eq_true rfl) rfl d_M_operand_6 ?_
  refine V_if_lt (pc := 9) (tgt := 34) C d_M_operand_9 (by decide) hf (fun hf => ?_) (fun hf => ?_)
  · refine V_iload_n C 0 d_M_operand_34 rfl ?_
    refine V_bipush (v := 33) C d_M_operand_35 (by decide) ?_
    refine V_icmp_eq (pc := 37) (tgt := 46) C d_M_operand_37 (by decide) hf (fun hf => ?_) (fun hf => ?_)
    · refine V.sub [1, 0] rfl ?_
      exact w_M_operand_46 hD hrec C hR σ r1_1 hf
    · refine V_iload_n C 0 d_M_operand_40 rfl ?_
      refine V_bipush (v := 45) C d_M_operand_41 (by decide) ?_
      refine V_icmp_ne (pc := 43) (tgt := 87) C d_M_operand_43 (by decide) hf (fun hf => ?_) (fun hf => ?_)
      · refine V_iload_n C 0 d_M_operand_87 rfl ?_
        refine V_bipush (v := 40) C d_M_operand_88 (by decide) ?_
        refine V_icmp_ne (pc := 90) (tgt := 150) C d_M_operand_90 (by decide) hf (fun hf => ?_) (fun hf => ?_)
        · refine V_aload_n C 1 d_M_operand_150 rfl ?_
          obtain ⟨σ151_3, hg, hf⟩ := bd hf
          refine V_callVv C [] (c_M_figure C.2.2.2.2.2.2.2.1 hg) (by omega) cw_M_234 0 rfl rfl rfl rfl (Nat.le_of_ble_eq_true rfl) rfl d_M_operand_151 ?_
          exact V_vret hR hf d_M_operand_154
        · refine V_aload_n C 1 d_M_operand_93 rfl ?_
          obtain ⟨r94_4, σ94_4, hg, hf⟩ := bd2_of hf
          refine V_callVi C [] (c_M_opens C.2.2.2.2.2.2.2.1 hg) (by omega) cw_M_224 0 rfl rfl rfl rfl (Nat.le_of_ble_eq_true rfl) rfl d_M_operand_94 ?_
          refine V_if_ne (pc := 97) (tgt := 101) C d_M_operand_97 (by decide) hf (fun hf => ?_) (fun hf => ?_)
          · refine V_aload_n C 1 d_M_operand_101 rfl ?_
            obtain ⟨σ102_5, hg, hf⟩ := bd hf
            refine V_callVv C [] (c_M_either C.2.2.2.2.2.2.2.1 hD hrec hg) (by omega) cw_M_231 0 rfl rfl rfl rfl (Nat.le_of_ble_eq_true rfl) rfl d_M_operand_102 ?_
            refine V_aload_n C 1 d_M_operand_105 rfl ?_
            refine gM_M_fault (v := σ102_5.1 23) C fl_M_200 rfl d_M_operand_106 ?_
            refine V_if_lt (pc := 109) (tgt := 113) C d_M_operand_109 (by decide) hf (fun hf => ?_) (fun hf => ?_)
            · refine V_aload_n C 1 d_M_operand_113 rfl ?_
              obtain ⟨r114_6, hg, hf⟩ := bd hf
              refine V_callVi C [] (c_M_look C.2.2.2.2.2.2.2.1 hg) (by omega) cw_M_212 0 rfl rfl rfl rfl (Nat.le_of_ble_eq_true rfl) rfl d_M_operand_114 ?_
              refine V_bipush (v := 41) C d_M_operand_117 (by decide) ?_
              refine V_icmp_eq (pc := 119) (tgt := 127) C d_M_operand_119 (by decide) hf (fun hf => ?_) (fun hf => ?_)
              · refine V_aload_n C 1 d_M_operand_127 rfl ?_
                refine V_dup C d_M_operand_128 rfl ?_
                refine gM_M_here (v := σ102_5.1 22) C fl_M_197 rfl d_M_operand_129 ?_
                refine V_iconst (v := 1) C d_M_operand_132 (by decide) ?_
                refine V_iadd C d_M_operand_133 ?_
                refine pM_M_here C fl_M_197 d_M_operand_134 ?_
                refine V_aload_n C 1 d_M_operand_137 rfl ?_
                refine V_dup C d_M_operand_138 rfl ?_
                refine gM_M_open (v := σ102_5.1 24) C fl_M_206 rfl d_M_operand_139 ?_
                refine V_iconst (v := 1) C d_M_operand_142 (by decide) ?_
                refine V_isub C d_M_operand_143 ?_
                refine pM_M_open C fl_M_206 d_M_operand_144 ?_
                refine V_goto (pc := 147) (tgt := 154) C d_M_operand_147 (by decide) ?_
                exact V_vret hR hf d_M_operand_154
              · refine V_aload_n C 1 d_M_operand_122 rfl ?_
                obtain ⟨σ123_7, hg, hf⟩ := bd hf
                refine V_callVv C [] (c_M_wrong C.2.2.2.2.2.2.2.1 hg) (by omega) cw_M_209 0 rfl rfl rfl rfl (Nat.le_of_ble_eq_true rfl) rfl d_M_operand_123 ?_
                exact V_vret hR hf d_M_operand_126
            · exact V_vret hR hf d_M_operand_112
          · exact V_vret hR hf d_M_operand_100
      · refine V.sub [1, 0] rfl ?_
        exact w_M_operand_46 hD hrec C hR σ r1_1 hf
  · refine V_aload_n C 1 d_M_operand_12 rfl ?_
    refine V_iconst (v := 2) C d_M_operand_13 (by decide) ?_
    refine V_iload_n C 0 d_M_operand_14 rfl ?_
    obtain ⟨r15_8, hg, hf⟩ := bd hf
    refine V_callSi C [.int r1_1] (c_M_nameOf C.2.2.2.2.2.2.2.1 hg) (by omega) cw_M_220 rfl (Nat.le_of_ble_eq_true rfl) rfl d_M_operand_15 ?_
    obtain ⟨σ18_9, hg, hf⟩ := bd hf
    refine V_callVv C [.int (2 : Int32), .int r15_8] (c_M_addStep C.2.2.2.2.2.2.2.1 hg) (by omega) cw_M_216 0 rfl rfl rfl rfl (Nat.le_of_ble_eq_true rfl) rfl d_M_operand_18 ?_
    refine V_aload_n C 1 d_M_operand_21 rfl ?_
    refine V_dup C d_M_operand_22 rfl ?_
    refine gM_M_here (v := σ18_9.1 22) C fl_M_197 rfl d_M_operand_23 ?_
    refine V_iconst (v := 1) C d_M_operand_26 (by decide) ?_
    refine V_iadd C d_M_operand_27 ?_
    refine pM_M_here C fl_M_197 d_M_operand_28 ?_
    refine V_goto (pc := 31) (tgt := 154) C d_M_operand_31 (by decide) ?_
    exact V_vret hR hf d_M_operand_154
theorem c_M_operand_F {l : Launch} {g : Gx} (hok : Wok classes (wM g)) {rec : St → Option St} {D : Nat} (hD : 3 ≤ D) (hrec : ∀ {l : Launch} {σ : St} {σ' : St}, rec σ = some σ' → CtV classes l y_M_operand b_M_operand 2 none D (wM g) [.ref (g.2.1 0)] σ σ') {σ : St} {σ' : St} (hf : f_M_operand_F rec σ = some σ') : CtV classes l y_M_operand b_M_operand 2 none (D + 6) (wM g) [.ref (g.2.1 0)] σ σ' :=
  MetV (by decide +kernel) hok (Nat.le_of_ble_eq_true rfl) (fun E _ C hR => w_M_operand_F hD hrec C hR hf)
theorem c_M_operand {l : Launch} {g : Gx} (hok : Wok classes (wM g)) (n : Nat) {σ : St} {σ' : St} (hf : f_M_operand n σ = some σ') : CtV classes l y_M_operand b_M_operand 2 none (3 + 6 * n) (wM g) [.ref (g.2.1 0)] σ σ' := by
  induction n generalizing l σ σ' with
  | zero => exact absurd hf (by unfold f_M_operand; exact nofun)
  | succ n ih => exact c_M_operand_F hok (D := 3 + 6 * n) (by omega) (fun h => ih h) hf
set_option maxRecDepth 4000 in
theorem w_M_lays {E : Ev} {g : Gx} {σ' : St} (C : Cx E classes 4 (wM g) b_M_lays "WithTheRedsModel" 1) (hR : RetV E classes 4 (wM g) b_M_lays σ') {σ : St} {a1 : Int32} {a2 : Int32} {a3 : Int32} (hf : f_M_lays σ a1 a2 a3 = some σ') : V E classes 4 (wM g) σ 0 [(0, .ref (g.2.1 0)), (1, .int a1), (2, .int a2), (3, .int a3)] [] := by
  unfold f_M_lays at hf
  refine V_iload_n C 1 d_M_lays_0 rfl ?_
  by_cases hc0 : a1 = 0
  · have hf := ite_t hf hc0
    refine V_tin (off := 59) (tgt := 60) C d_M_lays_1 (by rw [hc0]; decide) (by rw [hc0]; decide) (by rw [hc0]; decide) (by decide) ?_
    refine V_aload_n C 0 d_M_lays_60 rfl ?_
    refine gM_M_colour C fl_M_7 d_M_lays_61 ?_
    refine V_iload_n C 2 d_M_lays_64 rfl ?_
    refine V_iload_n C 3 d_M_lays_65 rfl ?_
    obtain ⟨hi66_1, hf⟩ := gu hf
    refine sM_1 C hi66_1 d_M_lays_66 ?_
    refine V_goto (pc := 67) (tgt := 169) C d_M_lays_67 (by decide) ?_
    exact V_vret hR hf d_M_lays_169
  have hf := ite_f hf hc0
  by_cases hc1 : a1 = 1
  · have hf := ite_t hf hc1
    refine V_tin (off := 69) (tgt := 70) C d_M_lays_1 (by rw [hc1]; decide) (by rw [hc1]; decide) (by rw [hc1]; decide) (by decide) ?_
    refine V_aload_n C 0 d_M_lays_70 rfl ?_
    refine gM_M_dye C fl_M_13 d_M_lays_71 ?_
    refine V_iload_n C 2 d_M_lays_74 rfl ?_
    refine V_iload_n C 3 d_M_lays_75 rfl ?_
    obtain ⟨hi76_2, hf⟩ := gu hf
    refine sM_2 C hi76_2 d_M_lays_76 ?_
    refine V_goto (pc := 77) (tgt := 169) C d_M_lays_77 (by decide) ?_
    exact V_vret hR hf d_M_lays_169
  have hf := ite_f hf hc1
  by_cases hc2 : a1 = 2
  · have hf := ite_t hf hc2
    refine V_tin (off := 79) (tgt := 80) C d_M_lays_1 (by rw [hc2]; decide) (by rw [hc2]; decide) (by rw [hc2]; decide) (by decide) ?_
    refine V_aload_n C 0 d_M_lays_80 rfl ?_
    refine gM_M_washed C fl_M_16 d_M_lays_81 ?_
    refine V_iload_n C 2 d_M_lays_84 rfl ?_
    refine V_iload_n C 3 d_M_lays_85 rfl ?_
    obtain ⟨hi86_3, hf⟩ := gu hf
    refine sM_3 C hi86_3 d_M_lays_86 ?_
    refine V_goto (pc := 87) (tgt := 169) C d_M_lays_87 (by decide) ?_
    exact V_vret hR hf d_M_lays_169
  have hf := ite_f hf hc2
  by_cases hc3 : a1 = 3
  · have hf := ite_t hf hc3
    refine V_tin (off := 89) (tgt := 90) C d_M_lays_1 (by rw [hc3]; decide) (by rw [hc3]; decide) (by rw [hc3]; decide) (by decide) ?_
    refine V_aload_n C 0 d_M_lays_90 rfl ?_
    refine gM_M_bears C fl_M_19 d_M_lays_91 ?_
    refine V_iload_n C 2 d_M_lays_94 rfl ?_
    refine V_iload_n C 3 d_M_lays_95 rfl ?_
    obtain ⟨hi96_4, hf⟩ := gu hf
    refine sM_4 C hi96_4 d_M_lays_96 ?_
    refine V_goto (pc := 97) (tgt := 169) C d_M_lays_97 (by decide) ?_
    exact V_vret hR hf d_M_lays_169
  have hf := ite_f hf hc3
  by_cases hc4 : a1 = 4
  · have hf := ite_t hf hc4
    refine V_tin (off := 99) (tgt := 100) C d_M_lays_1 (by rw [hc4]; decide) (by rw [hc4]; decide) (by rw [hc4]; decide) (by decide) ?_
    refine V_aload_n C 0 d_M_lays_100 rfl ?_
    refine gM_M_sizeOf C fl_M_22 d_M_lays_101 ?_
    refine V_iload_n C 2 d_M_lays_104 rfl ?_
    refine V_iload_n C 3 d_M_lays_105 rfl ?_
    obtain ⟨hi106_5, hf⟩ := gu hf
    refine sM_5 C hi106_5 d_M_lays_106 ?_
    refine V_goto (pc := 107) (tgt := 169) C d_M_lays_107 (by decide) ?_
    exact V_vret hR hf d_M_lays_169
  have hf := ite_f hf hc4
  by_cases hc5 : a1 = 5
  · have hf := ite_t hf hc5
    refine V_tin (off := 109) (tgt := 110) C d_M_lays_1 (by rw [hc5]; decide) (by rw [hc5]; decide) (by rw [hc5]; decide) (by decide) ?_
    refine V_aload_n C 0 d_M_lays_110 rfl ?_
    refine gM_M_dries C fl_M_25 d_M_lays_111 ?_
    refine V_iload_n C 2 d_M_lays_114 rfl ?_
    refine V_iload_n C 3 d_M_lays_115 rfl ?_
    obtain ⟨hi116_6, hf⟩ := gu hf
    refine sM_6 C hi116_6 d_M_lays_116 ?_
    refine V_goto (pc := 117) (tgt := 169) C d_M_lays_117 (by decide) ?_
    exact V_vret hR hf d_M_lays_169
  have hf := ite_f hf hc5
  by_cases hc6 : a1 = 6
  · have hf := ite_t hf hc6
    refine V_tin (off := 119) (tgt := 120) C d_M_lays_1 (by rw [hc6]; decide) (by rw [hc6]; decide) (by rw [hc6]; decide) (by decide) ?_
    refine V_aload_n C 0 d_M_lays_120 rfl ?_
    refine gM_M_whoOf C fl_M_28 d_M_lays_121 ?_
    refine V_iload_n C 2 d_M_lays_124 rfl ?_
    refine V_iload_n C 3 d_M_lays_125 rfl ?_
    obtain ⟨hi126_7, hf⟩ := gu hf
    refine sM_7 C hi126_7 d_M_lays_126 ?_
    refine V_goto (pc := 127) (tgt := 169) C d_M_lays_127 (by decide) ?_
    exact V_vret hR hf d_M_lays_169
  have hf := ite_f hf hc6
  by_cases hc7 : a1 = 7
  · have hf := ite_t hf hc7
    refine V_tin (off := 129) (tgt := 130) C d_M_lays_1 (by rw [hc7]; decide) (by rw [hc7]; decide) (by rw [hc7]; decide) (by decide) ?_
    refine V_aload_n C 0 d_M_lays_130 rfl ?_
    refine gM_M_by C fl_M_31 d_M_lays_131 ?_
    refine V_iload_n C 2 d_M_lays_134 rfl ?_
    refine V_iload_n C 3 d_M_lays_135 rfl ?_
    obtain ⟨hi136_8, hf⟩ := gu hf
    refine sM_8 C hi136_8 d_M_lays_136 ?_
    refine V_goto (pc := 137) (tgt := 169) C d_M_lays_137 (by decide) ?_
    exact V_vret hR hf d_M_lays_169
  have hf := ite_f hf hc7
  by_cases hc8 : a1 = 8
  · have hf := ite_t hf hc8
    refine V_tin (off := 139) (tgt := 140) C d_M_lays_1 (by rw [hc8]; decide) (by rw [hc8]; decide) (by rw [hc8]; decide) (by decide) ?_
    refine V_aload_n C 0 d_M_lays_140 rfl ?_
    refine V_iload_n C 3 d_M_lays_141 rfl ?_
    refine pM_M_drum C fl_M_34 d_M_lays_142 ?_
    refine V_goto (pc := 145) (tgt := 169) C d_M_lays_145 (by decide) ?_
    exact V_vret hR hf d_M_lays_169
  have hf := ite_f hf hc8
  by_cases hc9 : a1 = 9
  · have hf := ite_t hf hc9
    refine V_tin (off := 147) (tgt := 148) C d_M_lays_1 (by rw [hc9]; decide) (by rw [hc9]; decide) (by rw [hc9]; decide) (by decide) ?_
    refine V_aload_n C 0 d_M_lays_148 rfl ?_
    refine V_iload_n C 3 d_M_lays_149 rfl ?_
    refine pM_M_cloth C fl_M_38 d_M_lays_150 ?_
    refine V_goto (pc := 153) (tgt := 169) C d_M_lays_153 (by decide) ?_
    exact V_vret hR hf d_M_lays_169
  have hf := ite_f hf hc9
  by_cases hc10 : a1 = 10
  · have hf := ite_t hf hc10
    refine V_tin (off := 155) (tgt := 156) C d_M_lays_1 (by rw [hc10]; decide) (by rw [hc10]; decide) (by rw [hc10]; decide) (by decide) ?_
    refine V_aload_n C 0 d_M_lays_156 rfl ?_
    refine V_iload_n C 3 d_M_lays_157 rfl ?_
    refine pM_M_aDay C fl_M_41 d_M_lays_158 ?_
    refine V_goto (pc := 161) (tgt := 169) C d_M_lays_161 (by decide) ?_
    exact V_vret hR hf d_M_lays_169
  have hf := ite_f hf hc10
  have hc0t := neT (k := 0) 0 (by decide) hc0
  have hc1t := neT (k := 1) 1 (by decide) hc1
  have hc2t := neT (k := 2) 2 (by decide) hc2
  have hc3t := neT (k := 3) 3 (by decide) hc3
  have hc4t := neT (k := 4) 4 (by decide) hc4
  have hc5t := neT (k := 5) 5 (by decide) hc5
  have hc6t := neT (k := 6) 6 (by decide) hc6
  have hc7t := neT (k := 7) 7 (by decide) hc7
  have hc8t := neT (k := 8) 8 (by decide) hc8
  have hc9t := neT (k := 9) 9 (by decide) hc9
  have hc10t := neT (k := 10) 10 (by decide) hc10
  refine V_tout (tgt := 164) C d_M_lays_1 (by omega) (by decide) ?_
  refine V_aload_n C 0 d_M_lays_164 rfl ?_
  refine V_iload_n C 3 d_M_lays_165 rfl ?_
  refine pM_M_line1 C fl_M_44 d_M_lays_166 ?_
  exact V_vret hR hf d_M_lays_169
theorem c_M_lays {l : Launch} {g : Gx} (hok : Wok classes (wM g)) {σ : St} {a1 : Int32} {a2 : Int32} {a3 : Int32} {σ' : St} (hf : f_M_lays σ a1 a2 a3 = some σ') : CtV classes l y_M_lays b_M_lays 4 none 1 (wM g) [.ref (g.2.1 0), .int a1, .int a2, .int a3] σ σ' :=
  MetV (by decide +kernel) hok (Nat.le_of_ble_eq_true rfl) (fun E _ C hR => w_M_lays C hR hf)
set_option maxRecDepth 4000 in
theorem w_M_valueAt {E : Ev} {g : Gx} {r : Int32} {σ : St} (C : Cx E classes 3 (wM g) b_M_valueAt "WithTheRedsModel" 1) (hR : RetI E classes 3 (wM g) b_M_valueAt r σ) {a1 : Int32} {a2 : Int32} (hf : f_M_valueAt σ a1 a2 = some r) : V E classes 3 (wM g) σ 0 [(0, .ref (g.2.1 0)), (1, .int a1), (2, .int a2)] [] := by
  unfold f_M_valueAt at hf
  refine V_iload_n C 1 d_M_valueAt_0 rfl ?_
  by_cases hc0 : a1 = 0
  · have hf := ite_t hf hc0
    refine V_tin (off := 59) (tgt := 60) C d_M_valueAt_1 (by rw [hc0]; decide) (by rw [hc0]; decide) (by rw [hc0]; decide) (by decide) ?_
    refine V_aload_n C 0 d_M_valueAt_60 rfl ?_
    refine gM_M_colour C fl_M_7 d_M_valueAt_61 ?_
    refine V_iload_n C 2 d_M_valueAt_64 rfl ?_
    obtain ⟨hi65_1, hf⟩ := gu hf
    refine aM_1 (v := σ.2.1 1 a2.toNatClampNeg) C hi65_1 rfl d_M_valueAt_65 ?_
    exact V_iret hR hf d_M_valueAt_66
  have hf := ite_f hf hc0
  by_cases hc1 : a1 = 1
  · have hf := ite_t hf hc1
    refine V_tin (off := 66) (tgt := 67) C d_M_valueAt_1 (by rw [hc1]; decide) (by rw [hc1]; decide) (by rw [hc1]; decide) (by decide) ?_
    refine V_aload_n C 0 d_M_valueAt_67 rfl ?_
    refine gM_M_dye C fl_M_13 d_M_valueAt_68 ?_
    refine V_iload_n C 2 d_M_valueAt_71 rfl ?_
    obtain ⟨hi72_2, hf⟩ := gu hf
    refine aM_2 (v := σ.2.1 2 a2.toNatClampNeg) C hi72_2 rfl d_M_valueAt_72 ?_
    exact V_iret hR hf d_M_valueAt_73
  have hf := ite_f hf hc1
  by_cases hc2 : a1 = 2
  · have hf := ite_t hf hc2
    refine V_tin (off := 73) (tgt := 74) C d_M_valueAt_1 (by rw [hc2]; decide) (by rw [hc2]; decide) (by rw [hc2]; decide) (by decide) ?_
    refine V_aload_n C 0 d_M_valueAt_74 rfl ?_
    refine gM_M_washed C fl_M_16 d_M_valueAt_75 ?_
    refine V_iload_n C 2 d_M_valueAt_78 rfl ?_
    obtain ⟨hi79_3, hf⟩ := gu hf
    refine aM_3 (v := σ.2.1 3 a2.toNatClampNeg) C hi79_3 rfl d_M_valueAt_79 ?_
    exact V_iret hR hf d_M_valueAt_80
  have hf := ite_f hf hc2
  by_cases hc3 : a1 = 3
  · have hf := ite_t hf hc3
    refine V_tin (off := 80) (tgt := 81) C d_M_valueAt_1 (by rw [hc3]; decide) (by rw [hc3]; decide) (by rw [hc3]; decide) (by decide) ?_
    refine V_aload_n C 0 d_M_valueAt_81 rfl ?_
    refine gM_M_bears C fl_M_19 d_M_valueAt_82 ?_
    refine V_iload_n C 2 d_M_valueAt_85 rfl ?_
    obtain ⟨hi86_4, hf⟩ := gu hf
    refine aM_4 (v := σ.2.1 4 a2.toNatClampNeg) C hi86_4 rfl d_M_valueAt_86 ?_
    exact V_iret hR hf d_M_valueAt_87
  have hf := ite_f hf hc3
  by_cases hc4 : a1 = 4
  · have hf := ite_t hf hc4
    refine V_tin (off := 87) (tgt := 88) C d_M_valueAt_1 (by rw [hc4]; decide) (by rw [hc4]; decide) (by rw [hc4]; decide) (by decide) ?_
    refine V_aload_n C 0 d_M_valueAt_88 rfl ?_
    refine gM_M_sizeOf C fl_M_22 d_M_valueAt_89 ?_
    refine V_iload_n C 2 d_M_valueAt_92 rfl ?_
    obtain ⟨hi93_5, hf⟩ := gu hf
    refine aM_5 (v := σ.2.1 5 a2.toNatClampNeg) C hi93_5 rfl d_M_valueAt_93 ?_
    exact V_iret hR hf d_M_valueAt_94
  have hf := ite_f hf hc4
  by_cases hc5 : a1 = 5
  · have hf := ite_t hf hc5
    refine V_tin (off := 94) (tgt := 95) C d_M_valueAt_1 (by rw [hc5]; decide) (by rw [hc5]; decide) (by rw [hc5]; decide) (by decide) ?_
    refine V_aload_n C 0 d_M_valueAt_95 rfl ?_
    refine gM_M_dries C fl_M_25 d_M_valueAt_96 ?_
    refine V_iload_n C 2 d_M_valueAt_99 rfl ?_
    obtain ⟨hi100_6, hf⟩ := gu hf
    refine aM_6 (v := σ.2.1 6 a2.toNatClampNeg) C hi100_6 rfl d_M_valueAt_100 ?_
    exact V_iret hR hf d_M_valueAt_101
  have hf := ite_f hf hc5
  by_cases hc6 : a1 = 6
  · have hf := ite_t hf hc6
    refine V_tin (off := 101) (tgt := 102) C d_M_valueAt_1 (by rw [hc6]; decide) (by rw [hc6]; decide) (by rw [hc6]; decide) (by decide) ?_
    refine V_aload_n C 0 d_M_valueAt_102 rfl ?_
    refine gM_M_whoOf C fl_M_28 d_M_valueAt_103 ?_
    refine V_iload_n C 2 d_M_valueAt_106 rfl ?_
    obtain ⟨hi107_7, hf⟩ := gu hf
    refine aM_7 (v := σ.2.1 7 a2.toNatClampNeg) C hi107_7 rfl d_M_valueAt_107 ?_
    exact V_iret hR hf d_M_valueAt_108
  have hf := ite_f hf hc6
  by_cases hc7 : a1 = 7
  · have hf := ite_t hf hc7
    refine V_tin (off := 108) (tgt := 109) C d_M_valueAt_1 (by rw [hc7]; decide) (by rw [hc7]; decide) (by rw [hc7]; decide) (by decide) ?_
    refine V_aload_n C 0 d_M_valueAt_109 rfl ?_
    refine gM_M_by C fl_M_31 d_M_valueAt_110 ?_
    refine V_iload_n C 2 d_M_valueAt_113 rfl ?_
    obtain ⟨hi114_8, hf⟩ := gu hf
    refine aM_8 (v := σ.2.1 8 a2.toNatClampNeg) C hi114_8 rfl d_M_valueAt_114 ?_
    exact V_iret hR hf d_M_valueAt_115
  have hf := ite_f hf hc7
  by_cases hc8 : a1 = 8
  · have hf := ite_t hf hc8
    refine V_tin (off := 115) (tgt := 116) C d_M_valueAt_1 (by rw [hc8]; decide) (by rw [hc8]; decide) (by rw [hc8]; decide) (by decide) ?_
    refine V_aload_n C 0 d_M_valueAt_116 rfl ?_
    refine gM_M_drum (v := σ.1 10) C fl_M_34 rfl d_M_valueAt_117 ?_
    exact V_iret hR hf d_M_valueAt_120
  have hf := ite_f hf hc8
  by_cases hc9 : a1 = 9
  · have hf := ite_t hf hc9
    refine V_tin (off := 120) (tgt := 121) C d_M_valueAt_1 (by rw [hc9]; decide) (by rw [hc9]; decide) (by rw [hc9]; decide) (by decide) ?_
    refine V_aload_n C 0 d_M_valueAt_121 rfl ?_
    refine gM_M_cloth (v := σ.1 11) C fl_M_38 rfl d_M_valueAt_122 ?_
    exact V_iret hR hf d_M_valueAt_125
  have hf := ite_f hf hc9
  by_cases hc10 : a1 = 10
  · have hf := ite_t hf hc10
    refine V_tin (off := 125) (tgt := 126) C d_M_valueAt_1 (by rw [hc10]; decide) (by rw [hc10]; decide) (by rw [hc10]; decide) (by decide) ?_
    refine V_aload_n C 0 d_M_valueAt_126 rfl ?_
    refine gM_M_aDay (v := σ.1 12) C fl_M_41 rfl d_M_valueAt_127 ?_
    exact V_iret hR hf d_M_valueAt_130
  have hf := ite_f hf hc10
  have hc0t := neT (k := 0) 0 (by decide) hc0
  have hc1t := neT (k := 1) 1 (by decide) hc1
  have hc2t := neT (k := 2) 2 (by decide) hc2
  have hc3t := neT (k := 3) 3 (by decide) hc3
  have hc4t := neT (k := 4) 4 (by decide) hc4
  have hc5t := neT (k := 5) 5 (by decide) hc5
  have hc6t := neT (k := 6) 6 (by decide) hc6
  have hc7t := neT (k := 7) 7 (by decide) hc7
  have hc8t := neT (k := 8) 8 (by decide) hc8
  have hc9t := neT (k := 9) 9 (by decide) hc9
  have hc10t := neT (k := 10) 10 (by decide) hc10
  refine V_tout (tgt := 131) C d_M_valueAt_1 (by omega) (by decide) ?_
  refine V_aload_n C 0 d_M_valueAt_131 rfl ?_
  refine gM_M_line1 (v := σ.1 13) C fl_M_44 rfl d_M_valueAt_132 ?_
  exact V_iret hR hf d_M_valueAt_135
theorem c_M_valueAt {l : Launch} {g : Gx} (hok : Wok classes (wM g)) {σ : St} {a1 : Int32} {a2 : Int32} {r : Int32} (hf : f_M_valueAt σ a1 a2 = some r) : CtI classes l y_M_valueAt b_M_valueAt 3 (some .int) 1 (wM g) [.ref (g.2.1 0), .int a1, .int a2] σ r σ :=
  MetI (by decide +kernel) hok (Nat.le_of_ble_eq_true rfl) (fun E _ C hR => w_M_valueAt C hR hf)
set_option maxRecDepth 4000 in
theorem w_M_changes_121 {E : Ev} {g : Gx} {r : Int32} {σ' : St} (C : Cx E classes 6 (wM g) b_M_changes "WithTheRedsModel" 2) (hR : RetI E classes 6 (wM g) b_M_changes r σ') : ∀ (σ : St) (x1 : Int32) (x2 : Int32) (x3 : Int32) (x4 : Int32), f_M_changes_121 σ x1 x2 x3 x4 = some (r, σ') → V E classes 6 (wM g) σ 121 [(0, .ref (g.2.1 0)), (1, .int x1), (2, .int x2), (3, .int x3), (4, .int x4)] [] := by
  intro σ x1 x2 x3 x4 hf
  unfold f_M_changes_121 at hf
  refine V_aload_n C 0 d_M_changes_121 rfl ?_
  refine gM_M_changeOf C fl_M_47 d_M_changes_122 ?_
  refine V_aload_n C 0 d_M_changes_125 rfl ?_
  refine gM_M_doneMany (v := σ.1 14) C fl_M_174 rfl d_M_changes_126 ?_
  refine V_iload_n C 1 d_M_changes_129 rfl ?_
  obtain ⟨hi130_1, hf⟩ := gu hf
  refine sM_9 C hi130_1 d_M_changes_130 ?_
  refine V_aload_n C 0 d_M_changes_131 rfl ?_
  refine gM_M_changeAt C fl_M_50 d_M_changes_132 ?_
  refine V_aload_n C 0 d_M_changes_135 rfl ?_
  refine gM_M_doneMany (v := σ.1 14) C fl_M_174 rfl d_M_changes_136 ?_
  refine V_iload_n C 2 d_M_changes_139 rfl ?_
  obtain ⟨hi140_2, hf⟩ := gu hf
  refine sM_10 C hi140_2 d_M_changes_140 ?_
  refine V_aload_n C 0 d_M_changes_141 rfl ?_
  refine gM_M_before C fl_M_53 d_M_changes_142 ?_
  refine V_aload_n C 0 d_M_changes_145 rfl ?_
  refine gM_M_doneMany (v := σ.1 14) C fl_M_174 rfl d_M_changes_146 ?_
  refine V_iload C 4 d_M_changes_149 rfl ?_
  obtain ⟨hi151_3, hf⟩ := gu hf
  refine sM_11 C hi151_3 d_M_changes_151 ?_
  refine V_aload_n C 0 d_M_changes_152 rfl ?_
  refine gM_M_behind C fl_M_56 d_M_changes_153 ?_
  refine V_aload_n C 0 d_M_changes_156 rfl ?_
  refine gM_M_doneMany (v := σ.1 14) C fl_M_174 rfl d_M_changes_157 ?_
  refine V_iload_n C 3 d_M_changes_160 rfl ?_
  obtain ⟨hi161_4, hf⟩ := gu hf
  refine sM_12 C hi161_4 d_M_changes_161 ?_
  refine V_aload_n C 0 d_M_changes_162 rfl ?_
  refine V_dup C d_M_changes_163 rfl ?_
  refine gM_M_doneMany (v := σ.1 14) C fl_M_174 rfl d_M_changes_164 ?_
  refine V_iconst (v := 1) C d_M_changes_167 (by decide) ?_
  refine V_iadd C d_M_changes_168 ?_
  refine pM_M_doneMany C fl_M_174 d_M_changes_169 ?_
  refine V_aload_n C 0 d_M_changes_172 rfl ?_
  refine V_iload_n C 1 d_M_changes_173 rfl ?_
  refine V_iload_n C 2 d_M_changes_174 rfl ?_
  refine V_iload_n C 3 d_M_changes_175 rfl ?_
  obtain ⟨σ176_5, hg, hf⟩ := bd hf
  refine V_callVv C [.int x1, .int x2, .int x3] (c_M_lays C.2.2.2.2.2.2.2.1 hg) (by decide) cw_M_177 0 rfl rfl rfl rfl (Nat.le_of_ble_eq_true rfl) rfl d_M_changes_176 ?_
  refine V_iload C 4 d_M_changes_179 rfl ?_
  exact V_iretW hR hf d_M_changes_181
set_option maxRecDepth 4000 in
theorem w_M_changes_34 {E : Ev} {g : Gx} {r : Int32} {σ' : St} (C : Cx E classes 6 (wM g) b_M_changes "WithTheRedsModel" 2) (hR : RetI E classes 6 (wM g) b_M_changes r σ') : ∀ (n : Nat) (σ : St) (x1 : Int32) (x2 : Int32) (x3 : Int32) (x4 : Int32) (x5 : Int32), f_M_changes_34 n σ x1 x2 x3 x4 x5 = some (r, σ') → V E classes 6 (wM g) σ 34 [(0, .ref (g.2.1 0)), (1, .int x1), (2, .int x2), (3, .int x3), (4, .int x4), (5, .int x5)] [] := by
  intro n
  induction n with
  | zero => intro σ x1 x2 x3 x4 x5 hf; exact absurd hf (by unfold f_M_changes_34; exact nofun)
  | succ n ih =>
    intro σ x1 x2 x3 x4 x5 hf
    unfold f_M_changes_34 at hf
    refine V_iload C 5 d_M_changes_34 rfl ?_
    refine V_bipush (v := 40) C d_M_changes_36 (by decide) ?_
    refine V_icmp_ge (pc := 38) (tgt := 111) C d_M_changes_38 (by decide) hf (fun hf => ?_) (fun hf => ?_)
    · refine V_aload_n C 0 d_M_changes_111 rfl ?_
      refine V_dup C d_M_changes_112 rfl ?_
      refine gM_M_doneMany (v := σ.1 14) C fl_M_174 rfl d_M_changes_113 ?_
      refine V_iconst (v := 1) C d_M_changes_116 (by decide) ?_
      refine V_isub C d_M_changes_117 ?_
      refine pM_M_doneMany C fl_M_174 d_M_changes_118 ?_
      refine V.sub [0, 1, 2, 3, 4] rfl ?_
      exact w_M_changes_121 C hR (upI σ 14 ((σ.1 14) - (1 : Int32))) x1 x2 x3 x4 hf
    · refine V_aload_n C 0 d_M_changes_41 rfl ?_
      refine gM_M_changeOf C fl_M_47 d_M_changes_42 ?_
      refine V_iload C 5 d_M_changes_45 rfl ?_
      refine V_iconst (v := 1) C d_M_changes_47 (by decide) ?_
      refine V_isub C d_M_changes_48 ?_
      refine V_aload_n C 0 d_M_changes_49 rfl ?_
      refine gM_M_changeOf C fl_M_47 d_M_changes_50 ?_
      refine V_iload C 5 d_M_changes_53 rfl ?_
      obtain ⟨hi55_1, hf⟩ := gu hf
      refine aM_9 (v := σ.2.1 9 x5.toNatClampNeg) C hi55_1 rfl d_M_changes_55 ?_
      obtain ⟨hi56_2, hf⟩ := gu hf
      refine sM_9 C hi56_2 d_M_changes_56 ?_
      refine V_aload_n C 0 d_M_changes_57 rfl ?_
      refine gM_M_changeAt C fl_M_50 d_M_changes_58 ?_
      refine V_iload C 5 d_M_changes_61 rfl ?_
      refine V_iconst (v := 1) C d_M_changes_63 (by decide) ?_
      refine V_isub C d_M_changes_64 ?_
      refine V_aload_n C 0 d_M_changes_65 rfl ?_
      refine gM_M_changeAt C fl_M_50 d_M_changes_66 ?_
      refine V_iload C 5 d_M_changes_69 rfl ?_
      obtain ⟨hi71_3, hf⟩ := gu hf
      refine aM_10 (v := σ.2.1 10 x5.toNatClampNeg) C hi71_3 rfl d_M_changes_71 ?_
      obtain ⟨hi72_4, hf⟩ := gu hf
      refine sM_10 C hi72_4 d_M_changes_72 ?_
      refine V_aload_n C 0 d_M_changes_73 rfl ?_
      refine gM_M_before C fl_M_53 d_M_changes_74 ?_
      refine V_iload C 5 d_M_changes_77 rfl ?_
      refine V_iconst (v := 1) C d_M_changes_79 (by decide) ?_
      refine V_isub C d_M_changes_80 ?_
      refine V_aload_n C 0 d_M_changes_81 rfl ?_
      refine gM_M_before C fl_M_53 d_M_changes_82 ?_
      refine V_iload C 5 d_M_changes_85 rfl ?_
      obtain ⟨hi87_5, hf⟩ := gu hf
      refine aM_11 (v := σ.2.1 11 x5.toNatClampNeg) C hi87_5 rfl d_M_changes_87 ?_
      obtain ⟨hi88_6, hf⟩ := gu hf
      refine sM_11 C hi88_6 d_M_changes_88 ?_
      refine V_aload_n C 0 d_M_changes_89 rfl ?_
      refine gM_M_behind C fl_M_56 d_M_changes_90 ?_
      refine V_iload C 5 d_M_changes_93 rfl ?_
      refine V_iconst (v := 1) C d_M_changes_95 (by decide) ?_
      refine V_isub C d_M_changes_96 ?_
      refine V_aload_n C 0 d_M_changes_97 rfl ?_
      refine gM_M_behind C fl_M_56 d_M_changes_98 ?_
      refine V_iload C 5 d_M_changes_101 rfl ?_
      obtain ⟨hi103_7, hf⟩ := gu hf
      refine aM_12 (v := σ.2.1 12 x5.toNatClampNeg) C hi103_7 rfl d_M_changes_103 ?_
      obtain ⟨hi104_8, hf⟩ := gu hf
      refine sM_12 C hi104_8 d_M_changes_104 ?_
      refine V_iinc (v := x5 + (1 : Int32)) C 5 d_M_changes_105 rfl rfl (by decide) rfl ?_
      refine V_goto (pc := 108) (tgt := 34) C d_M_changes_108 (by decide) ?_
      refine V.sub [1, 2, 3, 4, 5, 0] rfl ?_
      exact ih (upA (upA (upA (upA σ 9 ((x5 - (1 : Int32)).toNatClampNeg) (σ.2.1 9 x5.toNatClampNeg)) 10 ((x5 - (1 : Int32)).toNatClampNeg) (σ.2.1 10 x5.toNatClampNeg)) 11 ((x5 - (1 : Int32)).toNatClampNeg) (σ.2.1 11 x5.toNatClampNeg)) 12 ((x5 - (1 : Int32)).toNatClampNeg) (σ.2.1 12 x5.toNatClampNeg)) x1 x2 x3 x4 (x5 + (1 : Int32)) hf
set_option maxRecDepth 4000 in
theorem w_M_changes {E : Ev} {g : Gx} {r : Int32} {σ' : St} (C : Cx E classes 6 (wM g) b_M_changes "WithTheRedsModel" 2) (hR : RetI E classes 6 (wM g) b_M_changes r σ') {σ : St} {a1 : Int32} {a2 : Int32} {a3 : Int32} (hf : f_M_changes σ a1 a2 a3 = some (r, σ')) : V E classes 6 (wM g) σ 0 [(0, .ref (g.2.1 0)), (1, .int a1), (2, .int a2), (3, .int a3)] [] := by
  unfold f_M_changes at hf
  refine V_aload_n C 0 d_M_changes_0 rfl ?_
  refine V_iload_n C 1 d_M_changes_1 rfl ?_
  refine V_iload_n C 2 d_M_changes_2 rfl ?_
  obtain ⟨r3_1, hg, hf⟩ := bd hf
  refine V_callVi C [.int a1, .int a2] (c_M_valueAt C.2.2.2.2.2.2.2.1 hg) (by decide) cw_M_167 0 rfl rfl rfl rfl (Nat.le_of_ble_eq_true rfl) rfl d_M_changes_3 ?_
  refine V_istore C d_M_changes_6 (by decide) rfl ?_
  refine V_iload C 0 d_M_changes_8 rfl ?_
  refine V_iload_n C 4 d_M_changes_10 rfl ?_
  refine V_icmp_ne (pc := 11) (tgt := 17) C d_M_changes_11 (by decide) hf (fun hf => ?_) (fun hf => ?_)
  · refine V_aload_n C 1 d_M_changes_17 rfl ?_
    refine V_iconst (v := 0) C d_M_changes_18 (by decide) ?_
    refine pM_M_undoneMany C fl_M_171 d_M_changes_19 ?_
    refine V_aload_n C 1 d_M_changes_22 rfl ?_
    refine gM_M_doneMany (v := σ.1 14) C fl_M_174 rfl d_M_changes_23 ?_
    refine V_bipush (v := 40) C d_M_changes_26 (by decide) ?_
    refine V_icmp_ne (pc := 28) (tgt := 121) C d_M_changes_28 (by decide) hf (fun hf => ?_) (fun hf => ?_)
    · refine V.sub [1, 2, 3, 4, 0] rfl ?_
      exact w_M_changes_121 C hR (upI σ 15 (0 : Int32)) a1 a2 a3 r3_1 hf
    · refine V_iconst (v := 1) C d_M_changes_31 (by decide) ?_
      refine V_istore C d_M_changes_32 (by decide) rfl ?_
      refine V.sub [2, 3, 4, 5, 1, 0] rfl ?_
      exact w_M_changes_34 C hR FU (upI σ 15 (0 : Int32)) a1 a2 a3 r3_1 (1 : Int32) hf
  · refine V_iload C 0 d_M_changes_14 rfl ?_
    exact V_iretW hR hf d_M_changes_16
theorem c_M_changes {l : Launch} {g : Gx} (hok : Wok classes (wM g)) {σ : St} {a1 : Int32} {a2 : Int32} {a3 : Int32} {r : Int32} {σ' : St} (hf : f_M_changes σ a1 a2 a3 = some (r, σ')) : CtI classes l y_M_changes b_M_changes 6 (some .int) 2 (wM g) [.ref (g.2.1 0), .int a1, .int a2, .int a3] σ r σ' :=
  MetI (by decide +kernel) hok (Nat.le_of_ble_eq_true rfl) (fun E _ C hR => w_M_changes C hR hf)
set_option maxRecDepth 4000 in
theorem w_M_cloths_19 {E : Ev} {g : Gx} {r : Int32} {σ' : St} (C : Cx E classes 4 (wM g) b_M_cloths "WithTheRedsModel" 8) (hR : RetI E classes 4 (wM g) b_M_cloths r σ') : ∀ (n : Nat) (σ : St) (x1 : Int32) (x2 : Int32) (x3 : Int32), f_M_cloths_19 n σ x1 x2 x3 = some (r, σ') → V E classes 4 (wM g) σ 19 [(0, .ref (g.2.1 0)), (1, .int x1), (2, .int x2), (3, .int x3)] [] := by
  intro n
  induction n with
  | zero => intro σ x1 x2 x3 hf; exact absurd hf (by unfold f_M_cloths_19; exact nofun)
  | succ n ih =>
    intro σ x1 x2 x3 hf
    unfold f_M_cloths_19 at hf
    refine V_iload_n C 3 d_M_cloths_19 rfl ?_
    refine V_bipush (v := 9) C d_M_cloths_20 (by decide) ?_
    refine V_icmp_gt (pc := 22) (tgt := 55) C d_M_cloths_22 (by decide) hf (fun hf => ?_) (fun hf => ?_)
    · refine V_bipush (v := -2) C d_M_cloths_55 (by decide) ?_
      exact V_iretW hR hf d_M_cloths_57
    · refine V_aload_n C 0 d_M_cloths_25 rfl ?_
      refine V_iload_n C 1 d_M_cloths_26 rfl ?_
      refine V_iload_n C 2 d_M_cloths_27 rfl ?_
      refine V_bipush (v := 100) C d_M_cloths_28 (by decide) ?_
      refine V_idiv C d_M_cloths_30 (by decide) ?_
      refine V_iload_n C 3 d_M_cloths_31 rfl ?_
      refine V_aload_n C 0 d_M_cloths_32 rfl ?_
      refine gM_M_cloth (v := σ.1 11) C fl_M_38 rfl d_M_cloths_33 ?_
      refine V_imul C d_M_cloths_36 ?_
      refine V_iload_n C 2 d_M_cloths_37 rfl ?_
      refine V_bipush (v := 100) C d_M_cloths_38 (by decide) ?_
      refine V_irem C d_M_cloths_40 (by decide) ?_
      obtain ⟨r41_1, σ41_1, hg, hf⟩ := bd2_of hf
      refine V_callVi C [.int x1, .int (x2 / (100 : Int32)), .int (x3 * (σ.1 11)), .int (irem x2 (100 : Int32))] (c_M_isSafe C.2.2.2.2.2.2.2.1 hg) (by decide) cw_M_301 0 rfl rfl rfl rfl (Nat.le_of_ble_eq_true rfl) rfl d_M_cloths_41 ?_
      refine V_if_eq (pc := 44) (tgt := 49) C d_M_cloths_44 (by decide) hf (fun hf => ?_) (fun hf => ?_)
      · refine V_iinc (v := x3 + (1 : Int32)) C 3 d_M_cloths_49 rfl rfl (by decide) rfl ?_
        refine V_goto (pc := 52) (tgt := 19) C d_M_cloths_52 (by decide) ?_
        refine V.sub [1, 2, 3, 0] rfl ?_
        exact ih σ41_1 x1 x2 (x3 + (1 : Int32)) hf
      · refine V_iload_n C 3 d_M_cloths_47 rfl ?_
        exact V_iretW hR hf d_M_cloths_48
set_option maxRecDepth 4000 in
theorem w_M_cloths {E : Ev} {g : Gx} {r : Int32} {σ' : St} (C : Cx E classes 4 (wM g) b_M_cloths "WithTheRedsModel" 8) (hR : RetI E classes 4 (wM g) b_M_cloths r σ') {σ : St} {a1 : Int32} {a2 : Int32} (hf : f_M_cloths σ a1 a2 = some (r, σ')) : V E classes 4 (wM g) σ 0 [(0, .ref (g.2.1 0)), (1, .int a1), (2, .int a2)] [] := by
  unfold f_M_cloths at hf
  refine V_aload_n C 0 d_M_cloths_0 rfl ?_
  refine V_iload_n C 1 d_M_cloths_1 rfl ?_
  obtain ⟨r2_1, hg, hf⟩ := bd hf
  refine V_callVi C [.int a1] (c_M_areThings C.2.2.2.2.2.2.2.1 hg) (by decide) cw_M_289 0 rfl rfl rfl rfl (Nat.le_of_ble_eq_true rfl) rfl d_M_cloths_2 ?_
  refine V_if_eq (pc := 5) (tgt := 15) C d_M_cloths_5 (by decide) hf (fun hf => ?_) (fun hf => ?_)
  · refine V_iconst (v := -1) C d_M_cloths_15 (by decide) ?_
    exact V_iretW hR hf d_M_cloths_16
  · refine V_iload_n C 2 d_M_cloths_8 rfl ?_
    obtain ⟨r9_2, hg, hf⟩ := bd hf
    refine V_callSi C [.int a2] (c_M_areMost C.2.2.2.2.2.2.2.1 hg) (by decide) cw_M_305 rfl (Nat.le_of_ble_eq_true rfl) rfl d_M_cloths_9 ?_
    refine V_if_ne (pc := 12) (tgt := 17) C d_M_cloths_12 (by decide) hf (fun hf => ?_) (fun hf => ?_)
    · refine V_iconst (v := 0) C d_M_cloths_17 (by decide) ?_
      refine V_istore_n C d_M_cloths_18 (by decide) rfl ?_
      refine V.sub [1, 2, 3, 0] rfl ?_
      exact w_M_cloths_19 C hR FU σ a1 a2 (0 : Int32) hf
    · refine V_iconst (v := -1) C d_M_cloths_15 (by decide) ?_
      exact V_iretW hR hf d_M_cloths_16
theorem c_M_cloths {l : Launch} {g : Gx} (hok : Wok classes (wM g)) {σ : St} {a1 : Int32} {a2 : Int32} {r : Int32} {σ' : St} (hf : f_M_cloths σ a1 a2 = some (r, σ')) : CtI classes l y_M_cloths b_M_cloths 4 (some .int) 8 (wM g) [.ref (g.2.1 0), .int a1, .int a2] σ r σ' :=
  MetI (by decide +kernel) hok (Nat.le_of_ble_eq_true rfl) (fun E _ C hR => w_M_cloths C hR hf)
set_option maxRecDepth 4000 in
theorem w_M_tints_15 {E : Ev} {g : Gx} {r : Int32} {σ' : St} (C : Cx E classes 7 (wM g) b_M_tints "WithTheRedsModel" 7) (hR : RetI E classes 7 (wM g) b_M_tints r σ') : ∀ (n : Nat) (σ : St) (x1 : Int32) (x2 : Int32) (x4 : Int32) (x5 : Int32) (x6 : Int32), f_M_tints_15 n σ x1 x2 x4 x5 x6 = some (r, σ') → V E classes 7 (wM g) σ 15 [(0, .ref (g.2.1 0)), (1, .int x1), (2, .int x2), (4, .int x4), (5, .int x5), (6, .int x6)] [] := by
  intro n
  induction n with
  | zero => intro σ x1 x2 x4 x5 x6 hf; exact absurd hf (by unfold f_M_tints_15; exact nofun)
  | succ n ih =>
    intro σ x1 x2 x4 x5 x6 hf
    unfold f_M_tints_15 at hf
    refine V_iload C 5 d_M_tints_15 rfl ?_
    refine V_aload_n C 0 d_M_tints_17 rfl ?_
    refine gM_M_things (v := σ.1 1) C fl_M_150 rfl d_M_tints_18 ?_
    refine V_icmp_ge (pc := 21) (tgt := 54) C d_M_tints_21 (by decide) hf (fun hf => ?_) (fun hf => ?_)
    · refine V_iload C 4 d_M_tints_54 rfl ?_
      exact V_iretW hR hf d_M_tints_56
    · refine V_iload_n C 1 d_M_tints_24 rfl ?_
      refine V_iload C 5 d_M_tints_25 rfl ?_
      refine V_ishr C d_M_tints_27 ?_
      refine V_iconst (v := 1) C d_M_tints_28 (by decide) ?_
      refine V_iand C d_M_tints_29 ?_
      refine V_iconst (v := 1) C d_M_tints_30 (by decide) ?_
      refine V_icmp_ne (pc := 31) (tgt := 48) C d_M_tints_31 (by decide) hf (fun hf => ?_) (fun hf => ?_)
      · refine V_iinc (v := x6 + (1 : Int32)) C 5 d_M_tints_48 rfl rfl (by decide) rfl ?_
        refine V_goto (pc := 51) (tgt := 15) C d_M_tints_51 (by decide) ?_
        refine V.sub [1, 2, 3, 4, 5, 0] rfl ?_
        exact ih σ x1 x2 x4 x5 (x6 + (1 : Int32)) hf
      · refine V_iload C 4 d_M_tints_34 rfl ?_
        refine V_aload_n C 0 d_M_tints_36 rfl ?_
        refine V_iload C 5 d_M_tints_37 rfl ?_
        refine V_iload C 3 d_M_tints_39 rfl ?_
        refine V_iload_n C 2 d_M_tints_41 rfl ?_
        obtain ⟨r42_1, σ42_1, hg, hf⟩ := bd2_of hf
        refine V_callVi C [.int x6, .int x4, .int x2] (c_M_tinted C.2.2.2.2.2.2.2.1 hg) (by decide) cw_M_280 0 rfl rfl rfl rfl (Nat.le_of_ble_eq_true rfl) rfl d_M_tints_42 ?_
        refine V_iadd C d_M_tints_45 ?_
        refine V_istore C d_M_tints_46 (by decide) rfl ?_
        refine V_iinc (v := x6 + (1 : Int32)) C 5 d_M_tints_48 rfl rfl (by decide) rfl ?_
        refine V_goto (pc := 51) (tgt := 15) C d_M_tints_51 (by decide) ?_
        refine V.sub [2, 3, 4, 5, 1, 0] rfl ?_
        exact ih σ42_1 x1 x2 x4 (x5 + r42_1) (x6 + (1 : Int32)) hf
set_option maxRecDepth 4000 in
theorem w_M_tints {E : Ev} {g : Gx} {r : Int32} {σ' : St} (C : Cx E classes 7 (wM g) b_M_tints "WithTheRedsModel" 7) (hR : RetI E classes 7 (wM g) b_M_tints r σ') {σ : St} {a1 : Int32} {a2 : Int32} {a3 : Int32} (hf : f_M_tints σ a1 a2 a3 = some (r, σ')) : V E classes 7 (wM g) σ 0 [(0, .ref (g.2.1 0)), (1, .int a1), (2, .int a2), (3, .int a3)] [] := by
  unfold f_M_tints at hf
  refine V_aload_n C 0 d_M_tints_0 rfl ?_
  refine V_iload_n C 1 d_M_tints_1 rfl ?_
  refine V_iload_n C 2 d_M_tints_2 rfl ?_
  refine V_iload_n C 3 d_M_tints_3 rfl ?_
  obtain ⟨r4_1, σ4_1, hg, hf⟩ := bd2_of hf
  refine V_callVi C [.int a1, .int a2, .int a3] (c_M_loose C.2.2.2.2.2.2.2.1 hg) (by decide) cw_M_277 0 rfl rfl rfl rfl (Nat.le_of_ble_eq_true rfl) rfl d_M_tints_4 ?_
  refine V_istore C d_M_tints_7 (by decide) rfl ?_
  refine V_iconst (v := 0) C d_M_tints_9 (by decide) ?_
  refine V_istore C d_M_tints_10 (by decide) rfl ?_
  refine V_iconst (v := 0) C d_M_tints_12 (by decide) ?_
  refine V_istore C d_M_tints_13 (by decide) rfl ?_
  refine V.sub [3, 4, 5, 2, 1, 0] rfl ?_
  exact w_M_tints_15 C hR FU σ4_1 a1 a2 r4_1 (0 : Int32) (0 : Int32) hf
theorem c_M_tints {l : Launch} {g : Gx} (hok : Wok classes (wM g)) {σ : St} {a1 : Int32} {a2 : Int32} {a3 : Int32} {r : Int32} {σ' : St} (hf : f_M_tints σ a1 a2 a3 = some (r, σ')) : CtI classes l y_M_tints b_M_tints 7 (some .int) 7 (wM g) [.ref (g.2.1 0), .int a1, .int a2, .int a3] σ r σ' :=
  MetI (by decide +kernel) hok (Nat.le_of_ble_eq_true rfl) (fun E _ C hR => w_M_tints C hR hf)
set_option maxRecDepth 4000 in
theorem w_M_heapTints_5 {E : Ev} {g : Gx} {r : Int32} {σ' : St} (C : Cx E classes 5 (wM g) b_M_heapTints "WithTheRedsModel" 8) (hR : RetI E classes 5 (wM g) b_M_heapTints r σ') : ∀ (n : Nat) (σ : St) (x1 : Int32) (x2 : Int32) (x3 : Int32) (x4 : Int32), f_M_heapTints_5 n σ x1 x2 x3 x4 = some (r, σ') → V E classes 5 (wM g) σ 5 [(0, .ref (g.2.1 0)), (1, .int x1), (2, .int x2), (3, .int x3), (4, .int x4)] [] := by
  intro n
  induction n with
  | zero => intro σ x1 x2 x3 x4 hf; exact absurd hf (by unfold f_M_heapTints_5; exact nofun)
  | succ n ih =>
    intro σ x1 x2 x3 x4 hf
    unfold f_M_heapTints_5 at hf
    refine V_iload C 4 d_M_heapTints_5 rfl ?_
    refine V_iload_n C 1 d_M_heapTints_7 rfl ?_
    refine V_icmp_ge (pc := 8) (tgt := 64) C d_M_heapTints_8 (by decide) hf (fun hf => ?_) (fun hf => ?_)
    · refine V_iload_n C 3 d_M_heapTints_64 rfl ?_
      exact V_iretW hR hf d_M_heapTints_65
    · refine V_aload_n C 0 d_M_heapTints_11 rfl ?_
      refine V_aload_n C 0 d_M_heapTints_12 rfl ?_
      refine gM_M_heap C fl_M_85 d_M_heapTints_13 ?_
      refine V_iload C 4 d_M_heapTints_16 rfl ?_
      obtain ⟨hi18_1, hf⟩ := gu hf
      refine aM_21 (v := σ.2.1 21 x4.toNatClampNeg) C hi18_1 rfl d_M_heapTints_18 ?_
      obtain ⟨r19_2, hg, hf⟩ := bd hf
      refine V_callVi C [.int (σ.2.1 21 x4.toNatClampNeg)] (c_M_goesSo C.2.2.2.2.2.2.2.1 hg) (by decide) cw_M_283 0 rfl rfl rfl rfl (Nat.le_of_ble_eq_true rfl) rfl d_M_heapTints_19 ?_
      refine V_if_eq (pc := 22) (tgt := 40) C d_M_heapTints_22 (by decide) hf (fun hf => ?_) (fun hf => ?_)
      · refine V_iconst (v := -1) C d_M_heapTints_40 (by decide) ?_
        exact V_iretW hR hf d_M_heapTints_41
      · refine V_aload_n C 0 d_M_heapTints_25 rfl ?_
        refine V_aload_n C 0 d_M_heapTints_26 rfl ?_
        refine gM_M_heap C fl_M_85 d_M_heapTints_27 ?_
        refine V_iload C 4 d_M_heapTints_30 rfl ?_
        obtain ⟨hi32_3, hf⟩ := gu hf
        refine aM_21 (v := σ.2.1 21 x4.toNatClampNeg) C hi32_3 rfl d_M_heapTints_32 ?_
        refine V_iload_n C 2 d_M_heapTints_33 rfl ?_
        obtain ⟨r34_4, hg, hf⟩ := bd hf
        refine V_callVi C [.int (σ.2.1 21 x4.toNatClampNeg), .int x2] (c_M_spoilt C.2.2.2.2.2.2.2.1 hg) (by decide) cw_M_286 0 rfl rfl rfl rfl (Nat.le_of_ble_eq_true rfl) rfl d_M_heapTints_34 ?_
        refine V_if_eq (pc := 37) (tgt := 42) C d_M_heapTints_37 (by decide) hf (fun hf => ?_) (fun hf => ?_)
        · refine V_iload_n C 3 d_M_heapTints_42 rfl ?_
          refine V_aload_n C 0 d_M_heapTints_43 rfl ?_
          refine V_aload_n C 0 d_M_heapTints_44 rfl ?_
          refine gM_M_heap C fl_M_85 d_M_heapTints_45 ?_
          refine V_iload C 4 d_M_heapTints_48 rfl ?_
          obtain ⟨hi50_5, hf⟩ := gu hf
          refine aM_21 (v := σ.2.1 21 x4.toNatClampNeg) C hi50_5 rfl d_M_heapTints_50 ?_
          refine V_iload_n C 2 d_M_heapTints_51 rfl ?_
          refine V_iconst (v := 0) C d_M_heapTints_52 (by decide) ?_
          obtain ⟨r53_6, σ53_6, hg, hf⟩ := bd2_of hf
          refine V_callVi C [.int (σ.2.1 21 x4.toNatClampNeg), .int x2, .int (0 : Int32)] (c_M_tints C.2.2.2.2.2.2.2.1 hg) (by decide) cw_M_298 0 rfl rfl rfl rfl (Nat.le_of_ble_eq_true rfl) rfl d_M_heapTints_53 ?_
          refine V_iadd C d_M_heapTints_56 ?_
          refine V_istore_n C d_M_heapTints_57 (by decide) rfl ?_
          refine V_iinc (v := x4 + (1 : Int32)) C 4 d_M_heapTints_58 rfl rfl (by decide) rfl ?_
          refine V_goto (pc := 61) (tgt := 5) C d_M_heapTints_61 (by decide) ?_
          refine V.sub [2, 3, 4, 1, 0] rfl ?_
          exact ih σ53_6 x1 x2 (x3 + r53_6) (x4 + (1 : Int32)) hf
        · refine V_iconst (v := -1) C d_M_heapTints_40 (by decide) ?_
          exact V_iretW hR hf d_M_heapTints_41
set_option maxRecDepth 4000 in
theorem w_M_heapTints {E : Ev} {g : Gx} {r : Int32} {σ' : St} (C : Cx E classes 5 (wM g) b_M_heapTints "WithTheRedsModel" 8) (hR : RetI E classes 5 (wM g) b_M_heapTints r σ') {σ : St} {a1 : Int32} {a2 : Int32} (hf : f_M_heapTints σ a1 a2 = some (r, σ')) : V E classes 5 (wM g) σ 0 [(0, .ref (g.2.1 0)), (1, .int a1), (2, .int a2)] [] := by
  unfold f_M_heapTints at hf
  refine V_iconst (v := 0) C d_M_heapTints_0 (by decide) ?_
  refine V_istore_n C d_M_heapTints_1 (by decide) rfl ?_
  refine V_iconst (v := 0) C d_M_heapTints_2 (by decide) ?_
  refine V_istore C d_M_heapTints_3 (by decide) rfl ?_
  refine V.sub [2, 3, 4, 1, 0] rfl ?_
  exact w_M_heapTints_5 C hR FU σ a1 a2 (0 : Int32) (0 : Int32) hf
theorem c_M_heapTints {l : Launch} {g : Gx} (hok : Wok classes (wM g)) {σ : St} {a1 : Int32} {a2 : Int32} {r : Int32} {σ' : St} (hf : f_M_heapTints σ a1 a2 = some (r, σ')) : CtI classes l y_M_heapTints b_M_heapTints 5 (some .int) 8 (wM g) [.ref (g.2.1 0), .int a1, .int a2] σ r σ' :=
  MetI (by decide +kernel) hok (Nat.le_of_ble_eq_true rfl) (fun E _ C hR => w_M_heapTints C hR hf)
set_option maxRecDepth 4000 in
theorem w_M_goCost_137 {E : Ev} {g : Gx} {σ' : St} {rec : St → Int32 → Int32 → Int32 → Int32 → Option St} {D : Nat} (hD : 9 ≤ D) (hrec : ∀ {l : Launch} {σ : St} {a1 : Int32} {a2 : Int32} {a3 : Int32} {a4 : Int32} {σ' : St}, rec σ a1 a2 a3 a4 = some σ' → CtV classes l y_M_goCost b_M_goCost 7 none D (wM g) [.ref (g.2.1 0), .int a1, .int a2, .int a3, .int a4] σ σ') (C : Cx E classes 7 (wM g) b_M_goCost "WithTheRedsModel" (D + 1)) (hR : RetV E classes 7 (wM g) b_M_goCost σ') {k71 : St → Int32 → Int32 → Int32 → Int32 → Int32 → Option St} (hk71 : ∀ (σ : St) (x1 : Int32) (x2 : Int32) (x3 : Int32) (x4 : Int32) (x5 : Int32), k71 σ x1 x2 x3 x4 x5 = some σ' → V E classes 7 (wM g) σ 71 [(0, .ref (g.2.1 0)), (1, .int x1), (2, .int x2), (3, .int x3), (4, .int x4), (5, .int x5)] []) : ∀ (σ : St) (x1 : Int32) (x2 : Int32) (x3 : Int32) (x4 : Int32) (x5 : Int32) (x6 : Int32) (y0 : Int32) (y1 : Int32) (y2 : Int32), f_M_goCost_137 rec k71 σ x1 x2 x3 x4 x5 x6 y0 y1 y2 = some σ' → V E classes 7 (wM g) σ 137 [(0, .ref (g.2.1 0)), (1, .int x1), (2, .int x2), (3, .int x3), (4, .int x4), (5, .int x5), (6, .int x6)] [.int y0, .int y1, .int y2, .ref (g.2.1 0)] := by
  intro σ x1 x2 x3 x4 x5 x6 y0 y1 y2 hf
  unfold f_M_goCost_137 at hf
  refine V_iload C 4 d_M_goCost_137 rfl ?_
  obtain ⟨σ139_1, hg, hf⟩ := bd hf
  refine V_callVv C [.int y2, .int y1, .int y0, .int x4] (hrec hg) (by omega) cw_M_327 0 rfl rfl rfl rfl (Nat.le_of_ble_eq_true rfl) rfl d_M_goCost_139 ?_
  refine V_aload_n C 0 d_M_goCost_142 rfl ?_
  refine gM_M_heap C fl_M_85 d_M_goCost_143 ?_
  refine V_iload C 5 d_M_goCost_146 rfl ?_
  refine V_iload C 6 d_M_goCost_148 rfl ?_
  obtain ⟨hi150_2, hf⟩ := gu hf
  refine sM_21 C hi150_2 d_M_goCost_150 ?_
  refine V_iinc (v := x5 + (1 : Int32)) C 5 d_M_goCost_151 rfl rfl (by decide) rfl ?_
  refine V_goto (pc := 154) (tgt := 71) C d_M_goCost_154 (by decide) ?_
  refine V.sub [1, 2, 3, 4, 5, 0] rfl ?_
  exact hk71 (upA σ139_1 21 x5.toNatClampNeg x6) x1 x2 x3 x4 (x5 + (1 : Int32)) hf
set_option maxRecDepth 4000 in
theorem w_M_goCost_104 {E : Ev} {g : Gx} {σ' : St} {rec : St → Int32 → Int32 → Int32 → Int32 → Option St} {D : Nat} (hD : 9 ≤ D) (hrec : ∀ {l : Launch} {σ : St} {a1 : Int32} {a2 : Int32} {a3 : Int32} {a4 : Int32} {σ' : St}, rec σ a1 a2 a3 a4 = some σ' → CtV classes l y_M_goCost b_M_goCost 7 none D (wM g) [.ref (g.2.1 0), .int a1, .int a2, .int a3, .int a4] σ σ') (C : Cx E classes 7 (wM g) b_M_goCost "WithTheRedsModel" (D + 1)) (hR : RetV E classes 7 (wM g) b_M_goCost σ') {k71 : St → Int32 → Int32 → Int32 → Int32 → Int32 → Option St} (hk71 : ∀ (σ : St) (x1 : Int32) (x2 : Int32) (x3 : Int32) (x4 : Int32) (x5 : Int32), k71 σ x1 x2 x3 x4 x5 = some σ' → V E classes 7 (wM g) σ 71 [(0, .ref (g.2.1 0)), (1, .int x1), (2, .int x2), (3, .int x3), (4, .int x4), (5, .int x5)] []) : ∀ (σ : St) (x1 : Int32) (x2 : Int32) (x3 : Int32) (x4 : Int32) (x5 : Int32) (y0 : Int32), f_M_goCost_104 rec k71 σ x1 x2 x3 x4 x5 y0 = some σ' → V E classes 7 (wM g) σ 104 [(0, .ref (g.2.1 0)), (1, .int x1), (2, .int x2), (3, .int x3), (4, .int x4), (5, .int x5)] [.int y0] := by
  intro σ x1 x2 x3 x4 x5 y0 hf
  unfold f_M_goCost_104 at hf
  refine V_istore C d_M_goCost_104 (by decide) rfl ?_
  refine V_aload_n C 1 d_M_goCost_106 rfl ?_
  refine gM_M_heap C fl_M_85 d_M_goCost_107 ?_
  refine V_iload C 6 d_M_goCost_110 rfl ?_
  refine V_iload C 0 d_M_goCost_112 rfl ?_
  refine V_iconst (v := 1) C d_M_goCost_114 (by decide) ?_
  refine V_iload_n C 3 d_M_goCost_115 rfl ?_
  refine V_ishl C d_M_goCost_116 ?_
  refine V_ior C d_M_goCost_117 ?_
  obtain ⟨hi118_1, hf⟩ := gu hf
  refine sM_21 C hi118_1 d_M_goCost_118 ?_
  refine V_aload_n C 1 d_M_goCost_119 rfl ?_
  refine V_iload_n C 2 d_M_goCost_120 rfl ?_
  refine V_iload_n C 3 d_M_goCost_121 rfl ?_
  refine V_iconst (v := 1) C d_M_goCost_122 (by decide) ?_
  refine V_iadd C d_M_goCost_123 ?_
  refine V_iload C 6 d_M_goCost_124 rfl ?_
  refine V_iload_n C 4 d_M_goCost_126 rfl ?_
  refine V_icmp_ne (pc := 127) (tgt := 136) C d_M_goCost_127 (by decide) hf (fun hf => ?_) (fun hf => ?_)
  · refine V_iload_n C 4 d_M_goCost_136 rfl ?_
    refine V.sub [1, 2, 3, 4, 5, 6, 0] rfl ?_
    exact w_M_goCost_137 hD hrec C hR hk71 (upA σ 21 x5.toNatClampNeg (y0 ||| ((1 : Int32) <<< (x2 &&& 31)))) x1 x2 x3 x4 x5 y0 x3 (x2 + (1 : Int32)) x1 hf
  · refine V_iload_n C 4 d_M_goCost_130 rfl ?_
    refine V_iconst (v := 1) C d_M_goCost_131 (by decide) ?_
    refine V_iadd C d_M_goCost_132 ?_
    refine V_goto (pc := 133) (tgt := 137) C d_M_goCost_133 (by decide) ?_
    refine V.sub [1, 2, 3, 4, 5, 6, 0] rfl ?_
    exact w_M_goCost_137 hD hrec C hR hk71 (upA σ 21 x5.toNatClampNeg (y0 ||| ((1 : Int32) <<< (x2 &&& 31)))) x1 x2 x3 x4 x5 y0 (x3 + (1 : Int32)) (x2 + (1 : Int32)) x1 hf
set_option maxRecDepth 4000 in
theorem w_M_goCost_71 {E : Ev} {g : Gx} {σ' : St} {rec : St → Int32 → Int32 → Int32 → Int32 → Option St} {D : Nat} (hD : 9 ≤ D) (hrec : ∀ {l : Launch} {σ : St} {a1 : Int32} {a2 : Int32} {a3 : Int32} {a4 : Int32} {σ' : St}, rec σ a1 a2 a3 a4 = some σ' → CtV classes l y_M_goCost b_M_goCost 7 none D (wM g) [.ref (g.2.1 0), .int a1, .int a2, .int a3, .int a4] σ σ') (C : Cx E classes 7 (wM g) b_M_goCost "WithTheRedsModel" (D + 1)) (hR : RetV E classes 7 (wM g) b_M_goCost σ') : ∀ (n : Nat) (σ : St) (x1 : Int32) (x2 : Int32) (x3 : Int32) (x4 : Int32) (x5 : Int32), f_M_goCost_71 rec n σ x1 x2 x3 x4 x5 = some σ' → V E classes 7 (wM g) σ 71 [(0, .ref (g.2.1 0)), (1, .int x1), (2, .int x2), (3, .int x3), (4, .int x4), (5, .int x5)] [] := by
  intro n
  induction n with
  | zero => intro σ x1 x2 x3 x4 x5 hf; exact absurd hf (by unfold f_M_goCost_71; exact nofun)
  | succ n ih =>
    intro σ x1 x2 x3 x4 x5 hf
    unfold f_M_goCost_71 at hf
    refine V_iload C 5 d_M_goCost_71 rfl ?_
    refine V_iload_n C 3 d_M_goCost_73 rfl ?_
    refine V_icmp_gt (pc := 74) (tgt := 157) C d_M_goCost_74 (by decide) hf (fun hf => ?_) (fun hf => ?_)
    · exact V_vret hR hf d_M_goCost_157
    · refine V_iload C 5 d_M_goCost_77 rfl ?_
      refine V_iload C 4 d_M_goCost_79 rfl ?_
      refine V_bipush (v := 10) C d_M_goCost_81 (by decide) ?_
      refine V_irem C d_M_goCost_83 (by decide) ?_
      refine V_icmp_ge (pc := 84) (tgt := 157) C d_M_goCost_84 (by decide) hf (fun hf => ?_) (fun hf => ?_)
      · exact V_vret hR hf d_M_goCost_157
      · refine V_iload C 5 d_M_goCost_87 rfl ?_
        refine V_iload_n C 3 d_M_goCost_89 rfl ?_
        refine V_icmp_ne (pc := 90) (tgt := 97) C d_M_goCost_90 (by decide) hf (fun hf => ?_) (fun hf => ?_)
        · refine V_aload_n C 0 d_M_goCost_97 rfl ?_
          refine gM_M_heap C fl_M_85 d_M_goCost_98 ?_
          refine V_iload C 5 d_M_goCost_101 rfl ?_
          obtain ⟨hi103_1, hf⟩ := gu hf
          refine aM_21 (v := σ.2.1 21 x5.toNatClampNeg) C hi103_1 rfl d_M_goCost_103 ?_
          exact w_M_goCost_104 hD hrec C hR ih σ x1 x2 x3 x4 x5 (σ.2.1 21 x5.toNatClampNeg) hf
        · refine V_iconst (v := 0) C d_M_goCost_93 (by decide) ?_
          refine V_goto (pc := 94) (tgt := 104) C d_M_goCost_94 (by decide) ?_
          exact w_M_goCost_104 hD hrec C hR ih σ x1 x2 x3 x4 x5 (0 : Int32) hf
set_option maxRecDepth 4000 in
theorem w_M_goCost_F {E : Ev} {g : Gx} {σ' : St} {rec : St → Int32 → Int32 → Int32 → Int32 → Option St} {D : Nat} (hD : 9 ≤ D) (hrec : ∀ {l : Launch} {σ : St} {a1 : Int32} {a2 : Int32} {a3 : Int32} {a4 : Int32} {σ' : St}, rec σ a1 a2 a3 a4 = some σ' → CtV classes l y_M_goCost b_M_goCost 7 none D (wM g) [.ref (g.2.1 0), .int a1, .int a2, .int a3, .int a4] σ σ') (C : Cx E classes 7 (wM g) b_M_goCost "WithTheRedsModel" (D + 1)) (hR : RetV E classes 7 (wM g) b_M_goCost σ') {σ : St} {a1 : Int32} {a2 : Int32} {a3 : Int32} {a4 : Int32} (hf : f_M_goCost_F rec σ a1 a2 a3 a4 = some σ') : V E classes 7 (wM g) σ 0 [(0, .ref (g.2.1 0)), (1, .int a1), (2, .int a2), (3, .int a3), (4, .int a4)] [] := by
  unfold f_M_goCost_F at hf
  refine V_iload_n C 2 d_M_goCost_0 rfl ?_
  refine V_aload_n C 0 d_M_goCost_1 rfl ?_
  refine gM_M_things (v := σ.1 1) C fl_M_150 rfl d_M_goCost_2 ?_
  refine V_icmp_ne (pc := 5) (tgt := 48) C d_M_goCost_5 (by decide) hf (fun hf => ?_) (fun hf => ?_)
  · refine V_iload_n C 1 d_M_goCost_48 rfl ?_
    refine V_iload_n C 2 d_M_goCost_49 rfl ?_
    refine V_ishr C d_M_goCost_50 ?_
    refine V_iconst (v := 1) C d_M_goCost_51 (by decide) ?_
    refine V_iand C d_M_goCost_52 ?_
    refine V_if_ne (pc := 53) (tgt := 68) C d_M_goCost_53 (by decide) hf (fun hf => ?_) (fun hf => ?_)
    · refine V_iconst (v := 0) C d_M_goCost_68 (by decide) ?_
      refine V_istore C d_M_goCost_69 (by decide) rfl ?_
      refine V.sub [1, 2, 3, 4, 5, 0] rfl ?_
      exact w_M_goCost_71 hD hrec C hR FU σ a1 a2 a3 a4 (0 : Int32) hf
    · refine V_aload_n C 0 d_M_goCost_56 rfl ?_
      refine V_iload_n C 1 d_M_goCost_57 rfl ?_
      refine V_iload_n C 2 d_M_goCost_58 rfl ?_
      refine V_iconst (v := 1) C d_M_goCost_59 (by decide) ?_
      refine V_iadd C d_M_goCost_60 ?_
      refine V_iload_n C 3 d_M_goCost_61 rfl ?_
      refine V_iload C 4 d_M_goCost_62 rfl ?_
      obtain ⟨σ64_1, hg, hf⟩ := bd hf
      refine V_callVv C [.int a1, .int (a2 + (1 : Int32)), .int a3, .int a4] (hrec hg) (by omega) cw_M_327 0 rfl rfl rfl rfl (Nat.le_of_ble_eq_true rfl) rfl d_M_goCost_64 ?_
      exact V_vret hR hf d_M_goCost_67
  · refine V_aload_n C 0 d_M_goCost_8 rfl ?_
    refine V_iload_n C 3 d_M_goCost_9 rfl ?_
    refine V_iload C 4 d_M_goCost_10 rfl ?_
    refine V_bipush (v := 10) C d_M_goCost_12 (by decide) ?_
    refine V_idiv C d_M_goCost_14 (by decide) ?_
    obtain ⟨r15_2, σ15_2, hg, hf⟩ := bd2_of hf
    refine V_callVi C [.int a3, .int (a4 / (10 : Int32))] (c_M_heapTints C.2.2.2.2.2.2.2.1 hg) (by omega) cw_M_321 0 rfl rfl rfl rfl (Nat.le_of_ble_eq_true rfl) rfl d_M_goCost_15 ?_
    refine V_istore C d_M_goCost_18 (by decide) rfl ?_
    refine V_iload C 0 d_M_goCost_20 rfl ?_
    refine V_if_lt (pc := 22) (tgt := 47) C d_M_goCost_22 (by decide) hf (fun hf => ?_) (fun hf => ?_)
    · exact V_vret hR hf d_M_goCost_47
    · refine V_aload_n C 1 d_M_goCost_25 rfl ?_
      refine gM_M_leastTints (v := σ15_2.1 38) C fl_M_324 rfl d_M_goCost_26 ?_
      refine V_if_lt (pc := 29) (tgt := 41) C d_M_goCost_29 (by decide) hf (fun hf => ?_) (fun hf => ?_)
      · refine V_aload_n C 1 d_M_goCost_41 rfl ?_
        refine V_iload C 0 d_M_goCost_42 rfl ?_
        refine pM_M_leastTints C fl_M_324 d_M_goCost_44 ?_
        exact V_vret hR hf d_M_goCost_47
      · refine V_iload C 0 d_M_goCost_32 rfl ?_
        refine V_aload_n C 1 d_M_goCost_34 rfl ?_
        refine gM_M_leastTints (v := σ15_2.1 38) C fl_M_324 rfl d_M_goCost_35 ?_
        refine V_icmp_ge (pc := 38) (tgt := 47) C d_M_goCost_38 (by decide) hf (fun hf => ?_) (fun hf => ?_)
        · exact V_vret hR hf d_M_goCost_47
        · refine V_aload_n C 1 d_M_goCost_41 rfl ?_
          refine V_iload C 0 d_M_goCost_42 rfl ?_
          refine pM_M_leastTints C fl_M_324 d_M_goCost_44 ?_
          exact V_vret hR hf d_M_goCost_47
theorem c_M_goCost_F {l : Launch} {g : Gx} (hok : Wok classes (wM g)) {rec : St → Int32 → Int32 → Int32 → Int32 → Option St} {D : Nat} (hD : 9 ≤ D) (hrec : ∀ {l : Launch} {σ : St} {a1 : Int32} {a2 : Int32} {a3 : Int32} {a4 : Int32} {σ' : St}, rec σ a1 a2 a3 a4 = some σ' → CtV classes l y_M_goCost b_M_goCost 7 none D (wM g) [.ref (g.2.1 0), .int a1, .int a2, .int a3, .int a4] σ σ') {σ : St} {a1 : Int32} {a2 : Int32} {a3 : Int32} {a4 : Int32} {σ' : St} (hf : f_M_goCost_F rec σ a1 a2 a3 a4 = some σ') : CtV classes l y_M_goCost b_M_goCost 7 none (D + 1) (wM g) [.ref (g.2.1 0), .int a1, .int a2, .int a3, .int a4] σ σ' :=
  MetV (by decide +kernel) hok (Nat.le_of_ble_eq_true rfl) (fun E _ C hR => w_M_goCost_F hD hrec C hR hf)
theorem c_M_goCost {l : Launch} {g : Gx} (hok : Wok classes (wM g)) (n : Nat) {σ : St} {a1 : Int32} {a2 : Int32} {a3 : Int32} {a4 : Int32} {σ' : St} (hf : f_M_goCost n σ a1 a2 a3 a4 = some σ') : CtV classes l y_M_goCost b_M_goCost 7 none (9 + 1 * n) (wM g) [.ref (g.2.1 0), .int a1, .int a2, .int a3, .int a4] σ σ' := by
  induction n generalizing l σ a1 a2 a3 a4 σ' with
  | zero => exact absurd hf (by unfold f_M_goCost; exact nofun)
  | succ n ih => exact c_M_goCost_F hok (D := 9 + 1 * n) (by omega) (fun h => ih h) hf
set_option maxRecDepth 4000 in
theorem w_M_cost {E : Ev} {g : Gx} {r : Int32} {σ' : St} (C : Cx E classes 4 (wM g) b_M_cost "WithTheRedsModel" 30) (hR : RetI E classes 4 (wM g) b_M_cost r σ') {σ : St} {a1 : Int32} {a2 : Int32} {a3 : Int32} (hf : f_M_cost σ a1 a2 a3 = some (r, σ')) : V E classes 4 (wM g) σ 0 [(0, .ref (g.2.1 0)), (1, .int a1), (2, .int a2), (3, .int a3)] [] := by
  unfold f_M_cost at hf
  refine V_aload_n C 0 d_M_cost_0 rfl ?_
  refine V_iload_n C 1 d_M_cost_1 rfl ?_
  obtain ⟨r2_1, hg, hf⟩ := bd hf
  refine V_callVi C [.int a1] (c_M_areThings C.2.2.2.2.2.2.2.1 hg) (by decide) cw_M_289 0 rfl rfl rfl rfl (Nat.le_of_ble_eq_true rfl) rfl d_M_cost_2 ?_
  refine V_if_eq (pc := 5) (tgt := 45) C d_M_cost_5 (by decide) hf (fun hf => ?_) (fun hf => ?_)
  · refine V_iconst (v := -1) C d_M_cost_45 (by decide) ?_
    exact V_iretW hR hf d_M_cost_46
  · refine V_iload_n C 2 d_M_cost_8 rfl ?_
    refine V_if_lt (pc := 9) (tgt := 45) C d_M_cost_9 (by decide) hf (fun hf => ?_) (fun hf => ?_)
    · refine V_iconst (v := -1) C d_M_cost_45 (by decide) ?_
      exact V_iretW hR hf d_M_cost_46
    · refine V_iload_n C 2 d_M_cost_12 rfl ?_
      refine V_bipush (v := 10) C d_M_cost_13 (by decide) ?_
      refine V_idiv C d_M_cost_15 (by decide) ?_
      obtain ⟨r16_2, hg, hf⟩ := bd hf
      refine V_callSi C [.int (a2 / (10 : Int32))] (c_M_isHeat C.2.2.2.2.2.2.2.1 hg) (by decide) cw_M_271 rfl (Nat.le_of_ble_eq_true rfl) rfl d_M_cost_16 ?_
      refine V_if_eq (pc := 19) (tgt := 45) C d_M_cost_19 (by decide) hf (fun hf => ?_) (fun hf => ?_)
      · refine V_iconst (v := -1) C d_M_cost_45 (by decide) ?_
        exact V_iretW hR hf d_M_cost_46
      · refine V_iload_n C 2 d_M_cost_22 rfl ?_
        refine V_bipush (v := 10) C d_M_cost_23 (by decide) ?_
        refine V_irem C d_M_cost_25 (by decide) ?_
        refine V_iconst (v := 1) C d_M_cost_26 (by decide) ?_
        refine V_bipush (v := 6) C d_M_cost_27 (by decide) ?_
        obtain ⟨r29_3, hg, hf⟩ := bd hf
        refine V_callSi C [.int (irem a2 (10 : Int32)), .int (1 : Int32), .int (6 : Int32)] (c_M_in C.2.2.2.2.2.2.2.1 hg) (by decide) cw_M_153 rfl (Nat.le_of_ble_eq_true rfl) rfl d_M_cost_29 ?_
        refine V_if_eq (pc := 32) (tgt := 45) C d_M_cost_32 (by decide) hf (fun hf => ?_) (fun hf => ?_)
        · refine V_iconst (v := -1) C d_M_cost_45 (by decide) ?_
          exact V_iretW hR hf d_M_cost_46
        · refine V_iload_n C 3 d_M_cost_35 rfl ?_
          refine V_iconst (v := 0) C d_M_cost_36 (by decide) ?_
          refine V_bipush (v := 99) C d_M_cost_37 (by decide) ?_
          obtain ⟨r39_4, hg, hf⟩ := bd hf
          refine V_callSi C [.int a3, .int (0 : Int32), .int (99 : Int32)] (c_M_in C.2.2.2.2.2.2.2.1 hg) (by decide) cw_M_153 rfl (Nat.le_of_ble_eq_true rfl) rfl d_M_cost_39 ?_
          refine V_if_ne (pc := 42) (tgt := 47) C d_M_cost_42 (by decide) hf (fun hf => ?_) (fun hf => ?_)
          · refine V_iload_n C 1 d_M_cost_47 rfl ?_
            obtain ⟨r48_5, hg, hf⟩ := bd hf
            refine V_callSi C [.int a1] (c_M_bitsOf C.2.2.2.2.2.2.2.1 hg) (by decide) cw_M_318 rfl (Nat.le_of_ble_eq_true rfl) rfl d_M_cost_48 ?_
            refine V_bipush (v := 7) C d_M_cost_51 (by decide) ?_
            refine V_icmp_le (pc := 53) (tgt := 59) C d_M_cost_53 (by decide) hf (fun hf => ?_) (fun hf => ?_)
            · refine V_aload_n C 0 d_M_cost_59 rfl ?_
              refine V_iconst (v := -1) C d_M_cost_60 (by decide) ?_
              refine pM_M_leastTints C fl_M_324 d_M_cost_61 ?_
              refine V_aload_n C 0 d_M_cost_64 rfl ?_
              refine V_iload_n C 1 d_M_cost_65 rfl ?_
              refine V_iconst (v := 0) C d_M_cost_66 (by decide) ?_
              refine V_iconst (v := 0) C d_M_cost_67 (by decide) ?_
              refine V_iload_n C 2 d_M_cost_68 rfl ?_
              obtain ⟨σ69_6, hg, hf⟩ := bd hf
              refine V_callVv C [.int a1, .int (0 : Int32), .int (0 : Int32), .int a2] (c_M_goCost C.2.2.2.2.2.2.2.1 20 hg) (by decide) cw_M_327 0 rfl rfl rfl rfl (Nat.le_of_ble_eq_true rfl) rfl d_M_cost_69 ?_
              refine V_aload_n C 0 d_M_cost_72 rfl ?_
              refine gM_M_leastTints (v := σ69_6.1 38) C fl_M_324 rfl d_M_cost_73 ?_
              refine V_if_ge (pc := 76) (tgt := 84) C d_M_cost_76 (by decide) hf (fun hf => ?_) (fun hf => ?_)
              · refine V_aload_n C 0 d_M_cost_84 rfl ?_
                refine gM_M_leastTints (v := σ69_6.1 38) C fl_M_324 rfl d_M_cost_85 ?_
                refine V_iload_n C 3 d_M_cost_88 rfl ?_
                refine V_imul C d_M_cost_89 ?_
                exact V_iretW hR hf d_M_cost_90
              · refine V_bipush (v := -2) C d_M_cost_79 (by decide) ?_
                refine V_goto (pc := 81) (tgt := 90) C d_M_cost_81 (by decide) ?_
                exact V_iretW hR hf d_M_cost_90
            · refine V_bipush (v := -5) C d_M_cost_56 (by decide) ?_
              exact V_iretW hR hf d_M_cost_58
          · refine V_iconst (v := -1) C d_M_cost_45 (by decide) ?_
            exact V_iretW hR hf d_M_cost_46
theorem c_M_cost {l : Launch} {g : Gx} (hok : Wok classes (wM g)) {σ : St} {a1 : Int32} {a2 : Int32} {a3 : Int32} {r : Int32} {σ' : St} (hf : f_M_cost σ a1 a2 a3 = some (r, σ')) : CtI classes l y_M_cost b_M_cost 4 (some .int) 30 (wM g) [.ref (g.2.1 0), .int a1, .int a2, .int a3] σ r σ' :=
  MetI (by decide +kernel) hok (Nat.le_of_ble_eq_true rfl) (fun E _ C hR => w_M_cost C hR hf)
set_option maxRecDepth 4000 in
theorem w_M_leftMany_4 {E : Ev} {g : Gx} {r : Int32} {σ : St} (C : Cx E classes 3 (wM g) b_M_leftMany "WithTheRedsModel" 1) (hR : RetI E classes 3 (wM g) b_M_leftMany r σ) : ∀ (n : Nat) (x1 : Int32) (x2 : Int32), f_M_leftMany_4 n σ x1 x2 = some r → V E classes 3 (wM g) σ 4 [(0, .ref (g.2.1 0)), (1, .int x1), (2, .int x2)] [] := by
  intro n
  induction n with
  | zero => intro x1 x2 hf; exact absurd hf (by unfold f_M_leftMany_4; exact nofun)
  | succ n ih =>
    intro x1 x2 hf
    unfold f_M_leftMany_4 at hf
    refine V_iload_n C 2 d_M_leftMany_4 rfl ?_
    refine V_aload_n C 0 d_M_leftMany_5 rfl ?_
    refine gM_M_things (v := σ.1 1) C fl_M_150 rfl d_M_leftMany_6 ?_
    refine V_icmp_ge (pc := 9) (tgt := 30) C d_M_leftMany_9 (by decide) hf (fun hf => ?_) (fun hf => ?_)
    · refine V_iload_n C 1 d_M_leftMany_30 rfl ?_
      exact V_iret hR hf d_M_leftMany_31
    · refine V_aload_n C 0 d_M_leftMany_12 rfl ?_
      refine gM_M_away C fl_M_109 d_M_leftMany_13 ?_
      refine V_iload_n C 2 d_M_leftMany_16 rfl ?_
      obtain ⟨hi17_1, hf⟩ := gu hf
      refine aM_29 (v := σ.2.1 29 x2.toNatClampNeg) C hi17_1 rfl d_M_leftMany_17 ?_
      refine V_if_ne (pc := 18) (tgt := 24) C d_M_leftMany_18 (by decide) hf (fun hf => ?_) (fun hf => ?_)
      · refine V_iinc (v := x2 + (1 : Int32)) C 2 d_M_leftMany_24 rfl rfl (by decide) rfl ?_
        refine V_goto (pc := 27) (tgt := 4) C d_M_leftMany_27 (by decide) ?_
        refine V.sub [1, 2, 0] rfl ?_
        exact ih x1 (x2 + (1 : Int32)) hf
      · refine V_iinc (v := x1 + (1 : Int32)) C 1 d_M_leftMany_21 rfl rfl (by decide) rfl ?_
        refine V_iinc (v := x2 + (1 : Int32)) C 2 d_M_leftMany_24 rfl rfl (by decide) rfl ?_
        refine V_goto (pc := 27) (tgt := 4) C d_M_leftMany_27 (by decide) ?_
        refine V.sub [2, 1, 0] rfl ?_
        exact ih (x1 + (1 : Int32)) (x2 + (1 : Int32)) hf
set_option maxRecDepth 4000 in
theorem w_M_leftMany {E : Ev} {g : Gx} {r : Int32} {σ : St} (C : Cx E classes 3 (wM g) b_M_leftMany "WithTheRedsModel" 1) (hR : RetI E classes 3 (wM g) b_M_leftMany r σ) (hf : f_M_leftMany σ = some r) : V E classes 3 (wM g) σ 0 [(0, .ref (g.2.1 0))] [] := by
  unfold f_M_leftMany at hf
  refine V_iconst (v := 0) C d_M_leftMany_0 (by decide) ?_
  refine V_istore_n C d_M_leftMany_1 (by decide) rfl ?_
  refine V_iconst (v := 0) C d_M_leftMany_2 (by decide) ?_
  refine V_istore_n C d_M_leftMany_3 (by decide) rfl ?_
  refine V.sub [2, 1, 0] rfl ?_
  exact w_M_leftMany_4 C hR FU (0 : Int32) (0 : Int32) hf
theorem c_M_leftMany {l : Launch} {g : Gx} (hok : Wok classes (wM g)) {σ : St} {r : Int32} (hf : f_M_leftMany σ = some r) : CtI classes l y_M_leftMany b_M_leftMany 3 (some .int) 1 (wM g) [.ref (g.2.1 0)] σ r σ :=
  MetI (by decide +kernel) hok (Nat.le_of_ble_eq_true rfl) (fun E _ C hR => w_M_leftMany C hR hf)
set_option maxRecDepth 4000 in
theorem w_M_count {E : Ev} {g : Gx} {r : Int32} {σ : St} (C : Cx E classes 2 (wM g) b_M_count "WithTheRedsModel" 2) (hR : RetI E classes 2 (wM g) b_M_count r σ) {a1 : Int32} (hf : f_M_count σ a1 = some r) : V E classes 2 (wM g) σ 0 [(0, .ref (g.2.1 0)), (1, .int a1)] [] := by
  unfold f_M_count at hf
  refine V_iload_n C 1 d_M_count_0 rfl ?_
  by_cases hc0 : a1 = 0
  · have hf := ite_t hf hc0
    refine V_tin (off := 39) (tgt := 40) C d_M_count_1 (by rw [hc0]; decide) (by rw [hc0]; decide) (by rw [hc0]; decide) (by decide) ?_
    refine V_aload_n C 0 d_M_count_40 rfl ?_
    refine gM_M_things (v := σ.1 1) C fl_M_150 rfl d_M_count_41 ?_
    exact V_iret hR hf d_M_count_44
  have hf := ite_f hf hc0
  by_cases hc1 : a1 = 1
  · have hf := ite_t hf hc1
    refine V_tin (off := 44) (tgt := 45) C d_M_count_1 (by rw [hc1]; decide) (by rw [hc1]; decide) (by rw [hc1]; decide) (by decide) ?_
    refine V_aload_n C 0 d_M_count_45 rfl ?_
    obtain ⟨r46_1, hg, hf⟩ := bd hf
    refine V_callVi C [] (c_M_leftMany C.2.2.2.2.2.2.2.1 hg) (by decide) cw_M_373 0 rfl rfl rfl rfl (Nat.le_of_ble_eq_true rfl) rfl d_M_count_46 ?_
    exact V_iret hR hf d_M_count_49
  have hf := ite_f hf hc1
  by_cases hc2 : a1 = 2
  · have hf := ite_t hf hc2
    refine V_tin (off := 49) (tgt := 50) C d_M_count_1 (by rw [hc2]; decide) (by rw [hc2]; decide) (by rw [hc2]; decide) (by decide) ?_
    refine V_aload_n C 0 d_M_count_50 rfl ?_
    refine gM_M_taped (v := σ.1 21) C fl_M_194 rfl d_M_count_51 ?_
    exact V_iret hR hf d_M_count_54
  have hf := ite_f hf hc2
  by_cases hc3 : a1 = 3
  · have hf := ite_t hf hc3
    refine V_tin (off := 54) (tgt := 55) C d_M_count_1 (by rw [hc3]; decide) (by rw [hc3]; decide) (by rw [hc3]; decide) (by decide) ?_
    refine V_aload_n C 0 d_M_count_55 rfl ?_
    refine gM_M_doneMany (v := σ.1 14) C fl_M_174 rfl d_M_count_56 ?_
    exact V_iret hR hf d_M_count_59
  have hf := ite_f hf hc3
  by_cases hc4 : a1 = 4
  · have hf := ite_t hf hc4
    refine V_tin (off := 59) (tgt := 60) C d_M_count_1 (by rw [hc4]; decide) (by rw [hc4]; decide) (by rw [hc4]; decide) (by decide) ?_
    refine V_aload_n C 0 d_M_count_60 rfl ?_
    refine gM_M_bodies (v := σ.1 54) C fl_M_382 rfl d_M_count_61 ?_
    exact V_iret hR hf d_M_count_64
  have hf := ite_f hf hc4
  by_cases hc5 : a1 = 5
  · have hf := ite_t hf hc5
    refine V_tin (off := 64) (tgt := 65) C d_M_count_1 (by rw [hc5]; decide) (by rw [hc5]; decide) (by rw [hc5]; decide) (by decide) ?_
    refine V_aload_n C 0 d_M_count_65 rfl ?_
    refine gM_M_traces (v := σ.1 56) C fl_M_385 rfl d_M_count_66 ?_
    exact V_iret hR hf d_M_count_69
  have hf := ite_f hf hc5
  have hc0t := neT (k := 0) 0 (by decide) hc0
  have hc1t := neT (k := 1) 1 (by decide) hc1
  have hc2t := neT (k := 2) 2 (by decide) hc2
  have hc3t := neT (k := 3) 3 (by decide) hc3
  have hc4t := neT (k := 4) 4 (by decide) hc4
  have hc5t := neT (k := 5) 5 (by decide) hc5
  refine V_tout (tgt := 70) C d_M_count_1 (by omega) (by decide) ?_
  refine V_iconst (v := -1) C d_M_count_70 (by decide) ?_
  exact V_iret hR hf d_M_count_71
theorem c_M_count {l : Launch} {g : Gx} (hok : Wok classes (wM g)) {σ : St} {a1 : Int32} {r : Int32} (hf : f_M_count σ a1 = some r) : CtI classes l y_M_count b_M_count 2 (some .int) 2 (wM g) [.ref (g.2.1 0), .int a1] σ r σ :=
  MetI (by decide +kernel) hok (Nat.le_of_ble_eq_true rfl) (fun E _ C hR => w_M_count C hR hf)
set_option maxRecDepth 4000 in
theorem w_M_dayOf {E : Ev} {g : Gx} {r : Int32} {σ : St} (C : Cx E classes 6 (wM g) b_M_dayOf "WithTheRedsModel" 2) (hR : RetI E classes 6 (wM g) b_M_dayOf r σ) {a1 : Int32} {a2 : Int32} {a3 : Int32} {a4 : Int32} (hf : f_M_dayOf σ a1 a2 a3 a4 = some r) : V E classes 6 (wM g) σ 0 [(0, .ref (g.2.1 0)), (1, .int a1), (2, .int a2), (3, .int a3), (4, .int a4)] [] := by
  unfold f_M_dayOf at hf
  refine V_iload_n C 2 d_M_dayOf_0 rfl ?_
  refine V_aload_n C 0 d_M_dayOf_1 rfl ?_
  refine gM_M_size C fl_M_137 d_M_dayOf_2 ?_
  refine V_iload_n C 1 d_M_dayOf_5 rfl ?_
  obtain ⟨hi6_1, hf⟩ := gu hf
  refine aM_38 (v := σ.2.1 38 a1.toNatClampNeg) C hi6_1 rfl d_M_dayOf_6 ?_
  refine V_icmp_ge (pc := 7) (tgt := 25) C d_M_dayOf_7 (by decide) hf (fun hf => ?_) (fun hf => ?_)
  · refine V_iconst (v := -1) C d_M_dayOf_25 (by decide) ?_
    exact V_iret hR hf d_M_dayOf_26
  · refine V_aload_n C 0 d_M_dayOf_10 rfl ?_
    refine V_iload_n C 1 d_M_dayOf_11 rfl ?_
    refine V_iload_n C 2 d_M_dayOf_12 rfl ?_
    obtain ⟨r13_2, hg, hf⟩ := bd hf
    refine V_callVi C [.int a1, .int a2] (c_M_at C.2.2.2.2.2.2.2.1 hg) (by decide) cw_M_330 0 rfl rfl rfl rfl (Nat.le_of_ble_eq_true rfl) rfl d_M_dayOf_13 ?_
    refine V_iconst (v := 0) C d_M_dayOf_16 (by decide) ?_
    refine V_bipush (v := 19) C d_M_dayOf_17 (by decide) ?_
    obtain ⟨r19_3, hg, hf⟩ := bd hf
    refine V_callSi C [.int r13_2, .int (0 : Int32), .int (19 : Int32)] (c_M_in C.2.2.2.2.2.2.2.1 hg) (by decide) cw_M_153 rfl (Nat.le_of_ble_eq_true rfl) rfl d_M_dayOf_19 ?_
    refine V_if_ne (pc := 22) (tgt := 27) C d_M_dayOf_22 (by decide) hf (fun hf => ?_) (fun hf => ?_)
    · refine V_aload_n C 0 d_M_dayOf_27 rfl ?_
      refine V_iload_n C 1 d_M_dayOf_28 rfl ?_
      refine V_iload_n C 2 d_M_dayOf_29 rfl ?_
      obtain ⟨r30_4, hg, hf⟩ := bd hf
      refine V_callVi C [.int a1, .int a2] (c_M_at C.2.2.2.2.2.2.2.1 hg) (by decide) cw_M_330 0 rfl rfl rfl rfl (Nat.le_of_ble_eq_true rfl) rfl d_M_dayOf_30 ?_
      refine V_istore C d_M_dayOf_33 (by decide) rfl ?_
      refine V_iload C 0 d_M_dayOf_35 rfl ?_
      refine V_iload_n C 4 d_M_dayOf_37 rfl ?_
      refine V_icmp_ne (pc := 38) (tgt := 48) C d_M_dayOf_38 (by decide) hf (fun hf => ?_) (fun hf => ?_)
      · refine V_iload C 0 d_M_dayOf_48 rfl ?_
        refine V_iload C 5 d_M_dayOf_50 rfl ?_
        refine V_icmp_ne (pc := 52) (tgt := 58) C d_M_dayOf_52 (by decide) hf (fun hf => ?_) (fun hf => ?_)
        · refine V_iload C 0 d_M_dayOf_58 rfl ?_
          refine V_aload_n C 1 d_M_dayOf_60 rfl ?_
          refine gM_M_aDay (v := σ.1 12) C fl_M_41 rfl d_M_dayOf_61 ?_
          obtain ⟨hz, hf⟩ := gu hf
          refine V_idiv C d_M_dayOf_64 (nz_ne hz) ?_
          exact V_iret hR hf d_M_dayOf_65
        · refine V_iload_n C 4 d_M_dayOf_55 rfl ?_
          refine V_istore C d_M_dayOf_56 (by decide) rfl ?_
          refine V_iload C 0 d_M_dayOf_58 rfl ?_
          refine V_aload_n C 1 d_M_dayOf_60 rfl ?_
          refine gM_M_aDay (v := σ.1 12) C fl_M_41 rfl d_M_dayOf_61 ?_
          obtain ⟨hz, hf⟩ := gu hf
          refine V_idiv C d_M_dayOf_64 (nz_ne hz) ?_
          exact V_iret hR hf d_M_dayOf_65
      · refine V_iload C 5 d_M_dayOf_41 rfl ?_
        refine V_istore C d_M_dayOf_43 (by decide) rfl ?_
        refine V_goto (pc := 45) (tgt := 58) C d_M_dayOf_45 (by decide) ?_
        refine V_iload C 0 d_M_dayOf_58 rfl ?_
        refine V_aload_n C 1 d_M_dayOf_60 rfl ?_
        refine gM_M_aDay (v := σ.1 12) C fl_M_41 rfl d_M_dayOf_61 ?_
        obtain ⟨hz, hf⟩ := gu hf
        refine V_idiv C d_M_dayOf_64 (nz_ne hz) ?_
        exact V_iret hR hf d_M_dayOf_65
    · refine V_iconst (v := -1) C d_M_dayOf_25 (by decide) ?_
      exact V_iret hR hf d_M_dayOf_26
theorem c_M_dayOf {l : Launch} {g : Gx} (hok : Wok classes (wM g)) {σ : St} {a1 : Int32} {a2 : Int32} {a3 : Int32} {a4 : Int32} {r : Int32} (hf : f_M_dayOf σ a1 a2 a3 a4 = some r) : CtI classes l y_M_dayOf b_M_dayOf 6 (some .int) 2 (wM g) [.ref (g.2.1 0), .int a1, .int a2, .int a3, .int a4] σ r σ :=
  MetI (by decide +kernel) hok (Nat.le_of_ble_eq_true rfl) (fun E _ C hR => w_M_dayOf C hR hf)
set_option maxRecDepth 4000 in
theorem w_M_daysLate_6 {E : Ev} {g : Gx} {r : Int32} {σ : St} (C : Cx E classes 7 (wM g) b_M_daysLate "WithTheRedsModel" 3) (hR : RetI E classes 7 (wM g) b_M_daysLate r σ) : ∀ (n : Nat) (x1 : Int32) (x2 : Int32) (x3 : Int32) (x4 : Int32) (x5 : Int32), f_M_daysLate_6 n σ x1 x2 x3 x4 x5 = some r → V E classes 7 (wM g) σ 6 [(0, .ref (g.2.1 0)), (1, .int x1), (2, .int x2), (3, .int x3), (4, .int x4), (5, .int x5)] [] := by
  intro n
  induction n with
  | zero => intro x1 x2 x3 x4 x5 hf; exact absurd hf (by unfold f_M_daysLate_6; exact nofun)
  | succ n ih =>
    intro x1 x2 x3 x4 x5 hf
    unfold f_M_daysLate_6 at hf
    refine V_iload C 5 d_M_daysLate_6 rfl ?_
    refine V_aload_n C 0 d_M_daysLate_8 rfl ?_
    refine gM_M_things (v := σ.1 1) C fl_M_150 rfl d_M_daysLate_9 ?_
    refine V_icmp_ge (pc := 12) (tgt := 59) C d_M_daysLate_12 (by decide) hf (fun hf => ?_) (fun hf => ?_)
    · refine V_iload C 4 d_M_daysLate_59 rfl ?_
      exact V_iret hR hf d_M_daysLate_61
    · refine V_aload_n C 0 d_M_daysLate_15 rfl ?_
      refine V_iload_n C 1 d_M_daysLate_16 rfl ?_
      refine V_iload C 5 d_M_daysLate_17 rfl ?_
      refine V_iload_n C 2 d_M_daysLate_19 rfl ?_
      refine V_iload_n C 3 d_M_daysLate_20 rfl ?_
      obtain ⟨r21_1, hg, hf⟩ := bd hf
      refine V_callVi C [.int x1, .int x5, .int x2, .int x3] (c_M_dayOf C.2.2.2.2.2.2.2.1 hg) (by decide) cw_M_333 0 rfl rfl rfl rfl (Nat.le_of_ble_eq_true rfl) rfl d_M_daysLate_21 ?_
      refine V_istore C d_M_daysLate_24 (by decide) rfl ?_
      refine V_iload C 0 d_M_daysLate_26 rfl ?_
      refine V_aload_n C 1 d_M_daysLate_28 rfl ?_
      refine gM_M_by C fl_M_31 d_M_daysLate_29 ?_
      refine V_iload C 6 d_M_daysLate_32 rfl ?_
      obtain ⟨hi34_2, hf⟩ := gu hf
      refine aM_8 (v := σ.2.1 8 x5.toNatClampNeg) C hi34_2 rfl d_M_daysLate_34 ?_
      refine V_icmp_le (pc := 35) (tgt := 53) C d_M_daysLate_35 (by decide) hf (fun hf => ?_) (fun hf => ?_)
      · refine V_iinc (v := x5 + (1 : Int32)) C 6 d_M_daysLate_53 rfl rfl (by decide) rfl ?_
        refine V_goto (pc := 56) (tgt := 6) C d_M_daysLate_56 (by decide) ?_
        refine V.sub [2, 3, 4, 5, 6, 0] rfl ?_
        exact ih x1 x2 x3 x4 (x5 + (1 : Int32)) hf
      · refine V_iload C 5 d_M_daysLate_38 rfl ?_
        refine V_iload C 0 d_M_daysLate_40 rfl ?_
        refine V_aload_n C 1 d_M_daysLate_42 rfl ?_
        refine gM_M_by C fl_M_31 d_M_daysLate_43 ?_
        refine V_iload C 6 d_M_daysLate_46 rfl ?_
        obtain ⟨hi48_3, hf⟩ := gu hf
        refine aM_8 (v := σ.2.1 8 x5.toNatClampNeg) C hi48_3 rfl d_M_daysLate_48 ?_
        refine V_isub C d_M_daysLate_49 ?_
        refine V_iadd C d_M_daysLate_50 ?_
        refine V_istore C d_M_daysLate_51 (by decide) rfl ?_
        refine V_iinc (v := x5 + (1 : Int32)) C 6 d_M_daysLate_53 rfl rfl (by decide) rfl ?_
        refine V_goto (pc := 56) (tgt := 6) C d_M_daysLate_56 (by decide) ?_
        refine V.sub [3, 4, 5, 6, 1, 0] rfl ?_
        exact ih x1 x2 x3 (x4 + (r21_1 - (σ.2.1 8 x5.toNatClampNeg))) (x5 + (1 : Int32)) hf
set_option maxRecDepth 4000 in
theorem w_M_daysLate {E : Ev} {g : Gx} {r : Int32} {σ : St} (C : Cx E classes 7 (wM g) b_M_daysLate "WithTheRedsModel" 3) (hR : RetI E classes 7 (wM g) b_M_daysLate r σ) {a1 : Int32} {a2 : Int32} {a3 : Int32} (hf : f_M_daysLate σ a1 a2 a3 = some r) : V E classes 7 (wM g) σ 0 [(0, .ref (g.2.1 0)), (1, .int a1), (2, .int a2), (3, .int a3)] [] := by
  unfold f_M_daysLate at hf
  refine V_iconst (v := 0) C d_M_daysLate_0 (by decide) ?_
  refine V_istore C d_M_daysLate_1 (by decide) rfl ?_
  refine V_iconst (v := 0) C d_M_daysLate_3 (by decide) ?_
  refine V_istore C d_M_daysLate_4 (by decide) rfl ?_
  refine V.sub [2, 3, 4, 5, 1, 0] rfl ?_
  exact w_M_daysLate_6 C hR FU a1 a2 a3 (0 : Int32) (0 : Int32) hf
theorem c_M_daysLate {l : Launch} {g : Gx} (hok : Wok classes (wM g)) {σ : St} {a1 : Int32} {a2 : Int32} {a3 : Int32} {r : Int32} (hf : f_M_daysLate σ a1 a2 a3 = some r) : CtI classes l y_M_daysLate b_M_daysLate 7 (some .int) 3 (wM g) [.ref (g.2.1 0), .int a1, .int a2, .int a3] σ r σ :=
  MetI (by decide +kernel) hok (Nat.le_of_ble_eq_true rfl) (fun E _ C hR => w_M_daysLate C hR hf)
set_option maxRecDepth 4000 in
theorem w_M_drawn_65 {E : Ev} {g : Gx} {r : Int32} {σ' : St} (C : Cx E classes 10 (wM g) b_M_drawn "WithTheRedsModel" 8) (hR : RetI E classes 10 (wM g) b_M_drawn r σ') {k50 : St → Int32 → Int32 → Int32 → Int32 → Int32 → Int32 → Option (Int32 × St)} (hk50 : ∀ (σ : St) (x2 : Int32) (x3 : Int32) (x4 : Int32) (x5 : Int32) (x6 : Int32) (x7 : Int32), k50 σ x2 x3 x4 x5 x6 x7 = some (r, σ') → V E classes 10 (wM g) σ 50 [(0, .ref (g.2.1 0)), (2, .int x2), (3, .int x3), (4, .int x4), (5, .int x5), (6, .int x6), (7, .int x7)] []) : ∀ (n : Nat) (σ : St) (x2 : Int32) (x3 : Int32) (x4 : Int32) (x5 : Int32) (x6 : Int32) (x7 : Int32) (x8 : Int32) (x9 : Int32), f_M_drawn_65 k50 n σ x2 x3 x4 x5 x6 x7 x8 x9 = some (r, σ') → V E classes 10 (wM g) σ 65 [(0, .ref (g.2.1 0)), (2, .int x2), (3, .int x3), (4, .int x4), (5, .int x5), (6, .int x6), (7, .int x7), (8, .int x8), (9, .int x9)] [] := by
  intro n
  induction n with
  | zero => intro σ x2 x3 x4 x5 x6 x7 x8 x9 hf; exact absurd hf (by unfold f_M_drawn_65; exact nofun)
  | succ n ih =>
    intro σ x2 x3 x4 x5 x6 x7 x8 x9 hf
    unfold f_M_drawn_65 at hf
    refine V_iload C 8 d_M_drawn_65 rfl ?_
    refine V_aload_n C 0 d_M_drawn_67 rfl ?_
    refine gM_M_things (v := σ.1 1) C fl_M_150 rfl d_M_drawn_68 ?_
    refine V_icmp_ge (pc := 71) (tgt := 128) C d_M_drawn_71 (by decide) hf (fun hf => ?_) (fun hf => ?_)
    · refine V_iload C 4 d_M_drawn_128 rfl ?_
      refine V_aload_n C 0 d_M_drawn_130 rfl ?_
      refine V_iload C 7 d_M_drawn_131 rfl ?_
      refine V_iload_n C 1 d_M_drawn_133 rfl ?_
      refine V_bipush (v := 10) C d_M_drawn_134 (by decide) ?_
      refine V_irem C d_M_drawn_136 (by decide) ?_
      refine V_iconst (v := 0) C d_M_drawn_137 (by decide) ?_
      obtain ⟨r138_1, σ138_1, hg, hf⟩ := bd2_of hf
      refine V_callVi C [.int x8, .int (irem x2 (10 : Int32)), .int (0 : Int32)] (c_M_tints C.2.2.2.2.2.2.2.1 hg) (by decide) cw_M_298 0 rfl rfl rfl rfl (Nat.le_of_ble_eq_true rfl) rfl d_M_drawn_138 ?_
      refine V_iadd C d_M_drawn_141 ?_
      refine V_istore C d_M_drawn_142 (by decide) rfl ?_
      refine V_aload_n C 1 d_M_drawn_144 rfl ?_
      refine V_iload C 7 d_M_drawn_145 rfl ?_
      refine V_iload_n C 2 d_M_drawn_147 rfl ?_
      refine V_bipush (v := 10) C d_M_drawn_148 (by decide) ?_
      refine V_irem C d_M_drawn_150 (by decide) ?_
      obtain ⟨r151_2, hg, hf⟩ := bd hf
      refine V_callVi C [.int x8, .int (irem x2 (10 : Int32))] (c_M_spoilt C.2.2.2.2.2.2.2.1 hg) (by decide) cw_M_286 0 rfl rfl rfl rfl (Nat.le_of_ble_eq_true rfl) rfl d_M_drawn_151 ?_
      refine V_if_eq (pc := 154) (tgt := 160) C d_M_drawn_154 (by decide) hf (fun hf => ?_) (fun hf => ?_)
      · refine V_iinc (v := x7 + (1 : Int32)) C 6 d_M_drawn_160 rfl rfl (by decide) rfl ?_
        refine V_goto (pc := 163) (tgt := 50) C d_M_drawn_163 (by decide) ?_
        refine V.sub [2, 3, 4, 5, 1, 6, 0] rfl ?_
        exact hk50 σ138_1 x2 x3 x4 (x5 + r138_1) x6 (x7 + (1 : Int32)) hf
      · refine V_iinc (v := x6 + (1 : Int32)) C 5 d_M_drawn_157 rfl rfl (by decide) rfl ?_
        refine V_iinc (v := x7 + (1 : Int32)) C 6 d_M_drawn_160 rfl rfl (by decide) rfl ?_
        refine V_goto (pc := 163) (tgt := 50) C d_M_drawn_163 (by decide) ?_
        refine V.sub [3, 4, 5, 6, 2, 1, 0] rfl ?_
        exact hk50 σ138_1 x2 x3 x4 (x5 + r138_1) (x6 + (1 : Int32)) (x7 + (1 : Int32)) hf
    · refine V_iload C 3 d_M_drawn_74 rfl ?_
      refine V_ldcw C kc_M_372 d_M_drawn_76 ?_
      refine V_imul C d_M_drawn_79 ?_
      refine V_sipush (v := 12345) C d_M_drawn_80 (by decide) ?_
      refine V_iadd C d_M_drawn_83 ?_
      refine V_istore C d_M_drawn_84 (by decide) rfl ?_
      refine V_iload C 0 d_M_drawn_86 rfl ?_
      refine V_bipush (v := 8) C d_M_drawn_88 (by decide) ?_
      refine V_iushr C d_M_drawn_90 ?_
      refine V_bipush (v := 12) C d_M_drawn_91 (by decide) ?_
      refine V_irem C d_M_drawn_93 (by decide) ?_
      refine V_bipush (v := 6) C d_M_drawn_94 (by decide) ?_
      refine V_icmp_ge (pc := 96) (tgt := 122) C d_M_drawn_96 (by decide) hf (fun hf => ?_) (fun hf => ?_)
      · refine V_iinc (v := x9 + (1 : Int32)) C 8 d_M_drawn_122 rfl rfl (by decide) rfl ?_
        refine V_goto (pc := 125) (tgt := 65) C d_M_drawn_125 (by decide) ?_
        refine V.sub [2, 3, 4, 1, 5, 6, 7, 8, 0] rfl ?_
        exact ih σ x2 x3 ((x4 * (1103515245 : Int32)) + (12345 : Int32)) x5 x6 x7 x8 (x9 + (1 : Int32)) hf
      · refine V_aload_n C 1 d_M_drawn_99 rfl ?_
        refine V_iload C 7 d_M_drawn_100 rfl ?_
        refine V_iconst (v := 1) C d_M_drawn_102 (by decide) ?_
        refine V_iload C 8 d_M_drawn_103 rfl ?_
        refine V_ishl C d_M_drawn_105 ?_
        refine V_ior C d_M_drawn_106 ?_
        obtain ⟨r107_3, hg, hf⟩ := bd hf
        refine V_callVi C [.int (x8 ||| ((1 : Int32) <<< (x9 &&& 31)))] (c_M_goesSo C.2.2.2.2.2.2.2.1 hg) (by decide) cw_M_283 0 rfl rfl rfl rfl (Nat.le_of_ble_eq_true rfl) rfl d_M_drawn_107 ?_
        refine V_if_eq (pc := 110) (tgt := 122) C d_M_drawn_110 (by decide) hf (fun hf => ?_) (fun hf => ?_)
        · refine V_iinc (v := x9 + (1 : Int32)) C 8 d_M_drawn_122 rfl rfl (by decide) rfl ?_
          refine V_goto (pc := 125) (tgt := 65) C d_M_drawn_125 (by decide) ?_
          refine V.sub [2, 3, 4, 1, 5, 6, 7, 8, 0] rfl ?_
          exact ih σ x2 x3 ((x4 * (1103515245 : Int32)) + (12345 : Int32)) x5 x6 x7 x8 (x9 + (1 : Int32)) hf
        · refine V_iload C 7 d_M_drawn_113 rfl ?_
          refine V_iconst (v := 1) C d_M_drawn_115 (by decide) ?_
          refine V_iload C 8 d_M_drawn_116 rfl ?_
          refine V_ishl C d_M_drawn_118 ?_
          refine V_ior C d_M_drawn_119 ?_
          refine V_istore C d_M_drawn_120 (by decide) rfl ?_
          refine V_iinc (v := x9 + (1 : Int32)) C 8 d_M_drawn_122 rfl rfl (by decide) rfl ?_
          refine V_goto (pc := 125) (tgt := 65) C d_M_drawn_125 (by decide) ?_
          refine V.sub [3, 4, 5, 2, 6, 7, 8, 1, 0] rfl ?_
          exact ih σ x2 x3 ((x4 * (1103515245 : Int32)) + (12345 : Int32)) x5 x6 x7 (x8 ||| ((1 : Int32) <<< (x9 &&& 31))) (x9 + (1 : Int32)) hf
set_option maxRecDepth 4000 in
theorem w_M_drawn_50 {E : Ev} {g : Gx} {r : Int32} {σ' : St} (C : Cx E classes 10 (wM g) b_M_drawn "WithTheRedsModel" 8) (hR : RetI E classes 10 (wM g) b_M_drawn r σ') : ∀ (n : Nat) (σ : St) (x2 : Int32) (x3 : Int32) (x4 : Int32) (x5 : Int32) (x6 : Int32) (x7 : Int32), f_M_drawn_50 n σ x2 x3 x4 x5 x6 x7 = some (r, σ') → V E classes 10 (wM g) σ 50 [(0, .ref (g.2.1 0)), (2, .int x2), (3, .int x3), (4, .int x4), (5, .int x5), (6, .int x6), (7, .int x7)] [] := by
  intro n
  induction n with
  | zero => intro σ x2 x3 x4 x5 x6 x7 hf; exact absurd hf (by unfold f_M_drawn_50; exact nofun)
  | succ n ih =>
    intro σ x2 x3 x4 x5 x6 x7 hf
    unfold f_M_drawn_50 at hf
    refine V_iload C 6 d_M_drawn_50 rfl ?_
    refine V_iload_n C 1 d_M_drawn_52 rfl ?_
    refine V_bipush (v := 10) C d_M_drawn_53 (by decide) ?_
    refine V_idiv C d_M_drawn_55 (by decide) ?_
    refine V_icmp_ge (pc := 56) (tgt := 166) C d_M_drawn_56 (by decide) hf (fun hf => ?_) (fun hf => ?_)
    · refine V_iload_n C 2 d_M_drawn_166 rfl ?_
      refine V_if_ne (pc := 167) (tgt := 175) C d_M_drawn_167 (by decide) hf (fun hf => ?_) (fun hf => ?_)
      · refine V_iload C 5 d_M_drawn_175 rfl ?_
        exact V_iretW hR hf d_M_drawn_177
      · refine V_iload C 4 d_M_drawn_170 rfl ?_
        refine V_goto (pc := 172) (tgt := 177) C d_M_drawn_172 (by decide) ?_
        exact V_iretW hR hf d_M_drawn_177
    · refine V_iconst (v := 0) C d_M_drawn_59 (by decide) ?_
      refine V_istore C d_M_drawn_60 (by decide) rfl ?_
      refine V_iconst (v := 0) C d_M_drawn_62 (by decide) ?_
      refine V_istore C d_M_drawn_63 (by decide) rfl ?_
      refine V.sub [2, 3, 4, 5, 6, 7, 8, 1, 0] rfl ?_
      exact w_M_drawn_65 C hR ih FU σ x2 x3 x4 x5 x6 x7 (0 : Int32) (0 : Int32) hf
set_option maxRecDepth 4000 in
theorem w_M_drawn {E : Ev} {g : Gx} {r : Int32} {σ' : St} (C : Cx E classes 10 (wM g) b_M_drawn "WithTheRedsModel" 8) (hR : RetI E classes 10 (wM g) b_M_drawn r σ') {σ : St} {a1 : Int32} {a2 : Int32} {a3 : Int32} (hf : f_M_drawn σ a1 a2 a3 = some (r, σ')) : V E classes 10 (wM g) σ 0 [(0, .ref (g.2.1 0)), (1, .int a1), (2, .int a2), (3, .int a3)] [] := by
  unfold f_M_drawn at hf
  refine V_iload_n C 2 d_M_drawn_0 rfl ?_
  refine V_if_lt (pc := 1) (tgt := 36) C d_M_drawn_1 (by decide) hf (fun hf => ?_) (fun hf => ?_)
  · refine V_iconst (v := -1) C d_M_drawn_36 (by decide) ?_
    exact V_iretW hR hf d_M_drawn_37
  · refine V_iload_n C 2 d_M_drawn_4 rfl ?_
    refine V_bipush (v := 10) C d_M_drawn_5 (by decide) ?_
    refine V_idiv C d_M_drawn_7 (by decide) ?_
    refine V_iconst (v := 1) C d_M_drawn_8 (by decide) ?_
    refine V_bipush (v := 30) C d_M_drawn_9 (by decide) ?_
    obtain ⟨r11_1, hg, hf⟩ := bd hf
    refine V_callSi C [.int (a2 / (10 : Int32)), .int (1 : Int32), .int (30 : Int32)] (c_M_in C.2.2.2.2.2.2.2.1 hg) (by decide) cw_M_153 rfl (Nat.le_of_ble_eq_true rfl) rfl d_M_drawn_11 ?_
    refine V_if_eq (pc := 14) (tgt := 36) C d_M_drawn_14 (by decide) hf (fun hf => ?_) (fun hf => ?_)
    · refine V_iconst (v := -1) C d_M_drawn_36 (by decide) ?_
      exact V_iretW hR hf d_M_drawn_37
    · refine V_iload_n C 2 d_M_drawn_17 rfl ?_
      refine V_bipush (v := 10) C d_M_drawn_18 (by decide) ?_
      refine V_irem C d_M_drawn_20 (by decide) ?_
      obtain ⟨r21_2, hg, hf⟩ := bd hf
      refine V_callSi C [.int (irem a2 (10 : Int32))] (c_M_isHeat C.2.2.2.2.2.2.2.1 hg) (by decide) cw_M_271 rfl (Nat.le_of_ble_eq_true rfl) rfl d_M_drawn_21 ?_
      refine V_if_eq (pc := 24) (tgt := 36) C d_M_drawn_24 (by decide) hf (fun hf => ?_) (fun hf => ?_)
      · refine V_iconst (v := -1) C d_M_drawn_36 (by decide) ?_
        exact V_iretW hR hf d_M_drawn_37
      · refine V_iload_n C 3 d_M_drawn_27 rfl ?_
        refine V_iconst (v := 0) C d_M_drawn_28 (by decide) ?_
        refine V_iconst (v := 1) C d_M_drawn_29 (by decide) ?_
        obtain ⟨r30_3, hg, hf⟩ := bd hf
        refine V_callSi C [.int a3, .int (0 : Int32), .int (1 : Int32)] (c_M_in C.2.2.2.2.2.2.2.1 hg) (by decide) cw_M_153 rfl (Nat.le_of_ble_eq_true rfl) rfl d_M_drawn_30 ?_
        refine V_if_ne (pc := 33) (tgt := 38) C d_M_drawn_33 (by decide) hf (fun hf => ?_) (fun hf => ?_)
        · refine V_iload_n C 1 d_M_drawn_38 rfl ?_
          refine V_istore C d_M_drawn_39 (by decide) rfl ?_
          refine V_iconst (v := 0) C d_M_drawn_41 (by decide) ?_
          refine V_istore C d_M_drawn_42 (by decide) rfl ?_
          refine V_iconst (v := 0) C d_M_drawn_44 (by decide) ?_
          refine V_istore C d_M_drawn_45 (by decide) rfl ?_
          refine V_iconst (v := 0) C d_M_drawn_47 (by decide) ?_
          refine V_istore C d_M_drawn_48 (by decide) rfl ?_
          refine V.sub [4, 6, 7, 3, 2, 1, 0] rfl ?_
          exact w_M_drawn_50 C hR FU σ a2 a3 a1 (0 : Int32) (0 : Int32) (0 : Int32) hf
        · refine V_iconst (v := -1) C d_M_drawn_36 (by decide) ?_
          exact V_iretW hR hf d_M_drawn_37
theorem c_M_drawn {l : Launch} {g : Gx} (hok : Wok classes (wM g)) {σ : St} {a1 : Int32} {a2 : Int32} {a3 : Int32} {r : Int32} {σ' : St} (hf : f_M_drawn σ a1 a2 a3 = some (r, σ')) : CtI classes l y_M_drawn b_M_drawn 10 (some .int) 8 (wM g) [.ref (g.2.1 0), .int a1, .int a2, .int a3] σ r σ' :=
  MetI (by decide +kernel) hok (Nat.le_of_ble_eq_true rfl) (fun E _ C hR => w_M_drawn C hR hf)
set_option maxRecDepth 4000 in
theorem w_M_isShelf {E : Ev} {g : Gx} {r : Int32} {σ : St} (C : Cx E classes 1 (wM g) b_M_isShelf "WithTheRedsModel" 2) (hR : RetZ E classes 1 (wM g) b_M_isShelf r σ) {a0 : Int32} (hf : f_M_isShelf a0 = some r) : V E classes 1 (wM g) σ 0 [(0, .int a0)] [] := by
  unfold f_M_isShelf at hf
  refine V_iload_n C 0 d_M_isShelf_0 rfl ?_
  refine V_iconst (v := 0) C d_M_isShelf_1 (by decide) ?_
  refine V_iconst (v := 5) C d_M_isShelf_2 (by decide) ?_
  obtain ⟨r3_1, hg, hf⟩ := bd hf
  refine V_callSi C [.int a0, .int (0 : Int32), .int (5 : Int32)] (c_M_in C.2.2.2.2.2.2.2.1 hg) (by decide) cw_M_153 rfl (Nat.le_of_ble_eq_true rfl) rfl d_M_isShelf_3 ?_
  obtain ⟨hz, hf⟩ := gu hf
  exact V_zret hR hf hz d_M_isShelf_6
theorem c_M_isShelf {l : Launch} {g : Gx} (hok : Wok classes (wM g)) {σ : St} {a0 : Int32} {r : Int32} (hf : f_M_isShelf a0 = some r) : CtI classes l y_M_isShelf b_M_isShelf 1 (some .boolean) 2 (wM g) [.int a0] σ r σ :=
  MetZ (by decide +kernel) hok (Nat.le_of_ble_eq_true rfl) (fun E _ C hR => w_M_isShelf C hR hf)
set_option maxRecDepth 4000 in
theorem w_M_whyNoPlace {E : Ev} {g : Gx} {r : Int32} {σ : St} (C : Cx E classes 3 (wM g) b_M_whyNoPlace "WithTheRedsModel" 3) (hR : RetI E classes 3 (wM g) b_M_whyNoPlace r σ) {a1 : Int32} {a2 : Int32} (hf : f_M_whyNoPlace σ a1 a2 = some r) : V E classes 3 (wM g) σ 0 [(0, .ref (g.2.1 0)), (1, .int a1), (2, .int a2)] [] := by
  unfold f_M_whyNoPlace at hf
  refine V_iload_n C 1 d_M_whyNoPlace_0 rfl ?_
  obtain ⟨r1_1, hg, hf⟩ := bd hf
  refine V_callSi C [.int a1] (c_M_isShelf C.2.2.2.2.2.2.2.1 hg) (by decide) cw_M_161 rfl (Nat.le_of_ble_eq_true rfl) rfl d_M_whyNoPlace_1 ?_
  refine V_if_ne (pc := 4) (tgt := 9) C d_M_whyNoPlace_4 (by decide) hf (fun hf => ?_) (fun hf => ?_)
  · refine V_aload_n C 0 d_M_whyNoPlace_9 rfl ?_
    refine gM_M_holds C fl_M_134 d_M_whyNoPlace_10 ?_
    refine V_iload_n C 1 d_M_whyNoPlace_13 rfl ?_
    obtain ⟨hi14_2, hf⟩ := gu hf
    refine aM_37 (v := σ.2.1 37 a1.toNatClampNeg) C hi14_2 rfl d_M_whyNoPlace_14 ?_
    refine V_iconst (v := -1) C d_M_whyNoPlace_15 (by decide) ?_
    refine V_icmp_ne (pc := 16) (tgt := 22) C d_M_whyNoPlace_16 (by decide) hf (fun hf => ?_) (fun hf => ?_)
    · refine V_aload_n C 0 d_M_whyNoPlace_22 rfl ?_
      refine gM_M_holds C fl_M_134 d_M_whyNoPlace_23 ?_
      refine V_iload_n C 1 d_M_whyNoPlace_26 rfl ?_
      obtain ⟨hi27_3, hf⟩ := gu hf
      refine aM_37 (v := σ.2.1 37 a1.toNatClampNeg) C hi27_3 rfl d_M_whyNoPlace_27 ?_
      refine V_if_lt (pc := 28) (tgt := 34) C d_M_whyNoPlace_28 (by decide) hf (fun hf => ?_) (fun hf => ?_)
      · refine V_iload_n C 2 d_M_whyNoPlace_34 rfl ?_
        refine V_iconst (v := 0) C d_M_whyNoPlace_35 (by decide) ?_
        refine V_aload_n C 0 d_M_whyNoPlace_36 rfl ?_
        refine gM_M_size C fl_M_137 d_M_whyNoPlace_37 ?_
        refine V_iload_n C 1 d_M_whyNoPlace_40 rfl ?_
        obtain ⟨hi41_4, hf⟩ := gu hf
        refine aM_38 (v := σ.2.1 38 a1.toNatClampNeg) C hi41_4 rfl d_M_whyNoPlace_41 ?_
        refine V_iconst (v := 1) C d_M_whyNoPlace_42 (by decide) ?_
        refine V_isub C d_M_whyNoPlace_43 ?_
        obtain ⟨r44_5, hg, hf⟩ := bd hf
        refine V_callSi C [.int a2, .int (0 : Int32), .int ((σ.2.1 38 a1.toNatClampNeg) - (1 : Int32))] (c_M_in C.2.2.2.2.2.2.2.1 hg) (by decide) cw_M_153 rfl (Nat.le_of_ble_eq_true rfl) rfl d_M_whyNoPlace_44 ?_
        refine V_if_eq (pc := 47) (tgt := 54) C d_M_whyNoPlace_47 (by decide) hf (fun hf => ?_) (fun hf => ?_)
        · refine V_bipush (v := -13) C d_M_whyNoPlace_54 (by decide) ?_
          exact V_iret hR hf d_M_whyNoPlace_56
        · refine V_iconst (v := 0) C d_M_whyNoPlace_50 (by decide) ?_
          refine V_goto (pc := 51) (tgt := 56) C d_M_whyNoPlace_51 (by decide) ?_
          exact V_iret hR hf d_M_whyNoPlace_56
      · refine V_bipush (v := -12) C d_M_whyNoPlace_31 (by decide) ?_
        exact V_iret hR hf d_M_whyNoPlace_33
    · refine V_bipush (v := -11) C d_M_whyNoPlace_19 (by decide) ?_
      exact V_iret hR hf d_M_whyNoPlace_21
  · refine V_iconst (v := -1) C d_M_whyNoPlace_7 (by decide) ?_
    exact V_iret hR hf d_M_whyNoPlace_8
theorem c_M_whyNoPlace {l : Launch} {g : Gx} (hok : Wok classes (wM g)) {σ : St} {a1 : Int32} {a2 : Int32} {r : Int32} (hf : f_M_whyNoPlace σ a1 a2 = some r) : CtI classes l y_M_whyNoPlace b_M_whyNoPlace 3 (some .int) 3 (wM g) [.ref (g.2.1 0), .int a1, .int a2] σ r σ :=
  MetI (by decide +kernel) hok (Nat.le_of_ble_eq_true rfl) (fun E _ C hR => w_M_whyNoPlace C hR hf)
set_option maxRecDepth 4000 in
theorem w_M_element {E : Ev} {g : Gx} {r : Int64} {σ : St} (C : Cx E classes 3 (wM g) b_M_element "WithTheRedsModel" 4) (hR : RetL E classes 3 (wM g) b_M_element r σ) {a1 : Int32} {a2 : Int32} (hf : f_M_element σ a1 a2 = some r) : V E classes 3 (wM g) σ 0 [(0, .ref (g.2.1 0)), (1, .int a1), (2, .int a2)] [] := by
  unfold f_M_element at hf
  refine V_aload_n C 0 d_M_element_0 rfl ?_
  refine V_iload_n C 1 d_M_element_1 rfl ?_
  refine V_iload_n C 2 d_M_element_2 rfl ?_
  obtain ⟨r3_1, hg, hf⟩ := bd hf
  refine V_callVi C [.int a1, .int a2] (c_M_whyNoPlace C.2.2.2.2.2.2.2.1 hg) (by decide) cw_M_430 0 rfl rfl rfl rfl (Nat.le_of_ble_eq_true rfl) rfl d_M_element_3 ?_
  refine V_if_ge (pc := 6) (tgt := 15) C d_M_element_6 (by decide) hf (fun hf => ?_) (fun hf => ?_)
  · refine V_aload_n C 0 d_M_element_15 rfl ?_
    refine gM_M_elements C fl_M_140 d_M_element_16 ?_
    refine V_bipush (v := 60) C d_M_element_19 (by decide) ?_
    refine V_iload_n C 1 d_M_element_21 rfl ?_
    refine V_imul C d_M_element_22 ?_
    refine V_iload_n C 2 d_M_element_23 rfl ?_
    refine V_iadd C d_M_element_24 ?_
    obtain ⟨hi25_2, hf⟩ := gu hf
    refine aM_39 (v := σ.2.2 39 (((60 : Int32) * a1) + a2).toNatClampNeg) C hi25_2 rfl d_M_element_25 ?_
    exact V_lret hR hf d_M_element_26
  · refine V_ldc2 C kc_M_435 d_M_element_9 ?_
    refine V_goto (pc := 12) (tgt := 26) C d_M_element_12 (by decide) ?_
    exact V_lret hR hf d_M_element_26
theorem c_M_element {l : Launch} {g : Gx} (hok : Wok classes (wM g)) {σ : St} {a1 : Int32} {a2 : Int32} {r : Int64} (hf : f_M_element σ a1 a2 = some r) : CtL classes l y_M_element b_M_element 3 (some .long) 4 (wM g) [.ref (g.2.1 0), .int a1, .int a2] σ r σ :=
  MetL (by decide +kernel) hok (Nat.le_of_ble_eq_true rfl) (fun E _ C hR => w_M_element C hR hf)
set_option maxRecDepth 4000 in
theorem w_M_feed {E : Ev} {g : Gx} {r : Int32} {σ' : St} (C : Cx E classes 2 (wM g) b_M_feed "WithTheRedsModel" 2) (hR : RetI E classes 2 (wM g) b_M_feed r σ') {σ : St} {a1 : Int32} (hf : f_M_feed σ a1 = some (r, σ')) : V E classes 2 (wM g) σ 0 [(0, .ref (g.2.1 0)), (1, .int a1)] [] := by
  unfold f_M_feed at hf
  refine V_iload_n C 1 d_M_feed_0 rfl ?_
  refine V_iconst (v := 0) C d_M_feed_1 (by decide) ?_
  refine V_sipush (v := 255) C d_M_feed_2 (by decide) ?_
  obtain ⟨r5_1, hg, hf⟩ := bd hf
  refine V_callSi C [.int a1, .int (0 : Int32), .int (255 : Int32)] (c_M_in C.2.2.2.2.2.2.2.1 hg) (by decide) cw_M_153 rfl (Nat.le_of_ble_eq_true rfl) rfl d_M_feed_5 ?_
  refine V_if_ne (pc := 8) (tgt := 13) C d_M_feed_8 (by decide) hf (fun hf => ?_) (fun hf => ?_)
  · refine V_aload_n C 0 d_M_feed_13 rfl ?_
    refine gM_M_taped (v := σ.1 21) C fl_M_194 rfl d_M_feed_14 ?_
    refine V_bipush (v := 120) C d_M_feed_17 (by decide) ?_
    refine V_icmp_ne (pc := 19) (tgt := 25) C d_M_feed_19 (by decide) hf (fun hf => ?_) (fun hf => ?_)
    · refine V_aload_n C 0 d_M_feed_25 rfl ?_
      refine gM_M_tape C fl_M_59 d_M_feed_26 ?_
      refine V_aload_n C 0 d_M_feed_29 rfl ?_
      refine gM_M_taped (v := σ.1 21) C fl_M_194 rfl d_M_feed_30 ?_
      refine V_iload_n C 1 d_M_feed_33 rfl ?_
      refine V_i2b C d_M_feed_34 ?_
      obtain ⟨hi35_2, hf⟩ := gu hf
      refine sM_13 C hi35_2 d_M_feed_35 ?_
      refine V_aload_n C 0 d_M_feed_36 rfl ?_
      refine V_dup C d_M_feed_37 rfl ?_
      refine gM_M_taped (v := σ.1 21) C fl_M_194 rfl d_M_feed_38 ?_
      refine V_iconst (v := 1) C d_M_feed_41 (by decide) ?_
      refine V_iadd C d_M_feed_42 ?_
      refine pM_M_taped C fl_M_194 d_M_feed_43 ?_
      refine V_aload_n C 0 d_M_feed_46 rfl ?_
      refine gM_M_taped (v := ((σ.1 21) + (1 : Int32))) C fl_M_194 rfl d_M_feed_47 ?_
      exact V_iretW hR hf d_M_feed_50
    · refine V_bipush (v := -3) C d_M_feed_22 (by decide) ?_
      exact V_iretW hR hf d_M_feed_24
  · refine V_iconst (v := -1) C d_M_feed_11 (by decide) ?_
    exact V_iretW hR hf d_M_feed_12
theorem c_M_feed {l : Launch} {g : Gx} (hok : Wok classes (wM g)) {σ : St} {a1 : Int32} {r : Int32} {σ' : St} (hf : f_M_feed σ a1 = some (r, σ')) : CtI classes l y_M_feed b_M_feed 2 (some .int) 2 (wM g) [.ref (g.2.1 0), .int a1] σ r σ' :=
  MetI (by decide +kernel) hok (Nat.le_of_ble_eq_true rfl) (fun E _ C hR => w_M_feed C hR hf)
set_option maxRecDepth 4000 in
theorem w_M_gives {E : Ev} {g : Gx} {r : Int32} {σ' : St} (C : Cx E classes 3 (wM g) b_M_gives "WithTheRedsModel" 6) (hR : RetI E classes 3 (wM g) b_M_gives r σ') {σ : St} {a1 : Int32} {a2 : Int32} (hf : f_M_gives σ a1 a2 = some (r, σ')) : V E classes 3 (wM g) σ 0 [(0, .ref (g.2.1 0)), (1, .int a1), (2, .int a2)] [] := by
  unfold f_M_gives at hf
  refine V_aload_n C 0 d_M_gives_0 rfl ?_
  refine V_iload_n C 1 d_M_gives_1 rfl ?_
  obtain ⟨r2_1, hg, hf⟩ := bd hf
  refine V_callVi C [.int a1] (c_M_isThing C.2.2.2.2.2.2.2.1 hg) (by decide) cw_M_181 0 rfl rfl rfl rfl (Nat.le_of_ble_eq_true rfl) rfl d_M_gives_2 ?_
  refine V_if_eq (pc := 5) (tgt := 24) C d_M_gives_5 (by decide) hf (fun hf => ?_) (fun hf => ?_)
  · refine V_iconst (v := -1) C d_M_gives_24 (by decide) ?_
    exact V_iretW hR hf d_M_gives_25
  · refine V_iload_n C 2 d_M_gives_8 rfl ?_
    obtain ⟨r9_2, hg, hf⟩ := bd hf
    refine V_callSi C [.int a2] (c_M_isHeat C.2.2.2.2.2.2.2.1 hg) (by decide) cw_M_271 rfl (Nat.le_of_ble_eq_true rfl) rfl d_M_gives_9 ?_
    refine V_if_eq (pc := 12) (tgt := 24) C d_M_gives_12 (by decide) hf (fun hf => ?_) (fun hf => ?_)
    · refine V_iconst (v := -1) C d_M_gives_24 (by decide) ?_
      exact V_iretW hR hf d_M_gives_25
    · refine V_aload_n C 0 d_M_gives_15 rfl ?_
      refine V_iload_n C 1 d_M_gives_16 rfl ?_
      refine V_iload_n C 2 d_M_gives_17 rfl ?_
      obtain ⟨r18_3, σ18_3, hg, hf⟩ := bd2_of hf
      refine V_callVi C [.int a1, .int a2] (c_M_dyeOf C.2.2.2.2.2.2.2.1 hg) (by decide) cw_M_274 0 rfl rfl rfl rfl (Nat.le_of_ble_eq_true rfl) rfl d_M_gives_18 ?_
      refine V_goto (pc := 21) (tgt := 25) C d_M_gives_21 (by decide) ?_
      exact V_iretW hR hf d_M_gives_25
theorem c_M_gives {l : Launch} {g : Gx} (hok : Wok classes (wM g)) {σ : St} {a1 : Int32} {a2 : Int32} {r : Int32} {σ' : St} (hf : f_M_gives σ a1 a2 = some (r, σ')) : CtI classes l y_M_gives b_M_gives 3 (some .int) 6 (wM g) [.ref (g.2.1 0), .int a1, .int a2] σ r σ' :=
  MetI (by decide +kernel) hok (Nat.le_of_ble_eq_true rfl) (fun E _ C hR => w_M_gives C hR hf)
set_option maxRecDepth 4000 in
theorem w_M_hangingAt_5 {E : Ev} {g : Gx} {r : Int32} {σ : St} (C : Cx E classes 5 (wM g) b_M_hangingAt "WithTheRedsModel" 1) (hR : RetI E classes 5 (wM g) b_M_hangingAt r σ) : ∀ (n : Nat) (x1 : Int32) (x2 : Int32) (x3 : Int32) (x4 : Int32), f_M_hangingAt_5 n σ x1 x2 x3 x4 = some r → V E classes 5 (wM g) σ 5 [(0, .ref (g.2.1 0)), (1, .int x1), (2, .int x2), (3, .int x3), (4, .int x4)] [] := by
  intro n
  induction n with
  | zero => intro x1 x2 x3 x4 hf; exact absurd hf (by unfold f_M_hangingAt_5; exact nofun)
  | succ n ih =>
    intro x1 x2 x3 x4 hf
    unfold f_M_hangingAt_5 at hf
    refine V_iload C 4 d_M_hangingAt_5 rfl ?_
    refine V_iload_n C 1 d_M_hangingAt_7 rfl ?_
    refine V_icmp_ge (pc := 8) (tgt := 48) C d_M_hangingAt_8 (by decide) hf (fun hf => ?_) (fun hf => ?_)
    · refine V_iload_n C 3 d_M_hangingAt_48 rfl ?_
      exact V_iret hR hf d_M_hangingAt_49
    · refine V_aload_n C 0 d_M_hangingAt_11 rfl ?_
      refine gM_M_dryAt C fl_M_97 d_M_hangingAt_12 ?_
      refine V_aload_n C 0 d_M_hangingAt_15 rfl ?_
      refine gM_M_hangs C fl_M_100 d_M_hangingAt_16 ?_
      refine V_iload C 4 d_M_hangingAt_19 rfl ?_
      obtain ⟨hi21_1, hf⟩ := gu hf
      refine aM_26 (v := σ.2.1 26 x4.toNatClampNeg) C hi21_1 rfl d_M_hangingAt_21 ?_
      obtain ⟨hi22_2, hf⟩ := gu hf
      refine aM_25 (v := σ.2.1 25 (σ.2.1 26 x4.toNatClampNeg).toNatClampNeg) C hi22_2 rfl d_M_hangingAt_22 ?_
      refine V_iload_n C 2 d_M_hangingAt_23 rfl ?_
      refine V_icmp_le (pc := 24) (tgt := 42) C d_M_hangingAt_24 (by decide) hf (fun hf => ?_) (fun hf => ?_)
      · refine V_iinc (v := x4 + (1 : Int32)) C 4 d_M_hangingAt_42 rfl rfl (by decide) rfl ?_
        refine V_goto (pc := 45) (tgt := 5) C d_M_hangingAt_45 (by decide) ?_
        refine V.sub [1, 2, 3, 4, 0] rfl ?_
        exact ih x1 x2 x3 (x4 + (1 : Int32)) hf
      · refine V_iload_n C 3 d_M_hangingAt_27 rfl ?_
        refine V_aload_n C 0 d_M_hangingAt_28 rfl ?_
        refine gM_M_sizeOf C fl_M_22 d_M_hangingAt_29 ?_
        refine V_aload_n C 0 d_M_hangingAt_32 rfl ?_
        refine gM_M_hangs C fl_M_100 d_M_hangingAt_33 ?_
        refine V_iload C 4 d_M_hangingAt_36 rfl ?_
        obtain ⟨hi38_3, hf⟩ := gu hf
        refine aM_26 (v := σ.2.1 26 x4.toNatClampNeg) C hi38_3 rfl d_M_hangingAt_38 ?_
        obtain ⟨hi39_4, hf⟩ := gu hf
        refine aM_5 (v := σ.2.1 5 (σ.2.1 26 x4.toNatClampNeg).toNatClampNeg) C hi39_4 rfl d_M_hangingAt_39 ?_
        refine V_iadd C d_M_hangingAt_40 ?_
        refine V_istore_n C d_M_hangingAt_41 (by decide) rfl ?_
        refine V_iinc (v := x4 + (1 : Int32)) C 4 d_M_hangingAt_42 rfl rfl (by decide) rfl ?_
        refine V_goto (pc := 45) (tgt := 5) C d_M_hangingAt_45 (by decide) ?_
        refine V.sub [2, 3, 4, 1, 0] rfl ?_
        exact ih x1 x2 (x3 + (σ.2.1 5 (σ.2.1 26 x4.toNatClampNeg).toNatClampNeg)) (x4 + (1 : Int32)) hf
set_option maxRecDepth 4000 in
theorem w_M_hangingAt {E : Ev} {g : Gx} {r : Int32} {σ : St} (C : Cx E classes 5 (wM g) b_M_hangingAt "WithTheRedsModel" 1) (hR : RetI E classes 5 (wM g) b_M_hangingAt r σ) {a1 : Int32} {a2 : Int32} (hf : f_M_hangingAt σ a1 a2 = some r) : V E classes 5 (wM g) σ 0 [(0, .ref (g.2.1 0)), (1, .int a1), (2, .int a2)] [] := by
  unfold f_M_hangingAt at hf
  refine V_iconst (v := 0) C d_M_hangingAt_0 (by decide) ?_
  refine V_istore_n C d_M_hangingAt_1 (by decide) rfl ?_
  refine V_iconst (v := 0) C d_M_hangingAt_2 (by decide) ?_
  refine V_istore C d_M_hangingAt_3 (by decide) rfl ?_
  refine V.sub [2, 3, 4, 1, 0] rfl ?_
  exact w_M_hangingAt_5 C hR FU a1 a2 (0 : Int32) (0 : Int32) hf
theorem c_M_hangingAt {l : Launch} {g : Gx} (hok : Wok classes (wM g)) {σ : St} {a1 : Int32} {a2 : Int32} {r : Int32} (hf : f_M_hangingAt σ a1 a2 = some r) : CtI classes l y_M_hangingAt b_M_hangingAt 5 (some .int) 1 (wM g) [.ref (g.2.1 0), .int a1, .int a2] σ r σ :=
  MetI (by decide +kernel) hok (Nat.le_of_ble_eq_true rfl) (fun E _ C hR => w_M_hangingAt C hR hf)
set_option maxRecDepth 4000 in
theorem w_M_nextDry_5 {E : Ev} {g : Gx} {r : Int32} {σ : St} (C : Cx E classes 5 (wM g) b_M_nextDry "WithTheRedsModel" 1) (hR : RetI E classes 5 (wM g) b_M_nextDry r σ) : ∀ (n : Nat) (x1 : Int32) (x2 : Int32) (x3 : Int32) (x4 : Int32), f_M_nextDry_5 n σ x1 x2 x3 x4 = some r → V E classes 5 (wM g) σ 5 [(0, .ref (g.2.1 0)), (1, .int x1), (2, .int x2), (3, .int x3), (4, .int x4)] [] := by
  intro n
  induction n with
  | zero => intro x1 x2 x3 x4 hf; exact absurd hf (by unfold f_M_nextDry_5; exact nofun)
  | succ n ih =>
    intro x1 x2 x3 x4 hf
    unfold f_M_nextDry_5 at hf
    refine V_iload C 4 d_M_nextDry_5 rfl ?_
    refine V_iload_n C 1 d_M_nextDry_7 rfl ?_
    refine V_icmp_ge (pc := 8) (tgt := 66) C d_M_nextDry_8 (by decide) hf (fun hf => ?_) (fun hf => ?_)
    · refine V_iload_n C 3 d_M_nextDry_66 rfl ?_
      exact V_iret hR hf d_M_nextDry_67
    · refine V_aload_n C 0 d_M_nextDry_11 rfl ?_
      refine gM_M_dryAt C fl_M_97 d_M_nextDry_12 ?_
      refine V_aload_n C 0 d_M_nextDry_15 rfl ?_
      refine gM_M_hangs C fl_M_100 d_M_nextDry_16 ?_
      refine V_iload C 4 d_M_nextDry_19 rfl ?_
      obtain ⟨hi21_1, hf⟩ := gu hf
      refine aM_26 (v := σ.2.1 26 x4.toNatClampNeg) C hi21_1 rfl d_M_nextDry_21 ?_
      obtain ⟨hi22_2, hf⟩ := gu hf
      refine aM_25 (v := σ.2.1 25 (σ.2.1 26 x4.toNatClampNeg).toNatClampNeg) C hi22_2 rfl d_M_nextDry_22 ?_
      refine V_iload_n C 2 d_M_nextDry_23 rfl ?_
      refine V_icmp_le (pc := 24) (tgt := 60) C d_M_nextDry_24 (by decide) hf (fun hf => ?_) (fun hf => ?_)
      · refine V_iinc (v := x4 + (1 : Int32)) C 4 d_M_nextDry_60 rfl rfl (by decide) rfl ?_
        refine V_goto (pc := 63) (tgt := 5) C d_M_nextDry_63 (by decide) ?_
        refine V.sub [1, 2, 3, 4, 0] rfl ?_
        exact ih x1 x2 x3 (x4 + (1 : Int32)) hf
      · refine V_iload_n C 3 d_M_nextDry_27 rfl ?_
        refine V_if_lt (pc := 28) (tgt := 47) C d_M_nextDry_28 (by decide) hf (fun hf => ?_) (fun hf => ?_)
        · refine V_aload_n C 0 d_M_nextDry_47 rfl ?_
          refine gM_M_dryAt C fl_M_97 d_M_nextDry_48 ?_
          refine V_aload_n C 0 d_M_nextDry_51 rfl ?_
          refine gM_M_hangs C fl_M_100 d_M_nextDry_52 ?_
          refine V_iload C 4 d_M_nextDry_55 rfl ?_
          obtain ⟨hi57_3, hf⟩ := gu hf
          refine aM_26 (v := σ.2.1 26 x4.toNatClampNeg) C hi57_3 rfl d_M_nextDry_57 ?_
          obtain ⟨hi58_4, hf⟩ := gu hf
          refine aM_25 (v := σ.2.1 25 (σ.2.1 26 x4.toNatClampNeg).toNatClampNeg) C hi58_4 rfl d_M_nextDry_58 ?_
          refine V_istore_n C d_M_nextDry_59 (by decide) rfl ?_
          refine V_iinc (v := x4 + (1 : Int32)) C 4 d_M_nextDry_60 rfl rfl (by decide) rfl ?_
          refine V_goto (pc := 63) (tgt := 5) C d_M_nextDry_63 (by decide) ?_
          refine V.sub [2, 3, 4, 1, 0] rfl ?_
          exact ih x1 x2 (σ.2.1 25 (σ.2.1 26 x4.toNatClampNeg).toNatClampNeg) (x4 + (1 : Int32)) hf
        · refine V_aload_n C 0 d_M_nextDry_31 rfl ?_
          refine gM_M_dryAt C fl_M_97 d_M_nextDry_32 ?_
          refine V_aload_n C 0 d_M_nextDry_35 rfl ?_
          refine gM_M_hangs C fl_M_100 d_M_nextDry_36 ?_
          refine V_iload C 4 d_M_nextDry_39 rfl ?_
          obtain ⟨hi41_5, hf⟩ := gu hf
          refine aM_26 (v := σ.2.1 26 x4.toNatClampNeg) C hi41_5 rfl d_M_nextDry_41 ?_
          obtain ⟨hi42_6, hf⟩ := gu hf
          refine aM_25 (v := σ.2.1 25 (σ.2.1 26 x4.toNatClampNeg).toNatClampNeg) C hi42_6 rfl d_M_nextDry_42 ?_
          refine V_iload_n C 3 d_M_nextDry_43 rfl ?_
          refine V_icmp_ge (pc := 44) (tgt := 60) C d_M_nextDry_44 (by decide) hf (fun hf => ?_) (fun hf => ?_)
          · refine V_iinc (v := x4 + (1 : Int32)) C 4 d_M_nextDry_60 rfl rfl (by decide) rfl ?_
            refine V_goto (pc := 63) (tgt := 5) C d_M_nextDry_63 (by decide) ?_
            refine V.sub [1, 2, 3, 4, 0] rfl ?_
            exact ih x1 x2 x3 (x4 + (1 : Int32)) hf
          · refine V_aload_n C 0 d_M_nextDry_47 rfl ?_
            refine gM_M_dryAt C fl_M_97 d_M_nextDry_48 ?_
            refine V_aload_n C 0 d_M_nextDry_51 rfl ?_
            refine gM_M_hangs C fl_M_100 d_M_nextDry_52 ?_
            refine V_iload C 4 d_M_nextDry_55 rfl ?_
            obtain ⟨hi57_7, hf⟩ := gu hf
            refine aM_26 (v := σ.2.1 26 x4.toNatClampNeg) C hi57_7 rfl d_M_nextDry_57 ?_
            obtain ⟨hi58_8, hf⟩ := gu hf
            refine aM_25 (v := σ.2.1 25 (σ.2.1 26 x4.toNatClampNeg).toNatClampNeg) C hi58_8 rfl d_M_nextDry_58 ?_
            refine V_istore_n C d_M_nextDry_59 (by decide) rfl ?_
            refine V_iinc (v := x4 + (1 : Int32)) C 4 d_M_nextDry_60 rfl rfl (by decide) rfl ?_
            refine V_goto (pc := 63) (tgt := 5) C d_M_nextDry_63 (by decide) ?_
            refine V.sub [2, 3, 4, 1, 0] rfl ?_
            exact ih x1 x2 (σ.2.1 25 (σ.2.1 26 x4.toNatClampNeg).toNatClampNeg) (x4 + (1 : Int32)) hf
set_option maxRecDepth 4000 in
theorem w_M_nextDry {E : Ev} {g : Gx} {r : Int32} {σ : St} (C : Cx E classes 5 (wM g) b_M_nextDry "WithTheRedsModel" 1) (hR : RetI E classes 5 (wM g) b_M_nextDry r σ) {a1 : Int32} {a2 : Int32} (hf : f_M_nextDry σ a1 a2 = some r) : V E classes 5 (wM g) σ 0 [(0, .ref (g.2.1 0)), (1, .int a1), (2, .int a2)] [] := by
  unfold f_M_nextDry at hf
  refine V_iconst (v := -1) C d_M_nextDry_0 (by decide) ?_
  refine V_istore_n C d_M_nextDry_1 (by decide) rfl ?_
  refine V_iconst (v := 0) C d_M_nextDry_2 (by decide) ?_
  refine V_istore C d_M_nextDry_3 (by decide) rfl ?_
  refine V.sub [2, 3, 4, 1, 0] rfl ?_
  exact w_M_nextDry_5 C hR FU a1 a2 (-1 : Int32) (0 : Int32) hf
theorem c_M_nextDry {l : Launch} {g : Gx} (hok : Wok classes (wM g)) {σ : St} {a1 : Int32} {a2 : Int32} {r : Int32} (hf : f_M_nextDry σ a1 a2 = some r) : CtI classes l y_M_nextDry b_M_nextDry 5 (some .int) 1 (wM g) [.ref (g.2.1 0), .int a1, .int a2] σ r σ :=
  MetI (by decide +kernel) hok (Nat.le_of_ble_eq_true rfl) (fun E _ C hR => w_M_nextDry C hR hf)
set_option maxRecDepth 4000 in
theorem w_M_goLine_69 {E : Ev} {g : Gx} {σ' : St} (C : Cx E classes 5 (wM g) b_M_goLine "WithTheRedsModel" 2) (hR : RetV E classes 5 (wM g) b_M_goLine σ') {k6 : St → Int32 → Int32 → Int32 → Option St} (hk6 : ∀ (σ : St) (x1 : Int32) (x2 : Int32) (x3 : Int32), k6 σ x1 x2 x3 = some σ' → V E classes 5 (wM g) σ 6 [(0, .ref (g.2.1 0)), (1, .int x1), (2, .int x2), (3, .int x3)] []) : ∀ (n : Nat) (σ : St) (x1 : Int32) (x2 : Int32) (x3 : Int32) (x4 : Int32), f_M_goLine_69 k6 n σ x1 x2 x3 x4 = some σ' → V E classes 5 (wM g) σ 69 [(0, .ref (g.2.1 0)), (1, .int x1), (2, .int x2), (3, .int x3), (4, .int x4)] [] := by
  intro n
  induction n with
  | zero => intro σ x1 x2 x3 x4 hf; exact absurd hf (by unfold f_M_goLine_69; exact nofun)
  | succ n ih =>
    intro σ x1 x2 x3 x4 hf
    unfold f_M_goLine_69 at hf
    refine V_aload_n C 0 d_M_goLine_69 rfl ?_
    refine V_iload_n C 3 d_M_goLine_70 rfl ?_
    refine V_iload_n C 1 d_M_goLine_71 rfl ?_
    obtain ⟨r72_1, hg, hf⟩ := bd hf
    refine V_callVi C [.int x3, .int x1] (c_M_hangingAt C.2.2.2.2.2.2.2.1 hg) (by decide) cw_M_346 0 rfl rfl rfl rfl (Nat.le_of_ble_eq_true rfl) rfl d_M_goLine_72 ?_
    refine V_aload_n C 0 d_M_goLine_75 rfl ?_
    refine gM_M_sizeOf C fl_M_22 d_M_goLine_76 ?_
    refine V_iload C 4 d_M_goLine_79 rfl ?_
    obtain ⟨hi81_2, hf⟩ := gu hf
    refine aM_5 (v := σ.2.1 5 x4.toNatClampNeg) C hi81_2 rfl d_M_goLine_81 ?_
    refine V_iadd C d_M_goLine_82 ?_
    refine V_aload_n C 0 d_M_goLine_83 rfl ?_
    refine gM_M_line1 (v := σ.1 13) C fl_M_44 rfl d_M_goLine_84 ?_
    refine V_icmp_le (pc := 87) (tgt := 100) C d_M_goLine_87 (by decide) hf (fun hf => ?_) (fun hf => ?_)
    · refine V_aload_n C 0 d_M_goLine_100 rfl ?_
      refine gM_M_hungAt C fl_M_94 d_M_goLine_101 ?_
      refine V_iload C 4 d_M_goLine_104 rfl ?_
      refine V_iload_n C 1 d_M_goLine_106 rfl ?_
      obtain ⟨hi107_3, hf⟩ := gu hf
      refine sM_24 C hi107_3 d_M_goLine_107 ?_
      refine V_aload_n C 0 d_M_goLine_108 rfl ?_
      refine gM_M_dryAt C fl_M_97 d_M_goLine_109 ?_
      refine V_iload C 4 d_M_goLine_112 rfl ?_
      refine V_iload_n C 1 d_M_goLine_114 rfl ?_
      refine V_bipush (v := 10) C d_M_goLine_115 (by decide) ?_
      refine V_aload_n C 0 d_M_goLine_117 rfl ?_
      refine gM_M_dries C fl_M_25 d_M_goLine_118 ?_
      refine V_iload C 4 d_M_goLine_121 rfl ?_
      obtain ⟨hi123_4, hf⟩ := gu hf
      refine aM_6 (v := σ.2.1 6 x4.toNatClampNeg) C hi123_4 rfl d_M_goLine_123 ?_
      refine V_imul C d_M_goLine_124 ?_
      refine V_iadd C d_M_goLine_125 ?_
      obtain ⟨hi126_5, hf⟩ := gu hf
      refine sM_25 C hi126_5 d_M_goLine_126 ?_
      refine V_iinc (v := x3 + (1 : Int32)) C 3 d_M_goLine_127 rfl rfl (by decide) rfl ?_
      refine V_goto (pc := 130) (tgt := 6) C d_M_goLine_130 (by decide) ?_
      refine V.sub [1, 2, 3, 0] rfl ?_
      exact hk6 (upA (upA σ 24 x4.toNatClampNeg x1) 25 x4.toNatClampNeg (x1 + ((10 : Int32) * (σ.2.1 6 x4.toNatClampNeg)))) x1 x2 (x3 + (1 : Int32)) hf
    · refine V_aload_n C 0 d_M_goLine_90 rfl ?_
      refine V_iload_n C 3 d_M_goLine_91 rfl ?_
      refine V_iload_n C 1 d_M_goLine_92 rfl ?_
      obtain ⟨r93_6, hg, hf⟩ := bd hf
      refine V_callVi C [.int x3, .int x1] (c_M_nextDry C.2.2.2.2.2.2.2.1 hg) (by decide) cw_M_349 0 rfl rfl rfl rfl (Nat.le_of_ble_eq_true rfl) rfl d_M_goLine_93 ?_
      refine V_istore_n C d_M_goLine_96 (by decide) rfl ?_
      refine V_goto (pc := 97) (tgt := 69) C d_M_goLine_97 (by decide) ?_
      refine V.sub [1, 0, 2, 3, 4] rfl ?_
      exact ih σ r93_6 x2 x3 x4 hf
set_option maxRecDepth 4000 in
theorem w_M_goLine_45 {E : Ev} {g : Gx} {σ' : St} (C : Cx E classes 5 (wM g) b_M_goLine "WithTheRedsModel" 2) (hR : RetV E classes 5 (wM g) b_M_goLine σ') {k6 : St → Int32 → Int32 → Int32 → Option St} (hk6 : ∀ (σ : St) (x1 : Int32) (x2 : Int32) (x3 : Int32), k6 σ x1 x2 x3 = some σ' → V E classes 5 (wM g) σ 6 [(0, .ref (g.2.1 0)), (1, .int x1), (2, .int x2), (3, .int x3)] []) : ∀ (σ : St) (x1 : Int32) (x3 : Int32) (x4 : Int32) (y0 : Int32), f_M_goLine_45 k6 σ x1 x3 x4 y0 = some σ' → V E classes 5 (wM g) σ 45 [(0, .ref (g.2.1 0)), (1, .int x1), (3, .int x3), (4, .int x4)] [.int y0] := by
  intro σ x1 x3 x4 y0 hf
  unfold f_M_goLine_45 at hf
  refine V_istore_n C d_M_goLine_45 (by decide) rfl ?_
  refine V_aload_n C 1 d_M_goLine_46 rfl ?_
  refine gM_M_hungAt C fl_M_94 d_M_goLine_47 ?_
  refine V_iload C 4 d_M_goLine_50 rfl ?_
  refine V_iconst (v := -1) C d_M_goLine_52 (by decide) ?_
  obtain ⟨hi53_1, hf⟩ := gu hf
  refine sM_24 C hi53_1 d_M_goLine_53 ?_
  refine V_aload_n C 1 d_M_goLine_54 rfl ?_
  refine gM_M_dryAt C fl_M_97 d_M_goLine_55 ?_
  refine V_iload C 4 d_M_goLine_58 rfl ?_
  refine V_iconst (v := -1) C d_M_goLine_60 (by decide) ?_
  obtain ⟨hi61_2, hf⟩ := gu hf
  refine sM_25 C hi61_2 d_M_goLine_61 ?_
  refine V_iload_n C 0 d_M_goLine_62 rfl ?_
  refine V_if_eq (pc := 63) (tgt := 69) C d_M_goLine_63 (by decide) hf (fun hf => ?_) (fun hf => ?_)
  · refine V.sub [1, 2, 0, 3, 4] rfl ?_
    exact w_M_goLine_69 C hR hk6 FU (upA (upA σ 24 x4.toNatClampNeg (-1 : Int32)) 25 x4.toNatClampNeg (-1 : Int32)) x1 y0 x3 x4 hf
  · refine V_goto (pc := 66) (tgt := 127) C d_M_goLine_66 (by decide) ?_
    refine V_iinc (v := x3 + (1 : Int32)) C 3 d_M_goLine_127 rfl rfl (by decide) rfl ?_
    refine V_goto (pc := 130) (tgt := 6) C d_M_goLine_130 (by decide) ?_
    refine V.sub [2, 3, 1, 0] rfl ?_
    exact hk6 (upA (upA σ 24 x4.toNatClampNeg (-1 : Int32)) 25 x4.toNatClampNeg (-1 : Int32)) x1 y0 (x3 + (1 : Int32)) hf
set_option maxRecDepth 4000 in
theorem w_M_goLine_40 {E : Ev} {g : Gx} {σ' : St} (C : Cx E classes 5 (wM g) b_M_goLine "WithTheRedsModel" 2) (hR : RetV E classes 5 (wM g) b_M_goLine σ') {k6 : St → Int32 → Int32 → Int32 → Option St} (hk6 : ∀ (σ : St) (x1 : Int32) (x2 : Int32) (x3 : Int32), k6 σ x1 x2 x3 = some σ' → V E classes 5 (wM g) σ 6 [(0, .ref (g.2.1 0)), (1, .int x1), (2, .int x2), (3, .int x3)] []) : ∀ (σ : St) (x1 : Int32) (x3 : Int32) (x4 : Int32), f_M_goLine_40 k6 σ x1 x3 x4 = some σ' → V E classes 5 (wM g) σ 40 [(0, .ref (g.2.1 0)), (1, .int x1), (3, .int x3), (4, .int x4)] [] := by
  intro σ x1 x3 x4 hf
  unfold f_M_goLine_40 at hf
  refine V_iconst (v := 1) C d_M_goLine_40 (by decide) ?_
  refine V_goto (pc := 41) (tgt := 45) C d_M_goLine_41 (by decide) ?_
  exact w_M_goLine_45 C hR hk6 σ x1 x3 x4 (1 : Int32) hf
set_option maxRecDepth 4000 in
theorem w_M_goLine_6 {E : Ev} {g : Gx} {σ' : St} (C : Cx E classes 5 (wM g) b_M_goLine "WithTheRedsModel" 2) (hR : RetV E classes 5 (wM g) b_M_goLine σ') : ∀ (n : Nat) (σ : St) (x1 : Int32) (x2 : Int32) (x3 : Int32), f_M_goLine_6 n σ x1 x2 x3 = some σ' → V E classes 5 (wM g) σ 6 [(0, .ref (g.2.1 0)), (1, .int x1), (2, .int x2), (3, .int x3)] [] := by
  intro n
  induction n with
  | zero => intro σ x1 x2 x3 hf; exact absurd hf (by unfold f_M_goLine_6; exact nofun)
  | succ n ih =>
    intro σ x1 x2 x3 hf
    unfold f_M_goLine_6 at hf
    refine V_iload_n C 3 d_M_goLine_6 rfl ?_
    refine V_aload_n C 0 d_M_goLine_7 rfl ?_
    refine gM_M_hangMany (v := σ.1 42) C fl_M_343 rfl d_M_goLine_8 ?_
    refine V_icmp_ge (pc := 11) (tgt := 133) C d_M_goLine_11 (by decide) hf (fun hf => ?_) (fun hf => ?_)
    · exact V_vret hR hf d_M_goLine_133
    · refine V_aload_n C 0 d_M_goLine_14 rfl ?_
      refine gM_M_hangs C fl_M_100 d_M_goLine_15 ?_
      refine V_iload_n C 3 d_M_goLine_18 rfl ?_
      obtain ⟨hi19_1, hf⟩ := gu hf
      refine aM_26 (v := σ.2.1 26 x3.toNatClampNeg) C hi19_1 rfl d_M_goLine_19 ?_
      refine V_istore C d_M_goLine_20 (by decide) rfl ?_
      refine V_iload_n C 3 d_M_goLine_22 rfl ?_
      refine V_if_ne (pc := 23) (tgt := 40) C d_M_goLine_23 (by decide) hf (fun hf => ?_) (fun hf => ?_)
      · refine V.sub [1, 2, 4, 0] rfl ?_
        exact w_M_goLine_40 C hR ih σ x1 x3 (σ.2.1 26 x3.toNatClampNeg) hf
      · refine V_aload_n C 1 d_M_goLine_26 rfl ?_
        refine gM_M_sizeOf C fl_M_22 d_M_goLine_27 ?_
        refine V_iload C 0 d_M_goLine_30 rfl ?_
        obtain ⟨hi32_2, hf⟩ := gu hf
        refine aM_5 (v := σ.2.1 5 (σ.2.1 26 x3.toNatClampNeg).toNatClampNeg) C hi32_2 rfl d_M_goLine_32 ?_
        refine V_aload_n C 1 d_M_goLine_33 rfl ?_
        refine gM_M_line1 (v := σ.1 13) C fl_M_44 rfl d_M_goLine_34 ?_
        refine V_icmp_le (pc := 37) (tgt := 44) C d_M_goLine_37 (by decide) hf (fun hf => ?_) (fun hf => ?_)
        · refine V_iconst (v := 0) C d_M_goLine_44 (by decide) ?_
          refine V.sub [1, 2, 4, 0] rfl ?_
          exact w_M_goLine_45 C hR ih σ x1 x3 (σ.2.1 26 x3.toNatClampNeg) (0 : Int32) hf
        · refine V.sub [1, 2, 4, 0] rfl ?_
          exact w_M_goLine_40 C hR ih σ x1 x3 (σ.2.1 26 x3.toNatClampNeg) hf
set_option maxRecDepth 4000 in
theorem w_M_goLine {E : Ev} {g : Gx} {σ' : St} (C : Cx E classes 5 (wM g) b_M_goLine "WithTheRedsModel" 2) (hR : RetV E classes 5 (wM g) b_M_goLine σ') {σ : St} (hf : f_M_goLine σ = some σ') : V E classes 5 (wM g) σ 0 [(0, .ref (g.2.1 0))] [] := by
  unfold f_M_goLine at hf
  refine V_iconst (v := 0) C d_M_goLine_0 (by decide) ?_
  refine V_istore_n C d_M_goLine_1 (by decide) rfl ?_
  refine V_iconst (v := 0) C d_M_goLine_2 (by decide) ?_
  refine V_istore_n C d_M_goLine_3 (by decide) rfl ?_
  refine V_iconst (v := 0) C d_M_goLine_4 (by decide) ?_
  refine V_istore_n C d_M_goLine_5 (by decide) rfl ?_
  refine V.sub [3, 2, 1, 0] rfl ?_
  exact w_M_goLine_6 C hR FU σ (0 : Int32) (0 : Int32) (0 : Int32) hf
theorem c_M_goLine {l : Launch} {g : Gx} (hok : Wok classes (wM g)) {σ : St} {σ' : St} (hf : f_M_goLine σ = some σ') : CtV classes l y_M_goLine b_M_goLine 5 none 2 (wM g) [.ref (g.2.1 0)] σ σ' :=
  MetV (by decide +kernel) hok (Nat.le_of_ble_eq_true rfl) (fun E _ C hR => w_M_goLine C hR hf)
set_option maxRecDepth 4000 in
theorem w_M_goOrders_42 {E : Ev} {g : Gx} {σ' : St} {rec : St → Int32 → Int32 → Option St} {D : Nat} (hD : 3 ≤ D) (hrec : ∀ {l : Launch} {σ : St} {a1 : Int32} {a2 : Int32} {σ' : St}, rec σ a1 a2 = some σ' → CtV classes l y_M_goOrders b_M_goOrders 5 none D (wM g) [.ref (g.2.1 0), .int a1, .int a2] σ σ') (C : Cx E classes 5 (wM g) b_M_goOrders "WithTheRedsModel" (D + 1)) (hR : RetV E classes 5 (wM g) b_M_goOrders σ') : ∀ (n : Nat) (σ : St) (x4 : Int32), f_M_goOrders_42 rec n σ x4 = some σ' → V E classes 5 (wM g) σ 42 [(0, .ref (g.2.1 0)), (4, .int x4)] [] := by
  intro n
  induction n with
  | zero => intro σ x4 hf; exact absurd hf (by unfold f_M_goOrders_42; exact nofun)
  | succ n ih =>
    intro σ x4 hf
    unfold f_M_goOrders_42 at hf
    refine V_iload C 1 d_M_goOrders_42 rfl ?_
    refine V_aload_n C 0 d_M_goOrders_44 rfl ?_
    refine gM_M_hangMany (v := σ.1 42) C fl_M_343 rfl d_M_goOrders_45 ?_
    refine V_icmp_ge (pc := 48) (tgt := 71) C d_M_goOrders_48 (by decide) hf (fun hf => ?_) (fun hf => ?_)
    · exact V_vret hR hf d_M_goOrders_71
    · refine V_aload_n C 0 d_M_goOrders_51 rfl ?_
      refine gM_M_bestLine C fl_M_103 d_M_goOrders_52 ?_
      refine V_iload C 1 d_M_goOrders_55 rfl ?_
      refine V_aload_n C 0 d_M_goOrders_57 rfl ?_
      refine gM_M_hangs C fl_M_100 d_M_goOrders_58 ?_
      refine V_iload C 1 d_M_goOrders_61 rfl ?_
      obtain ⟨hi63_1, hf⟩ := gu hf
      refine aM_26 (v := σ.2.1 26 x4.toNatClampNeg) C hi63_1 rfl d_M_goOrders_63 ?_
      obtain ⟨hi64_2, hf⟩ := gu hf
      refine sM_27 C hi64_2 d_M_goOrders_64 ?_
      refine V_iinc (v := x4 + (1 : Int32)) C 1 d_M_goOrders_65 rfl rfl (by decide) rfl ?_
      refine V_goto (pc := 68) (tgt := 42) C d_M_goOrders_68 (by decide) ?_
      refine V.sub [1, 0] rfl ?_
      exact ih (upA σ 27 x4.toNatClampNeg (σ.2.1 26 x4.toNatClampNeg)) (x4 + (1 : Int32)) hf
set_option maxRecDepth 4000 in
theorem w_M_goOrders_74 {E : Ev} {g : Gx} {σ' : St} {rec : St → Int32 → Int32 → Option St} {D : Nat} (hD : 3 ≤ D) (hrec : ∀ {l : Launch} {σ : St} {a1 : Int32} {a2 : Int32} {σ' : St}, rec σ a1 a2 = some σ' → CtV classes l y_M_goOrders b_M_goOrders 5 none D (wM g) [.ref (g.2.1 0), .int a1, .int a2] σ σ') (C : Cx E classes 5 (wM g) b_M_goOrders "WithTheRedsModel" (D + 1)) (hR : RetV E classes 5 (wM g) b_M_goOrders σ') : ∀ (n : Nat) (σ : St) (x1 : Int32) (x2 : Int32) (x3 : Int32), f_M_goOrders_74 rec n σ x1 x2 x3 = some σ' → V E classes 5 (wM g) σ 74 [(0, .ref (g.2.1 0)), (1, .int x1), (2, .int x2), (3, .int x3)] [] := by
  intro n
  induction n with
  | zero => intro σ x1 x2 x3 hf; exact absurd hf (by unfold f_M_goOrders_74; exact nofun)
  | succ n ih =>
    intro σ x1 x2 x3 hf
    unfold f_M_goOrders_74 at hf
    refine V_iload_n C 3 d_M_goOrders_74 rfl ?_
    refine V_aload_n C 0 d_M_goOrders_75 rfl ?_
    refine gM_M_things (v := σ.1 1) C fl_M_150 rfl d_M_goOrders_76 ?_
    refine V_icmp_ge (pc := 79) (tgt := 148) C d_M_goOrders_79 (by decide) hf (fun hf => ?_) (fun hf => ?_)
    · exact V_vret hR hf d_M_goOrders_148
    · refine V_iload_n C 1 d_M_goOrders_82 rfl ?_
      refine V_iload_n C 3 d_M_goOrders_83 rfl ?_
      refine V_ishr C d_M_goOrders_84 ?_
      refine V_iconst (v := 1) C d_M_goOrders_85 (by decide) ?_
      refine V_iand C d_M_goOrders_86 ?_
      refine V_if_eq (pc := 87) (tgt := 142) C d_M_goOrders_87 (by decide) hf (fun hf => ?_) (fun hf => ?_)
      · refine V_iinc (v := x3 + (1 : Int32)) C 3 d_M_goOrders_142 rfl rfl (by decide) rfl ?_
        refine V_goto (pc := 145) (tgt := 74) C d_M_goOrders_145 (by decide) ?_
        refine V.sub [1, 2, 3, 0] rfl ?_
        exact ih σ x1 x2 (x3 + (1 : Int32)) hf
      · refine V_iload_n C 2 d_M_goOrders_90 rfl ?_
        refine V_iload_n C 3 d_M_goOrders_91 rfl ?_
        refine V_ishr C d_M_goOrders_92 ?_
        refine V_iconst (v := 1) C d_M_goOrders_93 (by decide) ?_
        refine V_iand C d_M_goOrders_94 ?_
        refine V_iconst (v := 1) C d_M_goOrders_95 (by decide) ?_
        refine V_icmp_ne (pc := 96) (tgt := 102) C d_M_goOrders_96 (by decide) hf (fun hf => ?_) (fun hf => ?_)
        · refine V_aload_n C 0 d_M_goOrders_102 rfl ?_
          refine gM_M_hangs C fl_M_100 d_M_goOrders_103 ?_
          refine V_aload_n C 0 d_M_goOrders_106 rfl ?_
          refine gM_M_hangMany (v := σ.1 42) C fl_M_343 rfl d_M_goOrders_107 ?_
          refine V_iload_n C 3 d_M_goOrders_110 rfl ?_
          obtain ⟨hi111_1, hf⟩ := gu hf
          refine sM_26 C hi111_1 d_M_goOrders_111 ?_
          refine V_aload_n C 0 d_M_goOrders_112 rfl ?_
          refine V_dup C d_M_goOrders_113 rfl ?_
          refine gM_M_hangMany (v := σ.1 42) C fl_M_343 rfl d_M_goOrders_114 ?_
          refine V_iconst (v := 1) C d_M_goOrders_117 (by decide) ?_
          refine V_iadd C d_M_goOrders_118 ?_
          refine pM_M_hangMany C fl_M_343 d_M_goOrders_119 ?_
          refine V_aload_n C 0 d_M_goOrders_122 rfl ?_
          refine V_iload_n C 1 d_M_goOrders_123 rfl ?_
          refine V_iload_n C 2 d_M_goOrders_124 rfl ?_
          refine V_iconst (v := 1) C d_M_goOrders_125 (by decide) ?_
          refine V_iload_n C 3 d_M_goOrders_126 rfl ?_
          refine V_ishl C d_M_goOrders_127 ?_
          refine V_ior C d_M_goOrders_128 ?_
          obtain ⟨σ129_2, hg, hf⟩ := bd hf
          refine V_callVv C [.int x1, .int (x2 ||| ((1 : Int32) <<< (x3 &&& 31)))] (hrec hg) (by omega) cw_M_365 0 rfl rfl rfl rfl (Nat.le_of_ble_eq_true rfl) rfl d_M_goOrders_129 ?_
          refine V_aload_n C 0 d_M_goOrders_132 rfl ?_
          refine V_dup C d_M_goOrders_133 rfl ?_
          refine gM_M_hangMany (v := σ129_2.1 42) C fl_M_343 rfl d_M_goOrders_134 ?_
          refine V_iconst (v := 1) C d_M_goOrders_137 (by decide) ?_
          refine V_isub C d_M_goOrders_138 ?_
          refine pM_M_hangMany C fl_M_343 d_M_goOrders_139 ?_
          refine V_iinc (v := x3 + (1 : Int32)) C 3 d_M_goOrders_142 rfl rfl (by decide) rfl ?_
          refine V_goto (pc := 145) (tgt := 74) C d_M_goOrders_145 (by decide) ?_
          refine V.sub [1, 2, 3, 0] rfl ?_
          exact ih (upI σ129_2 42 ((σ129_2.1 42) - (1 : Int32))) x1 x2 (x3 + (1 : Int32)) hf
        · refine V_goto (pc := 99) (tgt := 142) C d_M_goOrders_99 (by decide) ?_
          refine V_iinc (v := x3 + (1 : Int32)) C 3 d_M_goOrders_142 rfl rfl (by decide) rfl ?_
          refine V_goto (pc := 145) (tgt := 74) C d_M_goOrders_145 (by decide) ?_
          refine V.sub [1, 2, 3, 0] rfl ?_
          exact ih σ x1 x2 (x3 + (1 : Int32)) hf
set_option maxRecDepth 4000 in
theorem w_M_goOrders_F {E : Ev} {g : Gx} {σ' : St} {rec : St → Int32 → Int32 → Option St} {D : Nat} (hD : 3 ≤ D) (hrec : ∀ {l : Launch} {σ : St} {a1 : Int32} {a2 : Int32} {σ' : St}, rec σ a1 a2 = some σ' → CtV classes l y_M_goOrders b_M_goOrders 5 none D (wM g) [.ref (g.2.1 0), .int a1, .int a2] σ σ') (C : Cx E classes 5 (wM g) b_M_goOrders "WithTheRedsModel" (D + 1)) (hR : RetV E classes 5 (wM g) b_M_goOrders σ') {σ : St} {a1 : Int32} {a2 : Int32} (hf : f_M_goOrders_F rec σ a1 a2 = some σ') : V E classes 5 (wM g) σ 0 [(0, .ref (g.2.1 0)), (1, .int a1), (2, .int a2)] [] := by
  unfold f_M_goOrders_F at hf
  refine V_iload_n C 2 d_M_goOrders_0 rfl ?_
  refine V_iload_n C 1 d_M_goOrders_1 rfl ?_
  refine V_icmp_ne (pc := 2) (tgt := 72) C d_M_goOrders_2 (by decide) hf (fun hf => ?_) (fun hf => ?_)
  · refine V_iconst (v := 0) C d_M_goOrders_72 (by decide) ?_
    refine V_istore_n C d_M_goOrders_73 (by decide) rfl ?_
    refine V.sub [1, 2, 3, 0] rfl ?_
    exact w_M_goOrders_74 hD hrec C hR FU σ a1 a2 (0 : Int32) hf
  · refine V_aload_n C 0 d_M_goOrders_5 rfl ?_
    obtain ⟨σ6_1, hg, hf⟩ := bd hf
    refine V_callVv C [] (c_M_goLine C.2.2.2.2.2.2.2.1 hg) (by omega) cw_M_356 0 rfl rfl rfl rfl (Nat.le_of_ble_eq_true rfl) rfl d_M_goOrders_6 ?_
    refine V_aload_n C 0 d_M_goOrders_9 rfl ?_
    obtain ⟨r10_2, hg, hf⟩ := bd hf
    refine V_callVi C [] (c_M_allDry C.2.2.2.2.2.2.2.1 hg) (by omega) cw_M_359 0 rfl rfl rfl rfl (Nat.le_of_ble_eq_true rfl) rfl d_M_goOrders_10 ?_
    refine V_istore_n C d_M_goOrders_13 (by decide) rfl ?_
    refine V_iload_n C 0 d_M_goOrders_14 rfl ?_
    refine V_if_lt (pc := 15) (tgt := 33) C d_M_goOrders_15 (by decide) hf (fun hf => ?_) (fun hf => ?_)
    · exact V_vret hR hf d_M_goOrders_33
    · refine V_aload_n C 1 d_M_goOrders_18 rfl ?_
      refine gM_M_soonest (v := σ6_1.1 44) C fl_M_362 rfl d_M_goOrders_19 ?_
      refine V_if_lt (pc := 22) (tgt := 34) C d_M_goOrders_22 (by decide) hf (fun hf => ?_) (fun hf => ?_)
      · refine V_aload_n C 1 d_M_goOrders_34 rfl ?_
        refine V_iload_n C 0 d_M_goOrders_35 rfl ?_
        refine pM_M_soonest C fl_M_362 d_M_goOrders_36 ?_
        refine V_iconst (v := 0) C d_M_goOrders_39 (by decide) ?_
        refine V_istore C d_M_goOrders_40 (by decide) rfl ?_
        refine V.sub [2, 0] rfl ?_
        exact w_M_goOrders_42 hD hrec C hR FU (upI σ6_1 44 r10_2) (0 : Int32) hf
      · refine V_iload_n C 0 d_M_goOrders_25 rfl ?_
        refine V_aload_n C 1 d_M_goOrders_26 rfl ?_
        refine gM_M_soonest (v := σ6_1.1 44) C fl_M_362 rfl d_M_goOrders_27 ?_
        refine V_icmp_lt (pc := 30) (tgt := 34) C d_M_goOrders_30 (by decide) hf (fun hf => ?_) (fun hf => ?_)
        · refine V_aload_n C 1 d_M_goOrders_34 rfl ?_
          refine V_iload_n C 0 d_M_goOrders_35 rfl ?_
          refine pM_M_soonest C fl_M_362 d_M_goOrders_36 ?_
          refine V_iconst (v := 0) C d_M_goOrders_39 (by decide) ?_
          refine V_istore C d_M_goOrders_40 (by decide) rfl ?_
          refine V.sub [2, 0] rfl ?_
          exact w_M_goOrders_42 hD hrec C hR FU (upI σ6_1 44 r10_2) (0 : Int32) hf
        · exact V_vret hR hf d_M_goOrders_33
theorem c_M_goOrders_F {l : Launch} {g : Gx} (hok : Wok classes (wM g)) {rec : St → Int32 → Int32 → Option St} {D : Nat} (hD : 3 ≤ D) (hrec : ∀ {l : Launch} {σ : St} {a1 : Int32} {a2 : Int32} {σ' : St}, rec σ a1 a2 = some σ' → CtV classes l y_M_goOrders b_M_goOrders 5 none D (wM g) [.ref (g.2.1 0), .int a1, .int a2] σ σ') {σ : St} {a1 : Int32} {a2 : Int32} {σ' : St} (hf : f_M_goOrders_F rec σ a1 a2 = some σ') : CtV classes l y_M_goOrders b_M_goOrders 5 none (D + 1) (wM g) [.ref (g.2.1 0), .int a1, .int a2] σ σ' :=
  MetV (by decide +kernel) hok (Nat.le_of_ble_eq_true rfl) (fun E _ C hR => w_M_goOrders_F hD hrec C hR hf)
theorem c_M_goOrders {l : Launch} {g : Gx} (hok : Wok classes (wM g)) (n : Nat) {σ : St} {a1 : Int32} {a2 : Int32} {σ' : St} (hf : f_M_goOrders n σ a1 a2 = some σ') : CtV classes l y_M_goOrders b_M_goOrders 5 none (3 + 1 * n) (wM g) [.ref (g.2.1 0), .int a1, .int a2] σ σ' := by
  induction n generalizing l σ a1 a2 σ' with
  | zero => exact absurd hf (by unfold f_M_goOrders; exact nofun)
  | succ n ih => exact c_M_goOrders_F hok (D := 3 + 1 * n) (by omega) (fun h => ih h) hf
set_option maxRecDepth 4000 in
theorem w_M_goSafe_36 {E : Ev} {g : Gx} {σ' : St} {rec : St → Int32 → Int32 → Int32 → Int32 → Option St} {D : Nat} (hD : 9 ≤ D) (hrec : ∀ {l : Launch} {σ : St} {a1 : Int32} {a2 : Int32} {a3 : Int32} {a4 : Int32} {σ' : St}, rec σ a1 a2 a3 a4 = some σ' → CtV classes l y_M_goSafe b_M_goSafe 7 none D (wM g) [.ref (g.2.1 0), .int a1, .int a2, .int a3, .int a4] σ σ') (C : Cx E classes 7 (wM g) b_M_goSafe "WithTheRedsModel" (D + 1)) (hR : RetV E classes 7 (wM g) b_M_goSafe σ') : ∀ (n : Nat) (σ : St) (x5 : Int32), f_M_goSafe_36 rec n σ x5 = some σ' → V E classes 7 (wM g) σ 36 [(0, .ref (g.2.1 0)), (5, .int x5)] [] := by
  intro n
  induction n with
  | zero => intro σ x5 hf; exact absurd hf (by unfold f_M_goSafe_36; exact nofun)
  | succ n ih =>
    intro σ x5 hf
    unfold f_M_goSafe_36 at hf
    refine V_iload C 1 d_M_goSafe_36 rfl ?_
    refine V_aload_n C 0 d_M_goSafe_38 rfl ?_
    refine gM_M_things (v := σ.1 1) C fl_M_150 rfl d_M_goSafe_39 ?_
    refine V_icmp_ge (pc := 42) (tgt := 65) C d_M_goSafe_42 (by decide) hf (fun hf => ?_) (fun hf => ?_)
    · exact V_vret hR hf d_M_goSafe_65
    · refine V_aload_n C 0 d_M_goSafe_45 rfl ?_
      refine gM_M_bestHeap C fl_M_91 d_M_goSafe_46 ?_
      refine V_iload C 1 d_M_goSafe_49 rfl ?_
      refine V_aload_n C 0 d_M_goSafe_51 rfl ?_
      refine gM_M_heapOf C fl_M_88 d_M_goSafe_52 ?_
      refine V_iload C 1 d_M_goSafe_55 rfl ?_
      obtain ⟨hi57_1, hf⟩ := gu hf
      refine aM_22 (v := σ.2.1 22 x5.toNatClampNeg) C hi57_1 rfl d_M_goSafe_57 ?_
      obtain ⟨hi58_2, hf⟩ := gu hf
      refine sM_23 C hi58_2 d_M_goSafe_58 ?_
      refine V_iinc (v := x5 + (1 : Int32)) C 1 d_M_goSafe_59 rfl rfl (by decide) rfl ?_
      refine V_goto (pc := 62) (tgt := 36) C d_M_goSafe_62 (by decide) ?_
      refine V.sub [1, 0] rfl ?_
      exact ih (upA σ 23 x5.toNatClampNeg (σ.2.1 22 x5.toNatClampNeg)) (x5 + (1 : Int32)) hf
set_option maxRecDepth 4000 in
theorem w_M_goSafe_160 {E : Ev} {g : Gx} {σ' : St} {rec : St → Int32 → Int32 → Int32 → Int32 → Option St} {D : Nat} (hD : 9 ≤ D) (hrec : ∀ {l : Launch} {σ : St} {a1 : Int32} {a2 : Int32} {a3 : Int32} {a4 : Int32} {σ' : St}, rec σ a1 a2 a3 a4 = some σ' → CtV classes l y_M_goSafe b_M_goSafe 7 none D (wM g) [.ref (g.2.1 0), .int a1, .int a2, .int a3, .int a4] σ σ') (C : Cx E classes 7 (wM g) b_M_goSafe "WithTheRedsModel" (D + 1)) (hR : RetV E classes 7 (wM g) b_M_goSafe σ') {k89 : St → Int32 → Int32 → Int32 → Int32 → Int32 → Option St} (hk89 : ∀ (σ : St) (x1 : Int32) (x2 : Int32) (x3 : Int32) (x4 : Int32) (x5 : Int32), k89 σ x1 x2 x3 x4 x5 = some σ' → V E classes 7 (wM g) σ 89 [(0, .ref (g.2.1 0)), (1, .int x1), (2, .int x2), (3, .int x3), (4, .int x4), (5, .int x5)] []) : ∀ (σ : St) (x1 : Int32) (x2 : Int32) (x3 : Int32) (x4 : Int32) (x5 : Int32) (x6 : Int32) (y0 : Int32) (y1 : Int32) (y2 : Int32), f_M_goSafe_160 rec k89 σ x1 x2 x3 x4 x5 x6 y0 y1 y2 = some σ' → V E classes 7 (wM g) σ 160 [(0, .ref (g.2.1 0)), (1, .int x1), (2, .int x2), (3, .int x3), (4, .int x4), (5, .int x5), (6, .int x6)] [.int y0, .int y1, .int y2, .ref (g.2.1 0)] := by
  intro σ x1 x2 x3 x4 x5 x6 y0 y1 y2 hf
  unfold f_M_goSafe_160 at hf
  refine V_iload C 4 d_M_goSafe_160 rfl ?_
  obtain ⟨σ162_1, hg, hf⟩ := bd hf
  refine V_callVv C [.int y2, .int y1, .int y0, .int x4] (hrec hg) (by omega) cw_M_314 0 rfl rfl rfl rfl (Nat.le_of_ble_eq_true rfl) rfl d_M_goSafe_162 ?_
  refine V_aload_n C 0 d_M_goSafe_165 rfl ?_
  refine gM_M_heap C fl_M_85 d_M_goSafe_166 ?_
  refine V_iload C 5 d_M_goSafe_169 rfl ?_
  refine V_iload C 6 d_M_goSafe_171 rfl ?_
  obtain ⟨hi173_2, hf⟩ := gu hf
  refine sM_21 C hi173_2 d_M_goSafe_173 ?_
  refine V_iinc (v := x5 + (1 : Int32)) C 5 d_M_goSafe_174 rfl rfl (by decide) rfl ?_
  refine V_goto (pc := 177) (tgt := 89) C d_M_goSafe_177 (by decide) ?_
  refine V.sub [1, 2, 3, 4, 5, 0] rfl ?_
  exact hk89 (upA σ162_1 21 x5.toNatClampNeg x6) x1 x2 x3 x4 (x5 + (1 : Int32)) hf
set_option maxRecDepth 4000 in
theorem w_M_goSafe_119 {E : Ev} {g : Gx} {σ' : St} {rec : St → Int32 → Int32 → Int32 → Int32 → Option St} {D : Nat} (hD : 9 ≤ D) (hrec : ∀ {l : Launch} {σ : St} {a1 : Int32} {a2 : Int32} {a3 : Int32} {a4 : Int32} {σ' : St}, rec σ a1 a2 a3 a4 = some σ' → CtV classes l y_M_goSafe b_M_goSafe 7 none D (wM g) [.ref (g.2.1 0), .int a1, .int a2, .int a3, .int a4] σ σ') (C : Cx E classes 7 (wM g) b_M_goSafe "WithTheRedsModel" (D + 1)) (hR : RetV E classes 7 (wM g) b_M_goSafe σ') {k89 : St → Int32 → Int32 → Int32 → Int32 → Int32 → Option St} (hk89 : ∀ (σ : St) (x1 : Int32) (x2 : Int32) (x3 : Int32) (x4 : Int32) (x5 : Int32), k89 σ x1 x2 x3 x4 x5 = some σ' → V E classes 7 (wM g) σ 89 [(0, .ref (g.2.1 0)), (1, .int x1), (2, .int x2), (3, .int x3), (4, .int x4), (5, .int x5)] []) : ∀ (σ : St) (x1 : Int32) (x2 : Int32) (x3 : Int32) (x4 : Int32) (x5 : Int32) (y0 : Int32), f_M_goSafe_119 rec k89 σ x1 x2 x3 x4 x5 y0 = some σ' → V E classes 7 (wM g) σ 119 [(0, .ref (g.2.1 0)), (1, .int x1), (2, .int x2), (3, .int x3), (4, .int x4), (5, .int x5)] [.int y0] := by
  intro σ x1 x2 x3 x4 x5 y0 hf
  unfold f_M_goSafe_119 at hf
  refine V_istore C d_M_goSafe_119 (by decide) rfl ?_
  refine V_aload_n C 1 d_M_goSafe_121 rfl ?_
  refine gM_M_heap C fl_M_85 d_M_goSafe_122 ?_
  refine V_iload C 6 d_M_goSafe_125 rfl ?_
  refine V_iload C 0 d_M_goSafe_127 rfl ?_
  refine V_iconst (v := 1) C d_M_goSafe_129 (by decide) ?_
  refine V_iload_n C 3 d_M_goSafe_130 rfl ?_
  refine V_ishl C d_M_goSafe_131 ?_
  refine V_ior C d_M_goSafe_132 ?_
  obtain ⟨hi133_1, hf⟩ := gu hf
  refine sM_21 C hi133_1 d_M_goSafe_133 ?_
  refine V_aload_n C 1 d_M_goSafe_134 rfl ?_
  refine gM_M_heapOf C fl_M_88 d_M_goSafe_135 ?_
  refine V_iload_n C 3 d_M_goSafe_138 rfl ?_
  refine V_iload C 6 d_M_goSafe_139 rfl ?_
  obtain ⟨hi141_2, hf⟩ := gu hf
  refine sM_22 C hi141_2 d_M_goSafe_141 ?_
  refine V_aload_n C 1 d_M_goSafe_142 rfl ?_
  refine V_iload_n C 2 d_M_goSafe_143 rfl ?_
  refine V_iload_n C 3 d_M_goSafe_144 rfl ?_
  refine V_iconst (v := 1) C d_M_goSafe_145 (by decide) ?_
  refine V_iadd C d_M_goSafe_146 ?_
  refine V_iload C 6 d_M_goSafe_147 rfl ?_
  refine V_iload_n C 4 d_M_goSafe_149 rfl ?_
  refine V_icmp_ne (pc := 150) (tgt := 159) C d_M_goSafe_150 (by decide) hf (fun hf => ?_) (fun hf => ?_)
  · refine V_iload_n C 4 d_M_goSafe_159 rfl ?_
    refine V.sub [1, 2, 3, 4, 5, 6, 0] rfl ?_
    exact w_M_goSafe_160 hD hrec C hR hk89 (upA (upA σ 21 x5.toNatClampNeg (y0 ||| ((1 : Int32) <<< (x2 &&& 31)))) 22 x2.toNatClampNeg x5) x1 x2 x3 x4 x5 y0 x3 (x2 + (1 : Int32)) x1 hf
  · refine V_iload_n C 4 d_M_goSafe_153 rfl ?_
    refine V_iconst (v := 1) C d_M_goSafe_154 (by decide) ?_
    refine V_iadd C d_M_goSafe_155 ?_
    refine V_goto (pc := 156) (tgt := 160) C d_M_goSafe_156 (by decide) ?_
    refine V.sub [1, 2, 3, 4, 5, 6, 0] rfl ?_
    exact w_M_goSafe_160 hD hrec C hR hk89 (upA (upA σ 21 x5.toNatClampNeg (y0 ||| ((1 : Int32) <<< (x2 &&& 31)))) 22 x2.toNatClampNeg x5) x1 x2 x3 x4 x5 y0 (x3 + (1 : Int32)) (x2 + (1 : Int32)) x1 hf
set_option maxRecDepth 4000 in
theorem w_M_goSafe_89 {E : Ev} {g : Gx} {σ' : St} {rec : St → Int32 → Int32 → Int32 → Int32 → Option St} {D : Nat} (hD : 9 ≤ D) (hrec : ∀ {l : Launch} {σ : St} {a1 : Int32} {a2 : Int32} {a3 : Int32} {a4 : Int32} {σ' : St}, rec σ a1 a2 a3 a4 = some σ' → CtV classes l y_M_goSafe b_M_goSafe 7 none D (wM g) [.ref (g.2.1 0), .int a1, .int a2, .int a3, .int a4] σ σ') (C : Cx E classes 7 (wM g) b_M_goSafe "WithTheRedsModel" (D + 1)) (hR : RetV E classes 7 (wM g) b_M_goSafe σ') : ∀ (n : Nat) (σ : St) (x1 : Int32) (x2 : Int32) (x3 : Int32) (x4 : Int32) (x5 : Int32), f_M_goSafe_89 rec n σ x1 x2 x3 x4 x5 = some σ' → V E classes 7 (wM g) σ 89 [(0, .ref (g.2.1 0)), (1, .int x1), (2, .int x2), (3, .int x3), (4, .int x4), (5, .int x5)] [] := by
  intro n
  induction n with
  | zero => intro σ x1 x2 x3 x4 x5 hf; exact absurd hf (by unfold f_M_goSafe_89; exact nofun)
  | succ n ih =>
    intro σ x1 x2 x3 x4 x5 hf
    unfold f_M_goSafe_89 at hf
    refine V_iload C 5 d_M_goSafe_89 rfl ?_
    refine V_iload_n C 3 d_M_goSafe_91 rfl ?_
    refine V_icmp_gt (pc := 92) (tgt := 180) C d_M_goSafe_92 (by decide) hf (fun hf => ?_) (fun hf => ?_)
    · exact V_vret hR hf d_M_goSafe_180
    · refine V_iload C 5 d_M_goSafe_95 rfl ?_
      refine V_bipush (v := 10) C d_M_goSafe_97 (by decide) ?_
      refine V_icmp_ge (pc := 99) (tgt := 180) C d_M_goSafe_99 (by decide) hf (fun hf => ?_) (fun hf => ?_)
      · exact V_vret hR hf d_M_goSafe_180
      · refine V_iload C 5 d_M_goSafe_102 rfl ?_
        refine V_iload_n C 3 d_M_goSafe_104 rfl ?_
        refine V_icmp_ne (pc := 105) (tgt := 112) C d_M_goSafe_105 (by decide) hf (fun hf => ?_) (fun hf => ?_)
        · refine V_aload_n C 0 d_M_goSafe_112 rfl ?_
          refine gM_M_heap C fl_M_85 d_M_goSafe_113 ?_
          refine V_iload C 5 d_M_goSafe_116 rfl ?_
          obtain ⟨hi118_1, hf⟩ := gu hf
          refine aM_21 (v := σ.2.1 21 x5.toNatClampNeg) C hi118_1 rfl d_M_goSafe_118 ?_
          exact w_M_goSafe_119 hD hrec C hR ih σ x1 x2 x3 x4 x5 (σ.2.1 21 x5.toNatClampNeg) hf
        · refine V_iconst (v := 0) C d_M_goSafe_108 (by decide) ?_
          refine V_goto (pc := 109) (tgt := 119) C d_M_goSafe_109 (by decide) ?_
          exact w_M_goSafe_119 hD hrec C hR ih σ x1 x2 x3 x4 x5 (0 : Int32) hf
set_option maxRecDepth 4000 in
theorem w_M_goSafe_F {E : Ev} {g : Gx} {σ' : St} {rec : St → Int32 → Int32 → Int32 → Int32 → Option St} {D : Nat} (hD : 9 ≤ D) (hrec : ∀ {l : Launch} {σ : St} {a1 : Int32} {a2 : Int32} {a3 : Int32} {a4 : Int32} {σ' : St}, rec σ a1 a2 a3 a4 = some σ' → CtV classes l y_M_goSafe b_M_goSafe 7 none D (wM g) [.ref (g.2.1 0), .int a1, .int a2, .int a3, .int a4] σ σ') (C : Cx E classes 7 (wM g) b_M_goSafe "WithTheRedsModel" (D + 1)) (hR : RetV E classes 7 (wM g) b_M_goSafe σ') {σ : St} {a1 : Int32} {a2 : Int32} {a3 : Int32} {a4 : Int32} (hf : f_M_goSafe_F rec σ a1 a2 a3 a4 = some σ') : V E classes 7 (wM g) σ 0 [(0, .ref (g.2.1 0)), (1, .int a1), (2, .int a2), (3, .int a3), (4, .int a4)] [] := by
  unfold f_M_goSafe_F at hf
  refine V_iload_n C 3 d_M_goSafe_0 rfl ?_
  refine V_aload_n C 0 d_M_goSafe_1 rfl ?_
  refine gM_M_fewest (v := σ.1 37) C fl_M_308 rfl d_M_goSafe_2 ?_
  refine V_icmp_lt (pc := 5) (tgt := 9) C d_M_goSafe_5 (by decide) hf (fun hf => ?_) (fun hf => ?_)
  · refine V_iload_n C 2 d_M_goSafe_9 rfl ?_
    refine V_aload_n C 0 d_M_goSafe_10 rfl ?_
    refine gM_M_things (v := σ.1 1) C fl_M_150 rfl d_M_goSafe_11 ?_
    refine V_icmp_ne (pc := 14) (tgt := 66) C d_M_goSafe_14 (by decide) hf (fun hf => ?_) (fun hf => ?_)
    · refine V_iload_n C 1 d_M_goSafe_66 rfl ?_
      refine V_iload_n C 2 d_M_goSafe_67 rfl ?_
      refine V_ishr C d_M_goSafe_68 ?_
      refine V_iconst (v := 1) C d_M_goSafe_69 (by decide) ?_
      refine V_iand C d_M_goSafe_70 ?_
      refine V_if_ne (pc := 71) (tgt := 86) C d_M_goSafe_71 (by decide) hf (fun hf => ?_) (fun hf => ?_)
      · refine V_iconst (v := 0) C d_M_goSafe_86 (by decide) ?_
        refine V_istore C d_M_goSafe_87 (by decide) rfl ?_
        refine V.sub [1, 2, 3, 4, 5, 0] rfl ?_
        exact w_M_goSafe_89 hD hrec C hR FU σ a1 a2 a3 a4 (0 : Int32) hf
      · refine V_aload_n C 0 d_M_goSafe_74 rfl ?_
        refine V_iload_n C 1 d_M_goSafe_75 rfl ?_
        refine V_iload_n C 2 d_M_goSafe_76 rfl ?_
        refine V_iconst (v := 1) C d_M_goSafe_77 (by decide) ?_
        refine V_iadd C d_M_goSafe_78 ?_
        refine V_iload_n C 3 d_M_goSafe_79 rfl ?_
        refine V_iload C 4 d_M_goSafe_80 rfl ?_
        obtain ⟨σ82_1, hg, hf⟩ := bd hf
        refine V_callVv C [.int a1, .int (a2 + (1 : Int32)), .int a3, .int a4] (hrec hg) (by omega) cw_M_314 0 rfl rfl rfl rfl (Nat.le_of_ble_eq_true rfl) rfl d_M_goSafe_82 ?_
        exact V_vret hR hf d_M_goSafe_85
    · refine V_aload_n C 0 d_M_goSafe_17 rfl ?_
      refine V_iload_n C 3 d_M_goSafe_18 rfl ?_
      refine V_iload C 4 d_M_goSafe_19 rfl ?_
      obtain ⟨r21_2, σ21_2, hg, hf⟩ := bd2_of hf
      refine V_callVi C [.int a3, .int a4] (c_M_areSafe C.2.2.2.2.2.2.2.1 hg) (by omega) cw_M_311 0 rfl rfl rfl rfl (Nat.le_of_ble_eq_true rfl) rfl d_M_goSafe_21 ?_
      refine V_if_ne (pc := 24) (tgt := 28) C d_M_goSafe_24 (by decide) hf (fun hf => ?_) (fun hf => ?_)
      · refine V_aload_n C 0 d_M_goSafe_28 rfl ?_
        refine V_iload_n C 3 d_M_goSafe_29 rfl ?_
        refine pM_M_fewest C fl_M_308 d_M_goSafe_30 ?_
        refine V_iconst (v := 0) C d_M_goSafe_33 (by decide) ?_
        refine V_istore C d_M_goSafe_34 (by decide) rfl ?_
        refine V.sub [1, 0] rfl ?_
        exact w_M_goSafe_36 hD hrec C hR FU (upI σ21_2 37 a3) (0 : Int32) hf
      · exact V_vret hR hf d_M_goSafe_27
  · exact V_vret hR hf d_M_goSafe_8
theorem c_M_goSafe_F {l : Launch} {g : Gx} (hok : Wok classes (wM g)) {rec : St → Int32 → Int32 → Int32 → Int32 → Option St} {D : Nat} (hD : 9 ≤ D) (hrec : ∀ {l : Launch} {σ : St} {a1 : Int32} {a2 : Int32} {a3 : Int32} {a4 : Int32} {σ' : St}, rec σ a1 a2 a3 a4 = some σ' → CtV classes l y_M_goSafe b_M_goSafe 7 none D (wM g) [.ref (g.2.1 0), .int a1, .int a2, .int a3, .int a4] σ σ') {σ : St} {a1 : Int32} {a2 : Int32} {a3 : Int32} {a4 : Int32} {σ' : St} (hf : f_M_goSafe_F rec σ a1 a2 a3 a4 = some σ') : CtV classes l y_M_goSafe b_M_goSafe 7 none (D + 1) (wM g) [.ref (g.2.1 0), .int a1, .int a2, .int a3, .int a4] σ σ' :=
  MetV (by decide +kernel) hok (Nat.le_of_ble_eq_true rfl) (fun E _ C hR => w_M_goSafe_F hD hrec C hR hf)
theorem c_M_goSafe {l : Launch} {g : Gx} (hok : Wok classes (wM g)) (n : Nat) {σ : St} {a1 : Int32} {a2 : Int32} {a3 : Int32} {a4 : Int32} {σ' : St} (hf : f_M_goSafe n σ a1 a2 a3 a4 = some σ') : CtV classes l y_M_goSafe b_M_goSafe 7 none (9 + 1 * n) (wM g) [.ref (g.2.1 0), .int a1, .int a2, .int a3, .int a4] σ σ' := by
  induction n generalizing l σ a1 a2 a3 a4 σ' with
  | zero => exact absurd hf (by unfold f_M_goSafe; exact nofun)
  | succ n ih => exact c_M_goSafe_F hok (D := 9 + 1 * n) (by omega) (fun h => ih h) hf
set_option maxRecDepth 4000 in
theorem w_M_heaps {E : Ev} {g : Gx} {r : Int32} {σ' : St} (C : Cx E classes 4 (wM g) b_M_heaps "WithTheRedsModel" 30) (hR : RetI E classes 4 (wM g) b_M_heaps r σ') {σ : St} {a1 : Int32} {a2 : Int32} {a3 : Int32} (hf : f_M_heaps σ a1 a2 a3 = some (r, σ')) : V E classes 4 (wM g) σ 0 [(0, .ref (g.2.1 0)), (1, .int a1), (2, .int a2), (3, .int a3)] [] := by
  unfold f_M_heaps at hf
  refine V_aload_n C 0 d_M_heaps_0 rfl ?_
  refine V_iload_n C 1 d_M_heaps_1 rfl ?_
  obtain ⟨r2_1, hg, hf⟩ := bd hf
  refine V_callVi C [.int a1] (c_M_areThings C.2.2.2.2.2.2.2.1 hg) (by decide) cw_M_289 0 rfl rfl rfl rfl (Nat.le_of_ble_eq_true rfl) rfl d_M_heaps_2 ?_
  refine V_if_eq (pc := 5) (tgt := 29) C d_M_heaps_5 (by decide) hf (fun hf => ?_) (fun hf => ?_)
  · refine V_iconst (v := -1) C d_M_heaps_29 (by decide) ?_
    exact V_iretW hR hf d_M_heaps_30
  · refine V_iload_n C 2 d_M_heaps_8 rfl ?_
    obtain ⟨r9_2, hg, hf⟩ := bd hf
    refine V_callSi C [.int a2] (c_M_areMost C.2.2.2.2.2.2.2.1 hg) (by decide) cw_M_305 rfl (Nat.le_of_ble_eq_true rfl) rfl d_M_heaps_9 ?_
    refine V_if_eq (pc := 12) (tgt := 29) C d_M_heaps_12 (by decide) hf (fun hf => ?_) (fun hf => ?_)
    · refine V_iconst (v := -1) C d_M_heaps_29 (by decide) ?_
      exact V_iretW hR hf d_M_heaps_30
    · refine V_iload_n C 3 d_M_heaps_15 rfl ?_
      refine V_iconst (v := -1) C d_M_heaps_16 (by decide) ?_
      refine V_aload_n C 0 d_M_heaps_17 rfl ?_
      refine gM_M_things (v := σ.1 1) C fl_M_150 rfl d_M_heaps_18 ?_
      refine V_iconst (v := 1) C d_M_heaps_21 (by decide) ?_
      refine V_isub C d_M_heaps_22 ?_
      obtain ⟨r23_3, hg, hf⟩ := bd hf
      refine V_callSi C [.int a3, .int (-1 : Int32), .int ((σ.1 1) - (1 : Int32))] (c_M_in C.2.2.2.2.2.2.2.1 hg) (by decide) cw_M_153 rfl (Nat.le_of_ble_eq_true rfl) rfl d_M_heaps_23 ?_
      refine V_if_ne (pc := 26) (tgt := 31) C d_M_heaps_26 (by decide) hf (fun hf => ?_) (fun hf => ?_)
      · refine V_iload_n C 1 d_M_heaps_31 rfl ?_
        obtain ⟨r32_4, hg, hf⟩ := bd hf
        refine V_callSi C [.int a1] (c_M_bitsOf C.2.2.2.2.2.2.2.1 hg) (by decide) cw_M_318 rfl (Nat.le_of_ble_eq_true rfl) rfl d_M_heaps_32 ?_
        refine V_bipush (v := 8) C d_M_heaps_35 (by decide) ?_
        refine V_icmp_le (pc := 37) (tgt := 43) C d_M_heaps_37 (by decide) hf (fun hf => ?_) (fun hf => ?_)
        · refine V_aload_n C 0 d_M_heaps_43 rfl ?_
          refine V_bipush (v := 11) C d_M_heaps_44 (by decide) ?_
          refine pM_M_fewest C fl_M_308 d_M_heaps_46 ?_
          refine V_aload_n C 0 d_M_heaps_49 rfl ?_
          refine V_iload_n C 1 d_M_heaps_50 rfl ?_
          refine V_iconst (v := 0) C d_M_heaps_51 (by decide) ?_
          refine V_iconst (v := 0) C d_M_heaps_52 (by decide) ?_
          refine V_iload_n C 2 d_M_heaps_53 rfl ?_
          obtain ⟨σ54_5, hg, hf⟩ := bd hf
          refine V_callVv C [.int a1, .int (0 : Int32), .int (0 : Int32), .int a2] (c_M_goSafe C.2.2.2.2.2.2.2.1 20 hg) (by decide) cw_M_314 0 rfl rfl rfl rfl (Nat.le_of_ble_eq_true rfl) rfl d_M_heaps_54 ?_
          refine V_aload_n C 0 d_M_heaps_57 rfl ?_
          refine gM_M_fewest (v := σ54_5.1 37) C fl_M_308 rfl d_M_heaps_58 ?_
          refine V_bipush (v := 10) C d_M_heaps_61 (by decide) ?_
          refine V_icmp_le (pc := 63) (tgt := 69) C d_M_heaps_63 (by decide) hf (fun hf => ?_) (fun hf => ?_)
          · refine V_iload_n C 3 d_M_heaps_69 rfl ?_
            refine V_if_ge (pc := 70) (tgt := 80) C d_M_heaps_70 (by decide) hf (fun hf => ?_) (fun hf => ?_)
            · refine V_iload_n C 1 d_M_heaps_80 rfl ?_
              refine V_iload_n C 3 d_M_heaps_81 rfl ?_
              refine V_ishr C d_M_heaps_82 ?_
              refine V_iconst (v := 1) C d_M_heaps_83 (by decide) ?_
              refine V_iand C d_M_heaps_84 ?_
              refine V_iconst (v := 1) C d_M_heaps_85 (by decide) ?_
              refine V_icmp_ne (pc := 86) (tgt := 98) C d_M_heaps_86 (by decide) hf (fun hf => ?_) (fun hf => ?_)
              · refine V_bipush (v := -2) C d_M_heaps_98 (by decide) ?_
                exact V_iretW hR hf d_M_heaps_100
              · refine V_aload_n C 0 d_M_heaps_89 rfl ?_
                refine gM_M_bestHeap C fl_M_91 d_M_heaps_90 ?_
                refine V_iload_n C 3 d_M_heaps_93 rfl ?_
                obtain ⟨hi94_6, hf⟩ := gu hf
                refine aM_23 (v := σ54_5.2.1 23 a3.toNatClampNeg) C hi94_6 rfl d_M_heaps_94 ?_
                refine V_goto (pc := 95) (tgt := 100) C d_M_heaps_95 (by decide) ?_
                exact V_iretW hR hf d_M_heaps_100
            · refine V_aload_n C 0 d_M_heaps_73 rfl ?_
              refine gM_M_fewest (v := σ54_5.1 37) C fl_M_308 rfl d_M_heaps_74 ?_
              refine V_goto (pc := 77) (tgt := 100) C d_M_heaps_77 (by decide) ?_
              exact V_iretW hR hf d_M_heaps_100
          · refine V_bipush (v := -2) C d_M_heaps_66 (by decide) ?_
            exact V_iretW hR hf d_M_heaps_68
        · refine V_bipush (v := -5) C d_M_heaps_40 (by decide) ?_
          exact V_iretW hR hf d_M_heaps_42
      · refine V_iconst (v := -1) C d_M_heaps_29 (by decide) ?_
        exact V_iretW hR hf d_M_heaps_30
theorem c_M_heaps {l : Launch} {g : Gx} (hok : Wok classes (wM g)) {σ : St} {a1 : Int32} {a2 : Int32} {a3 : Int32} {r : Int32} {σ' : St} (hf : f_M_heaps σ a1 a2 a3 = some (r, σ')) : CtI classes l y_M_heaps b_M_heaps 4 (some .int) 30 (wM g) [.ref (g.2.1 0), .int a1, .int a2, .int a3] σ r σ' :=
  MetI (by decide +kernel) hok (Nat.le_of_ble_eq_true rfl) (fun E _ C hR => w_M_heaps C hR hf)
set_option maxRecDepth 4000 in
theorem w_M_heat_23 {E : Ev} {g : Gx} {r : Int32} {σ' : St} (C : Cx E classes 4 (wM g) b_M_heat "WithTheRedsModel" 8) (hR : RetI E classes 4 (wM g) b_M_heat r σ') : ∀ (n : Nat) (σ : St) (x1 : Int32) (x2 : Int32) (x3 : Int32), f_M_heat_23 n σ x1 x2 x3 = some (r, σ') → V E classes 4 (wM g) σ 23 [(0, .ref (g.2.1 0)), (1, .int x1), (2, .int x2), (3, .int x3)] [] := by
  intro n
  induction n with
  | zero => intro σ x1 x2 x3 hf; exact absurd hf (by unfold f_M_heat_23; exact nofun)
  | succ n ih =>
    intro σ x1 x2 x3 hf
    unfold f_M_heat_23 at hf
    refine V_iload_n C 3 d_M_heat_23 rfl ?_
    refine V_iconst (v := 3) C d_M_heat_24 (by decide) ?_
    refine V_icmp_lt (pc := 25) (tgt := 47) C d_M_heat_25 (by decide) hf (fun hf => ?_) (fun hf => ?_)
    · refine V_bipush (v := -2) C d_M_heat_47 (by decide) ?_
      exact V_iretW hR hf d_M_heat_49
    · refine V_aload_n C 0 d_M_heat_28 rfl ?_
      refine V_iload_n C 1 d_M_heat_29 rfl ?_
      refine V_iload_n C 3 d_M_heat_30 rfl ?_
      refine V_iconst (v := 0) C d_M_heat_31 (by decide) ?_
      refine V_iload_n C 2 d_M_heat_32 rfl ?_
      obtain ⟨r33_1, σ33_1, hg, hf⟩ := bd2_of hf
      refine V_callVi C [.int x1, .int x3, .int (0 : Int32), .int x2] (c_M_isSafe C.2.2.2.2.2.2.2.1 hg) (by decide) cw_M_301 0 rfl rfl rfl rfl (Nat.le_of_ble_eq_true rfl) rfl d_M_heat_33 ?_
      refine V_if_eq (pc := 36) (tgt := 41) C d_M_heat_36 (by decide) hf (fun hf => ?_) (fun hf => ?_)
      · refine V_iinc (v := x3 + (-1 : Int32)) C 3 d_M_heat_41 rfl rfl (by decide) rfl ?_
        refine V_goto (pc := 44) (tgt := 23) C d_M_heat_44 (by decide) ?_
        refine V.sub [1, 2, 3, 0] rfl ?_
        exact ih σ33_1 x1 x2 (x3 + (-1 : Int32)) hf
      · refine V_iload_n C 3 d_M_heat_39 rfl ?_
        exact V_iretW hR hf d_M_heat_40
set_option maxRecDepth 4000 in
theorem w_M_heat {E : Ev} {g : Gx} {r : Int32} {σ' : St} (C : Cx E classes 4 (wM g) b_M_heat "WithTheRedsModel" 8) (hR : RetI E classes 4 (wM g) b_M_heat r σ') {σ : St} {a1 : Int32} {a2 : Int32} (hf : f_M_heat σ a1 a2 = some (r, σ')) : V E classes 4 (wM g) σ 0 [(0, .ref (g.2.1 0)), (1, .int a1), (2, .int a2)] [] := by
  unfold f_M_heat at hf
  refine V_aload_n C 0 d_M_heat_0 rfl ?_
  refine V_iload_n C 1 d_M_heat_1 rfl ?_
  obtain ⟨r2_1, hg, hf⟩ := bd hf
  refine V_callVi C [.int a1] (c_M_areThings C.2.2.2.2.2.2.2.1 hg) (by decide) cw_M_289 0 rfl rfl rfl rfl (Nat.le_of_ble_eq_true rfl) rfl d_M_heat_2 ?_
  refine V_if_eq (pc := 5) (tgt := 18) C d_M_heat_5 (by decide) hf (fun hf => ?_) (fun hf => ?_)
  · refine V_iconst (v := -1) C d_M_heat_18 (by decide) ?_
    exact V_iretW hR hf d_M_heat_19
  · refine V_iload_n C 2 d_M_heat_8 rfl ?_
    refine V_iconst (v := 0) C d_M_heat_9 (by decide) ?_
    refine V_bipush (v := 99) C d_M_heat_10 (by decide) ?_
    obtain ⟨r12_2, hg, hf⟩ := bd hf
    refine V_callSi C [.int a2, .int (0 : Int32), .int (99 : Int32)] (c_M_in C.2.2.2.2.2.2.2.1 hg) (by decide) cw_M_153 rfl (Nat.le_of_ble_eq_true rfl) rfl d_M_heat_12 ?_
    refine V_if_ne (pc := 15) (tgt := 20) C d_M_heat_15 (by decide) hf (fun hf => ?_) (fun hf => ?_)
    · refine V_bipush (v := 9) C d_M_heat_20 (by decide) ?_
      refine V_istore_n C d_M_heat_22 (by decide) rfl ?_
      refine V.sub [1, 2, 3, 0] rfl ?_
      exact w_M_heat_23 C hR FU σ a1 a2 (9 : Int32) hf
    · refine V_iconst (v := -1) C d_M_heat_18 (by decide) ?_
      exact V_iretW hR hf d_M_heat_19
theorem c_M_heat {l : Launch} {g : Gx} (hok : Wok classes (wM g)) {σ : St} {a1 : Int32} {a2 : Int32} {r : Int32} {σ' : St} (hf : f_M_heat σ a1 a2 = some (r, σ')) : CtI classes l y_M_heat b_M_heat 4 (some .int) 8 (wM g) [.ref (g.2.1 0), .int a1, .int a2] σ r σ' :=
  MetI (by decide +kernel) hok (Nat.le_of_ble_eq_true rfl) (fun E _ C hR => w_M_heat C hR hf)
set_option maxRecDepth 4000 in
theorem w_M_rowFault {E : Ev} {g : Gx} {r : Int32} {σ : St} (C : Cx E classes 3 (wM g) b_M_rowFault "WithTheRedsModel" 1) (hR : RetI E classes 3 (wM g) b_M_rowFault r σ) {a1 : Int32} {a2 : Int32} (hf : f_M_rowFault σ a1 a2 = some r) : V E classes 3 (wM g) σ 0 [(0, .ref (g.2.1 0)), (1, .int a1), (2, .int a2)] [] := by
  unfold f_M_rowFault at hf
  refine V_aload_n C 0 d_M_rowFault_0 rfl ?_
  refine gM_M_holds C fl_M_134 d_M_rowFault_1 ?_
  refine V_iload_n C 1 d_M_rowFault_4 rfl ?_
  obtain ⟨hi5_1, hf⟩ := gu hf
  refine aM_37 (v := σ.2.1 37 a1.toNatClampNeg) C hi5_1 rfl d_M_rowFault_5 ?_
  refine V_iconst (v := -1) C d_M_rowFault_6 (by decide) ?_
  refine V_icmp_ne (pc := 7) (tgt := 15) C d_M_rowFault_7 (by decide) hf (fun hf => ?_) (fun hf => ?_)
  · refine V_aload_n C 0 d_M_rowFault_15 rfl ?_
    refine gM_M_holds C fl_M_134 d_M_rowFault_16 ?_
    refine V_iload_n C 1 d_M_rowFault_19 rfl ?_
    obtain ⟨hi20_2, hf⟩ := gu hf
    refine aM_37 (v := σ.2.1 37 a1.toNatClampNeg) C hi20_2 rfl d_M_rowFault_20 ?_
    refine V_bipush (v := -2) C d_M_rowFault_21 (by decide) ?_
    refine V_iload_n C 2 d_M_rowFault_23 rfl ?_
    refine V_isub C d_M_rowFault_24 ?_
    refine V_icmp_ne (pc := 25) (tgt := 32) C d_M_rowFault_25 (by decide) hf (fun hf => ?_) (fun hf => ?_)
    · refine V_bipush (v := -12) C d_M_rowFault_32 (by decide) ?_
      exact V_iret hR hf d_M_rowFault_34
    · refine V_iconst (v := 0) C d_M_rowFault_28 (by decide) ?_
      refine V_goto (pc := 29) (tgt := 34) C d_M_rowFault_29 (by decide) ?_
      exact V_iret hR hf d_M_rowFault_34
  · refine V_bipush (v := -11) C d_M_rowFault_10 (by decide) ?_
    refine V_goto (pc := 12) (tgt := 34) C d_M_rowFault_12 (by decide) ?_
    exact V_iret hR hf d_M_rowFault_34
theorem c_M_rowFault {l : Launch} {g : Gx} (hok : Wok classes (wM g)) {σ : St} {a1 : Int32} {a2 : Int32} {r : Int32} (hf : f_M_rowFault σ a1 a2 = some r) : CtI classes l y_M_rowFault b_M_rowFault 3 (some .int) 1 (wM g) [.ref (g.2.1 0), .int a1, .int a2] σ r σ :=
  MetI (by decide +kernel) hok (Nat.le_of_ble_eq_true rfl) (fun E _ C hR => w_M_rowFault C hR hf)
set_option maxRecDepth 4000 in
theorem w_M_wrongPink_14 {E : Ev} {g : Gx} {r : Int32} {σ' : St} (C : Cx E classes 8 (wM g) b_M_wrongPink "WithTheRedsModel" 7) (hR : RetI E classes 8 (wM g) b_M_wrongPink r σ') : ∀ (n : Nat) (σ : St) (x1 : Int32) (x2 : Int32) (x4 : Int32) (x6 : Int32) (x7 : Int32), f_M_wrongPink_14 n σ x1 x2 x4 x6 x7 = some (r, σ') → V E classes 8 (wM g) σ 14 [(0, .ref (g.2.1 0)), (1, .int x1), (2, .int x2), (4, .int x4), (6, .int x6), (7, .int x7)] [] := by
  intro n
  induction n with
  | zero => intro σ x1 x2 x4 x6 x7 hf; exact absurd hf (by unfold f_M_wrongPink_14; exact nofun)
  | succ n ih =>
    intro σ x1 x2 x4 x6 x7 hf
    unfold f_M_wrongPink_14 at hf
    refine V_iload C 5 d_M_wrongPink_14 rfl ?_
    refine V_aload_n C 0 d_M_wrongPink_16 rfl ?_
    refine gM_M_things (v := σ.1 1) C fl_M_150 rfl d_M_wrongPink_17 ?_
    refine V_icmp_ge (pc := 20) (tgt := 73) C d_M_wrongPink_20 (by decide) hf (fun hf => ?_) (fun hf => ?_)
    · refine V_bipush (v := -2) C d_M_wrongPink_73 (by decide) ?_
      exact V_iretW hR hf d_M_wrongPink_75
    · refine V_iload C 5 d_M_wrongPink_23 rfl ?_
      refine V_aload_n C 0 d_M_wrongPink_25 rfl ?_
      refine gM_M_size C fl_M_137 d_M_wrongPink_26 ?_
      refine V_iload_n C 1 d_M_wrongPink_29 rfl ?_
      obtain ⟨hi30_1, hf⟩ := gu hf
      refine aM_38 (v := σ.2.1 38 x1.toNatClampNeg) C hi30_1 rfl d_M_wrongPink_30 ?_
      refine V_icmp_ge (pc := 31) (tgt := 73) C d_M_wrongPink_31 (by decide) hf (fun hf => ?_) (fun hf => ?_)
      · refine V_bipush (v := -2) C d_M_wrongPink_73 (by decide) ?_
        exact V_iretW hR hf d_M_wrongPink_75
      · refine V_iload_n C 2 d_M_wrongPink_34 rfl ?_
        refine V_iload C 5 d_M_wrongPink_35 rfl ?_
        refine V_ishr C d_M_wrongPink_37 ?_
        refine V_iconst (v := 1) C d_M_wrongPink_38 (by decide) ?_
        refine V_iand C d_M_wrongPink_39 ?_
        refine V_iconst (v := 1) C d_M_wrongPink_40 (by decide) ?_
        refine V_icmp_ne (pc := 41) (tgt := 67) C d_M_wrongPink_41 (by decide) hf (fun hf => ?_) (fun hf => ?_)
        · refine V_iinc (v := x7 + (1 : Int32)) C 5 d_M_wrongPink_67 rfl rfl (by decide) rfl ?_
          refine V_goto (pc := 70) (tgt := 14) C d_M_wrongPink_70 (by decide) ?_
          refine V.sub [1, 2, 3, 4, 5, 0] rfl ?_
          exact ih σ x1 x2 x4 x6 (x7 + (1 : Int32)) hf
        · refine V_aload_n C 0 d_M_wrongPink_44 rfl ?_
          refine V_iload C 5 d_M_wrongPink_45 rfl ?_
          refine V_iload C 4 d_M_wrongPink_47 rfl ?_
          refine V_iload C 3 d_M_wrongPink_49 rfl ?_
          obtain ⟨r51_2, σ51_2, hg, hf⟩ := bd2_of hf
          refine V_callVi C [.int x7, .int x6, .int x4] (c_M_tinted C.2.2.2.2.2.2.2.1 hg) (by decide) cw_M_280 0 rfl rfl rfl rfl (Nat.le_of_ble_eq_true rfl) rfl d_M_wrongPink_51 ?_
          refine V_aload_n C 0 d_M_wrongPink_54 rfl ?_
          refine V_iload_n C 1 d_M_wrongPink_55 rfl ?_
          refine V_iload C 5 d_M_wrongPink_56 rfl ?_
          obtain ⟨r58_3, hg, hf⟩ := bd hf
          refine V_callVi C [.int x1, .int x7] (c_M_at C.2.2.2.2.2.2.2.1 hg) (by decide) cw_M_330 0 rfl rfl rfl rfl (Nat.le_of_ble_eq_true rfl) rfl d_M_wrongPink_58 ?_
          refine V_icmp_eq (pc := 61) (tgt := 67) C d_M_wrongPink_61 (by decide) hf (fun hf => ?_) (fun hf => ?_)
          · refine V_iinc (v := x7 + (1 : Int32)) C 5 d_M_wrongPink_67 rfl rfl (by decide) rfl ?_
            refine V_goto (pc := 70) (tgt := 14) C d_M_wrongPink_70 (by decide) ?_
            refine V.sub [1, 2, 3, 4, 5, 0] rfl ?_
            exact ih σ51_2 x1 x2 x4 x6 (x7 + (1 : Int32)) hf
          · refine V_iload C 5 d_M_wrongPink_64 rfl ?_
            exact V_iretW hR hf d_M_wrongPink_66
set_option maxRecDepth 4000 in
theorem w_M_wrongPink {E : Ev} {g : Gx} {r : Int32} {σ' : St} (C : Cx E classes 8 (wM g) b_M_wrongPink "WithTheRedsModel" 7) (hR : RetI E classes 8 (wM g) b_M_wrongPink r σ') {σ : St} {a1 : Int32} {a2 : Int32} {a3 : Int32} {a4 : Int32} {a5 : Int32} (hf : f_M_wrongPink σ a1 a2 a3 a4 a5 = some (r, σ')) : V E classes 8 (wM g) σ 0 [(0, .ref (g.2.1 0)), (1, .int a1), (2, .int a2), (3, .int a3), (4, .int a4), (5, .int a5)] [] := by
  unfold f_M_wrongPink at hf
  refine V_aload_n C 0 d_M_wrongPink_0 rfl ?_
  refine V_iload_n C 3 d_M_wrongPink_1 rfl ?_
  refine V_iload C 4 d_M_wrongPink_2 rfl ?_
  refine V_iload C 5 d_M_wrongPink_4 rfl ?_
  obtain ⟨r6_1, σ6_1, hg, hf⟩ := bd2_of hf
  refine V_callVi C [.int a3, .int a4, .int a5] (c_M_loose C.2.2.2.2.2.2.2.1 hg) (by decide) cw_M_277 0 rfl rfl rfl rfl (Nat.le_of_ble_eq_true rfl) rfl d_M_wrongPink_6 ?_
  refine V_istore C d_M_wrongPink_9 (by decide) rfl ?_
  refine V_iconst (v := 0) C d_M_wrongPink_11 (by decide) ?_
  refine V_istore C d_M_wrongPink_12 (by decide) rfl ?_
  refine V.sub [2, 3, 4, 6, 1, 0] rfl ?_
  exact w_M_wrongPink_14 C hR FU σ6_1 a1 a2 a4 r6_1 (0 : Int32) hf
theorem c_M_wrongPink {l : Launch} {g : Gx} (hok : Wok classes (wM g)) {σ : St} {a1 : Int32} {a2 : Int32} {a3 : Int32} {a4 : Int32} {a5 : Int32} {r : Int32} {σ' : St} (hf : f_M_wrongPink σ a1 a2 a3 a4 a5 = some (r, σ')) : CtI classes l y_M_wrongPink b_M_wrongPink 8 (some .int) 7 (wM g) [.ref (g.2.1 0), .int a1, .int a2, .int a3, .int a4, .int a5] σ r σ' :=
  MetI (by decide +kernel) hok (Nat.le_of_ble_eq_true rfl) (fun E _ C hR => w_M_wrongPink C hR hf)
set_option maxRecDepth 4000 in
theorem w_M_heatOfIt_33 {E : Ev} {g : Gx} {r : Int32} {σ' : St} (C : Cx E classes 5 (wM g) b_M_heatOfIt "WithTheRedsModel" 8) (hR : RetI E classes 5 (wM g) b_M_heatOfIt r σ') : ∀ (n : Nat) (σ : St) (x1 : Int32) (x2 : Int32) (x4 : Int32), f_M_heatOfIt_33 n σ x1 x2 x4 = some (r, σ') → V E classes 5 (wM g) σ 33 [(0, .ref (g.2.1 0)), (1, .int x1), (2, .int x2), (4, .int x4)] [] := by
  intro n
  induction n with
  | zero => intro σ x1 x2 x4 hf; exact absurd hf (by unfold f_M_heatOfIt_33; exact nofun)
  | succ n ih =>
    intro σ x1 x2 x4 hf
    unfold f_M_heatOfIt_33 at hf
    refine V_iload C 3 d_M_heatOfIt_33 rfl ?_
    refine V_bipush (v := 9) C d_M_heatOfIt_35 (by decide) ?_
    refine V_icmp_gt (pc := 37) (tgt := 62) C d_M_heatOfIt_37 (by decide) hf (fun hf => ?_) (fun hf => ?_)
    · refine V_bipush (v := -2) C d_M_heatOfIt_62 (by decide) ?_
      exact V_iretW hR hf d_M_heatOfIt_64
    · refine V_aload_n C 0 d_M_heatOfIt_40 rfl ?_
      refine V_iload_n C 1 d_M_heatOfIt_41 rfl ?_
      refine V_iload_n C 2 d_M_heatOfIt_42 rfl ?_
      refine V_iload_n C 2 d_M_heatOfIt_43 rfl ?_
      refine V_iload C 3 d_M_heatOfIt_44 rfl ?_
      refine V_iconst (v := 0) C d_M_heatOfIt_46 (by decide) ?_
      obtain ⟨r47_1, σ47_1, hg, hf⟩ := bd2_of hf
      refine V_callVi C [.int x1, .int x2, .int x2, .int x4, .int (0 : Int32)] (c_M_wrongPink C.2.2.2.2.2.2.2.1 hg) (by decide) cw_M_368 0 rfl rfl rfl rfl (Nat.le_of_ble_eq_true rfl) rfl d_M_heatOfIt_47 ?_
      refine V_if_ge (pc := 50) (tgt := 56) C d_M_heatOfIt_50 (by decide) hf (fun hf => ?_) (fun hf => ?_)
      · refine V_iinc (v := x4 + (1 : Int32)) C 3 d_M_heatOfIt_56 rfl rfl (by decide) rfl ?_
        refine V_goto (pc := 59) (tgt := 33) C d_M_heatOfIt_59 (by decide) ?_
        refine V.sub [1, 2, 3, 0] rfl ?_
        exact ih σ47_1 x1 x2 (x4 + (1 : Int32)) hf
      · refine V_iload C 3 d_M_heatOfIt_53 rfl ?_
        exact V_iretW hR hf d_M_heatOfIt_55
set_option maxRecDepth 4000 in
theorem w_M_heatOfIt {E : Ev} {g : Gx} {r : Int32} {σ' : St} (C : Cx E classes 5 (wM g) b_M_heatOfIt "WithTheRedsModel" 8) (hR : RetI E classes 5 (wM g) b_M_heatOfIt r σ') {σ : St} {a1 : Int32} {a2 : Int32} (hf : f_M_heatOfIt σ a1 a2 = some (r, σ')) : V E classes 5 (wM g) σ 0 [(0, .ref (g.2.1 0)), (1, .int a1), (2, .int a2)] [] := by
  unfold f_M_heatOfIt at hf
  refine V_iload_n C 1 d_M_heatOfIt_0 rfl ?_
  obtain ⟨r1_1, hg, hf⟩ := bd hf
  refine V_callSi C [.int a1] (c_M_isShelf C.2.2.2.2.2.2.2.1 hg) (by decide) cw_M_161 rfl (Nat.le_of_ble_eq_true rfl) rfl d_M_heatOfIt_1 ?_
  refine V_if_eq (pc := 4) (tgt := 15) C d_M_heatOfIt_4 (by decide) hf (fun hf => ?_) (fun hf => ?_)
  · refine V_iconst (v := -1) C d_M_heatOfIt_15 (by decide) ?_
    exact V_iretW hR hf d_M_heatOfIt_16
  · refine V_aload_n C 0 d_M_heatOfIt_7 rfl ?_
    refine V_iload_n C 2 d_M_heatOfIt_8 rfl ?_
    obtain ⟨r9_2, hg, hf⟩ := bd hf
    refine V_callVi C [.int a2] (c_M_areThings C.2.2.2.2.2.2.2.1 hg) (by decide) cw_M_289 0 rfl rfl rfl rfl (Nat.le_of_ble_eq_true rfl) rfl d_M_heatOfIt_9 ?_
    refine V_if_ne (pc := 12) (tgt := 17) C d_M_heatOfIt_12 (by decide) hf (fun hf => ?_) (fun hf => ?_)
    · refine V_aload_n C 0 d_M_heatOfIt_17 rfl ?_
      refine V_iload_n C 1 d_M_heatOfIt_18 rfl ?_
      refine V_iconst (v := 1) C d_M_heatOfIt_19 (by decide) ?_
      obtain ⟨r20_3, hg, hf⟩ := bd hf
      refine V_callVi C [.int a1, .int (1 : Int32)] (c_M_rowFault C.2.2.2.2.2.2.2.1 hg) (by decide) cw_M_337 0 rfl rfl rfl rfl (Nat.le_of_ble_eq_true rfl) rfl d_M_heatOfIt_20 ?_
      refine V_istore_n C d_M_heatOfIt_23 (by decide) rfl ?_
      refine V_iload_n C 0 d_M_heatOfIt_24 rfl ?_
      refine V_if_ge (pc := 25) (tgt := 30) C d_M_heatOfIt_25 (by decide) hf (fun hf => ?_) (fun hf => ?_)
      · refine V_iconst (v := 3) C d_M_heatOfIt_30 (by decide) ?_
        refine V_istore C d_M_heatOfIt_31 (by decide) rfl ?_
        refine V.sub [2, 3, 4, 0] rfl ?_
        exact w_M_heatOfIt_33 C hR FU σ a1 a2 (3 : Int32) hf
      · refine V_iload_n C 0 d_M_heatOfIt_28 rfl ?_
        exact V_iretW hR hf d_M_heatOfIt_29
    · refine V_iconst (v := -1) C d_M_heatOfIt_15 (by decide) ?_
      exact V_iretW hR hf d_M_heatOfIt_16
theorem c_M_heatOfIt {l : Launch} {g : Gx} (hok : Wok classes (wM g)) {σ : St} {a1 : Int32} {a2 : Int32} {r : Int32} {σ' : St} (hf : f_M_heatOfIt σ a1 a2 = some (r, σ')) : CtI classes l y_M_heatOfIt b_M_heatOfIt 5 (some .int) 8 (wM g) [.ref (g.2.1 0), .int a1, .int a2] σ r σ' :=
  MetI (by decide +kernel) hok (Nat.le_of_ble_eq_true rfl) (fun E _ C hR => w_M_heatOfIt C hR hf)
set_option maxRecDepth 4000 in
theorem w_M_image_67 {E : Ev} {g : Gx} {r : Int32} {σ' : St} (C : Cx E classes 2 (wM g) b_M_image "WithTheRedsModel" 1) (hR : RetI E classes 2 (wM g) b_M_image r σ') : ∀ (n : Nat) (σ : St) (x1 : Int32), f_M_image_67 n σ x1 = some (r, σ') → V E classes 2 (wM g) σ 67 [(0, .ref (g.2.1 0)), (1, .int x1)] [] := by
  intro n
  induction n with
  | zero => intro σ x1 hf; exact absurd hf (by unfold f_M_image_67; exact nofun)
  | succ n ih =>
    intro σ x1 hf
    unfold f_M_image_67 at hf
    refine V_iload_n C 1 d_M_image_67 rfl ?_
    refine V_iconst (v := 5) C d_M_image_68 (by decide) ?_
    refine V_icmp_ge (pc := 69) (tgt := 90) C d_M_image_69 (by decide) hf (fun hf => ?_) (fun hf => ?_)
    · refine V_aload_n C 0 d_M_image_90 rfl ?_
      refine gM_M_ledOf C fl_M_113 d_M_image_91 ?_
      refine V_iconst (v := 0) C d_M_image_94 (by decide) ?_
      refine aM_30 (v := σ.2.1 30 (0 : Int32).toNatClampNeg) C rfl rfl d_M_image_95 ?_
      exact V_iretW hR hf d_M_image_96
    · refine V_aload_n C 0 d_M_image_72 rfl ?_
      refine gM_M_keptLed C fl_M_125 d_M_image_73 ?_
      refine V_iload_n C 1 d_M_image_76 rfl ?_
      refine V_aload_n C 0 d_M_image_77 rfl ?_
      refine gM_M_ledOf C fl_M_113 d_M_image_78 ?_
      refine V_iload_n C 1 d_M_image_81 rfl ?_
      obtain ⟨hi82_1, hf⟩ := gu hf
      refine aM_30 (v := σ.2.1 30 x1.toNatClampNeg) C hi82_1 rfl d_M_image_82 ?_
      obtain ⟨hi83_2, hf⟩ := gu hf
      refine sM_34 C hi83_2 d_M_image_83 ?_
      refine V_iinc (v := x1 + (1 : Int32)) C 1 d_M_image_84 rfl rfl (by decide) rfl ?_
      refine V_goto (pc := 87) (tgt := 67) C d_M_image_87 (by decide) ?_
      refine V.sub [1, 0] rfl ?_
      exact ih (upA σ 34 x1.toNatClampNeg (σ.2.1 30 x1.toNatClampNeg)) (x1 + (1 : Int32)) hf
set_option maxRecDepth 4000 in
theorem w_M_image_15 {E : Ev} {g : Gx} {r : Int32} {σ' : St} (C : Cx E classes 2 (wM g) b_M_image "WithTheRedsModel" 1) (hR : RetI E classes 2 (wM g) b_M_image r σ') : ∀ (n : Nat) (σ : St) (x1 : Int32), f_M_image_15 n σ x1 = some (r, σ') → V E classes 2 (wM g) σ 15 [(0, .ref (g.2.1 0)), (1, .int x1)] [] := by
  intro n
  induction n with
  | zero => intro σ x1 hf; exact absurd hf (by unfold f_M_image_15; exact nofun)
  | succ n ih =>
    intro σ x1 hf
    unfold f_M_image_15 at hf
    refine V_iload_n C 1 d_M_image_15 rfl ?_
    refine V_aload_n C 0 d_M_image_16 rfl ?_
    refine gM_M_things (v := σ.1 1) C fl_M_150 rfl d_M_image_17 ?_
    refine V_icmp_ge (pc := 20) (tgt := 65) C d_M_image_20 (by decide) hf (fun hf => ?_) (fun hf => ?_)
    · refine V_iconst (v := 0) C d_M_image_65 (by decide) ?_
      refine V_istore_n C d_M_image_66 (by decide) rfl ?_
      refine V.sub [1, 0] rfl ?_
      exact w_M_image_67 C hR FU σ (0 : Int32) hf
    · refine V_aload_n C 0 d_M_image_23 rfl ?_
      refine gM_M_keptWashed C fl_M_116 d_M_image_24 ?_
      refine V_iload_n C 1 d_M_image_27 rfl ?_
      refine V_aload_n C 0 d_M_image_28 rfl ?_
      refine gM_M_washed C fl_M_16 d_M_image_29 ?_
      refine V_iload_n C 1 d_M_image_32 rfl ?_
      obtain ⟨hi33_1, hf⟩ := gu hf
      refine aM_3 (v := σ.2.1 3 x1.toNatClampNeg) C hi33_1 rfl d_M_image_33 ?_
      obtain ⟨hi34_2, hf⟩ := gu hf
      refine sM_31 C hi34_2 d_M_image_34 ?_
      refine V_aload_n C 0 d_M_image_35 rfl ?_
      refine gM_M_keptTint C fl_M_119 d_M_image_36 ?_
      refine V_iload_n C 1 d_M_image_39 rfl ?_
      refine V_aload_n C 0 d_M_image_40 rfl ?_
      refine gM_M_tintNow C fl_M_106 d_M_image_41 ?_
      refine V_iload_n C 1 d_M_image_44 rfl ?_
      obtain ⟨hi45_3, hf⟩ := gu hf
      refine aM_28 (v := σ.2.1 28 x1.toNatClampNeg) C hi45_3 rfl d_M_image_45 ?_
      obtain ⟨hi46_4, hf⟩ := gu hf
      refine sM_32 C hi46_4 d_M_image_46 ?_
      refine V_aload_n C 0 d_M_image_47 rfl ?_
      refine gM_M_keptAway C fl_M_122 d_M_image_48 ?_
      refine V_iload_n C 1 d_M_image_51 rfl ?_
      refine V_aload_n C 0 d_M_image_52 rfl ?_
      refine gM_M_away C fl_M_109 d_M_image_53 ?_
      refine V_iload_n C 1 d_M_image_56 rfl ?_
      obtain ⟨hi57_5, hf⟩ := gu hf
      refine aM_29 (v := σ.2.1 29 x1.toNatClampNeg) C hi57_5 rfl d_M_image_57 ?_
      obtain ⟨hi58_6, hf⟩ := gu hf
      refine sM_33 C hi58_6 d_M_image_58 ?_
      refine V_iinc (v := x1 + (1 : Int32)) C 1 d_M_image_59 rfl rfl (by decide) rfl ?_
      refine V_goto (pc := 62) (tgt := 15) C d_M_image_62 (by decide) ?_
      refine V.sub [1, 0] rfl ?_
      exact ih (upA (upA (upA σ 31 x1.toNatClampNeg (σ.2.1 3 x1.toNatClampNeg)) 32 x1.toNatClampNeg (σ.2.1 28 x1.toNatClampNeg)) 33 x1.toNatClampNeg (vp_nar .boolean (σ.2.1 29 x1.toNatClampNeg))) (x1 + (1 : Int32)) hf
set_option maxRecDepth 4000 in
theorem w_M_image {E : Ev} {g : Gx} {r : Int32} {σ' : St} (C : Cx E classes 2 (wM g) b_M_image "WithTheRedsModel" 1) (hR : RetI E classes 2 (wM g) b_M_image r σ') {σ : St} (hf : f_M_image σ = some (r, σ')) : V E classes 2 (wM g) σ 0 [(0, .ref (g.2.1 0))] [] := by
  unfold f_M_image at hf
  refine V_aload_n C 0 d_M_image_0 rfl ?_
  refine V_iconst (v := 1) C d_M_image_1 (by decide) ?_
  refine pM_M_hasImage C rfl fl_M_376 d_M_image_2 ?_
  refine V_aload_n C 0 d_M_image_5 rfl ?_
  refine V_aload_n C 0 d_M_image_6 rfl ?_
  refine gM_M_things (v := σ.1 1) C fl_M_150 rfl d_M_image_7 ?_
  refine pM_M_keptMany C fl_M_379 d_M_image_10 ?_
  refine V_iconst (v := 0) C d_M_image_13 (by decide) ?_
  refine V_istore_n C d_M_image_14 (by decide) rfl ?_
  refine V.sub [1, 0] rfl ?_
  exact w_M_image_15 C hR FU (upI (upI σ 48 (1 : Int32)) 49 (σ.1 1)) (0 : Int32) hf
theorem c_M_image {l : Launch} {g : Gx} (hok : Wok classes (wM g)) {σ : St} {r : Int32} {σ' : St} (hf : f_M_image σ = some (r, σ')) : CtI classes l y_M_image b_M_image 2 (some .int) 1 (wM g) [.ref (g.2.1 0)] σ r σ' :=
  MetI (by decide +kernel) hok (Nat.le_of_ble_eq_true rfl) (fun E _ C hR => w_M_image C hR hf)
set_option maxRecDepth 4000 in
theorem w_M_isOne {E : Ev} {g : Gx} {r : Int32} {σ : St} (C : Cx E classes 3 (wM g) b_M_isOne "WithTheRedsModel" 3) (hR : RetZ E classes 3 (wM g) b_M_isOne r σ) {a1 : Int32} {a2 : Int32} (hf : f_M_isOne σ a1 a2 = some r) : V E classes 3 (wM g) σ 0 [(0, .ref (g.2.1 0)), (1, .int a1), (2, .int a2)] [] := by
  unfold f_M_isOne at hf
  refine V_iload_n C 2 d_M_isOne_0 rfl ?_
  refine V_iconst (v := 0) C d_M_isOne_1 (by decide) ?_
  refine V_bipush (v := 7) C d_M_isOne_2 (by decide) ?_
  obtain ⟨r4_1, hg, hf⟩ := bd hf
  refine V_callSi C [.int a2, .int (0 : Int32), .int (7 : Int32)] (c_M_in C.2.2.2.2.2.2.2.1 hg) (by decide) cw_M_153 rfl (Nat.le_of_ble_eq_true rfl) rfl d_M_isOne_4 ?_
  refine V_if_eq (pc := 7) (tgt := 18) C d_M_isOne_7 (by decide) hf (fun hf => ?_) (fun hf => ?_)
  · refine V_iload_n C 2 d_M_isOne_18 rfl ?_
    refine V_bipush (v := 8) C d_M_isOne_19 (by decide) ?_
    refine V_bipush (v := 11) C d_M_isOne_21 (by decide) ?_
    obtain ⟨r23_2, hg, hf⟩ := bd hf
    refine V_callSi C [.int a2, .int (8 : Int32), .int (11 : Int32)] (c_M_in C.2.2.2.2.2.2.2.1 hg) (by decide) cw_M_153 rfl (Nat.le_of_ble_eq_true rfl) rfl d_M_isOne_23 ?_
    refine V_if_eq (pc := 26) (tgt := 37) C d_M_isOne_26 (by decide) hf (fun hf => ?_) (fun hf => ?_)
    · refine V_iconst (v := 0) C d_M_isOne_37 (by decide) ?_
      exact V_zret hR hf rfl d_M_isOne_38
    · refine V_iload_n C 1 d_M_isOne_29 rfl ?_
      refine V_if_ne (pc := 30) (tgt := 37) C d_M_isOne_30 (by decide) hf (fun hf => ?_) (fun hf => ?_)
      · refine V_iconst (v := 0) C d_M_isOne_37 (by decide) ?_
        exact V_zret hR hf rfl d_M_isOne_38
      · refine V_iconst (v := 1) C d_M_isOne_33 (by decide) ?_
        refine V_goto (pc := 34) (tgt := 38) C d_M_isOne_34 (by decide) ?_
        exact V_zret hR hf rfl d_M_isOne_38
  · refine V_aload_n C 0 d_M_isOne_10 rfl ?_
    refine V_iload_n C 1 d_M_isOne_11 rfl ?_
    obtain ⟨r12_3, hg, hf⟩ := bd hf
    refine V_callVi C [.int a1] (c_M_isThing C.2.2.2.2.2.2.2.1 hg) (by decide) cw_M_181 0 rfl rfl rfl rfl (Nat.le_of_ble_eq_true rfl) rfl d_M_isOne_12 ?_
    refine V_goto (pc := 15) (tgt := 38) C d_M_isOne_15 (by decide) ?_
    obtain ⟨hz, hf⟩ := gu hf
    exact V_zret hR hf hz d_M_isOne_38
theorem c_M_isOne {l : Launch} {g : Gx} (hok : Wok classes (wM g)) {σ : St} {a1 : Int32} {a2 : Int32} {r : Int32} (hf : f_M_isOne σ a1 a2 = some r) : CtI classes l y_M_isOne b_M_isOne 3 (some .boolean) 3 (wM g) [.ref (g.2.1 0), .int a1, .int a2] σ r σ :=
  MetZ (by decide +kernel) hok (Nat.le_of_ble_eq_true rfl) (fun E _ C hR => w_M_isOne C hR hf)
set_option maxRecDepth 4000 in
theorem w_M_offBy {E : Ev} {g : Gx} {r : Int32} {σ : St} (C : Cx E classes 2 (wM g) b_M_offBy "WithTheRedsModel" 1) (hR : RetI E classes 2 (wM g) b_M_offBy r σ) {a1 : Int32} (hf : f_M_offBy σ a1 = some r) : V E classes 2 (wM g) σ 0 [(0, .ref (g.2.1 0)), (1, .int a1)] [] := by
  unfold f_M_offBy at hf
  refine V_iload_n C 1 d_M_offBy_0 rfl ?_
  refine V_bipush (v := 10) C d_M_offBy_1 (by decide) ?_
  refine V_irem C d_M_offBy_3 (by decide) ?_
  refine V_iconst (v := 1) C d_M_offBy_4 (by decide) ?_
  refine V_icmp_ne (pc := 5) (tgt := 15) C d_M_offBy_5 (by decide) hf (fun hf => ?_) (fun hf => ?_)
  · refine V_iconst (v := 0) C d_M_offBy_15 (by decide) ?_
    exact V_iret hR hf d_M_offBy_16
  · refine V_aload_n C 0 d_M_offBy_8 rfl ?_
    refine gM_M_cloth (v := σ.1 11) C fl_M_38 rfl d_M_offBy_9 ?_
    refine V_goto (pc := 12) (tgt := 16) C d_M_offBy_12 (by decide) ?_
    exact V_iret hR hf d_M_offBy_16
theorem c_M_offBy {l : Launch} {g : Gx} (hok : Wok classes (wM g)) {σ : St} {a1 : Int32} {r : Int32} (hf : f_M_offBy σ a1 = some r) : CtI classes l y_M_offBy b_M_offBy 2 (some .int) 1 (wM g) [.ref (g.2.1 0), .int a1] σ r σ :=
  MetI (by decide +kernel) hok (Nat.le_of_ble_eq_true rfl) (fun E _ C hR => w_M_offBy C hR hf)
set_option maxRecDepth 4000 in
theorem w_M_judge {E : Ev} {g : Gx} {r : Int32} {σ' : St} (C : Cx E classes 5 (wM g) b_M_judge "WithTheRedsModel" 8) (hR : RetI E classes 5 (wM g) b_M_judge r σ') {σ : St} {a1 : Int32} {a2 : Int32} {a3 : Int32} (hf : f_M_judge σ a1 a2 a3 = some (r, σ')) : V E classes 5 (wM g) σ 0 [(0, .ref (g.2.1 0)), (1, .int a1), (2, .int a2), (3, .int a3)] [] := by
  unfold f_M_judge at hf
  refine V_iload_n C 1 d_M_judge_0 rfl ?_
  obtain ⟨r1_1, hg, hf⟩ := bd hf
  refine V_callSi C [.int a1] (c_M_isShelf C.2.2.2.2.2.2.2.1 hg) (by decide) cw_M_161 rfl (Nat.le_of_ble_eq_true rfl) rfl d_M_judge_1 ?_
  refine V_if_eq (pc := 4) (tgt := 22) C d_M_judge_4 (by decide) hf (fun hf => ?_) (fun hf => ?_)
  · refine V_iconst (v := -1) C d_M_judge_22 (by decide) ?_
    exact V_iretW hR hf d_M_judge_23
  · refine V_aload_n C 0 d_M_judge_7 rfl ?_
    refine V_iload_n C 2 d_M_judge_8 rfl ?_
    obtain ⟨r9_2, hg, hf⟩ := bd hf
    refine V_callVi C [.int a2] (c_M_areThings C.2.2.2.2.2.2.2.1 hg) (by decide) cw_M_289 0 rfl rfl rfl rfl (Nat.le_of_ble_eq_true rfl) rfl d_M_judge_9 ?_
    refine V_if_eq (pc := 12) (tgt := 22) C d_M_judge_12 (by decide) hf (fun hf => ?_) (fun hf => ?_)
    · refine V_iconst (v := -1) C d_M_judge_22 (by decide) ?_
      exact V_iretW hR hf d_M_judge_23
    · refine V_iload_n C 3 d_M_judge_15 rfl ?_
      obtain ⟨r16_3, hg, hf⟩ := bd hf
      refine V_callSi C [.int a3] (c_M_areHeat C.2.2.2.2.2.2.2.1 hg) (by decide) cw_M_292 rfl (Nat.le_of_ble_eq_true rfl) rfl d_M_judge_16 ?_
      refine V_if_ne (pc := 19) (tgt := 24) C d_M_judge_19 (by decide) hf (fun hf => ?_) (fun hf => ?_)
      · refine V_aload_n C 0 d_M_judge_24 rfl ?_
        refine V_iload_n C 1 d_M_judge_25 rfl ?_
        refine V_iconst (v := 1) C d_M_judge_26 (by decide) ?_
        obtain ⟨r27_4, hg, hf⟩ := bd hf
        refine V_callVi C [.int a1, .int (1 : Int32)] (c_M_rowFault C.2.2.2.2.2.2.2.1 hg) (by decide) cw_M_337 0 rfl rfl rfl rfl (Nat.le_of_ble_eq_true rfl) rfl d_M_judge_27 ?_
        refine V_istore C d_M_judge_30 (by decide) rfl ?_
        refine V_iload C 0 d_M_judge_32 rfl ?_
        refine V_if_ge (pc := 34) (tgt := 42) C d_M_judge_34 (by decide) hf (fun hf => ?_) (fun hf => ?_)
        · refine V_aload_n C 1 d_M_judge_42 rfl ?_
          refine V_iload_n C 2 d_M_judge_43 rfl ?_
          refine V_iload_n C 3 d_M_judge_44 rfl ?_
          refine V_iload_n C 3 d_M_judge_45 rfl ?_
          refine V_iload_n C 4 d_M_judge_46 rfl ?_
          refine V_bipush (v := 10) C d_M_judge_47 (by decide) ?_
          refine V_idiv C d_M_judge_49 (by decide) ?_
          refine V_aload_n C 1 d_M_judge_50 rfl ?_
          refine V_iload_n C 4 d_M_judge_51 rfl ?_
          obtain ⟨r52_5, hg, hf⟩ := bd hf
          refine V_callVi C [.int a3] (c_M_offBy C.2.2.2.2.2.2.2.1 hg) (by decide) cw_M_295 0 rfl rfl rfl rfl (Nat.le_of_ble_eq_true rfl) rfl d_M_judge_52 ?_
          obtain ⟨r55_6, σ55_6, hg, hf⟩ := bd2_of hf
          refine V_callVi C [.int a1, .int a2, .int a2, .int (a3 / (10 : Int32)), .int r52_5] (c_M_wrongPink C.2.2.2.2.2.2.2.1 hg) (by decide) cw_M_368 0 rfl rfl rfl rfl (Nat.le_of_ble_eq_true rfl) rfl d_M_judge_55 ?_
          exact V_iretW hR hf d_M_judge_58
        · refine V_iload C 0 d_M_judge_37 rfl ?_
          refine V_goto (pc := 39) (tgt := 58) C d_M_judge_39 (by decide) ?_
          exact V_iretW hR hf d_M_judge_58
      · refine V_iconst (v := -1) C d_M_judge_22 (by decide) ?_
        exact V_iretW hR hf d_M_judge_23
theorem c_M_judge {l : Launch} {g : Gx} (hok : Wok classes (wM g)) {σ : St} {a1 : Int32} {a2 : Int32} {a3 : Int32} {r : Int32} {σ' : St} (hf : f_M_judge σ a1 a2 a3 = some (r, σ')) : CtI classes l y_M_judge b_M_judge 5 (some .int) 8 (wM g) [.ref (g.2.1 0), .int a1, .int a2, .int a3] σ r σ' :=
  MetI (by decide +kernel) hok (Nat.le_of_ble_eq_true rfl) (fun E _ C hR => w_M_judge C hR hf)
set_option maxRecDepth 4000 in
theorem w_M_keep {E : Ev} {g : Gx} {r : Int32} {σ' : St} (C : Cx E classes 3 (wM g) b_M_keep "WithTheRedsModel" 3) (hR : RetI E classes 3 (wM g) b_M_keep r σ') {σ : St} {a1 : Int32} {a2 : Int32} (hf : f_M_keep σ a1 a2 = some (r, σ')) : V E classes 3 (wM g) σ 0 [(0, .ref (g.2.1 0)), (1, .int a1), (2, .int a2)] [] := by
  unfold f_M_keep at hf
  refine V_iload_n C 1 d_M_keep_0 rfl ?_
  obtain ⟨r1_1, hg, hf⟩ := bd hf
  refine V_callSi C [.int a1] (c_M_isShelf C.2.2.2.2.2.2.2.1 hg) (by decide) cw_M_161 rfl (Nat.le_of_ble_eq_true rfl) rfl d_M_keep_1 ?_
  refine V_if_eq (pc := 4) (tgt := 20) C d_M_keep_4 (by decide) hf (fun hf => ?_) (fun hf => ?_)
  · refine V_iconst (v := -1) C d_M_keep_20 (by decide) ?_
    exact V_iretW hR hf d_M_keep_21
  · refine V_iload_n C 2 d_M_keep_7 rfl ?_
    refine V_iconst (v := -1) C d_M_keep_8 (by decide) ?_
    refine V_icmp_eq (pc := 9) (tgt := 22) C d_M_keep_9 (by decide) hf (fun hf => ?_) (fun hf => ?_)
    · refine V_aload_n C 0 d_M_keep_22 rfl ?_
      refine gM_M_holds C fl_M_134 d_M_keep_23 ?_
      refine V_iload_n C 1 d_M_keep_26 rfl ?_
      refine V_iload_n C 2 d_M_keep_27 rfl ?_
      obtain ⟨hi28_2, hf⟩ := gu hf
      refine sM_37 C hi28_2 d_M_keep_28 ?_
      refine V_iconst (v := 1) C d_M_keep_29 (by decide) ?_
      exact V_iretW hR hf d_M_keep_30
    · refine V_aload_n C 0 d_M_keep_12 rfl ?_
      refine V_iload_n C 2 d_M_keep_13 rfl ?_
      obtain ⟨r14_3, hg, hf⟩ := bd hf
      refine V_callVi C [.int a2] (c_M_isBody C.2.2.2.2.2.2.2.1 hg) (by decide) cw_M_424 0 rfl rfl rfl rfl (Nat.le_of_ble_eq_true rfl) rfl d_M_keep_14 ?_
      refine V_if_ne (pc := 17) (tgt := 22) C d_M_keep_17 (by decide) hf (fun hf => ?_) (fun hf => ?_)
      · refine V_aload_n C 0 d_M_keep_22 rfl ?_
        refine gM_M_holds C fl_M_134 d_M_keep_23 ?_
        refine V_iload_n C 1 d_M_keep_26 rfl ?_
        refine V_iload_n C 2 d_M_keep_27 rfl ?_
        obtain ⟨hi28_4, hf⟩ := gu hf
        refine sM_37 C hi28_4 d_M_keep_28 ?_
        refine V_iconst (v := 1) C d_M_keep_29 (by decide) ?_
        exact V_iretW hR hf d_M_keep_30
      · refine V_iconst (v := -1) C d_M_keep_20 (by decide) ?_
        exact V_iretW hR hf d_M_keep_21
theorem c_M_keep {l : Launch} {g : Gx} (hok : Wok classes (wM g)) {σ : St} {a1 : Int32} {a2 : Int32} {r : Int32} {σ' : St} (hf : f_M_keep σ a1 a2 = some (r, σ')) : CtI classes l y_M_keep b_M_keep 3 (some .int) 3 (wM g) [.ref (g.2.1 0), .int a1, .int a2] σ r σ' :=
  MetI (by decide +kernel) hok (Nat.le_of_ble_eq_true rfl) (fun E _ C hR => w_M_keep C hR hf)
set_option maxRecDepth 4000 in
theorem w_M_late_50 {E : Ev} {g : Gx} {r : Int32} {σ : St} (C : Cx E classes 7 (wM g) b_M_late "WithTheRedsModel" 4) (hR : RetI E classes 7 (wM g) b_M_late r σ) : ∀ (n : Nat) (x1 : Int32) (x4 : Int32) (x5 : Int32), f_M_late_50 n σ x1 x4 x5 = some r → V E classes 7 (wM g) σ 50 [(0, .ref (g.2.1 0)), (1, .int x1), (4, .int x4), (5, .int x5)] [] := by
  intro n
  induction n with
  | zero => intro x1 x4 x5 hf; exact absurd hf (by unfold f_M_late_50; exact nofun)
  | succ n ih =>
    intro x1 x4 x5 hf
    unfold f_M_late_50 at hf
    refine V_iload C 3 d_M_late_50 rfl ?_
    refine V_aload_n C 0 d_M_late_52 rfl ?_
    refine gM_M_things (v := σ.1 1) C fl_M_150 rfl d_M_late_53 ?_
    refine V_icmp_ge (pc := 56) (tgt := 102) C d_M_late_56 (by decide) hf (fun hf => ?_) (fun hf => ?_)
    · refine V_iload C 2 d_M_late_102 rfl ?_
      exact V_iret hR hf d_M_late_104
    · refine V_aload_n C 0 d_M_late_59 rfl ?_
      refine V_iload_n C 1 d_M_late_60 rfl ?_
      refine V_iload C 3 d_M_late_61 rfl ?_
      refine V_iconst (v := 0) C d_M_late_63 (by decide) ?_
      refine V_iconst (v := 0) C d_M_late_64 (by decide) ?_
      obtain ⟨r65_1, hg, hf⟩ := bd hf
      refine V_callVi C [.int x1, .int x5, .int (0 : Int32), .int (0 : Int32)] (c_M_dayOf C.2.2.2.2.2.2.2.1 hg) (by decide) cw_M_333 0 rfl rfl rfl rfl (Nat.le_of_ble_eq_true rfl) rfl d_M_late_65 ?_
      refine V_istore C d_M_late_68 (by decide) rfl ?_
      refine V_iload C 0 d_M_late_70 rfl ?_
      refine V_if_lt (pc := 72) (tgt := 87) C d_M_late_72 (by decide) hf (fun hf => ?_) (fun hf => ?_)
      · refine V_iload C 3 d_M_late_87 rfl ?_
        refine V_iconst (v := 1) C d_M_late_89 (by decide) ?_
        refine V_iload C 4 d_M_late_90 rfl ?_
        refine V_ishl C d_M_late_92 ?_
        refine V_ior C d_M_late_93 ?_
        refine V_istore C d_M_late_94 (by decide) rfl ?_
        refine V_iinc (v := x5 + (1 : Int32)) C 4 d_M_late_96 rfl rfl (by decide) rfl ?_
        refine V_goto (pc := 99) (tgt := 50) C d_M_late_99 (by decide) ?_
        refine V.sub [3, 4, 1, 0] rfl ?_
        exact ih x1 (x4 ||| ((1 : Int32) <<< (x5 &&& 31))) (x5 + (1 : Int32)) hf
      · refine V_iload C 0 d_M_late_75 rfl ?_
        refine V_aload_n C 1 d_M_late_77 rfl ?_
        refine gM_M_by C fl_M_31 d_M_late_78 ?_
        refine V_iload C 4 d_M_late_81 rfl ?_
        obtain ⟨hi83_2, hf⟩ := gu hf
        refine aM_8 (v := σ.2.1 8 x5.toNatClampNeg) C hi83_2 rfl d_M_late_83 ?_
        refine V_icmp_le (pc := 84) (tgt := 96) C d_M_late_84 (by decide) hf (fun hf => ?_) (fun hf => ?_)
        · refine V_iinc (v := x5 + (1 : Int32)) C 4 d_M_late_96 rfl rfl (by decide) rfl ?_
          refine V_goto (pc := 99) (tgt := 50) C d_M_late_99 (by decide) ?_
          refine V.sub [2, 3, 4, 0] rfl ?_
          exact ih x1 x4 (x5 + (1 : Int32)) hf
        · refine V_iload C 3 d_M_late_87 rfl ?_
          refine V_iconst (v := 1) C d_M_late_89 (by decide) ?_
          refine V_iload C 4 d_M_late_90 rfl ?_
          refine V_ishl C d_M_late_92 ?_
          refine V_ior C d_M_late_93 ?_
          refine V_istore C d_M_late_94 (by decide) rfl ?_
          refine V_iinc (v := x5 + (1 : Int32)) C 4 d_M_late_96 rfl rfl (by decide) rfl ?_
          refine V_goto (pc := 99) (tgt := 50) C d_M_late_99 (by decide) ?_
          refine V.sub [3, 4, 1, 0] rfl ?_
          exact ih x1 (x4 ||| ((1 : Int32) <<< (x5 &&& 31))) (x5 + (1 : Int32)) hf
set_option maxRecDepth 4000 in
theorem w_M_late {E : Ev} {g : Gx} {r : Int32} {σ : St} (C : Cx E classes 7 (wM g) b_M_late "WithTheRedsModel" 4) (hR : RetI E classes 7 (wM g) b_M_late r σ) {a1 : Int32} {a2 : Int32} (hf : f_M_late σ a1 a2 = some r) : V E classes 7 (wM g) σ 0 [(0, .ref (g.2.1 0)), (1, .int a1), (2, .int a2)] [] := by
  unfold f_M_late at hf
  refine V_iload_n C 1 d_M_late_0 rfl ?_
  obtain ⟨r1_1, hg, hf⟩ := bd hf
  refine V_callSi C [.int a1] (c_M_isShelf C.2.2.2.2.2.2.2.1 hg) (by decide) cw_M_161 rfl (Nat.le_of_ble_eq_true rfl) rfl d_M_late_1 ?_
  refine V_if_eq (pc := 4) (tgt := 16) C d_M_late_4 (by decide) hf (fun hf => ?_) (fun hf => ?_)
  · refine V_iconst (v := -1) C d_M_late_16 (by decide) ?_
    exact V_iret hR hf d_M_late_17
  · refine V_iload_n C 2 d_M_late_7 rfl ?_
    refine V_iconst (v := 0) C d_M_late_8 (by decide) ?_
    refine V_iconst (v := 1) C d_M_late_9 (by decide) ?_
    obtain ⟨r10_2, hg, hf⟩ := bd hf
    refine V_callSi C [.int a2, .int (0 : Int32), .int (1 : Int32)] (c_M_in C.2.2.2.2.2.2.2.1 hg) (by decide) cw_M_153 rfl (Nat.le_of_ble_eq_true rfl) rfl d_M_late_10 ?_
    refine V_if_ne (pc := 13) (tgt := 18) C d_M_late_13 (by decide) hf (fun hf => ?_) (fun hf => ?_)
    · refine V_aload_n C 0 d_M_late_18 rfl ?_
      refine V_iload_n C 1 d_M_late_19 rfl ?_
      refine V_iconst (v := 0) C d_M_late_20 (by decide) ?_
      obtain ⟨r21_3, hg, hf⟩ := bd hf
      refine V_callVi C [.int a1, .int (0 : Int32)] (c_M_rowFault C.2.2.2.2.2.2.2.1 hg) (by decide) cw_M_337 0 rfl rfl rfl rfl (Nat.le_of_ble_eq_true rfl) rfl d_M_late_21 ?_
      refine V_istore_n C d_M_late_24 (by decide) rfl ?_
      refine V_iload_n C 0 d_M_late_25 rfl ?_
      refine V_if_ge (pc := 26) (tgt := 31) C d_M_late_26 (by decide) hf (fun hf => ?_) (fun hf => ?_)
      · refine V_iload_n C 3 d_M_late_31 rfl ?_
        refine V_iconst (v := 1) C d_M_late_32 (by decide) ?_
        refine V_icmp_ne (pc := 33) (tgt := 44) C d_M_late_33 (by decide) hf (fun hf => ?_) (fun hf => ?_)
        · refine V_iconst (v := 0) C d_M_late_44 (by decide) ?_
          refine V_istore C d_M_late_45 (by decide) rfl ?_
          refine V_iconst (v := 0) C d_M_late_47 (by decide) ?_
          refine V_istore C d_M_late_48 (by decide) rfl ?_
          refine V.sub [3, 4, 1, 0] rfl ?_
          exact w_M_late_50 C hR FU a1 (0 : Int32) (0 : Int32) hf
        · refine V_aload_n C 1 d_M_late_36 rfl ?_
          refine V_iload_n C 2 d_M_late_37 rfl ?_
          refine V_iconst (v := 0) C d_M_late_38 (by decide) ?_
          refine V_iconst (v := 0) C d_M_late_39 (by decide) ?_
          obtain ⟨r40_4, hg, hf⟩ := bd hf
          refine V_callVi C [.int a1, .int (0 : Int32), .int (0 : Int32)] (c_M_daysLate C.2.2.2.2.2.2.2.1 hg) (by decide) cw_M_340 0 rfl rfl rfl rfl (Nat.le_of_ble_eq_true rfl) rfl d_M_late_40 ?_
          exact V_iret hR hf d_M_late_43
      · refine V_iload_n C 0 d_M_late_29 rfl ?_
        exact V_iret hR hf d_M_late_30
    · refine V_iconst (v := -1) C d_M_late_16 (by decide) ?_
      exact V_iret hR hf d_M_late_17
theorem c_M_late {l : Launch} {g : Gx} (hok : Wok classes (wM g)) {σ : St} {a1 : Int32} {a2 : Int32} {r : Int32} (hf : f_M_late σ a1 a2 = some r) : CtI classes l y_M_late b_M_late 7 (some .int) 4 (wM g) [.ref (g.2.1 0), .int a1, .int a2] σ r σ :=
  MetI (by decide +kernel) hok (Nat.le_of_ble_eq_true rfl) (fun E _ C hR => w_M_late C hR hf)
set_option maxRecDepth 4000 in
theorem w_M_oneLine_66 {E : Ev} {g : Gx} {σ' : St} (C : Cx E classes 2 (wM g) b_M_oneLine "WithTheRedsModel" 129) (hR : RetV E classes 2 (wM g) b_M_oneLine σ') : ∀ (σ : St) (x1 : Int32), f_M_oneLine_66 σ x1 = some σ' → V E classes 2 (wM g) σ 66 [(0, .ref (g.2.1 0)), (1, .int x1)] [] := by
  intro σ x1 hf
  unfold f_M_oneLine_66 at hf
  refine V_aload_n C 0 d_M_oneLine_66 rfl ?_
  refine gM_M_lineEnd C fl_M_76 d_M_oneLine_67 ?_
  refine V_iload_n C 1 d_M_oneLine_70 rfl ?_
  refine V_aload_n C 0 d_M_oneLine_71 rfl ?_
  refine gM_M_laid (v := σ.1 25) C fl_M_203 rfl d_M_oneLine_72 ?_
  refine V_i2s C d_M_oneLine_75 ?_
  obtain ⟨hi76_1, hf⟩ := gu hf
  refine sM_18 C hi76_1 d_M_oneLine_76 ?_
  refine V_aload_n C 0 d_M_oneLine_77 rfl ?_
  refine gM_M_lineMany C fl_M_69 d_M_oneLine_78 ?_
  refine V_iconst (v := 1) C d_M_oneLine_81 (by decide) ?_
  refine V_dup2 C d_M_oneLine_82 rfl rfl ?_
  refine aM_16 (v := σ.2.1 16 (1 : Int32).toNatClampNeg) C rfl rfl d_M_oneLine_83 ?_
  refine V_iconst (v := 1) C d_M_oneLine_84 (by decide) ?_
  refine V_iadd C d_M_oneLine_85 ?_
  refine sM_16 C rfl d_M_oneLine_86 ?_
  exact V_vret hR hf d_M_oneLine_87
set_option maxRecDepth 4000 in
theorem w_M_oneLine {E : Ev} {g : Gx} {σ' : St} (C : Cx E classes 2 (wM g) b_M_oneLine "WithTheRedsModel" 129) (hR : RetV E classes 2 (wM g) b_M_oneLine σ') {σ : St} (hf : f_M_oneLine σ = some σ') : V E classes 2 (wM g) σ 0 [(0, .ref (g.2.1 0))] [] := by
  unfold f_M_oneLine at hf
  refine V_bipush (v := 61) C d_M_oneLine_0 (by decide) ?_
  refine V_aload_n C 0 d_M_oneLine_2 rfl ?_
  refine gM_M_lineMany C fl_M_69 d_M_oneLine_3 ?_
  refine V_iconst (v := 1) C d_M_oneLine_6 (by decide) ?_
  refine aM_16 (v := σ.2.1 16 (1 : Int32).toNatClampNeg) C rfl rfl d_M_oneLine_7 ?_
  refine V_iadd C d_M_oneLine_8 ?_
  refine V_istore_n C d_M_oneLine_9 (by decide) rfl ?_
  refine V_aload_n C 1 d_M_oneLine_10 rfl ?_
  refine gM_M_testEnd C fl_M_72 d_M_oneLine_11 ?_
  refine V_iload_n C 0 d_M_oneLine_14 rfl ?_
  refine V_aload_n C 1 d_M_oneLine_15 rfl ?_
  refine gM_M_laid (v := σ.1 25) C fl_M_203 rfl d_M_oneLine_16 ?_
  refine V_i2s C d_M_oneLine_19 ?_
  obtain ⟨hi20_1, hf⟩ := gu hf
  refine sM_17 C hi20_1 d_M_oneLine_20 ?_
  refine V_aload_n C 1 d_M_oneLine_21 rfl ?_
  obtain ⟨σ22_2, hg, hf⟩ := bd hf
  refine V_callVv C [] (c_M_either C.2.2.2.2.2.2.2.1 (D := 3 + 6 * 20) (by decide) (fun h => c_M_operand C.2.2.2.2.2.2.2.1 20 h) hg) (by decide) cw_M_231 0 rfl rfl rfl rfl (Nat.le_of_ble_eq_true rfl) rfl d_M_oneLine_22 ?_
  refine V_aload_n C 1 d_M_oneLine_25 rfl ?_
  refine gM_M_fault (v := σ22_2.1 23) C fl_M_200 rfl d_M_oneLine_26 ?_
  refine V_if_ge (pc := 29) (tgt := 66) C d_M_oneLine_29 (by decide) hf (fun hf => ?_) (fun hf => ?_)
  · refine V.sub [1, 0] rfl ?_
    exact w_M_oneLine_66 C hR σ22_2 ((61 : Int32) + (σ.2.1 16 (1 : Int32).toNatClampNeg)) hf
  · refine V_aload_n C 1 d_M_oneLine_32 rfl ?_
    obtain ⟨r33_3, hg, hf⟩ := bd hf
    refine V_callVi C [] (c_M_look C.2.2.2.2.2.2.2.1 hg) (by decide) cw_M_212 0 rfl rfl rfl rfl (Nat.le_of_ble_eq_true rfl) rfl d_M_oneLine_33 ?_
    refine V_bipush (v := 63) C d_M_oneLine_36 (by decide) ?_
    refine V_icmp_ne (pc := 38) (tgt := 66) C d_M_oneLine_38 (by decide) hf (fun hf => ?_) (fun hf => ?_)
    · refine V.sub [1, 0] rfl ?_
      exact w_M_oneLine_66 C hR σ22_2 ((61 : Int32) + (σ.2.1 16 (1 : Int32).toNatClampNeg)) hf
    · refine V_aload_n C 1 d_M_oneLine_41 rfl ?_
      refine V_dup C d_M_oneLine_42 rfl ?_
      refine gM_M_here (v := σ22_2.1 22) C fl_M_197 rfl d_M_oneLine_43 ?_
      refine V_iconst (v := 1) C d_M_oneLine_46 (by decide) ?_
      refine V_iadd C d_M_oneLine_47 ?_
      refine pM_M_here C fl_M_197 d_M_oneLine_48 ?_
      refine V_aload_n C 1 d_M_oneLine_51 rfl ?_
      refine gM_M_testEnd C fl_M_72 d_M_oneLine_52 ?_
      refine V_iload_n C 0 d_M_oneLine_55 rfl ?_
      refine V_aload_n C 1 d_M_oneLine_56 rfl ?_
      refine gM_M_laid (v := σ22_2.1 25) C fl_M_203 rfl d_M_oneLine_57 ?_
      refine V_i2s C d_M_oneLine_60 ?_
      obtain ⟨hi61_4, hf⟩ := gu hf
      refine sM_17 C hi61_4 d_M_oneLine_61 ?_
      refine V_aload_n C 1 d_M_oneLine_62 rfl ?_
      obtain ⟨σ63_5, hg, hf⟩ := bd hf
      refine V_callVv C [] (c_M_either C.2.2.2.2.2.2.2.1 (D := 3 + 6 * 20) (by decide) (fun h => c_M_operand C.2.2.2.2.2.2.2.1 20 h) hg) (by decide) cw_M_231 0 rfl rfl rfl rfl (Nat.le_of_ble_eq_true rfl) rfl d_M_oneLine_63 ?_
      refine V.sub [1, 0] rfl ?_
      exact w_M_oneLine_66 C hR σ63_5 ((61 : Int32) + (σ.2.1 16 (1 : Int32).toNatClampNeg)) hf
theorem c_M_oneLine {l : Launch} {g : Gx} (hok : Wok classes (wM g)) {σ : St} {σ' : St} (hf : f_M_oneLine σ = some σ') : CtV classes l y_M_oneLine b_M_oneLine 2 none 129 (wM g) [.ref (g.2.1 0)] σ σ' :=
  MetV (by decide +kernel) hok (Nat.le_of_ble_eq_true rfl) (fun E _ C hR => w_M_oneLine C hR hf)
set_option maxRecDepth 4000 in
theorem w_M_readText_177 {E : Ev} {g : Gx} {r : Int32} {σ' : St} (C : Cx E classes 3 (wM g) b_M_readText "WithTheRedsModel" 130) (hR : RetI E classes 3 (wM g) b_M_readText r σ') : ∀ (n : Nat) (σ : St) (x1 : Int32) (x2 : Int32), f_M_readText_177 n σ x1 x2 = some (r, σ') → V E classes 3 (wM g) σ 177 [(0, .ref (g.2.1 0)), (1, .int x1), (2, .int x2)] [] := by
  intro n
  induction n with
  | zero => intro σ x1 x2 hf; exact absurd hf (by unfold f_M_readText_177; exact nofun)
  | succ n ih =>
    intro σ x1 x2 hf
    unfold f_M_readText_177 at hf
    refine V_iload_n C 2 d_M_readText_177 rfl ?_
    refine V_aload_n C 0 d_M_readText_178 rfl ?_
    refine gM_M_lineMany C fl_M_69 d_M_readText_179 ?_
    refine V_iload_n C 1 d_M_readText_182 rfl ?_
    obtain ⟨hi183_1, hf⟩ := gu hf
    refine aM_16 (v := σ.2.1 16 x1.toNatClampNeg) C hi183_1 rfl d_M_readText_183 ?_
    refine V_icmp_ge (pc := 184) (tgt := 233) C d_M_readText_184 (by decide) hf (fun hf => ?_) (fun hf => ?_)
    · refine V_iconst (v := -1) C d_M_readText_233 (by decide) ?_
      exact V_iretW hR hf d_M_readText_234
    · refine V_aload_n C 0 d_M_readText_187 rfl ?_
      refine gM_M_testEnd C fl_M_72 d_M_readText_188 ?_
      refine V_bipush (v := 61) C d_M_readText_191 (by decide) ?_
      refine V_iload_n C 1 d_M_readText_193 rfl ?_
      refine V_imul C d_M_readText_194 ?_
      refine V_iload_n C 2 d_M_readText_195 rfl ?_
      refine V_iadd C d_M_readText_196 ?_
      refine V_aload_n C 0 d_M_readText_197 rfl ?_
      refine gM_M_testEnd C fl_M_72 d_M_readText_198 ?_
      refine V_bipush (v := 61) C d_M_readText_201 (by decide) ?_
      refine V_iload_n C 2 d_M_readText_203 rfl ?_
      refine V_iadd C d_M_readText_204 ?_
      obtain ⟨hi205_2, hf⟩ := gu hf
      refine aM_17 (v := σ.2.1 17 ((61 : Int32) + x2).toNatClampNeg) C hi205_2 rfl d_M_readText_205 ?_
      obtain ⟨hi206_3, hf⟩ := gu hf
      refine sM_17 C hi206_3 d_M_readText_206 ?_
      refine V_aload_n C 0 d_M_readText_207 rfl ?_
      refine gM_M_lineEnd C fl_M_76 d_M_readText_208 ?_
      refine V_bipush (v := 61) C d_M_readText_211 (by decide) ?_
      refine V_iload_n C 1 d_M_readText_213 rfl ?_
      refine V_imul C d_M_readText_214 ?_
      refine V_iload_n C 2 d_M_readText_215 rfl ?_
      refine V_iadd C d_M_readText_216 ?_
      refine V_aload_n C 0 d_M_readText_217 rfl ?_
      refine gM_M_lineEnd C fl_M_76 d_M_readText_218 ?_
      refine V_bipush (v := 61) C d_M_readText_221 (by decide) ?_
      refine V_iload_n C 2 d_M_readText_223 rfl ?_
      refine V_iadd C d_M_readText_224 ?_
      obtain ⟨hi225_4, hf⟩ := gu hf
      refine aM_18 (v := σ.2.1 18 ((61 : Int32) + x2).toNatClampNeg) C hi225_4 rfl d_M_readText_225 ?_
      obtain ⟨hi226_5, hf⟩ := gu hf
      refine sM_18 C hi226_5 d_M_readText_226 ?_
      refine V_iinc (v := x2 + (1 : Int32)) C 2 d_M_readText_227 rfl rfl (by decide) rfl ?_
      refine V_goto (pc := 230) (tgt := 177) C d_M_readText_230 (by decide) ?_
      refine V.sub [1, 2, 0] rfl ?_
      exact ih (upA (upA σ 17 ((((61 : Int32) * x1) + x2).toNatClampNeg) (vp_nar .short (σ.2.1 17 ((61 : Int32) + x2).toNatClampNeg))) 18 ((((61 : Int32) * x1) + x2).toNatClampNeg) (vp_nar .short (σ.2.1 18 ((61 : Int32) + x2).toNatClampNeg))) x1 (x2 + (1 : Int32)) hf
set_option maxRecDepth 4000 in
theorem w_M_readText_105 {E : Ev} {g : Gx} {r : Int32} {σ' : St} (C : Cx E classes 3 (wM g) b_M_readText "WithTheRedsModel" 130) (hR : RetI E classes 3 (wM g) b_M_readText r σ') : ∀ (n : Nat) (σ : St) (x1 : Int32) (x2 : Int32), f_M_readText_105 n σ x1 x2 = some (r, σ') → V E classes 3 (wM g) σ 105 [(0, .ref (g.2.1 0)), (1, .int x1), (2, .int x2)] [] := by
  intro n
  induction n with
  | zero => intro σ x1 x2 hf; exact absurd hf (by unfold f_M_readText_105; exact nofun)
  | succ n ih =>
    intro σ x1 x2 hf
    unfold f_M_readText_105 at hf
    refine V_iload_n C 2 d_M_readText_105 rfl ?_
    refine V_aload_n C 0 d_M_readText_106 rfl ?_
    refine gM_M_laid (v := σ.1 25) C fl_M_203 rfl d_M_readText_107 ?_
    refine V_icmp_ge (pc := 110) (tgt := 163) C d_M_readText_110 (by decide) hf (fun hf => ?_) (fun hf => ?_)
    · refine V_aload_n C 0 d_M_readText_163 rfl ?_
      refine gM_M_lineMany C fl_M_69 d_M_readText_164 ?_
      refine V_iload_n C 1 d_M_readText_167 rfl ?_
      refine V_aload_n C 0 d_M_readText_168 rfl ?_
      refine gM_M_lineMany C fl_M_69 d_M_readText_169 ?_
      refine V_iconst (v := 1) C d_M_readText_172 (by decide) ?_
      refine aM_16 (v := σ.2.1 16 (1 : Int32).toNatClampNeg) C rfl rfl d_M_readText_173 ?_
      obtain ⟨hi174_1, hf⟩ := gu hf
      refine sM_16 C hi174_1 d_M_readText_174 ?_
      refine V_iconst (v := 0) C d_M_readText_175 (by decide) ?_
      refine V_istore_n C d_M_readText_176 (by decide) rfl ?_
      refine V.sub [1, 2, 0] rfl ?_
      exact w_M_readText_177 C hR FU (upA σ 16 x1.toNatClampNeg (σ.2.1 16 (1 : Int32).toNatClampNeg)) x1 (0 : Int32) hf
    · refine V_aload_n C 0 d_M_readText_113 rfl ?_
      refine gM_M_act C fl_M_63 d_M_readText_114 ?_
      refine V_sipush (v := 130) C d_M_readText_117 (by decide) ?_
      refine V_iload_n C 1 d_M_readText_120 rfl ?_
      refine V_imul C d_M_readText_121 ?_
      refine V_iload_n C 2 d_M_readText_122 rfl ?_
      refine V_iadd C d_M_readText_123 ?_
      refine V_aload_n C 0 d_M_readText_124 rfl ?_
      refine gM_M_act C fl_M_63 d_M_readText_125 ?_
      refine V_sipush (v := 130) C d_M_readText_128 (by decide) ?_
      refine V_iload_n C 2 d_M_readText_131 rfl ?_
      refine V_iadd C d_M_readText_132 ?_
      obtain ⟨hi133_2, hf⟩ := gu hf
      refine aM_14 (v := σ.2.1 14 ((130 : Int32) + x2).toNatClampNeg) C hi133_2 rfl d_M_readText_133 ?_
      obtain ⟨hi134_3, hf⟩ := gu hf
      refine sM_14 C hi134_3 d_M_readText_134 ?_
      refine V_aload_n C 0 d_M_readText_135 rfl ?_
      refine gM_M_with C fl_M_66 d_M_readText_136 ?_
      refine V_sipush (v := 130) C d_M_readText_139 (by decide) ?_
      refine V_iload_n C 1 d_M_readText_142 rfl ?_
      refine V_imul C d_M_readText_143 ?_
      refine V_iload_n C 2 d_M_readText_144 rfl ?_
      refine V_iadd C d_M_readText_145 ?_
      refine V_aload_n C 0 d_M_readText_146 rfl ?_
      refine gM_M_with C fl_M_66 d_M_readText_147 ?_
      refine V_sipush (v := 130) C d_M_readText_150 (by decide) ?_
      refine V_iload_n C 2 d_M_readText_153 rfl ?_
      refine V_iadd C d_M_readText_154 ?_
      obtain ⟨hi155_4, hf⟩ := gu hf
      refine aM_15 (v := σ.2.1 15 ((130 : Int32) + x2).toNatClampNeg) C hi155_4 rfl d_M_readText_155 ?_
      obtain ⟨hi156_5, hf⟩ := gu hf
      refine sM_15 C hi156_5 d_M_readText_156 ?_
      refine V_iinc (v := x2 + (1 : Int32)) C 2 d_M_readText_157 rfl rfl (by decide) rfl ?_
      refine V_goto (pc := 160) (tgt := 105) C d_M_readText_160 (by decide) ?_
      refine V.sub [1, 2, 0] rfl ?_
      exact ih (upA (upA σ 14 ((((130 : Int32) * x1) + x2).toNatClampNeg) (vp_nar .byte (σ.2.1 14 ((130 : Int32) + x2).toNatClampNeg))) 15 ((((130 : Int32) * x1) + x2).toNatClampNeg) (σ.2.1 15 ((130 : Int32) + x2).toNatClampNeg)) x1 (x2 + (1 : Int32)) hf
set_option maxRecDepth 4000 in
theorem w_M_readText_86 {E : Ev} {g : Gx} {r : Int32} {σ' : St} (C : Cx E classes 3 (wM g) b_M_readText "WithTheRedsModel" 130) (hR : RetI E classes 3 (wM g) b_M_readText r σ') : ∀ (σ : St) (x1 : Int32), f_M_readText_86 σ x1 = some (r, σ') → V E classes 3 (wM g) σ 86 [(0, .ref (g.2.1 0)), (1, .int x1)] [] := by
  intro σ x1 hf
  unfold f_M_readText_86 at hf
  refine V_aload_n C 0 d_M_readText_86 rfl ?_
  refine V_iconst (v := 0) C d_M_readText_87 (by decide) ?_
  refine pM_M_taped C fl_M_194 d_M_readText_88 ?_
  refine V_aload_n C 0 d_M_readText_91 rfl ?_
  refine gM_M_fault (v := σ.1 23) C fl_M_200 rfl d_M_readText_92 ?_
  refine V_if_lt (pc := 95) (tgt := 103) C d_M_readText_95 (by decide) hf (fun hf => ?_) (fun hf => ?_)
  · refine V_iconst (v := 0) C d_M_readText_103 (by decide) ?_
    refine V_istore_n C d_M_readText_104 (by decide) rfl ?_
    refine V.sub [1, 2, 0] rfl ?_
    exact w_M_readText_105 C hR FU (upI σ 21 (0 : Int32)) x1 (0 : Int32) hf
  · refine V_aload_n C 0 d_M_readText_98 rfl ?_
    refine gM_M_fault (v := σ.1 23) C fl_M_200 rfl d_M_readText_99 ?_
    exact V_iretW hR hf d_M_readText_102
set_option maxRecDepth 4000 in
theorem w_M_readText_64 {E : Ev} {g : Gx} {r : Int32} {σ' : St} (C : Cx E classes 3 (wM g) b_M_readText "WithTheRedsModel" 130) (hR : RetI E classes 3 (wM g) b_M_readText r σ') : ∀ (σ : St) (x1 : Int32), f_M_readText_64 σ x1 = some (r, σ') → V E classes 3 (wM g) σ 64 [(0, .ref (g.2.1 0)), (1, .int x1)] [] := by
  intro σ x1 hf
  unfold f_M_readText_64 at hf
  refine V_aload_n C 0 d_M_readText_64 rfl ?_
  refine gM_M_fault (v := σ.1 23) C fl_M_200 rfl d_M_readText_65 ?_
  refine V_if_ge (pc := 68) (tgt := 86) C d_M_readText_68 (by decide) hf (fun hf => ?_) (fun hf => ?_)
  · exact w_M_readText_86 C hR σ x1 hf
  · refine V_aload_n C 0 d_M_readText_71 rfl ?_
    refine gM_M_here (v := σ.1 22) C fl_M_197 rfl d_M_readText_72 ?_
    refine V_aload_n C 0 d_M_readText_75 rfl ?_
    refine gM_M_taped (v := σ.1 21) C fl_M_194 rfl d_M_readText_76 ?_
    refine V_icmp_ge (pc := 79) (tgt := 86) C d_M_readText_79 (by decide) hf (fun hf => ?_) (fun hf => ?_)
    · exact w_M_readText_86 C hR σ x1 hf
    · refine V_aload_n C 0 d_M_readText_82 rfl ?_
      obtain ⟨σ83_1, hg, hf⟩ := bd hf
      refine V_callVv C [] (c_M_wrong C.2.2.2.2.2.2.2.1 hg) (by decide) cw_M_209 0 rfl rfl rfl rfl (Nat.le_of_ble_eq_true rfl) rfl d_M_readText_83 ?_
      exact w_M_readText_86 C hR σ83_1 x1 hf
set_option maxRecDepth 4000 in
theorem w_M_readText_31 {E : Ev} {g : Gx} {r : Int32} {σ' : St} (C : Cx E classes 3 (wM g) b_M_readText "WithTheRedsModel" 130) (hR : RetI E classes 3 (wM g) b_M_readText r σ') : ∀ (n : Nat) (σ : St) (x1 : Int32), f_M_readText_31 n σ x1 = some (r, σ') → V E classes 3 (wM g) σ 31 [(0, .ref (g.2.1 0)), (1, .int x1)] [] := by
  intro n
  induction n with
  | zero => intro σ x1 hf; exact absurd hf (by unfold f_M_readText_31; exact nofun)
  | succ n ih =>
    intro σ x1 hf
    unfold f_M_readText_31 at hf
    refine V_aload_n C 0 d_M_readText_31 rfl ?_
    refine gM_M_fault (v := σ.1 23) C fl_M_200 rfl d_M_readText_32 ?_
    refine V_if_ge (pc := 35) (tgt := 64) C d_M_readText_35 (by decide) hf (fun hf => ?_) (fun hf => ?_)
    · exact w_M_readText_64 C hR σ x1 hf
    · refine V_aload_n C 0 d_M_readText_38 rfl ?_
      obtain ⟨r39_1, hg, hf⟩ := bd hf
      refine V_callVi C [] (c_M_look C.2.2.2.2.2.2.2.1 hg) (by decide) cw_M_212 0 rfl rfl rfl rfl (Nat.le_of_ble_eq_true rfl) rfl d_M_readText_39 ?_
      refine V_bipush (v := 59) C d_M_readText_42 (by decide) ?_
      refine V_icmp_ne (pc := 44) (tgt := 64) C d_M_readText_44 (by decide) hf (fun hf => ?_) (fun hf => ?_)
      · exact w_M_readText_64 C hR σ x1 hf
      · refine V_aload_n C 0 d_M_readText_47 rfl ?_
        refine V_dup C d_M_readText_48 rfl ?_
        refine gM_M_here (v := σ.1 22) C fl_M_197 rfl d_M_readText_49 ?_
        refine V_iconst (v := 1) C d_M_readText_52 (by decide) ?_
        refine V_iadd C d_M_readText_53 ?_
        refine pM_M_here C fl_M_197 d_M_readText_54 ?_
        refine V_aload_n C 0 d_M_readText_57 rfl ?_
        obtain ⟨σ58_2, hg, hf⟩ := bd hf
        refine V_callVv C [] (c_M_oneLine C.2.2.2.2.2.2.2.1 hg) (by decide) cw_M_249 0 rfl rfl rfl rfl (Nat.le_of_ble_eq_true rfl) rfl d_M_readText_58 ?_
        refine V_goto (pc := 61) (tgt := 31) C d_M_readText_61 (by decide) ?_
        exact ih σ58_2 x1 hf
set_option maxRecDepth 4000 in
theorem w_M_readText {E : Ev} {g : Gx} {r : Int32} {σ' : St} (C : Cx E classes 3 (wM g) b_M_readText "WithTheRedsModel" 130) (hR : RetI E classes 3 (wM g) b_M_readText r σ') {σ : St} {a1 : Int32} (hf : f_M_readText σ a1 = some (r, σ')) : V E classes 3 (wM g) σ 0 [(0, .ref (g.2.1 0)), (1, .int a1)] [] := by
  unfold f_M_readText at hf
  refine V_aload_n C 0 d_M_readText_0 rfl ?_
  refine V_iconst (v := 0) C d_M_readText_1 (by decide) ?_
  refine pM_M_here C fl_M_197 d_M_readText_2 ?_
  refine V_aload_n C 0 d_M_readText_5 rfl ?_
  refine V_iconst (v := -1) C d_M_readText_6 (by decide) ?_
  refine pM_M_fault C fl_M_200 d_M_readText_7 ?_
  refine V_aload_n C 0 d_M_readText_10 rfl ?_
  refine V_iconst (v := 0) C d_M_readText_11 (by decide) ?_
  refine pM_M_open C fl_M_206 d_M_readText_12 ?_
  refine V_aload_n C 0 d_M_readText_15 rfl ?_
  refine V_iconst (v := 0) C d_M_readText_16 (by decide) ?_
  refine pM_M_laid C fl_M_203 d_M_readText_17 ?_
  refine V_aload_n C 0 d_M_readText_20 rfl ?_
  refine gM_M_lineMany C fl_M_69 d_M_readText_21 ?_
  refine V_iconst (v := 1) C d_M_readText_24 (by decide) ?_
  refine V_iconst (v := 0) C d_M_readText_25 (by decide) ?_
  refine sM_16 C rfl d_M_readText_26 ?_
  refine V_aload_n C 0 d_M_readText_27 rfl ?_
  obtain ⟨σ28_1, hg, hf⟩ := bd hf
  refine V_callVv C [] (c_M_oneLine C.2.2.2.2.2.2.2.1 hg) (by decide) cw_M_249 0 rfl rfl rfl rfl (Nat.le_of_ble_eq_true rfl) rfl d_M_readText_28 ?_
  exact w_M_readText_31 C hR FU σ28_1 a1 hf
theorem c_M_readText {l : Launch} {g : Gx} (hok : Wok classes (wM g)) {σ : St} {a1 : Int32} {r : Int32} {σ' : St} (hf : f_M_readText σ a1 = some (r, σ')) : CtI classes l y_M_readText b_M_readText 3 (some .int) 130 (wM g) [.ref (g.2.1 0), .int a1] σ r σ' :=
  MetI (by decide +kernel) hok (Nat.le_of_ble_eq_true rfl) (fun E _ C hR => w_M_readText C hR hf)
set_option maxRecDepth 4000 in
theorem w_M_law {E : Ev} {g : Gx} {r : Int32} {σ' : St} (C : Cx E classes 2 (wM g) b_M_law "WithTheRedsModel" 131) (hR : RetI E classes 2 (wM g) b_M_law r σ') {σ : St} (hf : f_M_law σ = some (r, σ')) : V E classes 2 (wM g) σ 0 [(0, .ref (g.2.1 0))] [] := by
  unfold f_M_law at hf
  refine V_aload_n C 0 d_M_law_0 rfl ?_
  refine V_iconst (v := 0) C d_M_law_1 (by decide) ?_
  obtain ⟨r2_1, σ2_1, hg, hf⟩ := bd2_of hf
  refine V_callVi C [.int (0 : Int32)] (c_M_readText C.2.2.2.2.2.2.2.1 hg) (by decide) cw_M_258 0 rfl rfl rfl rfl (Nat.le_of_ble_eq_true rfl) rfl d_M_law_2 ?_
  refine V_istore_n C d_M_law_5 (by decide) rfl ?_
  refine V_iload_n C 0 d_M_law_6 rfl ?_
  refine V_if_lt (pc := 7) (tgt := 15) C d_M_law_7 (by decide) hf (fun hf => ?_) (fun hf => ?_)
  · refine V_aload_n C 1 d_M_law_15 rfl ?_
    refine V_iconst (v := 1) C d_M_law_16 (by decide) ?_
    refine pM_M_hasLaw C rfl fl_M_261 d_M_law_17 ?_
    refine V_iconst (v := 1) C d_M_law_20 (by decide) ?_
    exact V_iretW hR hf d_M_law_21
  · refine V_bipush (v := -100) C d_M_law_10 (by decide) ?_
    refine V_iload_n C 0 d_M_law_12 rfl ?_
    refine V_isub C d_M_law_13 ?_
    exact V_iretW hR hf d_M_law_14
theorem c_M_law {l : Launch} {g : Gx} (hok : Wok classes (wM g)) {σ : St} {r : Int32} {σ' : St} (hf : f_M_law σ = some (r, σ')) : CtI classes l y_M_law b_M_law 2 (some .int) 131 (wM g) [.ref (g.2.1 0)] σ r σ' :=
  MetI (by decide +kernel) hok (Nat.le_of_ble_eq_true rfl) (fun E _ C hR => w_M_law C hR hf)
set_option maxRecDepth 4000 in
theorem w_M_layLine_7 {E : Ev} {g : Gx} {σ' : St} (C : Cx E classes 3 (wM g) b_M_layLine "WithTheRedsModel" 1) (hR : RetV E classes 3 (wM g) b_M_layLine σ') : ∀ (n : Nat) (σ : St) (x1 : Int32) (x2 : Int32), f_M_layLine_7 n σ x1 x2 = some σ' → V E classes 3 (wM g) σ 7 [(0, .ref (g.2.1 0)), (1, .int x1), (2, .int x2)] [] := by
  intro n
  induction n with
  | zero => intro σ x1 x2 hf; exact absurd hf (by unfold f_M_layLine_7; exact nofun)
  | succ n ih =>
    intro σ x1 x2 hf
    unfold f_M_layLine_7 at hf
    refine V_iload_n C 2 d_M_layLine_7 rfl ?_
    refine V_aload_n C 0 d_M_layLine_8 rfl ?_
    refine gM_M_things (v := σ.1 1) C fl_M_150 rfl d_M_layLine_9 ?_
    refine V_icmp_ge (pc := 12) (tgt := 52) C d_M_layLine_12 (by decide) hf (fun hf => ?_) (fun hf => ?_)
    · exact V_vret hR hf d_M_layLine_52
    · refine V_iload_n C 1 d_M_layLine_15 rfl ?_
      refine V_iload_n C 2 d_M_layLine_16 rfl ?_
      refine V_ishr C d_M_layLine_17 ?_
      refine V_iconst (v := 1) C d_M_layLine_18 (by decide) ?_
      refine V_iand C d_M_layLine_19 ?_
      refine V_if_ne (pc := 20) (tgt := 26) C d_M_layLine_20 (by decide) hf (fun hf => ?_) (fun hf => ?_)
      · refine V_aload_n C 0 d_M_layLine_26 rfl ?_
        refine gM_M_hangs C fl_M_100 d_M_layLine_27 ?_
        refine V_aload_n C 0 d_M_layLine_30 rfl ?_
        refine gM_M_hangMany (v := σ.1 42) C fl_M_343 rfl d_M_layLine_31 ?_
        refine V_iload_n C 2 d_M_layLine_34 rfl ?_
        obtain ⟨hi35_1, hf⟩ := gu hf
        refine sM_26 C hi35_1 d_M_layLine_35 ?_
        refine V_aload_n C 0 d_M_layLine_36 rfl ?_
        refine V_dup C d_M_layLine_37 rfl ?_
        refine gM_M_hangMany (v := σ.1 42) C fl_M_343 rfl d_M_layLine_38 ?_
        refine V_iconst (v := 1) C d_M_layLine_41 (by decide) ?_
        refine V_iadd C d_M_layLine_42 ?_
        refine pM_M_hangMany C fl_M_343 d_M_layLine_43 ?_
        refine V_iinc (v := x2 + (1 : Int32)) C 2 d_M_layLine_46 rfl rfl (by decide) rfl ?_
        refine V_goto (pc := 49) (tgt := 7) C d_M_layLine_49 (by decide) ?_
        refine V.sub [1, 2, 0] rfl ?_
        exact ih (upI (upA σ 26 ((σ.1 42).toNatClampNeg) x2) 42 ((σ.1 42) + (1 : Int32))) x1 (x2 + (1 : Int32)) hf
      · refine V_goto (pc := 23) (tgt := 46) C d_M_layLine_23 (by decide) ?_
        refine V_iinc (v := x2 + (1 : Int32)) C 2 d_M_layLine_46 rfl rfl (by decide) rfl ?_
        refine V_goto (pc := 49) (tgt := 7) C d_M_layLine_49 (by decide) ?_
        refine V.sub [1, 2, 0] rfl ?_
        exact ih σ x1 (x2 + (1 : Int32)) hf
set_option maxRecDepth 4000 in
theorem w_M_layLine {E : Ev} {g : Gx} {σ' : St} (C : Cx E classes 3 (wM g) b_M_layLine "WithTheRedsModel" 1) (hR : RetV E classes 3 (wM g) b_M_layLine σ') {σ : St} {a1 : Int32} (hf : f_M_layLine σ a1 = some σ') : V E classes 3 (wM g) σ 0 [(0, .ref (g.2.1 0)), (1, .int a1)] [] := by
  unfold f_M_layLine at hf
  refine V_aload_n C 0 d_M_layLine_0 rfl ?_
  refine V_iconst (v := 0) C d_M_layLine_1 (by decide) ?_
  refine pM_M_hangMany C fl_M_343 d_M_layLine_2 ?_
  refine V_iconst (v := 0) C d_M_layLine_5 (by decide) ?_
  refine V_istore_n C d_M_layLine_6 (by decide) rfl ?_
  refine V.sub [1, 2, 0] rfl ?_
  exact w_M_layLine_7 C hR FU (upI σ 42 (0 : Int32)) a1 (0 : Int32) hf
theorem c_M_layLine {l : Launch} {g : Gx} (hok : Wok classes (wM g)) {σ : St} {a1 : Int32} {σ' : St} (hf : f_M_layLine σ a1 = some σ') : CtV classes l y_M_layLine b_M_layLine 3 none 1 (wM g) [.ref (g.2.1 0), .int a1] σ σ' :=
  MetV (by decide +kernel) hok (Nat.le_of_ble_eq_true rfl) (fun E _ C hR => w_M_layLine C hR hf)
set_option maxRecDepth 4000 in
theorem w_M_led {E : Ev} {g : Gx} {r : Int32} {σ : St} (C : Cx E classes 2 (wM g) b_M_led "WithTheRedsModel" 2) (hR : RetI E classes 2 (wM g) b_M_led r σ) {a1 : Int32} (hf : f_M_led σ a1 = some r) : V E classes 2 (wM g) σ 0 [(0, .ref (g.2.1 0)), (1, .int a1)] [] := by
  unfold f_M_led at hf
  refine V_iload_n C 1 d_M_led_0 rfl ?_
  refine V_iconst (v := 0) C d_M_led_1 (by decide) ?_
  refine V_iconst (v := 4) C d_M_led_2 (by decide) ?_
  obtain ⟨r3_1, hg, hf⟩ := bd hf
  refine V_callSi C [.int a1, .int (0 : Int32), .int (4 : Int32)] (c_M_in C.2.2.2.2.2.2.2.1 hg) (by decide) cw_M_153 rfl (Nat.le_of_ble_eq_true rfl) rfl d_M_led_3 ?_
  refine V_if_eq (pc := 6) (tgt := 18) C d_M_led_6 (by decide) hf (fun hf => ?_) (fun hf => ?_)
  · refine V_iconst (v := -1) C d_M_led_18 (by decide) ?_
    exact V_iret hR hf d_M_led_19
  · refine V_aload_n C 0 d_M_led_9 rfl ?_
    refine gM_M_ledOf C fl_M_113 d_M_led_10 ?_
    refine V_iload_n C 1 d_M_led_13 rfl ?_
    obtain ⟨hi14_2, hf⟩ := gu hf
    refine aM_30 (v := σ.2.1 30 a1.toNatClampNeg) C hi14_2 rfl d_M_led_14 ?_
    refine V_goto (pc := 15) (tgt := 19) C d_M_led_15 (by decide) ?_
    exact V_iret hR hf d_M_led_19
theorem c_M_led {l : Launch} {g : Gx} (hok : Wok classes (wM g)) {σ : St} {a1 : Int32} {r : Int32} (hf : f_M_led σ a1 = some r) : CtI classes l y_M_led b_M_led 2 (some .int) 2 (wM g) [.ref (g.2.1 0), .int a1] σ r σ :=
  MetI (by decide +kernel) hok (Nat.le_of_ble_eq_true rfl) (fun E _ C hR => w_M_led C hR hf)
set_option maxRecDepth 4000 in
theorem w_M_line_48 {E : Ev} {g : Gx} {r : Int32} {σ' : St} (C : Cx E classes 5 (wM g) b_M_line "WithTheRedsModel" 3) (hR : RetI E classes 5 (wM g) b_M_line r σ') : ∀ (σ : St) (x1 : Int32) (x2 : Int32) (x3 : Int32), f_M_line_48 σ x1 x2 x3 = some (r, σ') → V E classes 5 (wM g) σ 48 [(0, .ref (g.2.1 0)), (1, .int x1), (2, .int x2), (3, .int x3)] [] := by
  intro σ x1 x2 x3 hf
  unfold f_M_line_48 at hf
  refine V_aload_n C 0 d_M_line_48 rfl ?_
  refine V_iload_n C 1 d_M_line_49 rfl ?_
  obtain ⟨σ50_1, hg, hf⟩ := bd hf
  refine V_callVv C [.int x1] (c_M_layLine C.2.2.2.2.2.2.2.1 hg) (by decide) cw_M_352 0 rfl rfl rfl rfl (Nat.le_of_ble_eq_true rfl) rfl d_M_line_50 ?_
  refine V_aload_n C 0 d_M_line_53 rfl ?_
  obtain ⟨σ54_2, hg, hf⟩ := bd hf
  refine V_callVv C [] (c_M_goLine C.2.2.2.2.2.2.2.1 hg) (by decide) cw_M_356 0 rfl rfl rfl rfl (Nat.le_of_ble_eq_true rfl) rfl d_M_line_54 ?_
  refine V_iload_n C 2 d_M_line_57 rfl ?_
  refine V_if_ge (pc := 58) (tgt := 68) C d_M_line_58 (by decide) hf (fun hf => ?_) (fun hf => ?_)
  · refine V_iload_n C 3 d_M_line_68 rfl ?_
    refine V_if_ne (pc := 69) (tgt := 81) C d_M_line_69 (by decide) hf (fun hf => ?_) (fun hf => ?_)
    · refine V_aload_n C 0 d_M_line_81 rfl ?_
      refine gM_M_dryAt C fl_M_97 d_M_line_82 ?_
      refine V_iload_n C 2 d_M_line_85 rfl ?_
      obtain ⟨hi86_3, hf⟩ := gu hf
      refine aM_25 (v := σ54_2.2.1 25 x2.toNatClampNeg) C hi86_3 rfl d_M_line_86 ?_
      refine V_istore C d_M_line_87 (by decide) rfl ?_
      refine V_iload C 0 d_M_line_89 rfl ?_
      refine V_if_ge (pc := 91) (tgt := 99) C d_M_line_91 (by decide) hf (fun hf => ?_) (fun hf => ?_)
      · refine V_iload C 0 d_M_line_99 rfl ?_
        exact V_iretW hR hf d_M_line_101
      · refine V_bipush (v := -2) C d_M_line_94 (by decide) ?_
        refine V_goto (pc := 96) (tgt := 101) C d_M_line_96 (by decide) ?_
        exact V_iretW hR hf d_M_line_101
    · refine V_aload_n C 0 d_M_line_72 rfl ?_
      refine gM_M_hungAt C fl_M_94 d_M_line_73 ?_
      refine V_iload_n C 2 d_M_line_76 rfl ?_
      obtain ⟨hi77_4, hf⟩ := gu hf
      refine aM_24 (v := σ54_2.2.1 24 x2.toNatClampNeg) C hi77_4 rfl d_M_line_77 ?_
      refine V_goto (pc := 78) (tgt := 87) C d_M_line_78 (by decide) ?_
      refine V_istore C d_M_line_87 (by decide) rfl ?_
      refine V_iload C 0 d_M_line_89 rfl ?_
      refine V_if_ge (pc := 91) (tgt := 99) C d_M_line_91 (by decide) hf (fun hf => ?_) (fun hf => ?_)
      · refine V_iload C 0 d_M_line_99 rfl ?_
        exact V_iretW hR hf d_M_line_101
      · refine V_bipush (v := -2) C d_M_line_94 (by decide) ?_
        refine V_goto (pc := 96) (tgt := 101) C d_M_line_96 (by decide) ?_
        exact V_iretW hR hf d_M_line_101
  · refine V_aload_n C 0 d_M_line_61 rfl ?_
    obtain ⟨r62_5, hg, hf⟩ := bd hf
    refine V_callVi C [] (c_M_allDry C.2.2.2.2.2.2.2.1 hg) (by decide) cw_M_359 0 rfl rfl rfl rfl (Nat.le_of_ble_eq_true rfl) rfl d_M_line_62 ?_
    refine V_goto (pc := 65) (tgt := 87) C d_M_line_65 (by decide) ?_
    refine V_istore C d_M_line_87 (by decide) rfl ?_
    refine V_iload C 0 d_M_line_89 rfl ?_
    refine V_if_ge (pc := 91) (tgt := 99) C d_M_line_91 (by decide) hf (fun hf => ?_) (fun hf => ?_)
    · refine V_iload C 0 d_M_line_99 rfl ?_
      exact V_iretW hR hf d_M_line_101
    · refine V_bipush (v := -2) C d_M_line_94 (by decide) ?_
      refine V_goto (pc := 96) (tgt := 101) C d_M_line_96 (by decide) ?_
      exact V_iretW hR hf d_M_line_101
set_option maxRecDepth 4000 in
theorem w_M_line {E : Ev} {g : Gx} {r : Int32} {σ' : St} (C : Cx E classes 5 (wM g) b_M_line "WithTheRedsModel" 3) (hR : RetI E classes 5 (wM g) b_M_line r σ') {σ : St} {a1 : Int32} {a2 : Int32} {a3 : Int32} (hf : f_M_line σ a1 a2 a3 = some (r, σ')) : V E classes 5 (wM g) σ 0 [(0, .ref (g.2.1 0)), (1, .int a1), (2, .int a2), (3, .int a3)] [] := by
  unfold f_M_line at hf
  refine V_aload_n C 0 d_M_line_0 rfl ?_
  refine V_iload_n C 1 d_M_line_1 rfl ?_
  obtain ⟨r2_1, hg, hf⟩ := bd hf
  refine V_callVi C [.int a1] (c_M_areThings C.2.2.2.2.2.2.2.1 hg) (by decide) cw_M_289 0 rfl rfl rfl rfl (Nat.le_of_ble_eq_true rfl) rfl d_M_line_2 ?_
  refine V_if_eq (pc := 5) (tgt := 31) C d_M_line_5 (by decide) hf (fun hf => ?_) (fun hf => ?_)
  · refine V_iconst (v := -1) C d_M_line_31 (by decide) ?_
    exact V_iretW hR hf d_M_line_32
  · refine V_iload_n C 2 d_M_line_8 rfl ?_
    refine V_iconst (v := -1) C d_M_line_9 (by decide) ?_
    refine V_aload_n C 0 d_M_line_10 rfl ?_
    refine gM_M_things (v := σ.1 1) C fl_M_150 rfl d_M_line_11 ?_
    refine V_iconst (v := 1) C d_M_line_14 (by decide) ?_
    refine V_isub C d_M_line_15 ?_
    obtain ⟨r16_2, hg, hf⟩ := bd hf
    refine V_callSi C [.int a2, .int (-1 : Int32), .int ((σ.1 1) - (1 : Int32))] (c_M_in C.2.2.2.2.2.2.2.1 hg) (by decide) cw_M_153 rfl (Nat.le_of_ble_eq_true rfl) rfl d_M_line_16 ?_
    refine V_if_eq (pc := 19) (tgt := 31) C d_M_line_19 (by decide) hf (fun hf => ?_) (fun hf => ?_)
    · refine V_iconst (v := -1) C d_M_line_31 (by decide) ?_
      exact V_iretW hR hf d_M_line_32
    · refine V_iload_n C 3 d_M_line_22 rfl ?_
      refine V_iconst (v := 0) C d_M_line_23 (by decide) ?_
      refine V_iconst (v := 1) C d_M_line_24 (by decide) ?_
      obtain ⟨r25_3, hg, hf⟩ := bd hf
      refine V_callSi C [.int a3, .int (0 : Int32), .int (1 : Int32)] (c_M_in C.2.2.2.2.2.2.2.1 hg) (by decide) cw_M_153 rfl (Nat.le_of_ble_eq_true rfl) rfl d_M_line_25 ?_
      refine V_if_ne (pc := 28) (tgt := 33) C d_M_line_28 (by decide) hf (fun hf => ?_) (fun hf => ?_)
      · refine V_iload_n C 2 d_M_line_33 rfl ?_
        refine V_if_lt (pc := 34) (tgt := 48) C d_M_line_34 (by decide) hf (fun hf => ?_) (fun hf => ?_)
        · exact w_M_line_48 C hR σ a1 a2 a3 hf
        · refine V_iload_n C 1 d_M_line_37 rfl ?_
          refine V_iload_n C 2 d_M_line_38 rfl ?_
          refine V_ishr C d_M_line_39 ?_
          refine V_iconst (v := 1) C d_M_line_40 (by decide) ?_
          refine V_iand C d_M_line_41 ?_
          refine V_if_ne (pc := 42) (tgt := 48) C d_M_line_42 (by decide) hf (fun hf => ?_) (fun hf => ?_)
          · exact w_M_line_48 C hR σ a1 a2 a3 hf
          · refine V_bipush (v := -2) C d_M_line_45 (by decide) ?_
            exact V_iretW hR hf d_M_line_47
      · refine V_iconst (v := -1) C d_M_line_31 (by decide) ?_
        exact V_iretW hR hf d_M_line_32
theorem c_M_line {l : Launch} {g : Gx} (hok : Wok classes (wM g)) {σ : St} {a1 : Int32} {a2 : Int32} {a3 : Int32} {r : Int32} {σ' : St} (hf : f_M_line σ a1 a2 a3 = some (r, σ')) : CtI classes l y_M_line b_M_line 5 (some .int) 3 (wM g) [.ref (g.2.1 0), .int a1, .int a2, .int a3] σ r σ' :=
  MetI (by decide +kernel) hok (Nat.le_of_ble_eq_true rfl) (fun E _ C hR => w_M_line C hR hf)
set_option maxRecDepth 4000 in
theorem w_M_mayBe {E : Ev} {g : Gx} {r : Int32} {σ : St} (C : Cx E classes 2 (wM g) b_M_mayBe "WithTheRedsModel" 2) (hR : RetZ E classes 2 (wM g) b_M_mayBe r σ) {a0 : Int32} {a1 : Int32} (hf : f_M_mayBe a0 a1 = some r) : V E classes 2 (wM g) σ 0 [(0, .int a0), (1, .int a1)] [] := by
  unfold f_M_mayBe at hf
  refine V_iload_n C 0 d_M_mayBe_0 rfl ?_
  by_cases hc0 : a0 = 0
  · have hf := ite_t hf hc0
    refine V_tin (off := 63) (tgt := 64) C d_M_mayBe_1 (by rw [hc0]; decide) (by rw [hc0]; decide) (by rw [hc0]; decide) (by decide) ?_
    refine V_iload_n C 1 d_M_mayBe_64 rfl ?_
    refine V_iconst (v := 0) C d_M_mayBe_65 (by decide) ?_
    refine V_iconst (v := 3) C d_M_mayBe_66 (by decide) ?_
    obtain ⟨r67_1, hg, hf⟩ := bd hf
    refine V_callSi C [.int a1, .int (0 : Int32), .int (3 : Int32)] (c_M_in C.2.2.2.2.2.2.2.1 hg) (by decide) cw_M_153 rfl (Nat.le_of_ble_eq_true rfl) rfl d_M_mayBe_67 ?_
    obtain ⟨hz, hf⟩ := gu hf
    exact V_zret hR hf hz d_M_mayBe_70
  have hf := ite_f hf hc0
  by_cases hc1 : a0 = 1
  · have hf := ite_t hf hc1
    refine V_tin (off := 70) (tgt := 71) C d_M_mayBe_1 (by rw [hc1]; decide) (by rw [hc1]; decide) (by rw [hc1]; decide) (by decide) ?_
    refine V_iload_n C 1 d_M_mayBe_71 rfl ?_
    refine V_iconst (v := 0) C d_M_mayBe_72 (by decide) ?_
    refine V_bipush (v := 9) C d_M_mayBe_73 (by decide) ?_
    obtain ⟨r75_2, hg, hf⟩ := bd hf
    refine V_callSi C [.int a1, .int (0 : Int32), .int (9 : Int32)] (c_M_in C.2.2.2.2.2.2.2.1 hg) (by decide) cw_M_153 rfl (Nat.le_of_ble_eq_true rfl) rfl d_M_mayBe_75 ?_
    obtain ⟨hz, hf⟩ := gu hf
    exact V_zret hR hf hz d_M_mayBe_78
  have hf := ite_f hf hc1
  by_cases hc2 : a0 = 2
  · have hf := ite_t hf hc2
    refine V_tin (off := 78) (tgt := 79) C d_M_mayBe_1 (by rw [hc2]; decide) (by rw [hc2]; decide) (by rw [hc2]; decide) (by decide) ?_
    refine V_iload_n C 1 d_M_mayBe_79 rfl ?_
    refine V_iconst (v := 0) C d_M_mayBe_80 (by decide) ?_
    refine V_bipush (v := 99) C d_M_mayBe_81 (by decide) ?_
    obtain ⟨r83_3, hg, hf⟩ := bd hf
    refine V_callSi C [.int a1, .int (0 : Int32), .int (99 : Int32)] (c_M_in C.2.2.2.2.2.2.2.1 hg) (by decide) cw_M_153 rfl (Nat.le_of_ble_eq_true rfl) rfl d_M_mayBe_83 ?_
    obtain ⟨hz, hf⟩ := gu hf
    exact V_zret hR hf hz d_M_mayBe_86
  have hf := ite_f hf hc2
  by_cases hc3 : a0 = 3
  · have hf := ite_t hf hc3
    refine V_tin (off := 86) (tgt := 87) C d_M_mayBe_1 (by rw [hc3]; decide) (by rw [hc3]; decide) (by rw [hc3]; decide) (by decide) ?_
    refine V_iload_n C 1 d_M_mayBe_87 rfl ?_
    refine V_iconst (v := 3) C d_M_mayBe_88 (by decide) ?_
    refine V_bipush (v := 9) C d_M_mayBe_89 (by decide) ?_
    obtain ⟨r91_4, hg, hf⟩ := bd hf
    refine V_callSi C [.int a1, .int (3 : Int32), .int (9 : Int32)] (c_M_in C.2.2.2.2.2.2.2.1 hg) (by decide) cw_M_153 rfl (Nat.le_of_ble_eq_true rfl) rfl d_M_mayBe_91 ?_
    obtain ⟨hz, hf⟩ := gu hf
    exact V_zret hR hf hz d_M_mayBe_94
  have hf := ite_f hf hc3
  by_cases hc4 : a0 = 4
  · have hf := ite_t hf hc4
    refine V_tin (off := 142) (tgt := 143) C d_M_mayBe_1 (by rw [hc4]; decide) (by rw [hc4]; decide) (by rw [hc4]; decide) (by decide) ?_
    refine V_iload_n C 1 d_M_mayBe_143 rfl ?_
    refine V_iconst (v := 1) C d_M_mayBe_144 (by decide) ?_
    refine V_bipush (v := 9) C d_M_mayBe_145 (by decide) ?_
    obtain ⟨r147_5, hg, hf⟩ := bd hf
    refine V_callSi C [.int a1, .int (1 : Int32), .int (9 : Int32)] (c_M_in C.2.2.2.2.2.2.2.1 hg) (by decide) cw_M_153 rfl (Nat.le_of_ble_eq_true rfl) rfl d_M_mayBe_147 ?_
    obtain ⟨hz, hf⟩ := gu hf
    exact V_zret hR hf hz d_M_mayBe_150
  have hf := ite_f hf hc4
  by_cases hc5 : a0 = 5
  · have hf := ite_t hf hc5
    refine V_tin (off := 94) (tgt := 95) C d_M_mayBe_1 (by rw [hc5]; decide) (by rw [hc5]; decide) (by rw [hc5]; decide) (by decide) ?_
    refine V_iload_n C 1 d_M_mayBe_95 rfl ?_
    refine V_iconst (v := 1) C d_M_mayBe_96 (by decide) ?_
    refine V_bipush (v := 99) C d_M_mayBe_97 (by decide) ?_
    obtain ⟨r99_6, hg, hf⟩ := bd hf
    refine V_callSi C [.int a1, .int (1 : Int32), .int (99 : Int32)] (c_M_in C.2.2.2.2.2.2.2.1 hg) (by decide) cw_M_153 rfl (Nat.le_of_ble_eq_true rfl) rfl d_M_mayBe_99 ?_
    obtain ⟨hz, hf⟩ := gu hf
    exact V_zret hR hf hz d_M_mayBe_102
  have hf := ite_f hf hc5
  by_cases hc6 : a0 = 6
  · have hf := ite_t hf hc6
    refine V_tin (off := 102) (tgt := 103) C d_M_mayBe_1 (by rw [hc6]; decide) (by rw [hc6]; decide) (by rw [hc6]; decide) (by decide) ?_
    refine V_iload_n C 1 d_M_mayBe_103 rfl ?_
    refine V_iconst (v := 0) C d_M_mayBe_104 (by decide) ?_
    refine V_bipush (v := 8) C d_M_mayBe_105 (by decide) ?_
    obtain ⟨r107_7, hg, hf⟩ := bd hf
    refine V_callSi C [.int a1, .int (0 : Int32), .int (8 : Int32)] (c_M_in C.2.2.2.2.2.2.2.1 hg) (by decide) cw_M_153 rfl (Nat.le_of_ble_eq_true rfl) rfl d_M_mayBe_107 ?_
    obtain ⟨hz, hf⟩ := gu hf
    exact V_zret hR hf hz d_M_mayBe_110
  have hf := ite_f hf hc6
  by_cases hc7 : a0 = 7
  · have hf := ite_t hf hc7
    refine V_tin (off := 110) (tgt := 111) C d_M_mayBe_1 (by rw [hc7]; decide) (by rw [hc7]; decide) (by rw [hc7]; decide) (by decide) ?_
    refine V_iload_n C 1 d_M_mayBe_111 rfl ?_
    refine V_iconst (v := 0) C d_M_mayBe_112 (by decide) ?_
    refine V_bipush (v := 30) C d_M_mayBe_113 (by decide) ?_
    obtain ⟨r115_8, hg, hf⟩ := bd hf
    refine V_callSi C [.int a1, .int (0 : Int32), .int (30 : Int32)] (c_M_in C.2.2.2.2.2.2.2.1 hg) (by decide) cw_M_153 rfl (Nat.le_of_ble_eq_true rfl) rfl d_M_mayBe_115 ?_
    obtain ⟨hz, hf⟩ := gu hf
    exact V_zret hR hf hz d_M_mayBe_118
  have hf := ite_f hf hc7
  by_cases hc8 : a0 = 8
  · have hf := ite_t hf hc8
    refine V_tin (off := 118) (tgt := 119) C d_M_mayBe_1 (by rw [hc8]; decide) (by rw [hc8]; decide) (by rw [hc8]; decide) (by decide) ?_
    refine V_iload_n C 1 d_M_mayBe_119 rfl ?_
    refine V_iconst (v := 1) C d_M_mayBe_120 (by decide) ?_
    refine V_bipush (v := 60) C d_M_mayBe_121 (by decide) ?_
    obtain ⟨r123_9, hg, hf⟩ := bd hf
    refine V_callSi C [.int a1, .int (1 : Int32), .int (60 : Int32)] (c_M_in C.2.2.2.2.2.2.2.1 hg) (by decide) cw_M_153 rfl (Nat.le_of_ble_eq_true rfl) rfl d_M_mayBe_123 ?_
    obtain ⟨hz, hf⟩ := gu hf
    exact V_zret hR hf hz d_M_mayBe_126
  have hf := ite_f hf hc8
  by_cases hc9 : a0 = 9
  · have hf := ite_t hf hc9
    refine V_tin (off := 126) (tgt := 127) C d_M_mayBe_1 (by rw [hc9]; decide) (by rw [hc9]; decide) (by rw [hc9]; decide) (by decide) ?_
    refine V_iload_n C 1 d_M_mayBe_127 rfl ?_
    refine V_iconst (v := 0) C d_M_mayBe_128 (by decide) ?_
    refine V_bipush (v := 99) C d_M_mayBe_129 (by decide) ?_
    obtain ⟨r131_10, hg, hf⟩ := bd hf
    refine V_callSi C [.int a1, .int (0 : Int32), .int (99 : Int32)] (c_M_in C.2.2.2.2.2.2.2.1 hg) (by decide) cw_M_153 rfl (Nat.le_of_ble_eq_true rfl) rfl d_M_mayBe_131 ?_
    obtain ⟨hz, hf⟩ := gu hf
    exact V_zret hR hf hz d_M_mayBe_134
  have hf := ite_f hf hc9
  by_cases hc10 : a0 = 10
  · have hf := ite_t hf hc10
    refine V_tin (off := 142) (tgt := 143) C d_M_mayBe_1 (by rw [hc10]; decide) (by rw [hc10]; decide) (by rw [hc10]; decide) (by decide) ?_
    refine V_iload_n C 1 d_M_mayBe_143 rfl ?_
    refine V_iconst (v := 1) C d_M_mayBe_144 (by decide) ?_
    refine V_bipush (v := 9) C d_M_mayBe_145 (by decide) ?_
    obtain ⟨r147_11, hg, hf⟩ := bd hf
    refine V_callSi C [.int a1, .int (1 : Int32), .int (9 : Int32)] (c_M_in C.2.2.2.2.2.2.2.1 hg) (by decide) cw_M_153 rfl (Nat.le_of_ble_eq_true rfl) rfl d_M_mayBe_147 ?_
    obtain ⟨hz, hf⟩ := gu hf
    exact V_zret hR hf hz d_M_mayBe_150
  have hf := ite_f hf hc10
  by_cases hc11 : a0 = 11
  · have hf := ite_t hf hc11
    refine V_tin (off := 134) (tgt := 135) C d_M_mayBe_1 (by rw [hc11]; decide) (by rw [hc11]; decide) (by rw [hc11]; decide) (by decide) ?_
    refine V_iload_n C 1 d_M_mayBe_135 rfl ?_
    refine V_iconst (v := 1) C d_M_mayBe_136 (by decide) ?_
    refine V_bipush (v := 60) C d_M_mayBe_137 (by decide) ?_
    obtain ⟨r139_12, hg, hf⟩ := bd hf
    refine V_callSi C [.int a1, .int (1 : Int32), .int (60 : Int32)] (c_M_in C.2.2.2.2.2.2.2.1 hg) (by decide) cw_M_153 rfl (Nat.le_of_ble_eq_true rfl) rfl d_M_mayBe_139 ?_
    obtain ⟨hz, hf⟩ := gu hf
    exact V_zret hR hf hz d_M_mayBe_142
  have hf := ite_f hf hc11
  have hc0t := neT (k := 0) 0 (by decide) hc0
  have hc1t := neT (k := 1) 1 (by decide) hc1
  have hc2t := neT (k := 2) 2 (by decide) hc2
  have hc3t := neT (k := 3) 3 (by decide) hc3
  have hc4t := neT (k := 4) 4 (by decide) hc4
  have hc5t := neT (k := 5) 5 (by decide) hc5
  have hc6t := neT (k := 6) 6 (by decide) hc6
  have hc7t := neT (k := 7) 7 (by decide) hc7
  have hc8t := neT (k := 8) 8 (by decide) hc8
  have hc9t := neT (k := 9) 9 (by decide) hc9
  have hc10t := neT (k := 10) 10 (by decide) hc10
  have hc11t := neT (k := 11) 11 (by decide) hc11
  refine V_tout (tgt := 143) C d_M_mayBe_1 (by omega) (by decide) ?_
  refine V_iload_n C 1 d_M_mayBe_143 rfl ?_
  refine V_iconst (v := 1) C d_M_mayBe_144 (by decide) ?_
  refine V_bipush (v := 9) C d_M_mayBe_145 (by decide) ?_
  obtain ⟨r147_13, hg, hf⟩ := bd hf
  refine V_callSi C [.int a1, .int (1 : Int32), .int (9 : Int32)] (c_M_in C.2.2.2.2.2.2.2.1 hg) (by decide) cw_M_153 rfl (Nat.le_of_ble_eq_true rfl) rfl d_M_mayBe_147 ?_
  obtain ⟨hz, hf⟩ := gu hf
  exact V_zret hR hf hz d_M_mayBe_150
theorem c_M_mayBe {l : Launch} {g : Gx} (hok : Wok classes (wM g)) {σ : St} {a0 : Int32} {a1 : Int32} {r : Int32} (hf : f_M_mayBe a0 a1 = some r) : CtI classes l y_M_mayBe b_M_mayBe 2 (some .boolean) 2 (wM g) [.int a0, .int a1] σ r σ :=
  MetZ (by decide +kernel) hok (Nat.le_of_ble_eq_true rfl) (fun E _ C hR => w_M_mayBe C hR hf)
set_option maxRecDepth 4000 in
theorem w_M_mend {E : Ev} {g : Gx} {r : Int32} {σ' : St} (C : Cx E classes 4 (wM g) b_M_mend "WithTheRedsModel" 4) (hR : RetI E classes 4 (wM g) b_M_mend r σ') {σ : St} {a1 : Int32} {a2 : Int32} {a3 : Int32} (hf : f_M_mend σ a1 a2 a3 = some (r, σ')) : V E classes 4 (wM g) σ 0 [(0, .ref (g.2.1 0)), (1, .int a1), (2, .int a2), (3, .int a3)] [] := by
  unfold f_M_mend at hf
  refine V_aload_n C 0 d_M_mend_0 rfl ?_
  refine V_iload_n C 1 d_M_mend_1 rfl ?_
  refine V_iload_n C 2 d_M_mend_2 rfl ?_
  obtain ⟨r3_1, hg, hf⟩ := bd hf
  refine V_callVi C [.int a1, .int a2] (c_M_isOne C.2.2.2.2.2.2.2.1 hg) (by decide) cw_M_184 0 rfl rfl rfl rfl (Nat.le_of_ble_eq_true rfl) rfl d_M_mend_3 ?_
  refine V_if_eq (pc := 6) (tgt := 27) C d_M_mend_6 (by decide) hf (fun hf => ?_) (fun hf => ?_)
  · refine V_iconst (v := -1) C d_M_mend_27 (by decide) ?_
    exact V_iretW hR hf d_M_mend_28
  · refine V_iload_n C 2 d_M_mend_9 rfl ?_
    refine V_iload_n C 3 d_M_mend_10 rfl ?_
    obtain ⟨r11_2, hg, hf⟩ := bd hf
    refine V_callSi C [.int a2, .int a3] (c_M_mayBe C.2.2.2.2.2.2.2.1 hg) (by decide) cw_M_188 rfl (Nat.le_of_ble_eq_true rfl) rfl d_M_mend_11 ?_
    refine V_if_eq (pc := 14) (tgt := 27) C d_M_mend_14 (by decide) hf (fun hf => ?_) (fun hf => ?_)
    · refine V_iconst (v := -1) C d_M_mend_27 (by decide) ?_
      exact V_iretW hR hf d_M_mend_28
    · refine V_aload_n C 0 d_M_mend_17 rfl ?_
      refine V_iload_n C 2 d_M_mend_18 rfl ?_
      refine V_iload_n C 1 d_M_mend_19 rfl ?_
      refine V_iload_n C 3 d_M_mend_20 rfl ?_
      obtain ⟨r21_3, σ21_3, hg, hf⟩ := bd2_of hf
      refine V_callVi C [.int a2, .int a1, .int a3] (c_M_changes C.2.2.2.2.2.2.2.1 hg) (by decide) cw_M_191 0 rfl rfl rfl rfl (Nat.le_of_ble_eq_true rfl) rfl d_M_mend_21 ?_
      refine V_goto (pc := 24) (tgt := 28) C d_M_mend_24 (by decide) ?_
      exact V_iretW hR hf d_M_mend_28
theorem c_M_mend {l : Launch} {g : Gx} (hok : Wok classes (wM g)) {σ : St} {a1 : Int32} {a2 : Int32} {a3 : Int32} {r : Int32} {σ' : St} (hf : f_M_mend σ a1 a2 a3 = some (r, σ')) : CtI classes l y_M_mend b_M_mend 4 (some .int) 4 (wM g) [.ref (g.2.1 0), .int a1, .int a2, .int a3] σ r σ' :=
  MetI (by decide +kernel) hok (Nat.le_of_ble_eq_true rfl) (fun E _ C hR => w_M_mend C hR hf)
set_option maxRecDepth 4000 in
theorem w_M_of {E : Ev} {g : Gx} {r : Int32} {σ : St} (C : Cx E classes 3 (wM g) b_M_of "WithTheRedsModel" 4) (hR : RetI E classes 3 (wM g) b_M_of r σ) {a1 : Int32} {a2 : Int32} (hf : f_M_of σ a1 a2 = some r) : V E classes 3 (wM g) σ 0 [(0, .ref (g.2.1 0)), (1, .int a1), (2, .int a2)] [] := by
  unfold f_M_of at hf
  refine V_iload_n C 2 d_M_of_0 rfl ?_
  refine V_bipush (v := 12) C d_M_of_1 (by decide) ?_
  refine V_bipush (v := 13) C d_M_of_3 (by decide) ?_
  obtain ⟨r5_1, hg, hf⟩ := bd hf
  refine V_callSi C [.int a2, .int (12 : Int32), .int (13 : Int32)] (c_M_in C.2.2.2.2.2.2.2.1 hg) (by decide) cw_M_153 rfl (Nat.le_of_ble_eq_true rfl) rfl d_M_of_5 ?_
  refine V_if_eq (pc := 8) (tgt := 53) C d_M_of_8 (by decide) hf (fun hf => ?_) (fun hf => ?_)
  · refine V_aload_n C 0 d_M_of_53 rfl ?_
    refine V_iload_n C 1 d_M_of_54 rfl ?_
    refine V_iload_n C 2 d_M_of_55 rfl ?_
    obtain ⟨r56_2, hg, hf⟩ := bd hf
    refine V_callVi C [.int a1, .int a2] (c_M_isOne C.2.2.2.2.2.2.2.1 hg) (by decide) cw_M_184 0 rfl rfl rfl rfl (Nat.le_of_ble_eq_true rfl) rfl d_M_of_56 ?_
    refine V_if_eq (pc := 59) (tgt := 71) C d_M_of_59 (by decide) hf (fun hf => ?_) (fun hf => ?_)
    · refine V_iconst (v := -1) C d_M_of_71 (by decide) ?_
      exact V_iret hR hf d_M_of_72
    · refine V_aload_n C 0 d_M_of_62 rfl ?_
      refine V_iload_n C 2 d_M_of_63 rfl ?_
      refine V_iload_n C 1 d_M_of_64 rfl ?_
      obtain ⟨r65_3, hg, hf⟩ := bd hf
      refine V_callVi C [.int a2, .int a1] (c_M_valueAt C.2.2.2.2.2.2.2.1 hg) (by decide) cw_M_167 0 rfl rfl rfl rfl (Nat.le_of_ble_eq_true rfl) rfl d_M_of_65 ?_
      refine V_goto (pc := 68) (tgt := 72) C d_M_of_68 (by decide) ?_
      exact V_iret hR hf d_M_of_72
  · refine V_aload_n C 0 d_M_of_11 rfl ?_
    refine V_iload_n C 1 d_M_of_12 rfl ?_
    obtain ⟨r13_4, hg, hf⟩ := bd hf
    refine V_callVi C [.int a1] (c_M_isThing C.2.2.2.2.2.2.2.1 hg) (by decide) cw_M_181 0 rfl rfl rfl rfl (Nat.le_of_ble_eq_true rfl) rfl d_M_of_13 ?_
    refine V_if_ne (pc := 16) (tgt := 23) C d_M_of_16 (by decide) hf (fun hf => ?_) (fun hf => ?_)
    · refine V_iload_n C 2 d_M_of_23 rfl ?_
      refine V_bipush (v := 12) C d_M_of_24 (by decide) ?_
      refine V_icmp_ne (pc := 26) (tgt := 38) C d_M_of_26 (by decide) hf (fun hf => ?_) (fun hf => ?_)
      · refine V_aload_n C 0 d_M_of_38 rfl ?_
        refine gM_M_away C fl_M_109 d_M_of_39 ?_
        refine V_iload_n C 1 d_M_of_42 rfl ?_
        obtain ⟨hi43_5, hf⟩ := gu hf
        refine aM_29 (v := σ.2.1 29 a1.toNatClampNeg) C hi43_5 rfl d_M_of_43 ?_
        refine V_if_eq (pc := 44) (tgt := 51) C d_M_of_44 (by decide) hf (fun hf => ?_) (fun hf => ?_)
        · refine V_iconst (v := 0) C d_M_of_51 (by decide) ?_
          exact V_iret hR hf d_M_of_52
        · refine V_iconst (v := 1) C d_M_of_47 (by decide) ?_
          refine V_goto (pc := 48) (tgt := 52) C d_M_of_48 (by decide) ?_
          exact V_iret hR hf d_M_of_52
      · refine V_aload_n C 0 d_M_of_29 rfl ?_
        refine gM_M_tintNow C fl_M_106 d_M_of_30 ?_
        refine V_iload_n C 1 d_M_of_33 rfl ?_
        obtain ⟨hi34_6, hf⟩ := gu hf
        refine aM_28 (v := σ.2.1 28 a1.toNatClampNeg) C hi34_6 rfl d_M_of_34 ?_
        refine V_goto (pc := 35) (tgt := 52) C d_M_of_35 (by decide) ?_
        exact V_iret hR hf d_M_of_52
    · refine V_iconst (v := -1) C d_M_of_19 (by decide) ?_
      refine V_goto (pc := 20) (tgt := 52) C d_M_of_20 (by decide) ?_
      exact V_iret hR hf d_M_of_52
theorem c_M_of {l : Launch} {g : Gx} (hok : Wok classes (wM g)) {σ : St} {a1 : Int32} {a2 : Int32} {r : Int32} (hf : f_M_of σ a1 a2 = some r) : CtI classes l y_M_of b_M_of 3 (some .int) 4 (wM g) [.ref (g.2.1 0), .int a1, .int a2] σ r σ :=
  MetI (by decide +kernel) hok (Nat.le_of_ble_eq_true rfl) (fun E _ C hR => w_M_of C hR hf)
set_option maxRecDepth 4000 in
theorem w_M_order {E : Ev} {g : Gx} {r : Int32} {σ' : St} (C : Cx E classes 3 (wM g) b_M_order "WithTheRedsModel" 24) (hR : RetI E classes 3 (wM g) b_M_order r σ') {σ : St} {a1 : Int32} {a2 : Int32} (hf : f_M_order σ a1 a2 = some (r, σ')) : V E classes 3 (wM g) σ 0 [(0, .ref (g.2.1 0)), (1, .int a1), (2, .int a2)] [] := by
  unfold f_M_order at hf
  refine V_aload_n C 0 d_M_order_0 rfl ?_
  refine V_iload_n C 1 d_M_order_1 rfl ?_
  obtain ⟨r2_1, hg, hf⟩ := bd hf
  refine V_callVi C [.int a1] (c_M_areThings C.2.2.2.2.2.2.2.1 hg) (by decide) cw_M_289 0 rfl rfl rfl rfl (Nat.le_of_ble_eq_true rfl) rfl d_M_order_2 ?_
  refine V_if_eq (pc := 5) (tgt := 13) C d_M_order_5 (by decide) hf (fun hf => ?_) (fun hf => ?_)
  · refine V_iconst (v := -1) C d_M_order_13 (by decide) ?_
    exact V_iretW hR hf d_M_order_14
  · refine V_iload_n C 2 d_M_order_8 rfl ?_
    refine V_iconst (v := -1) C d_M_order_9 (by decide) ?_
    refine V_icmp_ge (pc := 10) (tgt := 15) C d_M_order_10 (by decide) hf (fun hf => ?_) (fun hf => ?_)
    · refine V_iload_n C 1 d_M_order_15 rfl ?_
      obtain ⟨r16_2, hg, hf⟩ := bd hf
      refine V_callSi C [.int a1] (c_M_bitsOf C.2.2.2.2.2.2.2.1 hg) (by decide) cw_M_318 rfl (Nat.le_of_ble_eq_true rfl) rfl d_M_order_16 ?_
      refine V_bipush (v := 6) C d_M_order_19 (by decide) ?_
      refine V_icmp_le (pc := 21) (tgt := 27) C d_M_order_21 (by decide) hf (fun hf => ?_) (fun hf => ?_)
      · refine V_aload_n C 0 d_M_order_27 rfl ?_
        refine V_iconst (v := -1) C d_M_order_28 (by decide) ?_
        refine pM_M_soonest C fl_M_362 d_M_order_29 ?_
        refine V_aload_n C 0 d_M_order_32 rfl ?_
        refine V_iconst (v := 0) C d_M_order_33 (by decide) ?_
        refine pM_M_hangMany C fl_M_343 d_M_order_34 ?_
        refine V_aload_n C 0 d_M_order_37 rfl ?_
        refine V_iload_n C 1 d_M_order_38 rfl ?_
        refine V_iconst (v := 0) C d_M_order_39 (by decide) ?_
        obtain ⟨σ40_3, hg, hf⟩ := bd hf
        refine V_callVv C [.int a1, .int (0 : Int32)] (c_M_goOrders C.2.2.2.2.2.2.2.1 20 hg) (by decide) cw_M_365 0 rfl rfl rfl rfl (Nat.le_of_ble_eq_true rfl) rfl d_M_order_40 ?_
        refine V_aload_n C 0 d_M_order_43 rfl ?_
        refine gM_M_soonest (v := σ40_3.1 44) C fl_M_362 rfl d_M_order_44 ?_
        refine V_if_lt (pc := 47) (tgt := 58) C d_M_order_47 (by decide) hf (fun hf => ?_) (fun hf => ?_)
        · refine V_bipush (v := -2) C d_M_order_58 (by decide) ?_
          exact V_iretW hR hf d_M_order_60
        · refine V_iload_n C 2 d_M_order_50 rfl ?_
          refine V_iload_n C 1 d_M_order_51 rfl ?_
          obtain ⟨r52_4, hg, hf⟩ := bd hf
          refine V_callSi C [.int a1] (c_M_bitsOf C.2.2.2.2.2.2.2.1 hg) (by decide) cw_M_318 rfl (Nat.le_of_ble_eq_true rfl) rfl d_M_order_52 ?_
          refine V_icmp_lt (pc := 55) (tgt := 61) C d_M_order_55 (by decide) hf (fun hf => ?_) (fun hf => ?_)
          · refine V_iload_n C 2 d_M_order_61 rfl ?_
            refine V_if_ge (pc := 62) (tgt := 72) C d_M_order_62 (by decide) hf (fun hf => ?_) (fun hf => ?_)
            · refine V_aload_n C 0 d_M_order_72 rfl ?_
              refine gM_M_bestLine C fl_M_103 d_M_order_73 ?_
              refine V_iload_n C 2 d_M_order_76 rfl ?_
              obtain ⟨hi77_5, hf⟩ := gu hf
              refine aM_27 (v := σ40_3.2.1 27 a2.toNatClampNeg) C hi77_5 rfl d_M_order_77 ?_
              exact V_iretW hR hf d_M_order_78
            · refine V_aload_n C 0 d_M_order_65 rfl ?_
              refine gM_M_soonest (v := σ40_3.1 44) C fl_M_362 rfl d_M_order_66 ?_
              refine V_goto (pc := 69) (tgt := 78) C d_M_order_69 (by decide) ?_
              exact V_iretW hR hf d_M_order_78
          · refine V_bipush (v := -2) C d_M_order_58 (by decide) ?_
            exact V_iretW hR hf d_M_order_60
      · refine V_bipush (v := -5) C d_M_order_24 (by decide) ?_
        exact V_iretW hR hf d_M_order_26
    · refine V_iconst (v := -1) C d_M_order_13 (by decide) ?_
      exact V_iretW hR hf d_M_order_14
theorem c_M_order {l : Launch} {g : Gx} (hok : Wok classes (wM g)) {σ : St} {a1 : Int32} {a2 : Int32} {r : Int32} {σ' : St} (hf : f_M_order σ a1 a2 = some (r, σ')) : CtI classes l y_M_order b_M_order 3 (some .int) 24 (wM g) [.ref (g.2.1 0), .int a1, .int a2] σ r σ' :=
  MetI (by decide +kernel) hok (Nat.le_of_ble_eq_true rfl) (fun E _ C hR => w_M_order C hR hf)
set_option maxRecDepth 4000 in
theorem w_M_put {E : Ev} {g : Gx} {r : Int32} {σ' : St} (C : Cx E classes 7 (wM g) b_M_put "WithTheRedsModel" 4) (hR : RetI E classes 7 (wM g) b_M_put r σ') {σ : St} {a1 : Int32} {a2 : Int32} {a3 : Int64} (hf : f_M_put σ a1 a2 a3 = some (r, σ')) : V E classes 7 (wM g) σ 0 [(0, .ref (g.2.1 0)), (1, .int a1), (2, .int a2), (3, .long a3)] [] := by
  unfold f_M_put at hf
  refine V_aload_n C 0 d_M_put_0 rfl ?_
  refine V_iload_n C 1 d_M_put_1 rfl ?_
  refine V_iload_n C 2 d_M_put_2 rfl ?_
  obtain ⟨r3_1, hg, hf⟩ := bd hf
  refine V_callVi C [.int a1, .int a2] (c_M_whyNoPlace C.2.2.2.2.2.2.2.1 hg) (by decide) cw_M_430 0 rfl rfl rfl rfl (Nat.le_of_ble_eq_true rfl) rfl d_M_put_3 ?_
  refine V_istore C d_M_put_6 (by decide) rfl ?_
  refine V_iload C 0 d_M_put_8 rfl ?_
  refine V_if_ge (pc := 10) (tgt := 16) C d_M_put_10 (by decide) hf (fun hf => ?_) (fun hf => ?_)
  · refine V_bipush (v := -2) C d_M_put_16 (by decide) ?_
    refine V_aload_n C 1 d_M_put_18 rfl ?_
    refine gM_M_holds C fl_M_134 d_M_put_19 ?_
    refine V_iload_n C 2 d_M_put_22 rfl ?_
    obtain ⟨hi23_2, hf⟩ := gu hf
    refine aM_37 (v := σ.2.1 37 a1.toNatClampNeg) C hi23_2 rfl d_M_put_23 ?_
    refine V_isub C d_M_put_24 ?_
    refine V_istore C d_M_put_25 (by decide) rfl ?_
    refine V_aload_n C 2 d_M_put_27 rfl ?_
    refine gM_M_elements C fl_M_140 d_M_put_28 ?_
    refine V_bipush (v := 60) C d_M_put_31 (by decide) ?_
    refine V_iload_n C 3 d_M_put_33 rfl ?_
    refine V_imul C d_M_put_34 ?_
    refine V_iload_n C 4 d_M_put_35 rfl ?_
    refine V_iadd C d_M_put_36 ?_
    refine V_iload C 0 d_M_put_37 rfl ?_
    refine V_if_ne (pc := 39) (tgt := 49) C d_M_put_39 (by decide) hf (fun hf => ?_) (fun hf => ?_)
    · refine V_iload C 0 d_M_put_49 rfl ?_
      refine V_iconst (v := 1) C d_M_put_51 (by decide) ?_
      refine V_icmp_ne (pc := 52) (tgt := 62) C d_M_put_52 (by decide) hf (fun hf => ?_) (fun hf => ?_)
      · refine V_iload C 0 d_M_put_62 rfl ?_
        refine V_iconst (v := 2) C d_M_put_64 (by decide) ?_
        refine V_icmp_ne (pc := 65) (tgt := 74) C d_M_put_65 (by decide) hf (fun hf => ?_) (fun hf => ?_)
        · refine V_iload C 0 d_M_put_74 rfl ?_
          refine V_iconst (v := 3) C d_M_put_76 (by decide) ?_
          refine V_icmp_ne (pc := 77) (tgt := 84) C d_M_put_77 (by decide) hf (fun hf => ?_) (fun hf => ?_)
          · refine V_lload_n C 5 d_M_put_84 rfl ?_
            refine V_lconst (v := 0) C d_M_put_85 (by decide) ?_
            refine V_lcmp C d_M_put_86 ?_
            refine V_if_eq (pc := 87) (tgt := 94) C d_M_put_87 (by decide) hf (fun hf => ?_) (fun hf => ?_)
            · refine V_lconst (v := 0) C d_M_put_94 (by decide) ?_
              obtain ⟨hi95_3, hf⟩ := gu hf
              refine sM_39 C hi95_3 d_M_put_95 ?_
              refine V_iconst (v := 1) C d_M_put_96 (by decide) ?_
              exact V_iretW hR hf d_M_put_97
            · refine V_lconst (v := 1) C d_M_put_90 (by decide) ?_
              refine V_goto (pc := 91) (tgt := 95) C d_M_put_91 (by decide) ?_
              obtain ⟨hi95_4, hf⟩ := gu hf
              refine sM_39 C hi95_4 d_M_put_95 ?_
              refine V_iconst (v := 1) C d_M_put_96 (by decide) ?_
              exact V_iretW hR hf d_M_put_97
          · refine V_lload_n C 5 d_M_put_80 rfl ?_
            refine V_goto (pc := 81) (tgt := 95) C d_M_put_81 (by decide) ?_
            obtain ⟨hi95_5, hf⟩ := gu hf
            refine sM_39 C hi95_5 d_M_put_95 ?_
            refine V_iconst (v := 1) C d_M_put_96 (by decide) ?_
            exact V_iretW hR hf d_M_put_97
        · refine V_lload_n C 5 d_M_put_68 rfl ?_
          refine V_l2i C d_M_put_69 ?_
          refine V_i2l C d_M_put_70 ?_
          refine V_goto (pc := 71) (tgt := 95) C d_M_put_71 (by decide) ?_
          obtain ⟨hi95_6, hf⟩ := gu hf
          refine sM_39 C hi95_6 d_M_put_95 ?_
          refine V_iconst (v := 1) C d_M_put_96 (by decide) ?_
          exact V_iretW hR hf d_M_put_97
      · refine V_lload_n C 5 d_M_put_55 rfl ?_
        refine V_l2i C d_M_put_56 ?_
        refine V_i2s C d_M_put_57 ?_
        refine V_i2l C d_M_put_58 ?_
        refine V_goto (pc := 59) (tgt := 95) C d_M_put_59 (by decide) ?_
        obtain ⟨hi95_7, hf⟩ := gu hf
        refine sM_39 C hi95_7 d_M_put_95 ?_
        refine V_iconst (v := 1) C d_M_put_96 (by decide) ?_
        exact V_iretW hR hf d_M_put_97
    · refine V_lload_n C 5 d_M_put_42 rfl ?_
      refine V_l2i C d_M_put_43 ?_
      refine V_i2b C d_M_put_44 ?_
      refine V_i2l C d_M_put_45 ?_
      refine V_goto (pc := 46) (tgt := 95) C d_M_put_46 (by decide) ?_
      obtain ⟨hi95_8, hf⟩ := gu hf
      refine sM_39 C hi95_8 d_M_put_95 ?_
      refine V_iconst (v := 1) C d_M_put_96 (by decide) ?_
      exact V_iretW hR hf d_M_put_97
  · refine V_iload C 0 d_M_put_13 rfl ?_
    exact V_iretW hR hf d_M_put_15
theorem c_M_put {l : Launch} {g : Gx} (hok : Wok classes (wM g)) {σ : St} {a1 : Int32} {a2 : Int32} {a3 : Int64} {r : Int32} {σ' : St} (hf : f_M_put σ a1 a2 a3 = some (r, σ')) : CtI classes l y_M_put b_M_put 7 (some .int) 4 (wM g) [.ref (g.2.1 0), .int a1, .int a2, .long a3] σ r σ' :=
  MetI (by decide +kernel) hok (Nat.le_of_ble_eq_true rfl) (fun E _ C hR => w_M_put C hR hf)
