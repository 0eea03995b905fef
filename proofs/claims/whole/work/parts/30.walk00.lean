set_option maxRecDepth 4000 in
theorem w_Top_within {E : Ev} {g : Gx} {r : Int32} {σ : St} (C : Cx E classes 3 (wC g) b_Top_within "WithTheReds" 1) (hR : RetZ E classes 3 (wC g) b_Top_within r σ) {a0 : Int32} {a1 : Int32} {a2 : Int32} (hf : f_Top_within a0 a1 a2 = some r) : V E classes 3 (wC g) σ 0 [(0, .int a0), (1, .int a1), (2, .int a2)] [] := by
  unfold f_Top_within at hf
  refine V_iload_n C 0 d_Top_within_0 rfl ?_
  refine V_iload_n C 1 d_Top_within_1 rfl ?_
  refine V_icmp_lt (pc := 2) (tgt := 14) C d_Top_within_2 (by decide) hf (fun hf => ?_) (fun hf => ?_)
  · refine V_iconst (v := 0) C d_Top_within_14 (by decide) ?_
    exact V_zret hR hf rfl d_Top_within_15
  · refine V_iload_n C 0 d_Top_within_5 rfl ?_
    refine V_iload_n C 2 d_Top_within_6 rfl ?_
    refine V_icmp_gt (pc := 7) (tgt := 14) C d_Top_within_7 (by decide) hf (fun hf => ?_) (fun hf => ?_)
    · refine V_iconst (v := 0) C d_Top_within_14 (by decide) ?_
      exact V_zret hR hf rfl d_Top_within_15
    · refine V_iconst (v := 1) C d_Top_within_10 (by decide) ?_
      refine V_goto (pc := 11) (tgt := 15) C d_Top_within_11 (by decide) ?_
      exact V_zret hR hf rfl d_Top_within_15
theorem c_Top_within {l : Launch} {g : Gx} (hok : Wok classes (wC g)) {σ : St} {a0 : Int32} {a1 : Int32} {a2 : Int32} {r : Int32} (hf : f_Top_within a0 a1 a2 = some r) : CtI classes l y_Top_within b_Top_within 3 (some .boolean) 1 (wC g) [.int a0, .int a1, .int a2] σ r σ :=
  MetZ (by decide +kernel) hok (Nat.le_of_ble_eq_true rfl) (fun E _ C hR => w_Top_within C hR hf)
set_option maxRecDepth 4000 in
theorem w_Socks_note {E : Ev} {g : Gx} {σ' : St} (C : Cx E classes 2 (wC g) b_Socks_note "WithTheReds$Socks" 1) (hR : RetV E classes 2 (wC g) b_Socks_note σ') {σ : St} {a1 : Int32} (hf : f_Socks_note σ a1 = some σ') : V E classes 2 (wC g) σ 0 [(0, .ref (g.2.1 32)), (1, .int a1)] [] := by
  unfold f_Socks_note at hf
  refine V_aload_n C 0 d_Socks_note_0 rfl ?_
  refine gC_Socks_ran (v := σ.1 3203) C fl_Socks_33 rfl d_Socks_note_1 ?_
  refine V_bipush (v := 24) C d_Socks_note_4 (by decide) ?_
  refine V_icmp_ge (pc := 6) (tgt := 19) C d_Socks_note_6 (by decide) hf (fun hf => ?_) (fun hf => ?_)
  · refine V_aload_n C 0 d_Socks_note_19 rfl ?_
    refine V_dup C d_Socks_note_20 rfl ?_
    refine gC_Socks_ran (v := σ.1 3203) C fl_Socks_33 rfl d_Socks_note_21 ?_
    refine V_iconst (v := 1) C d_Socks_note_24 (by decide) ?_
    refine V_iadd C d_Socks_note_25 ?_
    refine pC_Socks_ran C fl_Socks_33 d_Socks_note_26 ?_
    exact V_vret hR hf d_Socks_note_29
  · refine V_aload_n C 0 d_Socks_note_9 rfl ?_
    refine gC_Socks_traced C fl_Socks_15 d_Socks_note_10 ?_
    refine V_aload_n C 0 d_Socks_note_13 rfl ?_
    refine gC_Socks_ran (v := σ.1 3203) C fl_Socks_33 rfl d_Socks_note_14 ?_
    refine V_iload_n C 1 d_Socks_note_17 rfl ?_
    obtain ⟨hi18_1, hf⟩ := gu hf
    refine sC_34 C hi18_1 d_Socks_note_18 ?_
    refine V_aload_n C 0 d_Socks_note_19 rfl ?_
    refine V_dup C d_Socks_note_20 rfl ?_
    refine gC_Socks_ran (v := σ.1 3203) C fl_Socks_33 rfl d_Socks_note_21 ?_
    refine V_iconst (v := 1) C d_Socks_note_24 (by decide) ?_
    refine V_iadd C d_Socks_note_25 ?_
    refine pC_Socks_ran C fl_Socks_33 d_Socks_note_26 ?_
    exact V_vret hR hf d_Socks_note_29
theorem c_Socks_note {l : Launch} {g : Gx} (hok : Wok classes (wC g)) {σ : St} {a1 : Int32} {σ' : St} (hf : f_Socks_note σ a1 = some σ') : CtV classes l y_Socks_note b_Socks_note 2 none 1 (wC g) [.ref (g.2.1 32), .int a1] σ σ' :=
  MetV (by decide +kernel) hok (Nat.le_of_ble_eq_true rfl) (fun E _ C hR => w_Socks_note C hR hf)
set_option maxRecDepth 4000 in
theorem w_Socks_ownerOf_4 {E : Ev} {g : Gx} {r : Int32} {σ : St} (C : Cx E classes 4 (wC g) b_Socks_ownerOf "WithTheReds$Socks" 1) (hR : RetI E classes 4 (wC g) b_Socks_ownerOf r σ) : ∀ (n : Nat) (x1 : Int32) (x2 : Int32) (x3 : Int32), f_Socks_ownerOf_4 n x1 x2 x3 = some r → V E classes 4 (wC g) σ 4 [(1, .int x1), (2, .int x2), (3, .int x3)] [] := by
  intro n
  induction n with
  | zero => intro x1 x2 x3 hf; exact absurd hf (by unfold f_Socks_ownerOf_4; exact nofun)
  | succ n ih =>
    intro x1 x2 x3 hf
    unfold f_Socks_ownerOf_4 at hf
    refine V_iload_n C 2 d_Socks_ownerOf_4 rfl ?_
    refine V_bipush (v := 7) C d_Socks_ownerOf_5 (by decide) ?_
    refine V_icmp_gt (pc := 7) (tgt := 40) C d_Socks_ownerOf_7 (by decide) hf (fun hf => ?_) (fun hf => ?_)
    · refine V_iconst (v := -1) C d_Socks_ownerOf_40 (by decide) ?_
      exact V_iret hR hf d_Socks_ownerOf_41
    · refine V_iload_n C 1 d_Socks_ownerOf_10 rfl ?_
      refine V_if_lt (pc := 11) (tgt := 40) C d_Socks_ownerOf_11 (by decide) hf (fun hf => ?_) (fun hf => ?_)
      · refine V_iconst (v := -1) C d_Socks_ownerOf_40 (by decide) ?_
        exact V_iret hR hf d_Socks_ownerOf_41
      · refine V_gs_OWN C fl_Socks_57 d_Socks_ownerOf_14 ?_
        refine V_iload_n C 1 d_Socks_ownerOf_17 rfl ?_
        refine V_iconst (v := 4) C d_Socks_ownerOf_18 (by decide) ?_
        refine V_imul C d_Socks_ownerOf_19 ?_
        refine V_iload_n C 0 d_Socks_ownerOf_20 rfl ?_
        refine V_iadd C d_Socks_ownerOf_21 ?_
        obtain ⟨hi22_1, hf⟩ := gu hf
        refine V_tb_OWN C hi22_1 d_Socks_ownerOf_22 ?_
        refine V_if_eq (pc := 23) (tgt := 28) C d_Socks_ownerOf_23 (by decide) hf (fun hf => ?_) (fun hf => ?_)
        · refine V_gs_ABOVE C fl_Socks_30 d_Socks_ownerOf_28 ?_
          refine V_iload_n C 1 d_Socks_ownerOf_31 rfl ?_
          obtain ⟨hi32_2, hf⟩ := gu hf
          refine V_tb_ABOVE C hi32_2 d_Socks_ownerOf_32 ?_
          refine V_istore_n C d_Socks_ownerOf_33 (by decide) rfl ?_
          refine V_iinc (v := x3 + (1 : Int32)) C 2 d_Socks_ownerOf_34 rfl rfl (by decide) rfl ?_
          refine V_goto (pc := 37) (tgt := 4) C d_Socks_ownerOf_37 (by decide) ?_
          refine V.sub [2, 1, 0] rfl ?_
          exact ih x1 (tb_ABOVE x2.toNatClampNeg) (x3 + (1 : Int32)) hf
        · refine V_iload_n C 1 d_Socks_ownerOf_26 rfl ?_
          exact V_iret hR hf d_Socks_ownerOf_27
set_option maxRecDepth 4000 in
theorem w_Socks_ownerOf {E : Ev} {g : Gx} {r : Int32} {σ : St} (C : Cx E classes 4 (wC g) b_Socks_ownerOf "WithTheReds$Socks" 1) (hR : RetI E classes 4 (wC g) b_Socks_ownerOf r σ) {a0 : Int32} {a1 : Int32} (hf : f_Socks_ownerOf a0 a1 = some r) : V E classes 4 (wC g) σ 0 [(0, .int a0), (1, .int a1)] [] := by
  unfold f_Socks_ownerOf at hf
  refine V_iload_n C 0 d_Socks_ownerOf_0 rfl ?_
  refine V_istore_n C d_Socks_ownerOf_1 (by decide) rfl ?_
  refine V_iconst (v := 0) C d_Socks_ownerOf_2 (by decide) ?_
  refine V_istore_n C d_Socks_ownerOf_3 (by decide) rfl ?_
  refine V.sub [3, 1, 0] rfl ?_
  exact w_Socks_ownerOf_4 C hR FU a1 a0 (0 : Int32) hf
theorem c_Socks_ownerOf {l : Launch} {g : Gx} (hok : Wok classes (wC g)) {σ : St} {a0 : Int32} {a1 : Int32} {r : Int32} (hf : f_Socks_ownerOf a0 a1 = some r) : CtI classes l y_Socks_ownerOf b_Socks_ownerOf 4 (some .int) 1 (wC g) [.int a0, .int a1] σ r σ :=
  MetI (by decide +kernel) hok (Nat.le_of_ble_eq_true rfl) (fun E _ C hR => w_Socks_ownerOf C hR hf)
set_option maxRecDepth 4000 in
theorem w_Socks_isBody {E : Ev} {g : Gx} {r : Int32} {σ : St} (C : Cx E classes 2 (wC g) b_Socks_isBody "WithTheReds$Socks" 2) (hR : RetZ E classes 2 (wC g) b_Socks_isBody r σ) {a1 : Int32} (hf : f_Socks_isBody σ a1 = some r) : V E classes 2 (wC g) σ 0 [(0, .ref (g.2.1 32)), (1, .int a1)] [] := by
  unfold f_Socks_isBody at hf
  refine V_iload_n C 1 d_Socks_isBody_0 rfl ?_
  refine V_iconst (v := 0) C d_Socks_isBody_1 (by decide) ?_
  refine V_aload_n C 0 d_Socks_isBody_2 rfl ?_
  refine gC_Socks_bodies (v := σ.1 3202) C fl_Socks_18 rfl d_Socks_isBody_3 ?_
  refine V_iconst (v := 1) C d_Socks_isBody_6 (by decide) ?_
  refine V_isub C d_Socks_isBody_7 ?_
  obtain ⟨r8_1, hg, hf⟩ := bd hf
  refine V_callNi C [.int a1, .int (0 : Int32), .int ((σ.1 3202) - (1 : Int32))] (c_Top_within C.2.2.2.2.2.2.2.1 hg) (by decide) cw_Socks_22 nw_Socks_22 rfl (Nat.le_of_ble_eq_true rfl) rfl d_Socks_isBody_8 ?_
  obtain ⟨hz, hf⟩ := gu hf
  exact V_zret hR hf hz d_Socks_isBody_11
theorem c_Socks_isBody {l : Launch} {g : Gx} (hok : Wok classes (wC g)) {σ : St} {a1 : Int32} {r : Int32} (hf : f_Socks_isBody σ a1 = some r) : CtI classes l y_Socks_isBody b_Socks_isBody 2 (some .boolean) 2 (wC g) [.ref (g.2.1 32), .int a1] σ r σ :=
  MetZ (by decide +kernel) hok (Nat.le_of_ble_eq_true rfl) (fun E _ C hR => w_Socks_isBody C hR hf)
set_option maxRecDepth 4000 in
theorem w_Socks_own {E : Ev} {g : Gx} {r : Int32} {σ' : St} {rec : St → Int32 → Int32 → Int32 → Int32 → Int32 → Option (Int32 × St)} {D : Nat} (hD : 3 ≤ D) (hrec : ∀ {l : Launch} {σ : St} {a1 : Int32} {a2 : Int32} {a3 : Int32} {a4 : Int32} {a5 : Int32} {r : Int32} {σ' : St}, rec σ a1 a2 a3 a4 a5 = some (r, σ') → CtI classes l y_Socks_from b_Socks_from 10 (some .int) D (wC g) [.ref (g.2.1 32), .int a1, .int a2, .int a3, .int a4, .int a5] σ r σ') (C : Cx E classes 5 (wC g) b_Socks_own "WithTheReds$Socks" (D + 1)) (hR : RetI E classes 5 (wC g) b_Socks_own r σ') {σ : St} {a1 : Int32} {a2 : Int32} {a3 : Int32} {a4 : Int32} (hf : f_Socks_own rec σ a1 a2 a3 a4 = some (r, σ')) : V E classes 5 (wC g) σ 0 [(0, .ref (g.2.1 32)), (1, .int a1), (2, .int a2), (3, .int a3), (4, .int a4)] [] := by
  unfold f_Socks_own at hf
  refine V_aload_n C 0 d_Socks_own_0 rfl ?_
  refine V_iload_n C 1 d_Socks_own_1 rfl ?_
  obtain ⟨r2_1, hg, hf⟩ := bd hf
  refine V_callVi C [.int a1] (c_Socks_isBody C.2.2.2.2.2.2.2.1 hg) (by omega) cw_Socks_46 32 rfl rfl rfl rfl (Nat.le_of_ble_eq_true rfl) rfl d_Socks_own_2 ?_
  refine V_if_eq (pc := 5) (tgt := 26) C d_Socks_own_5 (by decide) hf (fun hf => ?_) (fun hf => ?_)
  · refine V_iconst (v := 0) C d_Socks_own_26 (by decide) ?_
    exact V_iretW hR hf d_Socks_own_27
  · refine V_aload_n C 0 d_Socks_own_8 rfl ?_
    refine V_aload_n C 0 d_Socks_own_9 rfl ?_
    refine gC_Socks_kinds C fl_Socks_11 d_Socks_own_10 ?_
    refine V_iload_n C 1 d_Socks_own_13 rfl ?_
    obtain ⟨hi14_2, hf⟩ := gu hf
    refine aC_33 (v := σ.2.1 33 a1.toNatClampNeg) C hi14_2 rfl d_Socks_own_14 ?_
    refine V_iload_n C 1 d_Socks_own_15 rfl ?_
    refine V_iload_n C 2 d_Socks_own_16 rfl ?_
    refine V_iload_n C 3 d_Socks_own_17 rfl ?_
    refine V_iload C 4 d_Socks_own_18 rfl ?_
    obtain ⟨r20_3, σ20_3, hg, hf⟩ := bd2_of hf
    refine V_callVi C [.int (σ.2.1 33 a1.toNatClampNeg), .int a1, .int a2, .int a3, .int a4] (hrec hg) (by omega) cw_Socks_50 32 rfl rfl rfl rfl (Nat.le_of_ble_eq_true rfl) rfl d_Socks_own_20 ?_
    refine V_goto (pc := 23) (tgt := 27) C d_Socks_own_23 (by decide) ?_
    exact V_iretW hR hf d_Socks_own_27
theorem c_Socks_own {l : Launch} {g : Gx} (hok : Wok classes (wC g)) {rec : St → Int32 → Int32 → Int32 → Int32 → Int32 → Option (Int32 × St)} {D : Nat} (hD : 3 ≤ D) (hrec : ∀ {l : Launch} {σ : St} {a1 : Int32} {a2 : Int32} {a3 : Int32} {a4 : Int32} {a5 : Int32} {r : Int32} {σ' : St}, rec σ a1 a2 a3 a4 a5 = some (r, σ') → CtI classes l y_Socks_from b_Socks_from 10 (some .int) D (wC g) [.ref (g.2.1 32), .int a1, .int a2, .int a3, .int a4, .int a5] σ r σ') {σ : St} {a1 : Int32} {a2 : Int32} {a3 : Int32} {a4 : Int32} {r : Int32} {σ' : St} (hf : f_Socks_own rec σ a1 a2 a3 a4 = some (r, σ')) : CtI classes l y_Socks_own b_Socks_own 5 (some .int) (D + 1) (wC g) [.ref (g.2.1 32), .int a1, .int a2, .int a3, .int a4] σ r σ' :=
  MetI (by decide +kernel) hok (Nat.le_of_ble_eq_true rfl) (fun E _ C hR => w_Socks_own hD hrec C hR hf)
set_option maxRecDepth 4000 in
theorem w_Socks_lower {E : Ev} {g : Gx} {r : Int32} {σ' : St} {rec : St → Int32 → Int32 → Int32 → Int32 → Int32 → Option (Int32 × St)} {D : Nat} (hD : 3 ≤ D) (hrec : ∀ {l : Launch} {σ : St} {a1 : Int32} {a2 : Int32} {a3 : Int32} {a4 : Int32} {a5 : Int32} {r : Int32} {σ' : St}, rec σ a1 a2 a3 a4 a5 = some (r, σ') → CtI classes l y_Socks_from b_Socks_from 10 (some .int) D (wC g) [.ref (g.2.1 32), .int a1, .int a2, .int a3, .int a4, .int a5] σ r σ') (C : Cx E classes 5 (wC g) b_Socks_lower "WithTheReds$Socks" (D + 2)) (hR : RetI E classes 5 (wC g) b_Socks_lower r σ') {σ : St} {a1 : Int32} {a2 : Int32} {a3 : Int32} {a4 : Int32} (hf : f_Socks_lower rec σ a1 a2 a3 a4 = some (r, σ')) : V E classes 5 (wC g) σ 0 [(0, .ref (g.2.1 32)), (1, .int a1), (2, .int a2), (3, .int a3), (4, .int a4)] [] := by
  unfold f_Socks_lower at hf
  refine V_iload_n C 1 d_Socks_lower_0 rfl ?_
  by_cases hc0 : a1 = 20
  · have hf := ite_t hf hc0
    refine V_lk (off := 83) (tgt := 84) C d_Socks_lower_1 (by decide) (by rw [hc0]; decide) (by decide) ?_
    refine V_iload_n C 3 d_Socks_lower_84 rfl ?_
    refine V_iconst (v := 3) C d_Socks_lower_85 (by decide) ?_
    refine V_iadd C d_Socks_lower_86 ?_
    exact V_iretW hR hf d_Socks_lower_87
  have hf := ite_f hf hc0
  by_cases hc1 : a1 = 30
  · have hf := ite_t hf hc1
    refine V_lk (off := 87) (tgt := 88) C d_Socks_lower_1 (by decide) (by rw [hc1]; decide) (by decide) ?_
    refine V_iload_n C 3 d_Socks_lower_88 rfl ?_
    refine V_ineg C d_Socks_lower_89 ?_
    exact V_iretW hR hf d_Socks_lower_90
  have hf := ite_f hf hc1
  by_cases hc2 : a1 = 40
  · have hf := ite_t hf hc2
    refine V_lk (off := 90) (tgt := 91) C d_Socks_lower_1 (by decide) (by rw [hc2]; decide) (by decide) ?_
    refine V_iload_n C 3 d_Socks_lower_91 rfl ?_
    refine V_iconst (v := 3) C d_Socks_lower_92 (by decide) ?_
    refine V_imul C d_Socks_lower_93 ?_
    exact V_iretW hR hf d_Socks_lower_94
  have hf := ite_f hf hc2
  by_cases hc3 : a1 = 50
  · have hf := ite_t hf hc3
    refine V_lk (off := 94) (tgt := 95) C d_Socks_lower_1 (by decide) (by rw [hc3]; decide) (by decide) ?_
    refine V_iload_n C 3 d_Socks_lower_95 rfl ?_
    refine V_iconst (v := 5) C d_Socks_lower_96 (by decide) ?_
    refine V_ixor C d_Socks_lower_97 ?_
    exact V_iretW hR hf d_Socks_lower_98
  have hf := ite_f hf hc3
  by_cases hc4 : a1 = 60
  · have hf := ite_t hf hc4
    refine V_lk (off := 98) (tgt := 99) C d_Socks_lower_1 (by decide) (by rw [hc4]; decide) (by decide) ?_
    refine V_iload_n C 3 d_Socks_lower_99 rfl ?_
    refine V_aload_n C 0 d_Socks_lower_100 rfl ?_
    refine V_iload_n C 2 d_Socks_lower_101 rfl ?_
    refine V_iconst (v := 0) C d_Socks_lower_102 (by decide) ?_
    refine V_iconst (v := 2) C d_Socks_lower_103 (by decide) ?_
    refine V_iload C 4 d_Socks_lower_104 rfl ?_
    obtain ⟨r106_1, σ106_1, hg, hf⟩ := bd2_of hf
    refine V_callVi C [.int a2, .int (0 : Int32), .int (2 : Int32), .int a4] (c_Socks_own C.2.2.2.2.2.2.2.1 hD hrec hg) (by omega) cw_Socks_42 32 rfl rfl rfl rfl (Nat.le_of_ble_eq_true rfl) rfl d_Socks_lower_106 ?_
    refine V_isub C d_Socks_lower_109 ?_
    exact V_iretW hR hf d_Socks_lower_110
  have hf := ite_f hf hc4
  by_cases hc5 : a1 = 61
  · have hf := ite_t hf hc5
    refine V_lk (off := 110) (tgt := 111) C d_Socks_lower_1 (by decide) (by rw [hc5]; decide) (by decide) ?_
    refine V_iload_n C 3 d_Socks_lower_111 rfl ?_
    refine V_iconst (v := 1) C d_Socks_lower_112 (by decide) ?_
    refine V_iadd C d_Socks_lower_113 ?_
    exact V_iretW hR hf d_Socks_lower_114
  have hf := ite_f hf hc5
  by_cases hc6 : a1 = 70
  · have hf := ite_t hf hc6
    refine V_lk (off := 114) (tgt := 115) C d_Socks_lower_1 (by decide) (by rw [hc6]; decide) (by decide) ?_
    refine V_iload_n C 3 d_Socks_lower_115 rfl ?_
    refine V_iconst (v := 2) C d_Socks_lower_116 (by decide) ?_
    refine V_imul C d_Socks_lower_117 ?_
    exact V_iretW hR hf d_Socks_lower_118
  have hf := ite_f hf hc6
  by_cases hc7 : a1 = 80
  · have hf := ite_t hf hc7
    refine V_lk (off := 118) (tgt := 119) C d_Socks_lower_1 (by decide) (by rw [hc7]; decide) (by decide) ?_
    refine V_iload_n C 3 d_Socks_lower_119 rfl ?_
    refine V_aload_n C 0 d_Socks_lower_120 rfl ?_
    refine V_iload_n C 2 d_Socks_lower_121 rfl ?_
    refine V_iconst (v := 2) C d_Socks_lower_122 (by decide) ?_
    refine V_iconst (v := 2) C d_Socks_lower_123 (by decide) ?_
    refine V_iload C 4 d_Socks_lower_124 rfl ?_
    obtain ⟨r126_2, σ126_2, hg, hf⟩ := bd2_of hf
    refine V_callVi C [.int a2, .int (2 : Int32), .int (2 : Int32), .int a4] (c_Socks_own C.2.2.2.2.2.2.2.1 hD hrec hg) (by omega) cw_Socks_42 32 rfl rfl rfl rfl (Nat.le_of_ble_eq_true rfl) rfl d_Socks_lower_126 ?_
    refine V_iadd C d_Socks_lower_129 ?_
    exact V_iretW hR hf d_Socks_lower_130
  have hf := ite_f hf hc7
  by_cases hc8 : a1 = 81
  · have hf := ite_t hf hc8
    refine V_lk (off := 130) (tgt := 131) C d_Socks_lower_1 (by decide) (by rw [hc8]; decide) (by decide) ?_
    refine V_iload_n C 3 d_Socks_lower_131 rfl ?_
    refine V_iconst (v := 1) C d_Socks_lower_132 (by decide) ?_
    refine V_isub C d_Socks_lower_133 ?_
    exact V_iretW hR hf d_Socks_lower_134
  have hf := ite_f hf hc8
  refine V_lk (off := 134) (tgt := 135) C d_Socks_lower_1 (by decide) (by show Op.lookupswitch.offset [(20, 83), (30, 87), (40, 90), (50, 94), (60, 98), (61, 110), (70, 114), (80, 118), (81, 130)] _ _ = _; rw [lv_osw hc0 (by decide), lv_osw hc1 (by decide), lv_osw hc2 (by decide), lv_osw hc3 (by decide), lv_osw hc4 (by decide), lv_osw hc5 (by decide), lv_osw hc6 (by decide), lv_osw hc7 (by decide), lv_osw hc8 (by decide)]; rfl) (by decide) ?_
  refine V_iload_n C 3 d_Socks_lower_135 rfl ?_
  exact V_iretW hR hf d_Socks_lower_136
theorem c_Socks_lower {l : Launch} {g : Gx} (hok : Wok classes (wC g)) {rec : St → Int32 → Int32 → Int32 → Int32 → Int32 → Option (Int32 × St)} {D : Nat} (hD : 3 ≤ D) (hrec : ∀ {l : Launch} {σ : St} {a1 : Int32} {a2 : Int32} {a3 : Int32} {a4 : Int32} {a5 : Int32} {r : Int32} {σ' : St}, rec σ a1 a2 a3 a4 a5 = some (r, σ') → CtI classes l y_Socks_from b_Socks_from 10 (some .int) D (wC g) [.ref (g.2.1 32), .int a1, .int a2, .int a3, .int a4, .int a5] σ r σ') {σ : St} {a1 : Int32} {a2 : Int32} {a3 : Int32} {a4 : Int32} {r : Int32} {σ' : St} (hf : f_Socks_lower rec σ a1 a2 a3 a4 = some (r, σ')) : CtI classes l y_Socks_lower b_Socks_lower 5 (some .int) (D + 2) (wC g) [.ref (g.2.1 32), .int a1, .int a2, .int a3, .int a4] σ r σ' :=
  MetI (by decide +kernel) hok (Nat.le_of_ble_eq_true rfl) (fun E _ C hR => w_Socks_lower hD hrec C hR hf)
set_option maxRecDepth 4000 in
theorem w_Socks_topmost {E : Ev} {g : Gx} {r : Int32} {σ' : St} {rec : St → Int32 → Int32 → Int32 → Int32 → Int32 → Option (Int32 × St)} {D : Nat} (hD : 3 ≤ D) (hrec : ∀ {l : Launch} {σ : St} {a1 : Int32} {a2 : Int32} {a3 : Int32} {a4 : Int32} {a5 : Int32} {r : Int32} {σ' : St}, rec σ a1 a2 a3 a4 a5 = some (r, σ') → CtI classes l y_Socks_from b_Socks_from 10 (some .int) D (wC g) [.ref (g.2.1 32), .int a1, .int a2, .int a3, .int a4, .int a5] σ r σ') (C : Cx E classes 5 (wC g) b_Socks_topmost "WithTheReds$Socks" (D + 2)) (hR : RetI E classes 5 (wC g) b_Socks_topmost r σ') {σ : St} {a1 : Int32} {a2 : Int32} {a3 : Int32} {a4 : Int32} (hf : f_Socks_topmost rec σ a1 a2 a3 a4 = some (r, σ')) : V E classes 5 (wC g) σ 0 [(0, .ref (g.2.1 32)), (1, .int a1), (2, .int a2), (3, .int a3), (4, .int a4)] [] := by
  unfold f_Socks_topmost at hf
  refine V_iload_n C 1 d_Socks_topmost_0 rfl ?_
  by_cases hc0 : a1 = 1
  · have hf := ite_t hf hc0
    refine V_lk (off := 43) (tgt := 44) C d_Socks_topmost_1 (by decide) (by rw [hc0]; decide) (by decide) ?_
    refine V_iload_n C 3 d_Socks_topmost_44 rfl ?_
    refine V_iload_n C 2 d_Socks_topmost_45 rfl ?_
    refine V_iadd C d_Socks_topmost_46 ?_
    exact V_iretW hR hf d_Socks_topmost_47
  have hf := ite_f hf hc0
  by_cases hc1 : a1 = 2
  · have hf := ite_t hf hc1
    refine V_lk (off := 63) (tgt := 64) C d_Socks_topmost_1 (by decide) (by rw [hc1]; decide) (by decide) ?_
    refine V_aload_n C 0 d_Socks_topmost_64 rfl ?_
    refine V_iload_n C 2 d_Socks_topmost_65 rfl ?_
    refine V_iconst (v := 1) C d_Socks_topmost_66 (by decide) ?_
    refine V_iload_n C 3 d_Socks_topmost_67 rfl ?_
    refine V_iload C 4 d_Socks_topmost_68 rfl ?_
    obtain ⟨r70_1, σ70_1, hg, hf⟩ := bd2_of hf
    refine V_callVi C [.int a2, .int (1 : Int32), .int a3, .int a4] (c_Socks_own C.2.2.2.2.2.2.2.1 hD hrec hg) (by omega) cw_Socks_42 32 rfl rfl rfl rfl (Nat.le_of_ble_eq_true rfl) rfl d_Socks_topmost_70 ?_
    refine V_aload_n C 0 d_Socks_topmost_73 rfl ?_
    refine V_iload_n C 2 d_Socks_topmost_74 rfl ?_
    refine V_iconst (v := 2) C d_Socks_topmost_75 (by decide) ?_
    refine V_iconst (v := 1) C d_Socks_topmost_76 (by decide) ?_
    refine V_iload C 4 d_Socks_topmost_77 rfl ?_
    obtain ⟨r79_2, σ79_2, hg, hf⟩ := bd2_of hf
    refine V_callVi C [.int a2, .int (2 : Int32), .int (1 : Int32), .int a4] (c_Socks_own C.2.2.2.2.2.2.2.1 hD hrec hg) (by omega) cw_Socks_42 32 rfl rfl rfl rfl (Nat.le_of_ble_eq_true rfl) rfl d_Socks_topmost_79 ?_
    refine V_isub C d_Socks_topmost_82 ?_
    exact V_iretW hR hf d_Socks_topmost_83
  have hf := ite_f hf hc1
  by_cases hc2 : a1 = 10
  · have hf := ite_t hf hc2
    refine V_lk (off := 47) (tgt := 48) C d_Socks_topmost_1 (by decide) (by rw [hc2]; decide) (by decide) ?_
    refine V_aload_n C 0 d_Socks_topmost_48 rfl ?_
    refine V_iload_n C 2 d_Socks_topmost_49 rfl ?_
    refine V_iconst (v := 0) C d_Socks_topmost_50 (by decide) ?_
    refine V_iload_n C 3 d_Socks_topmost_51 rfl ?_
    refine V_iload C 4 d_Socks_topmost_52 rfl ?_
    obtain ⟨r54_3, σ54_3, hg, hf⟩ := bd2_of hf
    refine V_callVi C [.int a2, .int (0 : Int32), .int a3, .int a4] (c_Socks_own C.2.2.2.2.2.2.2.1 hD hrec hg) (by omega) cw_Socks_42 32 rfl rfl rfl rfl (Nat.le_of_ble_eq_true rfl) rfl d_Socks_topmost_54 ?_
    refine V_iconst (v := 2) C d_Socks_topmost_57 (by decide) ?_
    refine V_imul C d_Socks_topmost_58 ?_
    exact V_iretW hR hf d_Socks_topmost_59
  have hf := ite_f hf hc2
  by_cases hc3 : a1 = 11
  · have hf := ite_t hf hc3
    refine V_lk (off := 59) (tgt := 60) C d_Socks_topmost_1 (by decide) (by rw [hc3]; decide) (by decide) ?_
    refine V_iload_n C 3 d_Socks_topmost_60 rfl ?_
    refine V_iload_n C 2 d_Socks_topmost_61 rfl ?_
    refine V_ixor C d_Socks_topmost_62 ?_
    exact V_iretW hR hf d_Socks_topmost_63
  have hf := ite_f hf hc3
  refine V_lk (off := 83) (tgt := 84) C d_Socks_topmost_1 (by decide) (by show Op.lookupswitch.offset [(1, 43), (2, 63), (10, 47), (11, 59)] _ _ = _; rw [lv_osw hc0 (by decide), lv_osw hc1 (by decide), lv_osw hc2 (by decide), lv_osw hc3 (by decide)]; rfl) (by decide) ?_
  refine V_iconst (v := 0) C d_Socks_topmost_84 (by decide) ?_
  exact V_iretW hR hf d_Socks_topmost_85
theorem c_Socks_topmost {l : Launch} {g : Gx} (hok : Wok classes (wC g)) {rec : St → Int32 → Int32 → Int32 → Int32 → Int32 → Option (Int32 × St)} {D : Nat} (hD : 3 ≤ D) (hrec : ∀ {l : Launch} {σ : St} {a1 : Int32} {a2 : Int32} {a3 : Int32} {a4 : Int32} {a5 : Int32} {r : Int32} {σ' : St}, rec σ a1 a2 a3 a4 a5 = some (r, σ') → CtI classes l y_Socks_from b_Socks_from 10 (some .int) D (wC g) [.ref (g.2.1 32), .int a1, .int a2, .int a3, .int a4, .int a5] σ r σ') {σ : St} {a1 : Int32} {a2 : Int32} {a3 : Int32} {a4 : Int32} {r : Int32} {σ' : St} (hf : f_Socks_topmost rec σ a1 a2 a3 a4 = some (r, σ')) : CtI classes l y_Socks_topmost b_Socks_topmost 5 (some .int) (D + 2) (wC g) [.ref (g.2.1 32), .int a1, .int a2, .int a3, .int a4] σ r σ' :=
  MetI (by decide +kernel) hok (Nat.le_of_ble_eq_true rfl) (fun E _ C hR => w_Socks_topmost hD hrec C hR hf)
set_option maxRecDepth 4000 in
theorem w_Socks_from_75 {E : Ev} {g : Gx} {r : Int32} {σ' : St} {rec : St → Int32 → Int32 → Int32 → Int32 → Int32 → Option (Int32 × St)} {D : Nat} (hD : 3 ≤ D) (hrec : ∀ {l : Launch} {σ : St} {a1 : Int32} {a2 : Int32} {a3 : Int32} {a4 : Int32} {a5 : Int32} {r : Int32} {σ' : St}, rec σ a1 a2 a3 a4 a5 = some (r, σ') → CtI classes l y_Socks_from b_Socks_from 10 (some .int) D (wC g) [.ref (g.2.1 32), .int a1, .int a2, .int a3, .int a4, .int a5] σ r σ') (C : Cx E classes 10 (wC g) b_Socks_from "WithTheReds$Socks" (D + 3)) (hR : RetI E classes 10 (wC g) b_Socks_from r σ') : ∀ (σ : St) (x2 : Int32) (x3 : Int32) (x5 : Int32) (x6 : Int32) (x7 : Int32) (y0 : Int32), f_Socks_from_75 rec σ x2 x3 x5 x6 x7 y0 = some (r, σ') → V E classes 10 (wC g) σ 75 [(0, .ref (g.2.1 32)), (2, .int x2), (3, .int x3), (5, .int x5), (6, .int x6), (7, .int x7)] [.int y0] := by
  intro σ x2 x3 x5 x6 x7 y0 hf
  unfold f_Socks_from_75 at hf
  refine V_istore C d_Socks_from_75 (by decide) rfl ?_
  refine V_aload_n C 1 d_Socks_from_77 rfl ?_
  refine V_gs_ABOVE C fl_Socks_30 d_Socks_from_78 ?_
  refine V_iload C 5 d_Socks_from_81 rfl ?_
  obtain ⟨hi83_1, hf⟩ := gu hf
  refine V_tb_ABOVE C hi83_1 d_Socks_from_83 ?_
  refine V_iload_n C 2 d_Socks_from_84 rfl ?_
  refine V_iload_n C 3 d_Socks_from_85 rfl ?_
  refine V_iload C 0 d_Socks_from_86 rfl ?_
  refine V_iload C 4 d_Socks_from_88 rfl ?_
  refine V_iconst (v := 1) C d_Socks_from_90 (by decide) ?_
  refine V_iadd C d_Socks_from_91 ?_
  obtain ⟨r92_2, σ92_2, hg, hf⟩ := bd2_of hf
  refine V_callVi C [.int (tb_ABOVE x6.toNatClampNeg), .int x2, .int x3, .int y0, .int (x5 + (1 : Int32))] (hrec hg) (by omega) cw_Socks_50 32 rfl rfl rfl rfl (Nat.le_of_ble_eq_true rfl) rfl d_Socks_from_92 ?_
  refine V_istore C d_Socks_from_95 (by decide) rfl ?_
  refine V_aload_n C 2 d_Socks_from_97 rfl ?_
  refine V_iload C 7 d_Socks_from_98 rfl ?_
  refine V_iload_n C 3 d_Socks_from_100 rfl ?_
  refine V_iload C 0 d_Socks_from_101 rfl ?_
  refine V_iload C 5 d_Socks_from_103 rfl ?_
  refine V_iconst (v := 1) C d_Socks_from_105 (by decide) ?_
  refine V_iadd C d_Socks_from_106 ?_
  obtain ⟨r107_3, σ107_3, hg, hf⟩ := bd2_of hf
  refine V_callVi C [.int x7, .int x2, .int r92_2, .int (x5 + (1 : Int32))] (c_Socks_lower C.2.2.2.2.2.2.2.1 hD hrec hg) (by omega) cw_Socks_67 32 rfl rfl rfl rfl (Nat.le_of_ble_eq_true rfl) rfl d_Socks_from_107 ?_
  exact V_iretW hR hf d_Socks_from_110
set_option maxRecDepth 4000 in
theorem w_Socks_from_F {E : Ev} {g : Gx} {r : Int32} {σ' : St} {rec : St → Int32 → Int32 → Int32 → Int32 → Int32 → Option (Int32 × St)} {D : Nat} (hD : 3 ≤ D) (hrec : ∀ {l : Launch} {σ : St} {a1 : Int32} {a2 : Int32} {a3 : Int32} {a4 : Int32} {a5 : Int32} {r : Int32} {σ' : St}, rec σ a1 a2 a3 a4 a5 = some (r, σ') → CtI classes l y_Socks_from b_Socks_from 10 (some .int) D (wC g) [.ref (g.2.1 32), .int a1, .int a2, .int a3, .int a4, .int a5] σ r σ') (C : Cx E classes 10 (wC g) b_Socks_from "WithTheReds$Socks" (D + 3)) (hR : RetI E classes 10 (wC g) b_Socks_from r σ') {σ : St} {a1 : Int32} {a2 : Int32} {a3 : Int32} {a4 : Int32} {a5 : Int32} (hf : f_Socks_from_F rec σ a1 a2 a3 a4 a5 = some (r, σ')) : V E classes 10 (wC g) σ 0 [(0, .ref (g.2.1 32)), (1, .int a1), (2, .int a2), (3, .int a3), (4, .int a4), (5, .int a5)] [] := by
  unfold f_Socks_from_F at hf
  refine V_iload_n C 1 d_Socks_from_0 rfl ?_
  refine V_iload_n C 3 d_Socks_from_1 rfl ?_
  obtain ⟨r2_1, hg, hf⟩ := bd hf
  refine V_callSi C [.int a1, .int a3] (c_Socks_ownerOf C.2.2.2.2.2.2.2.1 hg) (by omega) cw_Socks_54 rfl (Nat.le_of_ble_eq_true rfl) rfl d_Socks_from_2 ?_
  refine V_istore C d_Socks_from_5 (by decide) rfl ?_
  refine V_iload C 0 d_Socks_from_7 rfl ?_
  refine V_iconst (v := -1) C d_Socks_from_9 (by decide) ?_
  refine V_icmp_eq (pc := 10) (tgt := 20) C d_Socks_from_10 (by decide) hf (fun hf => ?_) (fun hf => ?_)
  · refine V_iconst (v := 0) C d_Socks_from_20 (by decide) ?_
    exact V_iretW hR hf d_Socks_from_21
  · refine V_iload C 6 d_Socks_from_13 rfl ?_
    refine V_bipush (v := 40) C d_Socks_from_15 (by decide) ?_
    refine V_icmp_le (pc := 17) (tgt := 22) C d_Socks_from_17 (by decide) hf (fun hf => ?_) (fun hf => ?_)
    · refine V_gs_OWN C fl_Socks_57 d_Socks_from_22 ?_
      refine V_iload C 0 d_Socks_from_25 rfl ?_
      refine V_iconst (v := 4) C d_Socks_from_27 (by decide) ?_
      refine V_imul C d_Socks_from_28 ?_
      refine V_iload_n C 4 d_Socks_from_29 rfl ?_
      refine V_iadd C d_Socks_from_30 ?_
      obtain ⟨hi31_2, hf⟩ := gu hf
      refine V_tb_OWN C hi31_2 d_Socks_from_31 ?_
      refine V_istore C d_Socks_from_32 (by decide) rfl ?_
      refine V_aload_n C 2 d_Socks_from_34 rfl ?_
      refine V_iload C 0 d_Socks_from_35 rfl ?_
      obtain ⟨σ37_3, hg, hf⟩ := bd hf
      refine V_callVv C [.int (tb_OWN ((r2_1 * (4 : Int32)) + a3).toNatClampNeg)] (c_Socks_note C.2.2.2.2.2.2.2.1 hg) (by omega) cw_Socks_60 32 rfl rfl rfl rfl (Nat.le_of_ble_eq_true rfl) rfl d_Socks_from_37 ?_
      refine V_iload C 1 d_Socks_from_40 rfl ?_
      refine V_if_ne (pc := 42) (tgt := 59) C d_Socks_from_42 (by decide) hf (fun hf => ?_) (fun hf => ?_)
      · refine V_iload C 0 d_Socks_from_59 rfl ?_
        refine V_bipush (v := 41) C d_Socks_from_61 (by decide) ?_
        refine V_icmp_ne (pc := 63) (tgt := 73) C d_Socks_from_63 (by decide) hf (fun hf => ?_) (fun hf => ?_)
        · refine V_iload C 6 d_Socks_from_73 rfl ?_
          refine V.sub [2, 4, 5, 7, 1, 0] rfl ?_
          exact w_Socks_from_75 hD hrec C hR σ37_3 a2 a3 a5 r2_1 (tb_OWN ((r2_1 * (4 : Int32)) + a3).toNatClampNeg) a4 hf
        · refine V_iload C 6 d_Socks_from_66 rfl ?_
          refine V_iconst (v := 1) C d_Socks_from_68 (by decide) ?_
          refine V_iadd C d_Socks_from_69 ?_
          refine V_goto (pc := 70) (tgt := 75) C d_Socks_from_70 (by decide) ?_
          refine V.sub [2, 4, 5, 7, 1, 0] rfl ?_
          exact w_Socks_from_75 hD hrec C hR σ37_3 a2 a3 a5 r2_1 (tb_OWN ((r2_1 * (4 : Int32)) + a3).toNatClampNeg) (a4 + (1 : Int32)) hf
      · refine V_aload_n C 2 d_Socks_from_45 rfl ?_
        refine V_iload C 0 d_Socks_from_46 rfl ?_
        refine V_iload_n C 4 d_Socks_from_48 rfl ?_
        refine V_iload C 6 d_Socks_from_49 rfl ?_
        refine V_iload C 7 d_Socks_from_51 rfl ?_
        refine V_iconst (v := 1) C d_Socks_from_53 (by decide) ?_
        refine V_iadd C d_Socks_from_54 ?_
        obtain ⟨r55_4, σ55_4, hg, hf⟩ := bd2_of hf
        refine V_callVi C [.int (tb_OWN ((r2_1 * (4 : Int32)) + a3).toNatClampNeg), .int a2, .int a4, .int (a5 + (1 : Int32))] (c_Socks_topmost C.2.2.2.2.2.2.2.1 hD hrec hg) (by omega) cw_Socks_64 32 rfl rfl rfl rfl (Nat.le_of_ble_eq_true rfl) rfl d_Socks_from_55 ?_
        exact V_iretW hR hf d_Socks_from_58
    · refine V_iconst (v := 0) C d_Socks_from_20 (by decide) ?_
      exact V_iretW hR hf d_Socks_from_21
theorem c_Socks_from_F {l : Launch} {g : Gx} (hok : Wok classes (wC g)) {rec : St → Int32 → Int32 → Int32 → Int32 → Int32 → Option (Int32 × St)} {D : Nat} (hD : 3 ≤ D) (hrec : ∀ {l : Launch} {σ : St} {a1 : Int32} {a2 : Int32} {a3 : Int32} {a4 : Int32} {a5 : Int32} {r : Int32} {σ' : St}, rec σ a1 a2 a3 a4 a5 = some (r, σ') → CtI classes l y_Socks_from b_Socks_from 10 (some .int) D (wC g) [.ref (g.2.1 32), .int a1, .int a2, .int a3, .int a4, .int a5] σ r σ') {σ : St} {a1 : Int32} {a2 : Int32} {a3 : Int32} {a4 : Int32} {a5 : Int32} {r : Int32} {σ' : St} (hf : f_Socks_from_F rec σ a1 a2 a3 a4 a5 = some (r, σ')) : CtI classes l y_Socks_from b_Socks_from 10 (some .int) (D + 3) (wC g) [.ref (g.2.1 32), .int a1, .int a2, .int a3, .int a4, .int a5] σ r σ' :=
  MetI (by decide +kernel) hok (Nat.le_of_ble_eq_true rfl) (fun E _ C hR => w_Socks_from_F hD hrec C hR hf)
theorem c_Socks_from {l : Launch} {g : Gx} (hok : Wok classes (wC g)) (n : Nat) {σ : St} {a1 : Int32} {a2 : Int32} {a3 : Int32} {a4 : Int32} {a5 : Int32} {r : Int32} {σ' : St} (hf : f_Socks_from n σ a1 a2 a3 a4 a5 = some (r, σ')) : CtI classes l y_Socks_from b_Socks_from 10 (some .int) (3 + 3 * n) (wC g) [.ref (g.2.1 32), .int a1, .int a2, .int a3, .int a4, .int a5] σ r σ' := by
  induction n generalizing l σ a1 a2 a3 a4 a5 r σ' with
  | zero => exact absurd hf (by unfold f_Socks_from; exact nofun)
  | succ n ih => exact c_Socks_from_F hok (D := 3 + 3 * n) (by omega) (fun h => ih h) hf
set_option maxRecDepth 4000 in
theorem w_Socks_begin {E : Ev} {g : Gx} {r : Int32} {σ' : St} (C : Cx E classes 4 (wC g) b_Socks_begin "WithTheReds$Socks" 65) (hR : RetI E classes 4 (wC g) b_Socks_begin r σ') {σ : St} {a1 : Int32} {a2 : Int32} {a3 : Int32} (hf : f_Socks_begin σ a1 a2 a3 = some (r, σ')) : V E classes 4 (wC g) σ 0 [(0, .ref (g.2.1 32)), (1, .int a1), (2, .int a2), (3, .int a3)] [] := by
  unfold f_Socks_begin at hf
  refine V_aload_n C 0 d_Socks_begin_0 rfl ?_
  refine V_iconst (v := 0) C d_Socks_begin_1 (by decide) ?_
  refine pC_Socks_ran C fl_Socks_33 d_Socks_begin_2 ?_
  refine V_iload_n C 2 d_Socks_begin_5 rfl ?_
  refine V_iconst (v := 0) C d_Socks_begin_6 (by decide) ?_
  refine V_iconst (v := 3) C d_Socks_begin_7 (by decide) ?_
  obtain ⟨r8_1, hg, hf⟩ := bd hf
  refine V_callNi C [.int a2, .int (0 : Int32), .int (3 : Int32)] (c_Top_within C.2.2.2.2.2.2.2.1 hg) (by decide) cw_Socks_22 nw_Socks_22 rfl (Nat.le_of_ble_eq_true rfl) rfl d_Socks_begin_8 ?_
  refine V_if_eq (pc := 11) (tgt := 25) C d_Socks_begin_11 (by decide) hf (fun hf => ?_) (fun hf => ?_)
  · refine V_iconst (v := 0) C d_Socks_begin_25 (by decide) ?_
    exact V_iretW hR hf d_Socks_begin_26
  · refine V_aload_n C 0 d_Socks_begin_14 rfl ?_
    refine V_iload_n C 1 d_Socks_begin_15 rfl ?_
    refine V_iload_n C 2 d_Socks_begin_16 rfl ?_
    refine V_iload_n C 3 d_Socks_begin_17 rfl ?_
    refine V_iconst (v := 0) C d_Socks_begin_18 (by decide) ?_
    obtain ⟨r19_2, σ19_2, hg, hf⟩ := bd2_of hf
    refine V_callVi C [.int a1, .int a2, .int a3, .int (0 : Int32)] (c_Socks_own C.2.2.2.2.2.2.2.1 (D := 3 + 3 * 20) (by decide) (fun h => c_Socks_from C.2.2.2.2.2.2.2.1 20 h) hg) (by decide) cw_Socks_42 32 rfl rfl rfl rfl (Nat.le_of_ble_eq_true rfl) rfl d_Socks_begin_19 ?_
    refine V_goto (pc := 22) (tgt := 26) C d_Socks_begin_22 (by decide) ?_
    exact V_iretW hR hf d_Socks_begin_26
theorem c_Socks_begin {l : Launch} {g : Gx} (hok : Wok classes (wC g)) {σ : St} {a1 : Int32} {a2 : Int32} {a3 : Int32} {r : Int32} {σ' : St} (hf : f_Socks_begin σ a1 a2 a3 = some (r, σ')) : CtI classes l y_Socks_begin b_Socks_begin 4 (some .int) 65 (wC g) [.ref (g.2.1 32), .int a1, .int a2, .int a3] σ r σ' :=
  MetI (by decide +kernel) hok (Nat.le_of_ble_eq_true rfl) (fun E _ C hR => w_Socks_begin C hR hf)
set_option maxRecDepth 4000 in
theorem w_Top_act {E : Ev} {g : Gx} {r : Int32} {σ' : St} (C : Cx E classes 4 (wC g) b_Top_act "WithTheReds" 66) (hR : RetI E classes 4 (wC g) b_Top_act r σ') {σ : St} {a1 : Int32} {a2 : Int32} {a3 : Int32} (hf : f_Top_act σ a1 a2 a3 = some (r, σ')) : V E classes 4 (wC g) σ 0 [(0, .ref (g.2.1 0)), (1, .int a1), (2, .int a2), (3, .int a3)] [] := by
  unfold f_Top_act at hf
  refine V_aload_n C 0 d_Top_act_0 rfl ?_
  refine gC_Top_socks C fl_Top_81 d_Top_act_1 ?_
  refine V_iload_n C 1 d_Top_act_4 rfl ?_
  refine V_iload_n C 2 d_Top_act_5 rfl ?_
  refine V_iload_n C 3 d_Top_act_6 rfl ?_
  obtain ⟨r7_1, σ7_1, hg, hf⟩ := bd2_of hf
  refine V_callVi C [.int a1, .int a2, .int a3] (c_Socks_begin C.2.2.2.2.2.2.2.1 hg) (by decide) cw_Top_336 32 rfl rfl rfl rfl (Nat.le_of_ble_eq_true rfl) rfl d_Top_act_7 ?_
  exact V_iretW hR hf d_Top_act_10
theorem c_Top_act {l : Launch} {g : Gx} (hok : Wok classes (wC g)) {σ : St} {a1 : Int32} {a2 : Int32} {a3 : Int32} {r : Int32} {σ' : St} (hf : f_Top_act σ a1 a2 a3 = some (r, σ')) : CtI classes l y_Top_act b_Top_act 4 (some .int) 66 (wC g) [.ref (g.2.1 0), .int a1, .int a2, .int a3] σ r σ' :=
  MetI (by decide +kernel) hok (Nat.le_of_ble_eq_true rfl) (fun E _ C hR => w_Top_act C hR hf)
set_option maxRecDepth 4000 in
theorem w_Basket_isFull {E : Ev} {g : Gx} {r : Int32} {σ : St} (C : Cx E classes 1 (wC g) b_Basket_isFull "WithTheReds$Basket" 1) (hR : RetZ E classes 1 (wC g) b_Basket_isFull r σ) (hf : f_Basket_isFull σ = some r) : V E classes 1 (wC g) σ 0 [(0, .ref (g.2.1 1))] [] := by
  unfold f_Basket_isFull at hf
  refine V_aload_n C 0 d_Basket_isFull_0 rfl ?_
  refine gC_Basket_things (v := σ.1 103) C fl_Basket_41 rfl d_Basket_isFull_1 ?_
  refine V_bipush (v := 10) C d_Basket_isFull_4 (by decide) ?_
  refine V_icmp_lt (pc := 6) (tgt := 13) C d_Basket_isFull_6 (by decide) hf (fun hf => ?_) (fun hf => ?_)
  · refine V_iconst (v := 0) C d_Basket_isFull_13 (by decide) ?_
    exact V_zret hR hf rfl d_Basket_isFull_14
  · refine V_iconst (v := 1) C d_Basket_isFull_9 (by decide) ?_
    refine V_goto (pc := 10) (tgt := 14) C d_Basket_isFull_10 (by decide) ?_
    exact V_zret hR hf rfl d_Basket_isFull_14
theorem c_Basket_isFull {l : Launch} {g : Gx} (hok : Wok classes (wC g)) {σ : St} {r : Int32} (hf : f_Basket_isFull σ = some r) : CtI classes l y_Basket_isFull b_Basket_isFull 1 (some .boolean) 1 (wC g) [.ref (g.2.1 1)] σ r σ :=
  MetZ (by decide +kernel) hok (Nat.le_of_ble_eq_true rfl) (fun E _ C hR => w_Basket_isFull C hR hf)
set_option maxRecDepth 4000 in
theorem w_Basket_add {E : Ev} {g : Gx} {r : Int32} {σ' : St} (C : Cx E classes 5 (wC g) b_Basket_add "WithTheReds$Basket" 2) (hR : RetI E classes 5 (wC g) b_Basket_add r σ') {σ : St} {a1 : Int32} {a2 : Int32} {a3 : Int32} (hf : f_Basket_add σ a1 a2 a3 = some (r, σ')) : V E classes 5 (wC g) σ 0 [(0, .ref (g.2.1 1)), (1, .int a1), (2, .int a2), (3, .int a3)] [] := by
  unfold f_Basket_add at hf
  refine V_aload_n C 0 d_Basket_add_0 rfl ?_
  obtain ⟨r1_1, hg, hf⟩ := bd hf
  refine V_callVi C [] (c_Basket_isFull C.2.2.2.2.2.2.2.1 hg) (by decide) cw_Basket_45 1 rfl rfl rfl rfl (Nat.le_of_ble_eq_true rfl) rfl d_Basket_add_1 ?_
  refine V_if_eq (pc := 4) (tgt := 10) C d_Basket_add_4 (by decide) hf (fun hf => ?_) (fun hf => ?_)
  · refine V_aload_n C 0 d_Basket_add_10 rfl ?_
    refine gC_Basket_things (v := σ.1 103) C fl_Basket_41 rfl d_Basket_add_11 ?_
    refine V_bipush (v := 8) C d_Basket_add_14 (by decide) ?_
    refine V_imul C d_Basket_add_16 ?_
    refine V_istore C d_Basket_add_17 (by decide) rfl ?_
    refine V_gs_FIRST C fl_Basket_22 d_Basket_add_19 ?_
    refine V_iconst (v := 0) C d_Basket_add_22 (by decide) ?_
    refine V_aload_n C 1 d_Basket_add_23 rfl ?_
    refine gC_Basket_numbers C fl_Basket_11 d_Basket_add_24 ?_
    refine V_iload C 0 d_Basket_add_27 rfl ?_
    refine V_bipush (v := 8) C d_Basket_add_29 (by decide) ?_
    obtain ⟨hcp, hf⟩ := gu hf
    refine V_cpT_FIRST_2 C hcp (by decide) (Nat.le_of_ble_eq_true rfl) al_Basket_25 d_Basket_add_31 ?_
    refine V_aload_n C 1 d_Basket_add_34 rfl ?_
    refine gC_Basket_numbers C fl_Basket_11 d_Basket_add_35 ?_
    refine V_iload C 0 d_Basket_add_38 rfl ?_
    refine V_iconst (v := 0) C d_Basket_add_40 (by decide) ?_
    refine V_iadd C d_Basket_add_41 ?_
    refine V_iload_n C 2 d_Basket_add_42 rfl ?_
    obtain ⟨hi43_2, hf⟩ := gu hf
    refine sC_2 C hi43_2 d_Basket_add_43 ?_
    refine V_aload_n C 1 d_Basket_add_44 rfl ?_
    refine gC_Basket_numbers C fl_Basket_11 d_Basket_add_45 ?_
    refine V_iload C 0 d_Basket_add_48 rfl ?_
    refine V_iconst (v := 1) C d_Basket_add_50 (by decide) ?_
    refine V_iadd C d_Basket_add_51 ?_
    refine V_iload_n C 3 d_Basket_add_52 rfl ?_
    obtain ⟨hi53_3, hf⟩ := gu hf
    refine sC_2 C hi53_3 d_Basket_add_53 ?_
    refine V_aload_n C 1 d_Basket_add_54 rfl ?_
    refine gC_Basket_numbers C fl_Basket_11 d_Basket_add_55 ?_
    refine V_iload C 0 d_Basket_add_58 rfl ?_
    refine V_iconst (v := 4) C d_Basket_add_60 (by decide) ?_
    refine V_iadd C d_Basket_add_61 ?_
    refine V_iload_n C 4 d_Basket_add_62 rfl ?_
    obtain ⟨hi63_4, hf⟩ := gu hf
    refine sC_2 C hi63_4 d_Basket_add_63 ?_
    refine V_aload_n C 1 d_Basket_add_64 rfl ?_
    refine V_dup C d_Basket_add_65 rfl ?_
    refine gC_Basket_things (v := σ.1 103) C fl_Basket_41 rfl d_Basket_add_66 ?_
    refine V_iconst (v := 1) C d_Basket_add_69 (by decide) ?_
    refine V_iadd C d_Basket_add_70 ?_
    refine pC_Basket_things C fl_Basket_41 d_Basket_add_71 ?_
    refine V_aload_n C 1 d_Basket_add_74 rfl ?_
    refine gC_Basket_things (v := ((σ.1 103) + (1 : Int32))) C fl_Basket_41 rfl d_Basket_add_75 ?_
    refine V_iconst (v := 1) C d_Basket_add_78 (by decide) ?_
    refine V_isub C d_Basket_add_79 ?_
    exact V_iretW hR hf d_Basket_add_80
  · refine V_bipush (v := -3) C d_Basket_add_7 (by decide) ?_
    exact V_iretW hR hf d_Basket_add_9
theorem c_Basket_add {l : Launch} {g : Gx} (hok : Wok classes (wC g)) {σ : St} {a1 : Int32} {a2 : Int32} {a3 : Int32} {r : Int32} {σ' : St} (hf : f_Basket_add σ a1 a2 a3 = some (r, σ')) : CtI classes l y_Basket_add b_Basket_add 5 (some .int) 2 (wC g) [.ref (g.2.1 1), .int a1, .int a2, .int a3] σ r σ' :=
  MetI (by decide +kernel) hok (Nat.le_of_ble_eq_true rfl) (fun E _ C hR => w_Basket_add C hR hf)
set_option maxRecDepth 4000 in
theorem w_Basket_mayBe {E : Ev} {g : Gx} {r : Int32} {σ : St} (C : Cx E classes 2 (wC g) b_Basket_mayBe "WithTheReds$Basket" 2) (hR : RetZ E classes 2 (wC g) b_Basket_mayBe r σ) {a0 : Int32} {a1 : Int32} (hf : f_Basket_mayBe a0 a1 = some r) : V E classes 2 (wC g) σ 0 [(0, .int a0), (1, .int a1)] [] := by
  unfold f_Basket_mayBe at hf
  refine V_iload_n C 0 d_Basket_mayBe_0 rfl ?_
  refine V_iconst (v := 0) C d_Basket_mayBe_1 (by decide) ?_
  refine V_bipush (v := 11) C d_Basket_mayBe_2 (by decide) ?_
  obtain ⟨r4_1, hg, hf⟩ := bd hf
  refine V_callNi C [.int a0, .int (0 : Int32), .int (11 : Int32)] (c_Top_within C.2.2.2.2.2.2.2.1 hg) (by decide) cw_Basket_31 nw_Basket_31 rfl (Nat.le_of_ble_eq_true rfl) rfl d_Basket_mayBe_4 ?_
  refine V_if_eq (pc := 7) (tgt := 31) C d_Basket_mayBe_7 (by decide) hf (fun hf => ?_) (fun hf => ?_)
  · refine V_iconst (v := 0) C d_Basket_mayBe_31 (by decide) ?_
    exact V_zret hR hf rfl d_Basket_mayBe_32
  · refine V_iload_n C 1 d_Basket_mayBe_10 rfl ?_
    refine V_gs_LEAST C fl_Basket_35 d_Basket_mayBe_11 ?_
    refine V_iload_n C 0 d_Basket_mayBe_14 rfl ?_
    obtain ⟨hi15_2, hf⟩ := gu hf
    refine V_tb_LEAST C hi15_2 d_Basket_mayBe_15 ?_
    refine V_gs_MOST C fl_Basket_38 d_Basket_mayBe_16 ?_
    refine V_iload_n C 0 d_Basket_mayBe_19 rfl ?_
    obtain ⟨hi20_3, hf⟩ := gu hf
    refine V_tb_MOST C hi20_3 d_Basket_mayBe_20 ?_
    obtain ⟨r21_4, hg, hf⟩ := bd hf
    refine V_callNi C [.int a1, .int (tb_LEAST a0.toNatClampNeg), .int (tb_MOST a0.toNatClampNeg)] (c_Top_within C.2.2.2.2.2.2.2.1 hg) (by decide) cw_Basket_31 nw_Basket_31 rfl (Nat.le_of_ble_eq_true rfl) rfl d_Basket_mayBe_21 ?_
    refine V_if_eq (pc := 24) (tgt := 31) C d_Basket_mayBe_24 (by decide) hf (fun hf => ?_) (fun hf => ?_)
    · refine V_iconst (v := 0) C d_Basket_mayBe_31 (by decide) ?_
      exact V_zret hR hf rfl d_Basket_mayBe_32
    · refine V_iconst (v := 1) C d_Basket_mayBe_27 (by decide) ?_
      refine V_goto (pc := 28) (tgt := 32) C d_Basket_mayBe_28 (by decide) ?_
      exact V_zret hR hf rfl d_Basket_mayBe_32
theorem c_Basket_mayBe {l : Launch} {g : Gx} (hok : Wok classes (wC g)) {σ : St} {a0 : Int32} {a1 : Int32} {r : Int32} (hf : f_Basket_mayBe a0 a1 = some r) : CtI classes l y_Basket_mayBe b_Basket_mayBe 2 (some .boolean) 2 (wC g) [.int a0, .int a1] σ r σ :=
  MetZ (by decide +kernel) hok (Nat.le_of_ble_eq_true rfl) (fun E _ C hR => w_Basket_mayBe C hR hf)
set_option maxRecDepth 4000 in
theorem w_Shelf_isRow {E : Ev} {g : Gx} {r : Int32} {σ : St} (C : Cx E classes 1 (wC g) b_Shelf_isRow "WithTheReds$Shelf" 1) (hR : RetZ E classes 1 (wC g) b_Shelf_isRow r σ) {j0 : Nat} (hj0 : j0 < 6) (hf : f_Shelf_isRow σ j0 = some r) : V E classes 1 (wC g) σ 0 [(0, .ref (g.2.1 (42 + 2 * j0)))] [] := by
  unfold f_Shelf_isRow at hf
  refine V_aload_n C 0 d_Shelf_isRow_0 rfl ?_
  refine gC_Shelf_sort (v := σ.1 (4201 + 200 * j0)) C hj0 fl_Shelf_15 rfl d_Shelf_isRow_1 ?_
  refine V_if_lt (pc := 4) (tgt := 11) C d_Shelf_isRow_4 (by decide) hf (fun hf => ?_) (fun hf => ?_)
  · refine V_iconst (v := 0) C d_Shelf_isRow_11 (by decide) ?_
    exact V_zret hR hf rfl d_Shelf_isRow_12
  · refine V_iconst (v := 1) C d_Shelf_isRow_7 (by decide) ?_
    refine V_goto (pc := 8) (tgt := 12) C d_Shelf_isRow_8 (by decide) ?_
    exact V_zret hR hf rfl d_Shelf_isRow_12
theorem c_Shelf_isRow {l : Launch} {g : Gx} (hok : Wok classes (wC g)) {σ : St} {j0 : Nat} {r : Int32} (hj0 : j0 < 6) (hf : f_Shelf_isRow σ j0 = some r) : CtI classes l y_Shelf_isRow b_Shelf_isRow 1 (some .boolean) 1 (wC g) [.ref (g.2.1 (42 + 2 * j0))] σ r σ :=
  MetZ (by decide +kernel) hok (Nat.le_of_ble_eq_true rfl) (fun E _ C hR => w_Shelf_isRow C hR hj0 hf)
set_option maxRecDepth 4000 in
theorem w_Shelf_hasPlaces {E : Ev} {g : Gx} {r : Int32} {σ : St} (C : Cx E classes 3 (wC g) b_Shelf_hasPlaces "WithTheReds$Shelf" 2) (hR : RetZ E classes 3 (wC g) b_Shelf_hasPlaces r σ) {j0 : Nat} {a1 : Int32} {a2 : Int32} (hj0 : j0 < 6) (hf : f_Shelf_hasPlaces σ j0 a1 a2 = some r) : V E classes 3 (wC g) σ 0 [(0, .ref (g.2.1 (42 + 2 * j0))), (1, .int a1), (2, .int a2)] [] := by
  unfold f_Shelf_hasPlaces at hf
  refine V_aload_n C 0 d_Shelf_hasPlaces_0 rfl ?_
  obtain ⟨r1_1, hg, hf⟩ := bd hf
  refine V_callVi C [] (c_Shelf_isRow C.2.2.2.2.2.2.2.1 hj0 hg) (by decide) cw_Shelf_22 (42 + 2 * j0) (sh_at hj0) rfl rfl rfl (Nat.le_of_ble_eq_true rfl) rfl d_Shelf_hasPlaces_1 ?_
  refine V_if_eq (pc := 4) (tgt := 37) C d_Shelf_hasPlaces_4 (by decide) hf (fun hf => ?_) (fun hf => ?_)
  · refine V_iconst (v := 0) C d_Shelf_hasPlaces_37 (by decide) ?_
    exact V_zret hR hf rfl d_Shelf_hasPlaces_38
  · refine V_iload_n C 1 d_Shelf_hasPlaces_7 rfl ?_
    refine V_if_lt (pc := 8) (tgt := 37) C d_Shelf_hasPlaces_8 (by decide) hf (fun hf => ?_) (fun hf => ?_)
    · refine V_iconst (v := 0) C d_Shelf_hasPlaces_37 (by decide) ?_
      exact V_zret hR hf rfl d_Shelf_hasPlaces_38
    · refine V_iload_n C 2 d_Shelf_hasPlaces_11 rfl ?_
      refine V_if_lt (pc := 12) (tgt := 37) C d_Shelf_hasPlaces_12 (by decide) hf (fun hf => ?_) (fun hf => ?_)
      · refine V_iconst (v := 0) C d_Shelf_hasPlaces_37 (by decide) ?_
        exact V_zret hR hf rfl d_Shelf_hasPlaces_38
      · refine V_iload_n C 2 d_Shelf_hasPlaces_15 rfl ?_
        refine V_aload_n C 0 d_Shelf_hasPlaces_16 rfl ?_
        refine gC_Shelf_length (v := σ.1 (4203 + 200 * j0)) C hj0 fl_Shelf_26 rfl d_Shelf_hasPlaces_17 ?_
        refine V_icmp_gt (pc := 20) (tgt := 37) C d_Shelf_hasPlaces_20 (by decide) hf (fun hf => ?_) (fun hf => ?_)
        · refine V_iconst (v := 0) C d_Shelf_hasPlaces_37 (by decide) ?_
          exact V_zret hR hf rfl d_Shelf_hasPlaces_38
        · refine V_iload_n C 1 d_Shelf_hasPlaces_23 rfl ?_
          refine V_aload_n C 0 d_Shelf_hasPlaces_24 rfl ?_
          refine gC_Shelf_length (v := σ.1 (4203 + 200 * j0)) C hj0 fl_Shelf_26 rfl d_Shelf_hasPlaces_25 ?_
          refine V_iload_n C 2 d_Shelf_hasPlaces_28 rfl ?_
          refine V_isub C d_Shelf_hasPlaces_29 ?_
          refine V_icmp_gt (pc := 30) (tgt := 37) C d_Shelf_hasPlaces_30 (by decide) hf (fun hf => ?_) (fun hf => ?_)
          · refine V_iconst (v := 0) C d_Shelf_hasPlaces_37 (by decide) ?_
            exact V_zret hR hf rfl d_Shelf_hasPlaces_38
          · refine V_iconst (v := 1) C d_Shelf_hasPlaces_33 (by decide) ?_
            refine V_goto (pc := 34) (tgt := 38) C d_Shelf_hasPlaces_34 (by decide) ?_
            exact V_zret hR hf rfl d_Shelf_hasPlaces_38
theorem c_Shelf_hasPlaces {l : Launch} {g : Gx} (hok : Wok classes (wC g)) {σ : St} {j0 : Nat} {a1 : Int32} {a2 : Int32} {r : Int32} (hj0 : j0 < 6) (hf : f_Shelf_hasPlaces σ j0 a1 a2 = some r) : CtI classes l y_Shelf_hasPlaces b_Shelf_hasPlaces 3 (some .boolean) 2 (wC g) [.ref (g.2.1 (42 + 2 * j0)), .int a1, .int a2] σ r σ :=
  MetZ (by decide +kernel) hok (Nat.le_of_ble_eq_true rfl) (fun E _ C hR => w_Shelf_hasPlaces C hR hj0 hf)
set_option maxRecDepth 4000 in
theorem w_Top_addFrom_6 {E : Ev} {g : Gx} {r : Int32} {σ' : St} (C : Cx E classes 9 (wC g) b_Top_addFrom "WithTheReds" 3) (hR : RetI E classes 9 (wC g) b_Top_addFrom r σ') : ∀ (n : Nat) (σ : St) (jx1 : Nat) (x3 : Int32) (x4 : Int32) (x5 : Int32) (hjx1 : jx1 < 6), f_Top_addFrom_6 n σ jx1 x3 x4 x5 = some (r, σ') → V E classes 9 (wC g) σ 6 [(0, .ref (g.2.1 0)), (1, .ref (g.2.1 (42 + 2 * jx1))), (3, .int x3), (4, .int x4), (5, .int x5)] [] := by
  intro n
  induction n with
  | zero => intro σ jx1 x3 x4 x5 hjx1 hf; exact absurd hf (by unfold f_Top_addFrom_6; exact nofun)
  | succ n ih =>
    intro σ jx1 x3 x4 x5 hjx1 hf
    unfold f_Top_addFrom_6 at hf
    refine V_iload C 3 d_Top_addFrom_6 rfl ?_
    refine V_iload_n C 2 d_Top_addFrom_8 rfl ?_
    refine V_icmp_ge (pc := 9) (tgt := 119) C d_Top_addFrom_9 (by decide) hf (fun hf => ?_) (fun hf => ?_)
    · refine V_iload C 3 d_Top_addFrom_119 rfl ?_
      exact V_iretW hR hf d_Top_addFrom_121
    · refine V_aload_n C 1 d_Top_addFrom_12 rfl ?_
      refine V_iload C 4 d_Top_addFrom_13 rfl ?_
      refine V_iconst (v := 3) C d_Top_addFrom_15 (by decide) ?_
      obtain ⟨r16_1, hg, hf⟩ := bd hf
      refine V_callVi C [.int x5, .int (3 : Int32)] (c_Shelf_hasPlaces C.2.2.2.2.2.2.2.1 hjx1 hg) (by decide) cw_Top_374 (42 + 2 * jx1) (sh_at hjx1) rfl rfl rfl (Nat.le_of_ble_eq_true rfl) rfl d_Top_addFrom_16 ?_
      refine V_if_eq (pc := 19) (tgt := 119) C d_Top_addFrom_19 (by decide) hf (fun hf => ?_) (fun hf => ?_)
      · refine V_iload C 3 d_Top_addFrom_119 rfl ?_
        exact V_iretW hR hf d_Top_addFrom_121
      · refine V_aload_n C 0 d_Top_addFrom_22 rfl ?_
        refine gC_Top_basket C fl_Top_10 d_Top_addFrom_23 ?_
        obtain ⟨r26_2, hg, hf⟩ := bd hf
        refine V_callVi C [] (c_Basket_isFull C.2.2.2.2.2.2.2.1 hg) (by decide) cw_Top_96 1 rfl rfl rfl rfl (Nat.le_of_ble_eq_true rfl) rfl d_Top_addFrom_26 ?_
        refine V_if_ne (pc := 29) (tgt := 119) C d_Top_addFrom_29 (by decide) hf (fun hf => ?_) (fun hf => ?_)
        · refine V_iload C 3 d_Top_addFrom_119 rfl ?_
          exact V_iretW hR hf d_Top_addFrom_121
        · refine V_aload_n C 1 d_Top_addFrom_32 rfl ?_
          refine gC_Shelf_elements C hjx1 fl_Top_360 d_Top_addFrom_33 ?_
          refine V_iload C 4 d_Top_addFrom_36 rfl ?_
          obtain ⟨hi38_3, hf⟩ := gu hf
          refine aC_she (v := σ.2.2 (43 + 2 * jx1) x5.toNatClampNeg) C hjx1 hi38_3 rfl d_Top_addFrom_38 ?_
          refine V_l2i C d_Top_addFrom_39 ?_
          refine V_istore C d_Top_addFrom_40 (by decide) rfl ?_
          refine V_aload_n C 2 d_Top_addFrom_42 rfl ?_
          refine gC_Shelf_elements C hjx1 fl_Top_360 d_Top_addFrom_43 ?_
          refine V_iload C 5 d_Top_addFrom_46 rfl ?_
          refine V_iconst (v := 1) C d_Top_addFrom_48 (by decide) ?_
          refine V_iadd C d_Top_addFrom_49 ?_
          obtain ⟨hi50_4, hf⟩ := gu hf
          refine aC_she (v := σ.2.2 (43 + 2 * jx1) (x5 + (1 : Int32)).toNatClampNeg) C hjx1 hi50_4 rfl d_Top_addFrom_50 ?_
          refine V_l2i C d_Top_addFrom_51 ?_
          refine V_istore C d_Top_addFrom_52 (by decide) rfl ?_
          refine V_aload_n C 3 d_Top_addFrom_54 rfl ?_
          refine gC_Shelf_elements C hjx1 fl_Top_360 d_Top_addFrom_55 ?_
          refine V_iload C 6 d_Top_addFrom_58 rfl ?_
          refine V_iconst (v := 2) C d_Top_addFrom_60 (by decide) ?_
          refine V_iadd C d_Top_addFrom_61 ?_
          obtain ⟨hi62_5, hf⟩ := gu hf
          refine aC_she (v := σ.2.2 (43 + 2 * jx1) (x5 + (2 : Int32)).toNatClampNeg) C hjx1 hi62_5 rfl d_Top_addFrom_62 ?_
          refine V_l2i C d_Top_addFrom_63 ?_
          refine V_istore C d_Top_addFrom_64 (by decide) rfl ?_
          refine V_iconst (v := 0) C d_Top_addFrom_66 (by decide) ?_
          refine V_iload C 2 d_Top_addFrom_67 rfl ?_
          obtain ⟨r69_6, hg, hf⟩ := bd hf
          refine V_callSi C [.int (0 : Int32), .int ((σ.2.2 (43 + 2 * jx1) x5.toNatClampNeg).toInt32)] (c_Basket_mayBe C.2.2.2.2.2.2.2.1 hg) (by decide) cw_Top_92 rfl (Nat.le_of_ble_eq_true rfl) rfl d_Top_addFrom_69 ?_
          refine V_if_eq (pc := 72) (tgt := 93) C d_Top_addFrom_72 (by decide) hf (fun hf => ?_) (fun hf => ?_)
          · refine V_iload C 6 d_Top_addFrom_93 rfl ?_
            exact V_iretW hR hf d_Top_addFrom_95
          · refine V_iconst (v := 1) C d_Top_addFrom_75 (by decide) ?_
            refine V_iload C 1 d_Top_addFrom_76 rfl ?_
            obtain ⟨r78_7, hg, hf⟩ := bd hf
            refine V_callSi C [.int (1 : Int32), .int ((σ.2.2 (43 + 2 * jx1) (x5 + (1 : Int32)).toNatClampNeg).toInt32)] (c_Basket_mayBe C.2.2.2.2.2.2.2.1 hg) (by decide) cw_Top_92 rfl (Nat.le_of_ble_eq_true rfl) rfl d_Top_addFrom_78 ?_
            refine V_if_eq (pc := 81) (tgt := 93) C d_Top_addFrom_81 (by decide) hf (fun hf => ?_) (fun hf => ?_)
            · refine V_iload C 6 d_Top_addFrom_93 rfl ?_
              exact V_iretW hR hf d_Top_addFrom_95
            · refine V_iconst (v := 4) C d_Top_addFrom_84 (by decide) ?_
              refine V_iload C 0 d_Top_addFrom_85 rfl ?_
              obtain ⟨r87_8, hg, hf⟩ := bd hf
              refine V_callSi C [.int (4 : Int32), .int ((σ.2.2 (43 + 2 * jx1) (x5 + (2 : Int32)).toNatClampNeg).toInt32)] (c_Basket_mayBe C.2.2.2.2.2.2.2.1 hg) (by decide) cw_Top_92 rfl (Nat.le_of_ble_eq_true rfl) rfl d_Top_addFrom_87 ?_
              refine V_if_ne (pc := 90) (tgt := 96) C d_Top_addFrom_90 (by decide) hf (fun hf => ?_) (fun hf => ?_)
              · refine V_aload_n C 3 d_Top_addFrom_96 rfl ?_
                refine gC_Top_basket C fl_Top_10 d_Top_addFrom_97 ?_
                refine V_iload C 2 d_Top_addFrom_100 rfl ?_
                refine V_iload C 1 d_Top_addFrom_102 rfl ?_
                refine V_iload C 0 d_Top_addFrom_104 rfl ?_
                obtain ⟨r106_9, σ106_9, hg, hf⟩ := bd2_of hf
                refine V_callVi C [.int ((σ.2.2 (43 + 2 * jx1) x5.toNatClampNeg).toInt32), .int ((σ.2.2 (43 + 2 * jx1) (x5 + (1 : Int32)).toNatClampNeg).toInt32), .int ((σ.2.2 (43 + 2 * jx1) (x5 + (2 : Int32)).toNatClampNeg).toInt32)] (c_Basket_add C.2.2.2.2.2.2.2.1 hg) (by decide) cw_Top_100 1 rfl rfl rfl rfl (Nat.le_of_ble_eq_true rfl) rfl d_Top_addFrom_106 ?_
                refine V_pop C d_Top_addFrom_109 rfl ?_
                refine V_iinc (v := x4 + (1 : Int32)) C 6 d_Top_addFrom_110 rfl rfl (by decide) rfl ?_
                refine V_iinc (v := x5 + (3 : Int32)) C 7 d_Top_addFrom_113 rfl rfl (by decide) rfl ?_
                refine V_goto (pc := 116) (tgt := 6) C d_Top_addFrom_116 (by decide) ?_
                refine V.sub [5, 6, 7, 1, 0] rfl ?_
                exact ih σ106_9 jx1 x3 (x4 + (1 : Int32)) (x5 + (3 : Int32)) hjx1 hf
              · refine V_iload C 6 d_Top_addFrom_93 rfl ?_
                exact V_iretW hR hf d_Top_addFrom_95
set_option maxRecDepth 4000 in
theorem w_Top_addFrom {E : Ev} {g : Gx} {r : Int32} {σ' : St} (C : Cx E classes 9 (wC g) b_Top_addFrom "WithTheReds" 3) (hR : RetI E classes 9 (wC g) b_Top_addFrom r σ') {σ : St} {j1 : Nat} {a2 : Int32} {a3 : Int32} (hj1 : j1 < 6) (hf : f_Top_addFrom σ j1 a2 a3 = some (r, σ')) : V E classes 9 (wC g) σ 0 [(0, .ref (g.2.1 0)), (1, .ref (g.2.1 (42 + 2 * j1))), (2, .int a2), (3, .int a3)] [] := by
  unfold f_Top_addFrom at hf
  refine V_iconst (v := 0) C d_Top_addFrom_0 (by decide) ?_
  refine V_istore C d_Top_addFrom_1 (by decide) rfl ?_
  refine V_iload_n C 3 d_Top_addFrom_3 rfl ?_
  refine V_istore C d_Top_addFrom_4 (by decide) rfl ?_
  refine V.sub [2, 3, 5, 1, 0] rfl ?_
  exact w_Top_addFrom_6 C hR FU σ j1 a3 (0 : Int32) a2 hj1 hf
theorem c_Top_addFrom {l : Launch} {g : Gx} (hok : Wok classes (wC g)) {σ : St} {j1 : Nat} {a2 : Int32} {a3 : Int32} {r : Int32} {σ' : St} (hj1 : j1 < 6) (hf : f_Top_addFrom σ j1 a2 a3 = some (r, σ')) : CtI classes l y_Top_addFrom b_Top_addFrom 9 (some .int) 3 (wC g) [.ref (g.2.1 0), .ref (g.2.1 (42 + 2 * j1)), .int a2, .int a3] σ r σ' :=
  MetI (by decide +kernel) hok (Nat.le_of_ble_eq_true rfl) (fun E _ C hR => w_Top_addFrom C hR hj1 hf)
set_option maxRecDepth 4000 in
theorem w_Top_isHeat {E : Ev} {g : Gx} {r : Int32} {σ : St} (C : Cx E classes 1 (wC g) b_Top_isHeat "WithTheReds" 2) (hR : RetZ E classes 1 (wC g) b_Top_isHeat r σ) {a0 : Int32} (hf : f_Top_isHeat a0 = some r) : V E classes 1 (wC g) σ 0 [(0, .int a0)] [] := by
  unfold f_Top_isHeat at hf
  refine V_iload_n C 0 d_Top_isHeat_0 rfl ?_
  refine V_iconst (v := 3) C d_Top_isHeat_1 (by decide) ?_
  refine V_bipush (v := 9) C d_Top_isHeat_2 (by decide) ?_
  obtain ⟨r4_1, hg, hf⟩ := bd hf
  refine V_callSi C [.int a0, .int (3 : Int32), .int (9 : Int32)] (c_Top_within C.2.2.2.2.2.2.2.1 hg) (by decide) cw_Top_108 rfl (Nat.le_of_ble_eq_true rfl) rfl d_Top_isHeat_4 ?_
  obtain ⟨hz, hf⟩ := gu hf
  exact V_zret hR hf hz d_Top_isHeat_7
theorem c_Top_isHeat {l : Launch} {g : Gx} (hok : Wok classes (wC g)) {σ : St} {a0 : Int32} {r : Int32} (hf : f_Top_isHeat a0 = some r) : CtI classes l y_Top_isHeat b_Top_isHeat 1 (some .boolean) 2 (wC g) [.int a0] σ r σ :=
  MetZ (by decide +kernel) hok (Nat.le_of_ble_eq_true rfl) (fun E _ C hR => w_Top_isHeat C hR hf)
set_option maxRecDepth 4000 in
theorem w_Basket_isThing {E : Ev} {g : Gx} {r : Int32} {σ : St} (C : Cx E classes 2 (wC g) b_Basket_isThing "WithTheReds$Basket" 2) (hR : RetZ E classes 2 (wC g) b_Basket_isThing r σ) {a1 : Int32} (hf : f_Basket_isThing σ a1 = some r) : V E classes 2 (wC g) σ 0 [(0, .ref (g.2.1 1)), (1, .int a1)] [] := by
  unfold f_Basket_isThing at hf
  refine V_iload_n C 1 d_Basket_isThing_0 rfl ?_
  refine V_iconst (v := 0) C d_Basket_isThing_1 (by decide) ?_
  refine V_aload_n C 0 d_Basket_isThing_2 rfl ?_
  refine gC_Basket_things (v := σ.1 103) C fl_Basket_41 rfl d_Basket_isThing_3 ?_
  refine V_iconst (v := 1) C d_Basket_isThing_6 (by decide) ?_
  refine V_isub C d_Basket_isThing_7 ?_
  obtain ⟨r8_1, hg, hf⟩ := bd hf
  refine V_callNi C [.int a1, .int (0 : Int32), .int ((σ.1 103) - (1 : Int32))] (c_Top_within C.2.2.2.2.2.2.2.1 hg) (by decide) cw_Basket_31 nw_Basket_31 rfl (Nat.le_of_ble_eq_true rfl) rfl d_Basket_isThing_8 ?_
  obtain ⟨hz, hf⟩ := gu hf
  exact V_zret hR hf hz d_Basket_isThing_11
theorem c_Basket_isThing {l : Launch} {g : Gx} (hok : Wok classes (wC g)) {σ : St} {a1 : Int32} {r : Int32} (hf : f_Basket_isThing σ a1 = some r) : CtI classes l y_Basket_isThing b_Basket_isThing 2 (some .boolean) 2 (wC g) [.ref (g.2.1 1), .int a1] σ r σ :=
  MetZ (by decide +kernel) hok (Nat.le_of_ble_eq_true rfl) (fun E _ C hR => w_Basket_isThing C hR hf)
set_option maxRecDepth 4000 in
theorem w_Basket_told {E : Ev} {g : Gx} {r : Int32} {σ : St} (C : Cx E classes 4 (wC g) b_Basket_told "WithTheReds$Basket" 1) (hR : RetI E classes 4 (wC g) b_Basket_told r σ) {a1 : Int32} {a2 : Int32} (hf : f_Basket_told σ a1 a2 = some r) : V E classes 4 (wC g) σ 0 [(0, .ref (g.2.1 1)), (1, .int a1), (2, .int a2)] [] := by
  unfold f_Basket_told at hf
  refine V_iload_n C 1 d_Basket_told_0 rfl ?_
  refine V_bipush (v := 8) C d_Basket_told_1 (by decide) ?_
  refine V_imul C d_Basket_told_3 ?_
  refine V_iload_n C 2 d_Basket_told_4 rfl ?_
  refine V_iadd C d_Basket_told_5 ?_
  refine V_istore_n C d_Basket_told_6 (by decide) rfl ?_
  refine V_iload_n C 0 d_Basket_told_7 rfl ?_
  refine V_if_lt (pc := 8) (tgt := 26) C d_Basket_told_8 (by decide) hf (fun hf => ?_) (fun hf => ?_)
  · refine V_iconst (v := 0) C d_Basket_told_26 (by decide) ?_
    exact V_iret hR hf d_Basket_told_27
  · refine V_iload_n C 0 d_Basket_told_11 rfl ?_
    refine V_bipush (v := 80) C d_Basket_told_12 (by decide) ?_
    refine V_icmp_ge (pc := 14) (tgt := 26) C d_Basket_told_14 (by decide) hf (fun hf => ?_) (fun hf => ?_)
    · refine V_iconst (v := 0) C d_Basket_told_26 (by decide) ?_
      exact V_iret hR hf d_Basket_told_27
    · refine V_aload_n C 1 d_Basket_told_17 rfl ?_
      refine gC_Basket_numbers C fl_Basket_11 d_Basket_told_18 ?_
      refine V_iload_n C 0 d_Basket_told_21 rfl ?_
      obtain ⟨hi22_1, hf⟩ := gu hf
      refine aC_2 (v := σ.2.1 2 ((a1 * (8 : Int32)) + a2).toNatClampNeg) C hi22_1 rfl d_Basket_told_22 ?_
      refine V_goto (pc := 23) (tgt := 27) C d_Basket_told_23 (by decide) ?_
      exact V_iret hR hf d_Basket_told_27
theorem c_Basket_told {l : Launch} {g : Gx} (hok : Wok classes (wC g)) {σ : St} {a1 : Int32} {a2 : Int32} {r : Int32} (hf : f_Basket_told σ a1 a2 = some r) : CtI classes l y_Basket_told b_Basket_told 4 (some .int) 1 (wC g) [.ref (g.2.1 1), .int a1, .int a2] σ r σ :=
  MetI (by decide +kernel) hok (Nat.le_of_ble_eq_true rfl) (fun E _ C hR => w_Basket_told C hR hf)
set_option maxRecDepth 4000 in
theorem w_Law_isTold {E : Ev} {g : Gx} {r : Int32} {σ : St} (C : Cx E classes 1 (wC g) b_Law_isTold "WithTheReds$Law" 1) (hR : RetZ E classes 1 (wC g) b_Law_isTold r σ) (hf : f_Law_isTold σ = some r) : V E classes 1 (wC g) σ 0 [(0, .ref (g.2.1 21))] [] := by
  unfold f_Law_isTold at hf
  refine V_aload_n C 0 d_Law_isTold_0 rfl ?_
  refine gC_Law_length (v := σ.1 2103) C fl_Law_31 rfl d_Law_isTold_1 ?_
  refine V_if_le (pc := 4) (tgt := 11) C d_Law_isTold_4 (by decide) hf (fun hf => ?_) (fun hf => ?_)
  · refine V_iconst (v := 0) C d_Law_isTold_11 (by decide) ?_
    exact V_zret hR hf rfl d_Law_isTold_12
  · refine V_iconst (v := 1) C d_Law_isTold_7 (by decide) ?_
    refine V_goto (pc := 8) (tgt := 12) C d_Law_isTold_8 (by decide) ?_
    exact V_zret hR hf rfl d_Law_isTold_12
theorem c_Law_isTold {l : Launch} {g : Gx} (hok : Wok classes (wC g)) {σ : St} {r : Int32} (hf : f_Law_isTold σ = some r) : CtI classes l y_Law_isTold b_Law_isTold 1 (some .boolean) 1 (wC g) [.ref (g.2.1 21)] σ r σ :=
  MetZ (by decide +kernel) hok (Nat.le_of_ble_eq_true rfl) (fun E _ C hR => w_Law_isTold C hR hf)
set_option maxRecDepth 4000 in
theorem w_Law_name {E : Ev} {g : Gx} {σ' : St} (C : Cx E classes 7 (wC g) b_Law_name "WithTheReds$Law" 1) (hR : RetV E classes 7 (wC g) b_Law_name σ') {σ : St} {a1 : Int32} {a2 : Int32} {a3 : Int32} {a4 : Int32} {a5 : Int32} {a6 : Int32} (hf : f_Law_name σ a1 a2 a3 a4 a5 a6 = some σ') : V E classes 7 (wC g) σ 0 [(0, .ref (g.2.1 21)), (1, .int a1), (2, .int a2), (3, .int a3), (4, .int a4), (5, .int a5), (6, .int a6)] [] := by
  unfold f_Law_name at hf
  refine V_aload_n C 0 d_Law_name_0 rfl ?_
  refine gC_Law_named C fl_Law_18 d_Law_name_1 ?_
  refine V_iconst (v := 0) C d_Law_name_4 (by decide) ?_
  refine V_iload_n C 1 d_Law_name_5 rfl ?_
  refine sC_24 C rfl d_Law_name_6 ?_
  refine V_aload_n C 0 d_Law_name_7 rfl ?_
  refine gC_Law_named C fl_Law_18 d_Law_name_8 ?_
  refine V_iconst (v := 1) C d_Law_name_11 (by decide) ?_
  refine V_iload_n C 2 d_Law_name_12 rfl ?_
  refine sC_24 C rfl d_Law_name_13 ?_
  refine V_aload_n C 0 d_Law_name_14 rfl ?_
  refine gC_Law_named C fl_Law_18 d_Law_name_15 ?_
  refine V_iconst (v := 2) C d_Law_name_18 (by decide) ?_
  refine V_iload_n C 3 d_Law_name_19 rfl ?_
  refine sC_24 C rfl d_Law_name_20 ?_
  refine V_aload_n C 0 d_Law_name_21 rfl ?_
  refine gC_Law_named C fl_Law_18 d_Law_name_22 ?_
  refine V_iconst (v := 3) C d_Law_name_25 (by decide) ?_
  refine V_iload C 4 d_Law_name_26 rfl ?_
  refine sC_24 C rfl d_Law_name_28 ?_
  refine V_aload_n C 0 d_Law_name_29 rfl ?_
  refine gC_Law_named C fl_Law_18 d_Law_name_30 ?_
  refine V_iconst (v := 4) C d_Law_name_33 (by decide) ?_
  refine V_iload C 5 d_Law_name_34 rfl ?_
  refine sC_24 C rfl d_Law_name_36 ?_
  refine V_aload_n C 0 d_Law_name_37 rfl ?_
  refine gC_Law_named C fl_Law_18 d_Law_name_38 ?_
  refine V_iconst (v := 5) C d_Law_name_41 (by decide) ?_
  refine V_iload C 6 d_Law_name_42 rfl ?_
  refine sC_24 C rfl d_Law_name_44 ?_
  exact V_vret hR hf d_Law_name_45
theorem c_Law_name {l : Launch} {g : Gx} (hok : Wok classes (wC g)) {σ : St} {a1 : Int32} {a2 : Int32} {a3 : Int32} {a4 : Int32} {a5 : Int32} {a6 : Int32} {σ' : St} (hf : f_Law_name σ a1 a2 a3 a4 a5 a6 = some σ') : CtV classes l y_Law_name b_Law_name 7 none 1 (wC g) [.ref (g.2.1 21), .int a1, .int a2, .int a3, .int a4, .int a5, .int a6] σ σ' :=
  MetV (by decide +kernel) hok (Nat.le_of_ble_eq_true rfl) (fun E _ C hR => w_Law_name C hR hf)
set_option maxRecDepth 4000 in
theorem w_Law_pop {E : Ev} {g : Gx} {r : Int32} {σ' : St} (C : Cx E classes 1 (wC g) b_Law_pop "WithTheReds$Law" 1) (hR : RetI E classes 1 (wC g) b_Law_pop r σ') {σ : St} (hf : f_Law_pop σ = some (r, σ')) : V E classes 1 (wC g) σ 0 [(0, .ref (g.2.1 21))] [] := by
  unfold f_Law_pop at hf
  refine V_aload_n C 0 d_Law_pop_0 rfl ?_
  refine gC_Law_top (v := σ.1 2104) C fl_Law_41 rfl d_Law_pop_1 ?_
  refine V_if_gt (pc := 4) (tgt := 9) C d_Law_pop_4 (by decide) hf (fun hf => ?_) (fun hf => ?_)
  · refine V_aload_n C 0 d_Law_pop_9 rfl ?_
    refine V_dup C d_Law_pop_10 rfl ?_
    refine gC_Law_top (v := σ.1 2104) C fl_Law_41 rfl d_Law_pop_11 ?_
    refine V_iconst (v := 1) C d_Law_pop_14 (by decide) ?_
    refine V_isub C d_Law_pop_15 ?_
    refine pC_Law_top C fl_Law_41 d_Law_pop_16 ?_
    refine V_aload_n C 0 d_Law_pop_19 rfl ?_
    refine gC_Law_stack C fl_Law_15 d_Law_pop_20 ?_
    refine V_aload_n C 0 d_Law_pop_23 rfl ?_
    refine gC_Law_top (v := ((σ.1 2104) - (1 : Int32))) C fl_Law_41 rfl d_Law_pop_24 ?_
    obtain ⟨hi27_1, hf⟩ := gu hf
    refine aC_23 (v := σ.2.1 23 ((σ.1 2104) - (1 : Int32)).toNatClampNeg) C hi27_1 rfl d_Law_pop_27 ?_
    exact V_iretW hR hf d_Law_pop_28
  · refine V_iconst (v := 0) C d_Law_pop_7 (by decide) ?_
    exact V_iretW hR hf d_Law_pop_8
theorem c_Law_pop {l : Launch} {g : Gx} (hok : Wok classes (wC g)) {σ : St} {r : Int32} {σ' : St} (hf : f_Law_pop σ = some (r, σ')) : CtI classes l y_Law_pop b_Law_pop 1 (some .int) 1 (wC g) [.ref (g.2.1 21)] σ r σ' :=
  MetI (by decide +kernel) hok (Nat.le_of_ble_eq_true rfl) (fun E _ C hR => w_Law_pop C hR hf)
set_option maxRecDepth 4000 in
theorem w_Law_push {E : Ev} {g : Gx} {σ' : St} (C : Cx E classes 2 (wC g) b_Law_push "WithTheReds$Law" 1) (hR : RetV E classes 2 (wC g) b_Law_push σ') {σ : St} {a1 : Int32} (hf : f_Law_push σ a1 = some σ') : V E classes 2 (wC g) σ 0 [(0, .ref (g.2.1 21)), (1, .int a1)] [] := by
  unfold f_Law_push at hf
  refine V_aload_n C 0 d_Law_push_0 rfl ?_
  refine gC_Law_top (v := σ.1 2104) C fl_Law_41 rfl d_Law_push_1 ?_
  refine V_aload_n C 0 d_Law_push_4 rfl ?_
  refine gC_Law_stack C fl_Law_15 d_Law_push_5 ?_
  refine nC_23 C d_Law_push_8 ?_
  refine V_icmp_ge (pc := 9) (tgt := 32) C d_Law_push_9 (by decide) hf (fun hf => ?_) (fun hf => ?_)
  · exact V_vret hR hf d_Law_push_32
  · refine V_aload_n C 0 d_Law_push_12 rfl ?_
    refine gC_Law_stack C fl_Law_15 d_Law_push_13 ?_
    refine V_aload_n C 0 d_Law_push_16 rfl ?_
    refine gC_Law_top (v := σ.1 2104) C fl_Law_41 rfl d_Law_push_17 ?_
    refine V_iload_n C 1 d_Law_push_20 rfl ?_
    obtain ⟨hi21_1, hf⟩ := gu hf
    refine sC_23 C hi21_1 d_Law_push_21 ?_
    refine V_aload_n C 0 d_Law_push_22 rfl ?_
    refine V_dup C d_Law_push_23 rfl ?_
    refine gC_Law_top (v := σ.1 2104) C fl_Law_41 rfl d_Law_push_24 ?_
    refine V_iconst (v := 1) C d_Law_push_27 (by decide) ?_
    refine V_iadd C d_Law_push_28 ?_
    refine pC_Law_top C fl_Law_41 d_Law_push_29 ?_
    exact V_vret hR hf d_Law_push_32
theorem c_Law_push {l : Launch} {g : Gx} (hok : Wok classes (wC g)) {σ : St} {a1 : Int32} {σ' : St} (hf : f_Law_push σ a1 = some σ') : CtV classes l y_Law_push b_Law_push 2 none 1 (wC g) [.ref (g.2.1 21), .int a1] σ σ' :=
  MetV (by decide +kernel) hok (Nat.le_of_ble_eq_true rfl) (fun E _ C hR => w_Law_push C hR hf)
set_option maxRecDepth 4000 in
theorem w_Law_joined {E : Ev} {g : Gx} {r : Int32} {σ : St} (C : Cx E classes 3 (wC g) b_Law_joined "WithTheReds$Law" 1) (hR : RetI E classes 3 (wC g) b_Law_joined r σ) {a0 : Int32} {a1 : Int32} {a2 : Int32} (hf : f_Law_joined a0 a1 a2 = some r) : V E classes 3 (wC g) σ 0 [(0, .int a0), (1, .int a1), (2, .int a2)] [] := by
  unfold f_Law_joined at hf
  refine V_iload_n C 0 d_Law_joined_0 rfl ?_
  by_cases hc0 : a0 = 37
  · have hf := ite_t hf hc0
    refine V_lk (off := 176) (tgt := 177) C d_Law_joined_1 (by decide) (by rw [hc0]; decide) (by decide) ?_
    refine V_iload_n C 2 d_Law_joined_177 rfl ?_
    refine V_if_ne (pc := 178) (tgt := 185) C d_Law_joined_178 (by decide) hf (fun hf => ?_) (fun hf => ?_)
    · refine V_iload_n C 1 d_Law_joined_185 rfl ?_
      refine V_iload_n C 2 d_Law_joined_186 rfl ?_
      obtain ⟨hz, hf⟩ := gu hf
      refine V_irem C d_Law_joined_187 (nz_ne hz) ?_
      exact V_iret hR hf d_Law_joined_188
    · refine V_iconst (v := 0) C d_Law_joined_181 (by decide) ?_
      refine V_goto (pc := 182) (tgt := 188) C d_Law_joined_182 (by decide) ?_
      exact V_iret hR hf d_Law_joined_188
  have hf := ite_f hf hc0
  by_cases hc1 : a0 = 38
  · have hf := ite_t hf hc1
    refine V_lk (off := 105) (tgt := 106) C d_Law_joined_1 (by decide) (by rw [hc1]; decide) (by decide) ?_
    refine V_iload_n C 1 d_Law_joined_106 rfl ?_
    refine V_if_eq (pc := 107) (tgt := 118) C d_Law_joined_107 (by decide) hf (fun hf => ?_) (fun hf => ?_)
    · refine V_iconst (v := 0) C d_Law_joined_118 (by decide) ?_
      exact V_iret hR hf d_Law_joined_119
    · refine V_iload_n C 2 d_Law_joined_110 rfl ?_
      refine V_if_eq (pc := 111) (tgt := 118) C d_Law_joined_111 (by decide) hf (fun hf => ?_) (fun hf => ?_)
      · refine V_iconst (v := 0) C d_Law_joined_118 (by decide) ?_
        exact V_iret hR hf d_Law_joined_119
      · refine V_iconst (v := 1) C d_Law_joined_114 (by decide) ?_
        refine V_goto (pc := 115) (tgt := 119) C d_Law_joined_115 (by decide) ?_
        exact V_iret hR hf d_Law_joined_119
  have hf := ite_f hf hc1
  by_cases hc2 : a0 = 42
  · have hf := ite_t hf hc2
    refine V_lk (off := 160) (tgt := 161) C d_Law_joined_1 (by decide) (by rw [hc2]; decide) (by decide) ?_
    refine V_iload_n C 1 d_Law_joined_161 rfl ?_
    refine V_iload_n C 2 d_Law_joined_162 rfl ?_
    refine V_imul C d_Law_joined_163 ?_
    exact V_iret hR hf d_Law_joined_164
  have hf := ite_f hf hc2
  by_cases hc3 : a0 = 43
  · have hf := ite_t hf hc3
    refine V_lk (off := 152) (tgt := 153) C d_Law_joined_1 (by decide) (by rw [hc3]; decide) (by decide) ?_
    refine V_iload_n C 1 d_Law_joined_153 rfl ?_
    refine V_iload_n C 2 d_Law_joined_154 rfl ?_
    refine V_iadd C d_Law_joined_155 ?_
    exact V_iret hR hf d_Law_joined_156
  have hf := ite_f hf hc3
  by_cases hc4 : a0 = 45
  · have hf := ite_t hf hc4
    refine V_lk (off := 156) (tgt := 157) C d_Law_joined_1 (by decide) (by rw [hc4]; decide) (by decide) ?_
    refine V_iload_n C 1 d_Law_joined_157 rfl ?_
    refine V_iload_n C 2 d_Law_joined_158 rfl ?_
    refine V_isub C d_Law_joined_159 ?_
    exact V_iret hR hf d_Law_joined_160
  have hf := ite_f hf hc4
  by_cases hc5 : a0 = 47
  · have hf := ite_t hf hc5
    refine V_lk (off := 164) (tgt := 165) C d_Law_joined_1 (by decide) (by rw [hc5]; decide) (by decide) ?_
    refine V_iload_n C 2 d_Law_joined_165 rfl ?_
    refine V_if_ne (pc := 166) (tgt := 173) C d_Law_joined_166 (by decide) hf (fun hf => ?_) (fun hf => ?_)
    · refine V_iload_n C 1 d_Law_joined_173 rfl ?_
      refine V_iload_n C 2 d_Law_joined_174 rfl ?_
      obtain ⟨hz, hf⟩ := gu hf
      refine V_idiv C d_Law_joined_175 (nz_ne hz) ?_
      exact V_iret hR hf d_Law_joined_176
    · refine V_iconst (v := 0) C d_Law_joined_169 (by decide) ?_
      refine V_goto (pc := 170) (tgt := 176) C d_Law_joined_170 (by decide) ?_
      exact V_iret hR hf d_Law_joined_176
  have hf := ite_f hf hc5
  by_cases hc6 : a0 = 60
  · have hf := ite_t hf hc6
    refine V_lk (off := 119) (tgt := 120) C d_Law_joined_1 (by decide) (by rw [hc6]; decide) (by decide) ?_
    refine V_iload_n C 1 d_Law_joined_120 rfl ?_
    refine V_iload_n C 2 d_Law_joined_121 rfl ?_
    refine V_icmp_ge (pc := 122) (tgt := 129) C d_Law_joined_122 (by decide) hf (fun hf => ?_) (fun hf => ?_)
    · refine V_iconst (v := 0) C d_Law_joined_129 (by decide) ?_
      exact V_iret hR hf d_Law_joined_130
    · refine V_iconst (v := 1) C d_Law_joined_125 (by decide) ?_
      refine V_goto (pc := 126) (tgt := 130) C d_Law_joined_126 (by decide) ?_
      exact V_iret hR hf d_Law_joined_130
  have hf := ite_f hf hc6
  by_cases hc7 : a0 = 61
  · have hf := ite_t hf hc7
    refine V_lk (off := 130) (tgt := 131) C d_Law_joined_1 (by decide) (by rw [hc7]; decide) (by decide) ?_
    refine V_iload_n C 1 d_Law_joined_131 rfl ?_
    refine V_iload_n C 2 d_Law_joined_132 rfl ?_
    refine V_icmp_ne (pc := 133) (tgt := 140) C d_Law_joined_133 (by decide) hf (fun hf => ?_) (fun hf => ?_)
    · refine V_iconst (v := 0) C d_Law_joined_140 (by decide) ?_
      exact V_iret hR hf d_Law_joined_141
    · refine V_iconst (v := 1) C d_Law_joined_136 (by decide) ?_
      refine V_goto (pc := 137) (tgt := 141) C d_Law_joined_137 (by decide) ?_
      exact V_iret hR hf d_Law_joined_141
  have hf := ite_f hf hc7
  by_cases hc8 : a0 = 62
  · have hf := ite_t hf hc8
    refine V_lk (off := 141) (tgt := 142) C d_Law_joined_1 (by decide) (by rw [hc8]; decide) (by decide) ?_
    refine V_iload_n C 1 d_Law_joined_142 rfl ?_
    refine V_iload_n C 2 d_Law_joined_143 rfl ?_
    refine V_icmp_le (pc := 144) (tgt := 151) C d_Law_joined_144 (by decide) hf (fun hf => ?_) (fun hf => ?_)
    · refine V_iconst (v := 0) C d_Law_joined_151 (by decide) ?_
      exact V_iret hR hf d_Law_joined_152
    · refine V_iconst (v := 1) C d_Law_joined_147 (by decide) ?_
      refine V_goto (pc := 148) (tgt := 152) C d_Law_joined_148 (by decide) ?_
      exact V_iret hR hf d_Law_joined_152
  have hf := ite_f hf hc8
  by_cases hc9 : a0 = 124
  · have hf := ite_t hf hc9
    refine V_lk (off := 91) (tgt := 92) C d_Law_joined_1 (by decide) (by rw [hc9]; decide) (by decide) ?_
    refine V_iload_n C 1 d_Law_joined_92 rfl ?_
    refine V_if_ne (pc := 93) (tgt := 100) C d_Law_joined_93 (by decide) hf (fun hf => ?_) (fun hf => ?_)
    · refine V_iconst (v := 1) C d_Law_joined_100 (by decide) ?_
      refine V_goto (pc := 101) (tgt := 105) C d_Law_joined_101 (by decide) ?_
      exact V_iret hR hf d_Law_joined_105
    · refine V_iload_n C 2 d_Law_joined_96 rfl ?_
      refine V_if_eq (pc := 97) (tgt := 104) C d_Law_joined_97 (by decide) hf (fun hf => ?_) (fun hf => ?_)
      · refine V_iconst (v := 0) C d_Law_joined_104 (by decide) ?_
        exact V_iret hR hf d_Law_joined_105
      · refine V_iconst (v := 1) C d_Law_joined_100 (by decide) ?_
        refine V_goto (pc := 101) (tgt := 105) C d_Law_joined_101 (by decide) ?_
        exact V_iret hR hf d_Law_joined_105
  have hf := ite_f hf hc9
  refine V_lk (off := 188) (tgt := 189) C d_Law_joined_1 (by decide) (by show Op.lookupswitch.offset [(37, 176), (38, 105), (42, 160), (43, 152), (45, 156), (47, 164), (60, 119), (61, 130), (62, 141), (124, 91)] _ _ = _; rw [lv_osw hc0 (by decide), lv_osw hc1 (by decide), lv_osw hc2 (by decide), lv_osw hc3 (by decide), lv_osw hc4 (by decide), lv_osw hc5 (by decide), lv_osw hc6 (by decide), lv_osw hc7 (by decide), lv_osw hc8 (by decide), lv_osw hc9 (by decide)]; rfl) (by decide) ?_
  refine V_iconst (v := 0) C d_Law_joined_189 (by decide) ?_
  exact V_iret hR hf d_Law_joined_190
theorem c_Law_joined {l : Launch} {g : Gx} (hok : Wok classes (wC g)) {σ : St} {a0 : Int32} {a1 : Int32} {a2 : Int32} {r : Int32} (hf : f_Law_joined a0 a1 a2 = some r) : CtI classes l y_Law_joined b_Law_joined 3 (some .int) 1 (wC g) [.int a0, .int a1, .int a2] σ r σ :=
  MetI (by decide +kernel) hok (Nat.le_of_ble_eq_true rfl) (fun E _ C hR => w_Law_joined C hR hf)
set_option maxRecDepth 4000 in
theorem w_Law_value {E : Ev} {g : Gx} {r : Int32} {σ' : St} (C : Cx E classes 3 (wC g) b_Law_value "WithTheReds$Law" 2) (hR : RetI E classes 3 (wC g) b_Law_value r σ') {σ : St} {a1 : Int32} (hf : f_Law_value σ a1 = some (r, σ')) : V E classes 3 (wC g) σ 0 [(0, .ref (g.2.1 21)), (1, .int a1)] [] := by
  unfold f_Law_value at hf
  refine V_iload_n C 1 d_Law_value_0 rfl ?_
  refine V_if_lt (pc := 1) (tgt := 6) C d_Law_value_1 (by decide) hf (fun hf => ?_) (fun hf => ?_)
  · refine V_iload_n C 1 d_Law_value_6 rfl ?_
    refine V_bipush (v := -6) C d_Law_value_7 (by decide) ?_
    refine V_icmp_lt (pc := 9) (tgt := 21) C d_Law_value_9 (by decide) hf (fun hf => ?_) (fun hf => ?_)
    · refine V_aload_n C 0 d_Law_value_21 rfl ?_
      obtain ⟨r22_1, σ22_1, hg, hf⟩ := bd2_of hf
      refine V_callVi C [] (c_Law_pop C.2.2.2.2.2.2.2.1 hg) (by decide) cw_Law_44 21 rfl rfl rfl rfl (Nat.le_of_ble_eq_true rfl) rfl d_Law_value_22 ?_
      refine V_istore_n C d_Law_value_25 (by decide) rfl ?_
      refine V_iload_n C 2 d_Law_value_26 rfl ?_
      refine V_bipush (v := -33) C d_Law_value_27 (by decide) ?_
      refine V_icmp_ne (pc := 29) (tgt := 42) C d_Law_value_29 (by decide) hf (fun hf => ?_) (fun hf => ?_)
      · refine V_iload_n C 2 d_Law_value_42 rfl ?_
        refine V_bipush (v := -126) C d_Law_value_43 (by decide) ?_
        refine V_icmp_ne (pc := 45) (tgt := 51) C d_Law_value_45 (by decide) hf (fun hf => ?_) (fun hf => ?_)
        · refine V_iload_n C 2 d_Law_value_51 rfl ?_
          refine V_ineg C d_Law_value_52 ?_
          refine V_aload_n C 1 d_Law_value_53 rfl ?_
          obtain ⟨r54_2, σ54_2, hg, hf⟩ := bd2_of hf
          refine V_callVi C [] (c_Law_pop C.2.2.2.2.2.2.2.1 hg) (by decide) cw_Law_44 21 rfl rfl rfl rfl (Nat.le_of_ble_eq_true rfl) rfl d_Law_value_54 ?_
          refine V_iload_n C 0 d_Law_value_57 rfl ?_
          obtain ⟨r58_3, hg, hf⟩ := bd hf
          refine V_callSi C [.int (-a1), .int r54_2, .int r22_1] (c_Law_joined C.2.2.2.2.2.2.2.1 hg) (by decide) cw_Law_56 rfl (Nat.le_of_ble_eq_true rfl) rfl d_Law_value_58 ?_
          exact V_iretW hR hf d_Law_value_61
        · refine V_iload_n C 0 d_Law_value_48 rfl ?_
          refine V_ineg C d_Law_value_49 ?_
          exact V_iretW hR hf d_Law_value_50
      · refine V_iload_n C 0 d_Law_value_32 rfl ?_
        refine V_if_ne (pc := 33) (tgt := 40) C d_Law_value_33 (by decide) hf (fun hf => ?_) (fun hf => ?_)
        · refine V_iconst (v := 0) C d_Law_value_40 (by decide) ?_
          exact V_iretW hR hf d_Law_value_41
        · refine V_iconst (v := 1) C d_Law_value_36 (by decide) ?_
          refine V_goto (pc := 37) (tgt := 41) C d_Law_value_37 (by decide) ?_
          exact V_iretW hR hf d_Law_value_41
    · refine V_aload_n C 0 d_Law_value_12 rfl ?_
      refine gC_Law_named C fl_Law_18 d_Law_value_13 ?_
      refine V_iconst (v := -1) C d_Law_value_16 (by decide) ?_
      refine V_iload_n C 1 d_Law_value_17 rfl ?_
      refine V_isub C d_Law_value_18 ?_
      obtain ⟨hi19_4, hf⟩ := gu hf
      refine aC_24 (v := σ.2.1 24 ((-1 : Int32) - a1).toNatClampNeg) C hi19_4 rfl d_Law_value_19 ?_
      exact V_iretW hR hf d_Law_value_20
  · refine V_iload_n C 1 d_Law_value_4 rfl ?_
    exact V_iretW hR hf d_Law_value_5
theorem c_Law_value {l : Launch} {g : Gx} (hok : Wok classes (wC g)) {σ : St} {a1 : Int32} {r : Int32} {σ' : St} (hf : f_Law_value σ a1 = some (r, σ')) : CtI classes l y_Law_value b_Law_value 3 (some .int) 2 (wC g) [.ref (g.2.1 21), .int a1] σ r σ' :=
  MetI (by decide +kernel) hok (Nat.le_of_ble_eq_true rfl) (fun E _ C hR => w_Law_value C hR hf)
set_option maxRecDepth 4000 in
theorem w_Law_worth_7 {E : Ev} {g : Gx} {r : Int32} {σ' : St} (C : Cx E classes 4 (wC g) b_Law_worth "WithTheReds$Law" 3) (hR : RetI E classes 4 (wC g) b_Law_worth r σ') : ∀ (n : Nat) (σ : St) (x1 : Int32), f_Law_worth_7 n σ x1 = some (r, σ') → V E classes 4 (wC g) σ 7 [(0, .ref (g.2.1 21)), (1, .int x1)] [] := by
  intro n
  induction n with
  | zero => intro σ x1 hf; exact absurd hf (by unfold f_Law_worth_7; exact nofun)
  | succ n ih =>
    intro σ x1 hf
    unfold f_Law_worth_7 at hf
    refine V_iload_n C 1 d_Law_worth_7 rfl ?_
    refine V_aload_n C 0 d_Law_worth_8 rfl ?_
    refine gC_Law_length (v := σ.1 2103) C fl_Law_31 rfl d_Law_worth_9 ?_
    refine V_icmp_ge (pc := 12) (tgt := 71) C d_Law_worth_12 (by decide) hf (fun hf => ?_) (fun hf => ?_)
    · refine V_iconst (v := 0) C d_Law_worth_71 (by decide) ?_
      exact V_iretW hR hf d_Law_worth_72
    · refine V_aload_n C 0 d_Law_worth_15 rfl ?_
      refine gC_Law_steps C fl_Law_11 d_Law_worth_16 ?_
      refine V_iload_n C 1 d_Law_worth_19 rfl ?_
      obtain ⟨hi20_1, hf⟩ := gu hf
      refine aC_22 (v := σ.2.1 22 x1.toNatClampNeg) C hi20_1 rfl d_Law_worth_20 ?_
      refine V_istore_n C d_Law_worth_21 (by decide) rfl ?_
      refine V_iload_n C 0 d_Law_worth_22 rfl ?_
      refine V_bipush (v := -59) C d_Law_worth_23 (by decide) ?_
      refine V_icmp_ne (pc := 25) (tgt := 33) C d_Law_worth_25 (by decide) hf (fun hf => ?_) (fun hf => ?_)
      · refine V_iload_n C 0 d_Law_worth_33 rfl ?_
        refine V_bipush (v := -63) C d_Law_worth_34 (by decide) ?_
        refine V_icmp_ne (pc := 36) (tgt := 56) C d_Law_worth_36 (by decide) hf (fun hf => ?_) (fun hf => ?_)
        · refine V_aload_n C 1 d_Law_worth_56 rfl ?_
          refine V_aload_n C 1 d_Law_worth_57 rfl ?_
          refine V_iload_n C 0 d_Law_worth_58 rfl ?_
          obtain ⟨r59_2, σ59_2, hg, hf⟩ := bd2_of hf
          refine V_callVi C [.int (σ.2.1 22 x1.toNatClampNeg)] (c_Law_value C.2.2.2.2.2.2.2.1 hg) (by decide) cw_Law_48 21 rfl rfl rfl rfl (Nat.le_of_ble_eq_true rfl) rfl d_Law_worth_59 ?_
          obtain ⟨σ62_3, hg, hf⟩ := bd hf
          refine V_callVv C [.int r59_2] (c_Law_push C.2.2.2.2.2.2.2.1 hg) (by decide) cw_Law_52 21 rfl rfl rfl rfl (Nat.le_of_ble_eq_true rfl) rfl d_Law_worth_62 ?_
          refine V_iinc (v := x1 + (1 : Int32)) C 2 d_Law_worth_65 rfl rfl (by decide) rfl ?_
          refine V_goto (pc := 68) (tgt := 7) C d_Law_worth_68 (by decide) ?_
          refine V.sub [2, 0] rfl ?_
          exact ih σ62_3 (x1 + (1 : Int32)) hf
        · refine V_aload_n C 1 d_Law_worth_39 rfl ?_
          obtain ⟨r40_4, σ40_4, hg, hf⟩ := bd2_of hf
          refine V_callVi C [] (c_Law_pop C.2.2.2.2.2.2.2.1 hg) (by decide) cw_Law_44 21 rfl rfl rfl rfl (Nat.le_of_ble_eq_true rfl) rfl d_Law_worth_40 ?_
          refine V_istore_n C d_Law_worth_43 (by decide) rfl ?_
          refine V_aload_n C 2 d_Law_worth_44 rfl ?_
          obtain ⟨r45_5, σ45_5, hg, hf⟩ := bd2_of hf
          refine V_callVi C [] (c_Law_pop C.2.2.2.2.2.2.2.1 hg) (by decide) cw_Law_44 21 rfl rfl rfl rfl (Nat.le_of_ble_eq_true rfl) rfl d_Law_worth_45 ?_
          refine V_if_eq (pc := 48) (tgt := 53) C d_Law_worth_48 (by decide) hf (fun hf => ?_) (fun hf => ?_)
          · refine V_goto (pc := 53) (tgt := 65) C d_Law_worth_53 (by decide) ?_
            refine V_iinc (v := x1 + (1 : Int32)) C 3 d_Law_worth_65 rfl rfl (by decide) rfl ?_
            refine V_goto (pc := 68) (tgt := 7) C d_Law_worth_68 (by decide) ?_
            refine V.sub [3, 0] rfl ?_
            exact ih σ45_5 (x1 + (1 : Int32)) hf
          · refine V_iload_n C 0 d_Law_worth_51 rfl ?_
            exact V_iretW hR hf d_Law_worth_52
      · refine V_aload_n C 1 d_Law_worth_28 rfl ?_
        obtain ⟨r29_6, σ29_6, hg, hf⟩ := bd2_of hf
        refine V_callVi C [] (c_Law_pop C.2.2.2.2.2.2.2.1 hg) (by decide) cw_Law_44 21 rfl rfl rfl rfl (Nat.le_of_ble_eq_true rfl) rfl d_Law_worth_29 ?_
        exact V_iretW hR hf d_Law_worth_32
set_option maxRecDepth 4000 in
theorem w_Law_worth {E : Ev} {g : Gx} {r : Int32} {σ' : St} (C : Cx E classes 4 (wC g) b_Law_worth "WithTheReds$Law" 3) (hR : RetI E classes 4 (wC g) b_Law_worth r σ') {σ : St} (hf : f_Law_worth σ = some (r, σ')) : V E classes 4 (wC g) σ 0 [(0, .ref (g.2.1 21))] [] := by
  unfold f_Law_worth at hf
  refine V_aload_n C 0 d_Law_worth_0 rfl ?_
  refine V_iconst (v := 0) C d_Law_worth_1 (by decide) ?_
  refine pC_Law_top C fl_Law_41 d_Law_worth_2 ?_
  refine V_iconst (v := 0) C d_Law_worth_5 (by decide) ?_
  refine V_istore_n C d_Law_worth_6 (by decide) rfl ?_
  refine V.sub [1, 0] rfl ?_
  exact w_Law_worth_7 C hR FU (upI σ 2104 (0 : Int32)) (0 : Int32) hf
theorem c_Law_worth {l : Launch} {g : Gx} (hok : Wok classes (wC g)) {σ : St} {r : Int32} {σ' : St} (hf : f_Law_worth σ = some (r, σ')) : CtI classes l y_Law_worth b_Law_worth 4 (some .int) 3 (wC g) [.ref (g.2.1 21)] σ r σ' :=
  MetI (by decide +kernel) hok (Nat.le_of_ble_eq_true rfl) (fun E _ C hR => w_Law_worth C hR hf)
set_option maxRecDepth 4000 in
theorem w_Tub_dyeIf {E : Ev} {g : Gx} {r : Int32} {σ' : St} (C : Cx E classes 5 (wC g) b_Tub_dyeIf "WithTheReds$Tub" 4) (hR : RetI E classes 5 (wC g) b_Tub_dyeIf r σ') {σ : St} {a1 : Int32} {a2 : Int32} {a3 : Int32} {a4 : Int32} (hf : f_Tub_dyeIf σ a1 a2 a3 a4 = some (r, σ')) : V E classes 5 (wC g) σ 0 [(0, .ref (g.2.1 39)), (1, .int a1), (2, .int a2), (3, .int a3), (4, .int a4)] [] := by
  unfold f_Tub_dyeIf at hf
  refine V_aload_n C 0 d_Tub_dyeIf_0 rfl ?_
  refine gC_Tub_dyeLaw C fl_Tub_23 d_Tub_dyeIf_1 ?_
  obtain ⟨r4_1, hg, hf⟩ := bd hf
  refine V_callVi C [] (c_Law_isTold C.2.2.2.2.2.2.2.1 hg) (by decide) cw_Tub_37 21 rfl rfl rfl rfl (Nat.le_of_ble_eq_true rfl) rfl d_Tub_dyeIf_4 ?_
  refine V_if_ne (pc := 7) (tgt := 23) C d_Tub_dyeIf_7 (by decide) hf (fun hf => ?_) (fun hf => ?_)
  · refine V_aload_n C 0 d_Tub_dyeIf_23 rfl ?_
    refine gC_Tub_dyeLaw C fl_Tub_23 d_Tub_dyeIf_24 ?_
    refine V_iload_n C 2 d_Tub_dyeIf_27 rfl ?_
    refine V_iload_n C 3 d_Tub_dyeIf_28 rfl ?_
    refine V_iload C 4 d_Tub_dyeIf_29 rfl ?_
    refine V_aload_n C 0 d_Tub_dyeIf_31 rfl ?_
    refine gC_Tub_basket C fl_Tub_19 d_Tub_dyeIf_32 ?_
    refine V_iload_n C 1 d_Tub_dyeIf_35 rfl ?_
    refine V_iconst (v := 0) C d_Tub_dyeIf_36 (by decide) ?_
    obtain ⟨r37_2, hg, hf⟩ := bd hf
    refine V_callVi C [.int a1, .int (0 : Int32)] (c_Basket_told C.2.2.2.2.2.2.2.1 hg) (by decide) cw_Tub_29 1 rfl rfl rfl rfl (Nat.le_of_ble_eq_true rfl) rfl d_Tub_dyeIf_37 ?_
    refine V_aload_n C 0 d_Tub_dyeIf_40 rfl ?_
    refine gC_Tub_basket C fl_Tub_19 d_Tub_dyeIf_41 ?_
    refine V_iload_n C 1 d_Tub_dyeIf_44 rfl ?_
    refine V_iconst (v := 4) C d_Tub_dyeIf_45 (by decide) ?_
    obtain ⟨r46_3, hg, hf⟩ := bd hf
    refine V_callVi C [.int a1, .int (4 : Int32)] (c_Basket_told C.2.2.2.2.2.2.2.1 hg) (by decide) cw_Tub_29 1 rfl rfl rfl rfl (Nat.le_of_ble_eq_true rfl) rfl d_Tub_dyeIf_46 ?_
    refine V_aload_n C 0 d_Tub_dyeIf_49 rfl ?_
    refine gC_Tub_basket C fl_Tub_19 d_Tub_dyeIf_50 ?_
    refine V_iload_n C 1 d_Tub_dyeIf_53 rfl ?_
    refine V_iconst (v := 3) C d_Tub_dyeIf_54 (by decide) ?_
    obtain ⟨r55_4, hg, hf⟩ := bd hf
    refine V_callVi C [.int a1, .int (3 : Int32)] (c_Basket_told C.2.2.2.2.2.2.2.1 hg) (by decide) cw_Tub_29 1 rfl rfl rfl rfl (Nat.le_of_ble_eq_true rfl) rfl d_Tub_dyeIf_55 ?_
    obtain ⟨σ58_5, hg, hf⟩ := bd hf
    refine V_callVv C [.int a2, .int a3, .int a4, .int r37_2, .int r46_3, .int r55_4] (c_Law_name C.2.2.2.2.2.2.2.1 hg) (by decide) cw_Tub_48 21 rfl rfl rfl rfl (Nat.le_of_ble_eq_true rfl) rfl d_Tub_dyeIf_58 ?_
    refine V_iconst (v := 0) C d_Tub_dyeIf_61 (by decide) ?_
    refine V_bipush (v := 99) C d_Tub_dyeIf_62 (by decide) ?_
    refine V_aload_n C 0 d_Tub_dyeIf_64 rfl ?_
    refine gC_Tub_dyeLaw C fl_Tub_23 d_Tub_dyeIf_65 ?_
    obtain ⟨r68_6, σ68_6, hg, hf⟩ := bd2_of hf
    refine V_callVi C [] (c_Law_worth C.2.2.2.2.2.2.2.1 hg) (by decide) cw_Tub_52 21 rfl rfl rfl rfl (Nat.le_of_ble_eq_true rfl) rfl d_Tub_dyeIf_68 ?_
    refine V_min C ml_Tub_56 (by decide) (Nat.le_of_ble_eq_true rfl) d_Tub_dyeIf_71 ?_
    refine V_max C ml_Tub_43 (by decide) (Nat.le_of_ble_eq_true rfl) d_Tub_dyeIf_74 ?_
    exact V_iretW hR hf d_Tub_dyeIf_77
  · refine V_iconst (v := 0) C d_Tub_dyeIf_10 (by decide) ?_
    refine V_iload_n C 2 d_Tub_dyeIf_11 rfl ?_
    refine V_iload_n C 3 d_Tub_dyeIf_12 rfl ?_
    refine V_isub C d_Tub_dyeIf_13 ?_
    refine V_max C ml_Tub_43 (by decide) (Nat.le_of_ble_eq_true rfl) d_Tub_dyeIf_14 ?_
    refine V_iload C 4 d_Tub_dyeIf_17 rfl ?_
    refine V_imul C d_Tub_dyeIf_19 ?_
    refine V_iconst (v := 3) C d_Tub_dyeIf_20 (by decide) ?_
    refine V_idiv C d_Tub_dyeIf_21 (by decide) ?_
    exact V_iretW hR hf d_Tub_dyeIf_22
theorem c_Tub_dyeIf {l : Launch} {g : Gx} (hok : Wok classes (wC g)) {σ : St} {a1 : Int32} {a2 : Int32} {a3 : Int32} {a4 : Int32} {r : Int32} {σ' : St} (hf : f_Tub_dyeIf σ a1 a2 a3 a4 = some (r, σ')) : CtI classes l y_Tub_dyeIf b_Tub_dyeIf 5 (some .int) 4 (wC g) [.ref (g.2.1 39), .int a1, .int a2, .int a3, .int a4] σ r σ' :=
  MetI (by decide +kernel) hok (Nat.le_of_ble_eq_true rfl) (fun E _ C hR => w_Tub_dyeIf C hR hf)
set_option maxRecDepth 4000 in
theorem w_Top_alone_45 {E : Ev} {g : Gx} {r : Int32} {σ' : St} (C : Cx E classes 6 (wC g) b_Top_alone "WithTheReds" 5) (hR : RetI E classes 6 (wC g) b_Top_alone r σ') : ∀ (n : Nat) (σ : St) (x1 : Int32) (x2 : Int32) (x3 : Int32) (x4 : Int32) (x5 : Int32), f_Top_alone_45 n σ x1 x2 x3 x4 x5 = some (r, σ') → V E classes 6 (wC g) σ 45 [(0, .ref (g.2.1 0)), (1, .int x1), (2, .int x2), (3, .int x3), (4, .int x4), (5, .int x5)] [] := by
  intro n
  induction n with
  | zero => intro σ x1 x2 x3 x4 x5 hf; exact absurd hf (by unfold f_Top_alone_45; exact nofun)
  | succ n ih =>
    intro σ x1 x2 x3 x4 x5 hf
    unfold f_Top_alone_45 at hf
    refine V_iload C 5 d_Top_alone_45 rfl ?_
    refine V_iload C 4 d_Top_alone_47 rfl ?_
    refine V_icmp_le (pc := 49) (tgt := 75) C d_Top_alone_49 (by decide) hf (fun hf => ?_) (fun hf => ?_)
    · refine V_iload C 5 d_Top_alone_75 rfl ?_
      refine V_bipush (v := 99) C d_Top_alone_77 (by decide) ?_
      refine V_icmp_le (pc := 79) (tgt := 87) C d_Top_alone_79 (by decide) hf (fun hf => ?_) (fun hf => ?_)
      · refine V_iload C 5 d_Top_alone_87 rfl ?_
        refine V_iload C 4 d_Top_alone_89 rfl ?_
        refine V_isub C d_Top_alone_91 ?_
        exact V_iretW hR hf d_Top_alone_92
      · refine V_bipush (v := -2) C d_Top_alone_82 (by decide) ?_
        refine V_goto (pc := 84) (tgt := 92) C d_Top_alone_84 (by decide) ?_
        exact V_iretW hR hf d_Top_alone_92
    · refine V_aload_n C 0 d_Top_alone_52 rfl ?_
      refine gC_Top_tub C fl_Top_35 d_Top_alone_53 ?_
      refine V_iload_n C 1 d_Top_alone_56 rfl ?_
      refine V_iload_n C 3 d_Top_alone_57 rfl ?_
      refine V_iload C 5 d_Top_alone_58 rfl ?_
      refine V_iconst (v := 1) C d_Top_alone_60 (by decide) ?_
      refine V_isub C d_Top_alone_61 ?_
      refine V_iload_n C 2 d_Top_alone_62 rfl ?_
      obtain ⟨r63_1, σ63_1, hg, hf⟩ := bd2_of hf
      refine V_callVi C [.int x1, .int x3, .int (x5 - (1 : Int32)), .int x2] (c_Tub_dyeIf C.2.2.2.2.2.2.2.1 hg) (by decide) cw_Top_230 39 rfl rfl rfl rfl (Nat.le_of_ble_eq_true rfl) rfl d_Top_alone_63 ?_
      refine V_if_ne (pc := 66) (tgt := 75) C d_Top_alone_66 (by decide) hf (fun hf => ?_) (fun hf => ?_)
      · refine V_iload C 5 d_Top_alone_75 rfl ?_
        refine V_bipush (v := 99) C d_Top_alone_77 (by decide) ?_
        refine V_icmp_le (pc := 79) (tgt := 87) C d_Top_alone_79 (by decide) hf (fun hf => ?_) (fun hf => ?_)
        · refine V_iload C 5 d_Top_alone_87 rfl ?_
          refine V_iload C 4 d_Top_alone_89 rfl ?_
          refine V_isub C d_Top_alone_91 ?_
          exact V_iretW hR hf d_Top_alone_92
        · refine V_bipush (v := -2) C d_Top_alone_82 (by decide) ?_
          refine V_goto (pc := 84) (tgt := 92) C d_Top_alone_84 (by decide) ?_
          exact V_iretW hR hf d_Top_alone_92
      · refine V_iinc (v := x5 + (-1 : Int32)) C 5 d_Top_alone_69 rfl rfl (by decide) rfl ?_
        refine V_goto (pc := 72) (tgt := 45) C d_Top_alone_72 (by decide) ?_
        refine V.sub [1, 2, 3, 4, 5, 0] rfl ?_
        exact ih σ63_1 x1 x2 x3 x4 (x5 + (-1 : Int32)) hf
set_option maxRecDepth 4000 in
theorem w_Top_alone {E : Ev} {g : Gx} {r : Int32} {σ' : St} (C : Cx E classes 6 (wC g) b_Top_alone "WithTheReds" 5) (hR : RetI E classes 6 (wC g) b_Top_alone r σ') {σ : St} {a1 : Int32} {a2 : Int32} (hf : f_Top_alone σ a1 a2 = some (r, σ')) : V E classes 6 (wC g) σ 0 [(0, .ref (g.2.1 0)), (1, .int a1), (2, .int a2)] [] := by
  unfold f_Top_alone at hf
  refine V_aload_n C 0 d_Top_alone_0 rfl ?_
  refine gC_Top_basket C fl_Top_10 d_Top_alone_1 ?_
  refine V_iload_n C 1 d_Top_alone_4 rfl ?_
  obtain ⟨r5_1, hg, hf⟩ := bd hf
  refine V_callVi C [.int a1] (c_Basket_isThing C.2.2.2.2.2.2.2.1 hg) (by decide) cw_Top_134 1 rfl rfl rfl rfl (Nat.le_of_ble_eq_true rfl) rfl d_Top_alone_5 ?_
  refine V_if_eq (pc := 8) (tgt := 18) C d_Top_alone_8 (by decide) hf (fun hf => ?_) (fun hf => ?_)
  · refine V_iconst (v := -1) C d_Top_alone_18 (by decide) ?_
    exact V_iretW hR hf d_Top_alone_19
  · refine V_iload_n C 2 d_Top_alone_11 rfl ?_
    obtain ⟨r12_2, hg, hf⟩ := bd hf
    refine V_callSi C [.int a2] (c_Top_isHeat C.2.2.2.2.2.2.2.1 hg) (by decide) cw_Top_154 rfl (Nat.le_of_ble_eq_true rfl) rfl d_Top_alone_12 ?_
    refine V_if_ne (pc := 15) (tgt := 20) C d_Top_alone_15 (by decide) hf (fun hf => ?_) (fun hf => ?_)
    · refine V_aload_n C 0 d_Top_alone_20 rfl ?_
      refine gC_Top_basket C fl_Top_10 d_Top_alone_21 ?_
      refine V_iload_n C 1 d_Top_alone_24 rfl ?_
      refine V_iconst (v := 1) C d_Top_alone_25 (by decide) ?_
      obtain ⟨r26_3, hg, hf⟩ := bd hf
      refine V_callVi C [.int a1, .int (1 : Int32)] (c_Basket_told C.2.2.2.2.2.2.2.1 hg) (by decide) cw_Top_227 1 rfl rfl rfl rfl (Nat.le_of_ble_eq_true rfl) rfl d_Top_alone_26 ?_
      refine V_istore_n C d_Top_alone_29 (by decide) rfl ?_
      refine V_aload_n C 1 d_Top_alone_30 rfl ?_
      refine gC_Top_basket C fl_Top_10 d_Top_alone_31 ?_
      refine V_iload_n C 2 d_Top_alone_34 rfl ?_
      refine V_iconst (v := 2) C d_Top_alone_35 (by decide) ?_
      obtain ⟨r36_4, hg, hf⟩ := bd hf
      refine V_callVi C [.int a1, .int (2 : Int32)] (c_Basket_told C.2.2.2.2.2.2.2.1 hg) (by decide) cw_Top_227 1 rfl rfl rfl rfl (Nat.le_of_ble_eq_true rfl) rfl d_Top_alone_36 ?_
      refine V_istore C d_Top_alone_39 (by decide) rfl ?_
      refine V_bipush (v := 100) C d_Top_alone_41 (by decide) ?_
      refine V_istore C d_Top_alone_43 (by decide) rfl ?_
      refine V.sub [3, 4, 5, 2, 1, 0] rfl ?_
      exact w_Top_alone_45 C hR FU σ a1 a2 r26_3 r36_4 (100 : Int32) hf
    · refine V_iconst (v := -1) C d_Top_alone_18 (by decide) ?_
      exact V_iretW hR hf d_Top_alone_19
theorem c_Top_alone {l : Launch} {g : Gx} (hok : Wok classes (wC g)) {σ : St} {a1 : Int32} {a2 : Int32} {r : Int32} {σ' : St} (hf : f_Top_alone σ a1 a2 = some (r, σ')) : CtI classes l y_Top_alone b_Top_alone 6 (some .int) 5 (wC g) [.ref (g.2.1 0), .int a1, .int a2] σ r σ' :=
  MetI (by decide +kernel) hok (Nat.le_of_ble_eq_true rfl) (fun E _ C hR => w_Top_alone C hR hf)
set_option maxRecDepth 4000 in
theorem w_Deeds_hasImage {E : Ev} {g : Gx} {r : Int32} {σ : St} (C : Cx E classes 1 (wC g) b_Deeds_hasImage "WithTheReds$Deeds" 1) (hR : RetZ E classes 1 (wC g) b_Deeds_hasImage r σ) (hf : f_Deeds_hasImage σ = some r) : V E classes 1 (wC g) σ 0 [(0, .ref (g.2.1 9))] [] := by
  unfold f_Deeds_hasImage at hf
  refine V_aload_n C 0 d_Deeds_hasImage_0 rfl ?_
  refine gC_Deeds_keptThings (v := σ.1 906) C fl_Deeds_28 rfl d_Deeds_hasImage_1 ?_
  refine V_iconst (v := -1) C d_Deeds_hasImage_4 (by decide) ?_
  refine V_icmp_eq (pc := 5) (tgt := 12) C d_Deeds_hasImage_5 (by decide) hf (fun hf => ?_) (fun hf => ?_)
  · refine V_iconst (v := 0) C d_Deeds_hasImage_12 (by decide) ?_
    exact V_zret hR hf rfl d_Deeds_hasImage_13
  · refine V_iconst (v := 1) C d_Deeds_hasImage_8 (by decide) ?_
    refine V_goto (pc := 9) (tgt := 13) C d_Deeds_hasImage_9 (by decide) ?_
    exact V_zret hR hf rfl d_Deeds_hasImage_13
theorem c_Deeds_hasImage {l : Launch} {g : Gx} (hok : Wok classes (wC g)) {σ : St} {r : Int32} (hf : f_Deeds_hasImage σ = some r) : CtI classes l y_Deeds_hasImage b_Deeds_hasImage 1 (some .boolean) 1 (wC g) [.ref (g.2.1 9)] σ r σ :=
  MetZ (by decide +kernel) hok (Nat.le_of_ble_eq_true rfl) (fun E _ C hR => w_Deeds_hasImage C hR hf)
set_option maxRecDepth 4000 in
theorem w_Basket_slot {E : Ev} {g : Gx} {r : Int32} {σ : St} (C : Cx E classes 3 (wC g) b_Basket_slot "WithTheReds$Basket" 3) (hR : RetI E classes 3 (wC g) b_Basket_slot r σ) {a1 : Int32} {a2 : Int32} (hf : f_Basket_slot σ a1 a2 = some r) : V E classes 3 (wC g) σ 0 [(0, .ref (g.2.1 1)), (1, .int a1), (2, .int a2)] [] := by
  unfold f_Basket_slot at hf
  refine V_iload_n C 2 d_Basket_slot_0 rfl ?_
  refine V_iconst (v := 0) C d_Basket_slot_1 (by decide) ?_
  refine V_bipush (v := 7) C d_Basket_slot_2 (by decide) ?_
  obtain ⟨r4_1, hg, hf⟩ := bd hf
  refine V_callNi C [.int a2, .int (0 : Int32), .int (7 : Int32)] (c_Top_within C.2.2.2.2.2.2.2.1 hg) (by decide) cw_Basket_31 nw_Basket_31 rfl (Nat.le_of_ble_eq_true rfl) rfl d_Basket_slot_4 ?_
  refine V_if_eq (pc := 7) (tgt := 29) C d_Basket_slot_7 (by decide) hf (fun hf => ?_) (fun hf => ?_)
  · refine V_iload_n C 2 d_Basket_slot_29 rfl ?_
    refine V_bipush (v := 8) C d_Basket_slot_30 (by decide) ?_
    refine V_bipush (v := 11) C d_Basket_slot_32 (by decide) ?_
    obtain ⟨r34_2, hg, hf⟩ := bd hf
    refine V_callNi C [.int a2, .int (8 : Int32), .int (11 : Int32)] (c_Top_within C.2.2.2.2.2.2.2.1 hg) (by decide) cw_Basket_31 nw_Basket_31 rfl (Nat.le_of_ble_eq_true rfl) rfl d_Basket_slot_34 ?_
    refine V_if_eq (pc := 37) (tgt := 54) C d_Basket_slot_37 (by decide) hf (fun hf => ?_) (fun hf => ?_)
    · refine V_iconst (v := -1) C d_Basket_slot_54 (by decide) ?_
      exact V_iret hR hf d_Basket_slot_55
    · refine V_iload_n C 1 d_Basket_slot_40 rfl ?_
      refine V_if_ne (pc := 41) (tgt := 54) C d_Basket_slot_41 (by decide) hf (fun hf => ?_) (fun hf => ?_)
      · refine V_iconst (v := -1) C d_Basket_slot_54 (by decide) ?_
        exact V_iret hR hf d_Basket_slot_55
      · refine V_bipush (v := 80) C d_Basket_slot_44 (by decide) ?_
        refine V_iload_n C 2 d_Basket_slot_46 rfl ?_
        refine V_iadd C d_Basket_slot_47 ?_
        refine V_bipush (v := 8) C d_Basket_slot_48 (by decide) ?_
        refine V_isub C d_Basket_slot_50 ?_
        refine V_goto (pc := 51) (tgt := 55) C d_Basket_slot_51 (by decide) ?_
        exact V_iret hR hf d_Basket_slot_55
  · refine V_aload_n C 0 d_Basket_slot_10 rfl ?_
    refine V_iload_n C 1 d_Basket_slot_11 rfl ?_
    obtain ⟨r12_3, hg, hf⟩ := bd hf
    refine V_callVi C [.int a1] (c_Basket_isThing C.2.2.2.2.2.2.2.1 hg) (by decide) cw_Basket_49 1 rfl rfl rfl rfl (Nat.le_of_ble_eq_true rfl) rfl d_Basket_slot_12 ?_
    refine V_if_eq (pc := 15) (tgt := 27) C d_Basket_slot_15 (by decide) hf (fun hf => ?_) (fun hf => ?_)
    · refine V_iconst (v := -1) C d_Basket_slot_27 (by decide) ?_
      exact V_iret hR hf d_Basket_slot_28
    · refine V_iload_n C 1 d_Basket_slot_18 rfl ?_
      refine V_bipush (v := 8) C d_Basket_slot_19 (by decide) ?_
      refine V_imul C d_Basket_slot_21 ?_
      refine V_iload_n C 2 d_Basket_slot_22 rfl ?_
      refine V_iadd C d_Basket_slot_23 ?_
      refine V_goto (pc := 24) (tgt := 28) C d_Basket_slot_24 (by decide) ?_
      exact V_iret hR hf d_Basket_slot_28
theorem c_Basket_slot {l : Launch} {g : Gx} (hok : Wok classes (wC g)) {σ : St} {a1 : Int32} {a2 : Int32} {r : Int32} (hf : f_Basket_slot σ a1 a2 = some r) : CtI classes l y_Basket_slot b_Basket_slot 3 (some .int) 3 (wC g) [.ref (g.2.1 1), .int a1, .int a2] σ r σ :=
  MetI (by decide +kernel) hok (Nat.le_of_ble_eq_true rfl) (fun E _ C hR => w_Basket_slot C hR hf)
set_option maxRecDepth 4000 in
theorem w_Basket_write {E : Ev} {g : Gx} {σ' : St} (C : Cx E classes 3 (wC g) b_Basket_write "WithTheReds$Basket" 1) (hR : RetV E classes 3 (wC g) b_Basket_write σ') {σ : St} {a1 : Int32} {a2 : Int32} (hf : f_Basket_write σ a1 a2 = some σ') : V E classes 3 (wC g) σ 0 [(0, .ref (g.2.1 1)), (1, .int a1), (2, .int a2)] [] := by
  unfold f_Basket_write at hf
  refine V_iload_n C 1 d_Basket_write_0 rfl ?_
  refine V_if_lt (pc := 1) (tgt := 20) C d_Basket_write_1 (by decide) hf (fun hf => ?_) (fun hf => ?_)
  · exact V_vret hR hf d_Basket_write_20
  · refine V_iload_n C 1 d_Basket_write_4 rfl ?_
    refine V_aload_n C 0 d_Basket_write_5 rfl ?_
    refine gC_Basket_numbers C fl_Basket_11 d_Basket_write_6 ?_
    refine nC_2 C d_Basket_write_9 ?_
    refine V_icmp_ge (pc := 10) (tgt := 20) C d_Basket_write_10 (by decide) hf (fun hf => ?_) (fun hf => ?_)
    · exact V_vret hR hf d_Basket_write_20
    · refine V_aload_n C 0 d_Basket_write_13 rfl ?_
      refine gC_Basket_numbers C fl_Basket_11 d_Basket_write_14 ?_
      refine V_iload_n C 1 d_Basket_write_17 rfl ?_
      refine V_iload_n C 2 d_Basket_write_18 rfl ?_
      obtain ⟨hi19_1, hf⟩ := gu hf
      refine sC_2 C hi19_1 d_Basket_write_19 ?_
      exact V_vret hR hf d_Basket_write_20
theorem c_Basket_write {l : Launch} {g : Gx} (hok : Wok classes (wC g)) {σ : St} {a1 : Int32} {a2 : Int32} {σ' : St} (hf : f_Basket_write σ a1 a2 = some σ') : CtV classes l y_Basket_write b_Basket_write 3 none 1 (wC g) [.ref (g.2.1 1), .int a1, .int a2] σ σ' :=
  MetV (by decide +kernel) hok (Nat.le_of_ble_eq_true rfl) (fun E _ C hR => w_Basket_write C hR hf)
set_option maxRecDepth 4000 in
theorem w_Deeds_layBack_90 {E : Ev} {g : Gx} {σ' : St} (C : Cx E classes 3 (wC g) b_Deeds_layBack "WithTheReds$Deeds" 4) (hR : RetV E classes 3 (wC g) b_Deeds_layBack σ') {k16 : St → Int32 → Option St} (hk16 : ∀ (σ : St) (x1 : Int32), k16 σ x1 = some σ' → V E classes 3 (wC g) σ 16 [(0, .ref (g.2.1 9)), (1, .int x1)] []) : ∀ (σ : St) (x1 : Int32) (x2 : Int32) (y0 : Int32) (y1 : Int32), f_Deeds_layBack_90 k16 σ x1 x2 y0 y1 = some σ' → V E classes 3 (wC g) σ 90 [(0, .ref (g.2.1 9)), (1, .int x1), (2, .int x2)] [.int y0, .int y1, .ref (g.2.1 4)] := by
  intro σ x1 x2 y0 y1 hf
  unfold f_Deeds_layBack_90 at hf
  obtain ⟨hi90_1, hf⟩ := gu hf
  refine sC_4 C hi90_1 d_Deeds_layBack_90 ?_
  refine V_iload_n C 2 d_Deeds_layBack_91 rfl ?_
  refine V_if_eq (pc := 92) (tgt := 117) C d_Deeds_layBack_92 (by decide) hf (fun hf => ?_) (fun hf => ?_)
  · refine V_iinc (v := x1 + (1 : Int32)) C 1 d_Deeds_layBack_117 rfl rfl (by decide) rfl ?_
    refine V_goto (pc := 120) (tgt := 16) C d_Deeds_layBack_120 (by decide) ?_
    refine V.sub [1, 0] rfl ?_
    exact hk16 (upA σ 4 y1.toNatClampNeg (vp_nar .boolean y0)) (x1 + (1 : Int32)) hf
  · refine V_aload_n C 0 d_Deeds_layBack_95 rfl ?_
    refine gC_Deeds_basket C fl_Deeds_32 d_Deeds_layBack_96 ?_
    refine V_aload_n C 0 d_Deeds_layBack_99 rfl ?_
    refine gC_Deeds_basket C fl_Deeds_32 d_Deeds_layBack_100 ?_
    refine V_iload_n C 1 d_Deeds_layBack_103 rfl ?_
    refine V_iconst (v := 2) C d_Deeds_layBack_104 (by decide) ?_
    obtain ⟨r105_2, hg, hf⟩ := bd hf
    refine V_callVi C [.int x1, .int (2 : Int32)] (c_Basket_slot C.2.2.2.2.2.2.2.1 hg) (by decide) cw_Deeds_78 1 rfl rfl rfl rfl (Nat.le_of_ble_eq_true rfl) rfl d_Deeds_layBack_105 ?_
    refine V_aload_n C 0 d_Deeds_layBack_108 rfl ?_
    refine gC_Deeds_keptWashed C fl_Deeds_18 d_Deeds_layBack_109 ?_
    refine V_iload_n C 1 d_Deeds_layBack_112 rfl ?_
    obtain ⟨hi113_3, hf⟩ := gu hf
    refine aC_12 (v := σ.2.1 12 x1.toNatClampNeg) C hi113_3 rfl d_Deeds_layBack_113 ?_
    obtain ⟨σ114_4, hg, hf⟩ := bd hf
    refine V_callVv C [.int r105_2, .int (σ.2.1 12 x1.toNatClampNeg)] (c_Basket_write C.2.2.2.2.2.2.2.1 hg) (by decide) cw_Deeds_81 1 rfl rfl rfl rfl (Nat.le_of_ble_eq_true rfl) rfl d_Deeds_layBack_114 ?_
    refine V_iinc (v := x1 + (1 : Int32)) C 1 d_Deeds_layBack_117 rfl rfl (by decide) rfl ?_
    refine V_goto (pc := 120) (tgt := 16) C d_Deeds_layBack_120 (by decide) ?_
    refine V.sub [1, 0] rfl ?_
    exact hk16 σ114_4 (x1 + (1 : Int32)) hf
set_option maxRecDepth 4000 in
theorem w_Deeds_layBack_89 {E : Ev} {g : Gx} {σ' : St} (C : Cx E classes 3 (wC g) b_Deeds_layBack "WithTheReds$Deeds" 4) (hR : RetV E classes 3 (wC g) b_Deeds_layBack σ') {k16 : St → Int32 → Option St} (hk16 : ∀ (σ : St) (x1 : Int32), k16 σ x1 = some σ' → V E classes 3 (wC g) σ 16 [(0, .ref (g.2.1 9)), (1, .int x1)] []) : ∀ (σ : St) (x1 : Int32) (x2 : Int32) (y0 : Int32), f_Deeds_layBack_89 k16 σ x1 x2 y0 = some σ' → V E classes 3 (wC g) σ 89 [(0, .ref (g.2.1 9)), (1, .int x1), (2, .int x2)] [.int y0, .ref (g.2.1 4)] := by
  intro σ x1 x2 y0 hf
  unfold f_Deeds_layBack_89 at hf
  refine V_iconst (v := 0) C d_Deeds_layBack_89 (by decide) ?_
  exact w_Deeds_layBack_90 C hR hk16 σ x1 x2 (0 : Int32) y0 hf
set_option maxRecDepth 4000 in
theorem w_Deeds_layBack_63 {E : Ev} {g : Gx} {σ' : St} (C : Cx E classes 3 (wC g) b_Deeds_layBack "WithTheReds$Deeds" 4) (hR : RetV E classes 3 (wC g) b_Deeds_layBack σ') {k16 : St → Int32 → Option St} (hk16 : ∀ (σ : St) (x1 : Int32), k16 σ x1 = some σ' → V E classes 3 (wC g) σ 16 [(0, .ref (g.2.1 9)), (1, .int x1)] []) : ∀ (σ : St) (x1 : Int32) (x2 : Int32) (y0 : Int32) (y1 : Int32), f_Deeds_layBack_63 k16 σ x1 x2 y0 y1 = some σ' → V E classes 3 (wC g) σ 63 [(0, .ref (g.2.1 9)), (1, .int x1), (2, .int x2)] [.int y0, .int y1, .ref (g.2.1 3)] := by
  intro σ x1 x2 y0 y1 hf
  unfold f_Deeds_layBack_63 at hf
  obtain ⟨hi63_1, hf⟩ := gu hf
  refine sC_3 C hi63_1 d_Deeds_layBack_63 ?_
  refine V_aload_n C 0 d_Deeds_layBack_64 rfl ?_
  refine gC_Deeds_basket C fl_Deeds_32 d_Deeds_layBack_65 ?_
  refine gC_Basket_gone C fl_Deeds_91 d_Deeds_layBack_68 ?_
  refine V_iload_n C 1 d_Deeds_layBack_71 rfl ?_
  refine V_iload_n C 2 d_Deeds_layBack_72 rfl ?_
  refine V_if_eq (pc := 73) (tgt := 89) C d_Deeds_layBack_73 (by decide) hf (fun hf => ?_) (fun hf => ?_)
  · exact w_Deeds_layBack_89 C hR hk16 (upA σ 3 y1.toNatClampNeg y0) x1 x2 x1 hf
  · refine V_aload_n C 0 d_Deeds_layBack_76 rfl ?_
    refine gC_Deeds_keptGone C fl_Deeds_24 d_Deeds_layBack_77 ?_
    refine V_iload_n C 1 d_Deeds_layBack_80 rfl ?_
    obtain ⟨hi81_2, hf⟩ := gu hf
    refine aC_14 (v := σ.2.1 14 x1.toNatClampNeg) C hi81_2 rfl d_Deeds_layBack_81 ?_
    refine V_if_eq (pc := 82) (tgt := 89) C d_Deeds_layBack_82 (by decide) hf (fun hf => ?_) (fun hf => ?_)
    · exact w_Deeds_layBack_89 C hR hk16 (upA σ 3 y1.toNatClampNeg y0) x1 x2 x1 hf
    · refine V_iconst (v := 1) C d_Deeds_layBack_85 (by decide) ?_
      refine V_goto (pc := 86) (tgt := 90) C d_Deeds_layBack_86 (by decide) ?_
      exact w_Deeds_layBack_90 C hR hk16 (upA σ 3 y1.toNatClampNeg y0) x1 x2 (1 : Int32) x1 hf
set_option maxRecDepth 4000 in
theorem w_Deeds_layBack_40 {E : Ev} {g : Gx} {σ' : St} (C : Cx E classes 3 (wC g) b_Deeds_layBack "WithTheReds$Deeds" 4) (hR : RetV E classes 3 (wC g) b_Deeds_layBack σ') {k16 : St → Int32 → Option St} (hk16 : ∀ (σ : St) (x1 : Int32), k16 σ x1 = some σ' → V E classes 3 (wC g) σ 16 [(0, .ref (g.2.1 9)), (1, .int x1)] []) : ∀ (σ : St) (x1 : Int32) (y0 : Int32), f_Deeds_layBack_40 k16 σ x1 y0 = some σ' → V E classes 3 (wC g) σ 40 [(0, .ref (g.2.1 9)), (1, .int x1)] [.int y0] := by
  intro σ x1 y0 hf
  unfold f_Deeds_layBack_40 at hf
  refine V_istore_n C d_Deeds_layBack_40 (by decide) rfl ?_
  refine V_aload_n C 1 d_Deeds_layBack_41 rfl ?_
  refine gC_Deeds_basket C fl_Deeds_32 d_Deeds_layBack_42 ?_
  refine gC_Basket_tints C fl_Deeds_63 d_Deeds_layBack_45 ?_
  refine V_iload_n C 2 d_Deeds_layBack_48 rfl ?_
  refine V_iload_n C 0 d_Deeds_layBack_49 rfl ?_
  refine V_if_eq (pc := 50) (tgt := 62) C d_Deeds_layBack_50 (by decide) hf (fun hf => ?_) (fun hf => ?_)
  · refine V_iconst (v := 0) C d_Deeds_layBack_62 (by decide) ?_
    refine V.sub [1, 2, 0] rfl ?_
    exact w_Deeds_layBack_63 C hR hk16 σ x1 y0 (0 : Int32) x1 hf
  · refine V_aload_n C 1 d_Deeds_layBack_53 rfl ?_
    refine gC_Deeds_keptTints C fl_Deeds_21 d_Deeds_layBack_54 ?_
    refine V_iload_n C 2 d_Deeds_layBack_57 rfl ?_
    obtain ⟨hi58_1, hf⟩ := gu hf
    refine aC_13 (v := σ.2.1 13 x1.toNatClampNeg) C hi58_1 rfl d_Deeds_layBack_58 ?_
    refine V_goto (pc := 59) (tgt := 63) C d_Deeds_layBack_59 (by decide) ?_
    refine V.sub [1, 2, 0] rfl ?_
    exact w_Deeds_layBack_63 C hR hk16 σ x1 y0 (σ.2.1 13 x1.toNatClampNeg) x1 hf
set_option maxRecDepth 4000 in
theorem w_Deeds_layBack_16 {E : Ev} {g : Gx} {σ' : St} (C : Cx E classes 3 (wC g) b_Deeds_layBack "WithTheReds$Deeds" 4) (hR : RetV E classes 3 (wC g) b_Deeds_layBack σ') : ∀ (n : Nat) (σ : St) (x1 : Int32), f_Deeds_layBack_16 n σ x1 = some σ' → V E classes 3 (wC g) σ 16 [(0, .ref (g.2.1 9)), (1, .int x1)] [] := by
  intro n
  induction n with
  | zero => intro σ x1 hf; exact absurd hf (by unfold f_Deeds_layBack_16; exact nofun)
  | succ n ih =>
    intro σ x1 hf
    unfold f_Deeds_layBack_16 at hf
    refine V_iload_n C 1 d_Deeds_layBack_16 rfl ?_
    refine V_aload_n C 0 d_Deeds_layBack_17 rfl ?_
    refine gC_Deeds_basket C fl_Deeds_32 d_Deeds_layBack_18 ?_
    refine gC_Basket_things (v := σ.1 103) C fl_Deeds_51 rfl d_Deeds_layBack_21 ?_
    refine V_icmp_ge (pc := 24) (tgt := 123) C d_Deeds_layBack_24 (by decide) hf (fun hf => ?_) (fun hf => ?_)
    · exact V_vret hR hf d_Deeds_layBack_123
    · refine V_iload_n C 1 d_Deeds_layBack_27 rfl ?_
      refine V_aload_n C 0 d_Deeds_layBack_28 rfl ?_
      refine gC_Deeds_keptThings (v := σ.1 906) C fl_Deeds_28 rfl d_Deeds_layBack_29 ?_
      refine V_icmp_ge (pc := 32) (tgt := 39) C d_Deeds_layBack_32 (by decide) hf (fun hf => ?_) (fun hf => ?_)
      · refine V_iconst (v := 0) C d_Deeds_layBack_39 (by decide) ?_
        exact w_Deeds_layBack_40 C hR ih σ x1 (0 : Int32) hf
      · refine V_iconst (v := 1) C d_Deeds_layBack_35 (by decide) ?_
        refine V_goto (pc := 36) (tgt := 40) C d_Deeds_layBack_36 (by decide) ?_
        exact w_Deeds_layBack_40 C hR ih σ x1 (1 : Int32) hf
set_option maxRecDepth 4000 in
theorem w_Deeds_layBack {E : Ev} {g : Gx} {σ' : St} (C : Cx E classes 3 (wC g) b_Deeds_layBack "WithTheReds$Deeds" 4) (hR : RetV E classes 3 (wC g) b_Deeds_layBack σ') {σ : St} (hf : f_Deeds_layBack σ = some σ') : V E classes 3 (wC g) σ 0 [(0, .ref (g.2.1 9))] [] := by
  unfold f_Deeds_layBack at hf
  refine V_aload_n C 0 d_Deeds_layBack_0 rfl ?_
  refine gC_Deeds_keptLed C fl_Deeds_15 d_Deeds_layBack_1 ?_
  refine V_iconst (v := 0) C d_Deeds_layBack_4 (by decide) ?_
  refine V_aload_n C 0 d_Deeds_layBack_5 rfl ?_
  refine gC_Deeds_led C fl_Deeds_11 d_Deeds_layBack_6 ?_
  refine V_iconst (v := 0) C d_Deeds_layBack_9 (by decide) ?_
  refine V_iconst (v := 4) C d_Deeds_layBack_10 (by decide) ?_
  obtain ⟨hcp, hf⟩ := gu hf
  refine V_cpA (σ' := (stA σ 10 (va_cpy (σ.2.1 11) (σ.2.1 10) (0 : Int32).toNatClampNeg (0 : Int32).toNatClampNeg (4 : Int32).toNatClampNeg))) C 11 10 rfl rfl rfl rfl rfl hcp (by decide) (Nat.le_of_ble_eq_true rfl) al_Deeds_85 d_Deeds_layBack_11 ?_
  refine V_iconst (v := 0) C d_Deeds_layBack_14 (by decide) ?_
  refine V_istore_n C d_Deeds_layBack_15 (by decide) rfl ?_
  refine V.sub [1, 0] rfl ?_
  exact w_Deeds_layBack_16 C hR FU (stA σ 10 (va_cpy (σ.2.1 11) (σ.2.1 10) (0 : Int32).toNatClampNeg (0 : Int32).toNatClampNeg (4 : Int32).toNatClampNeg)) (0 : Int32) hf
theorem c_Deeds_layBack {l : Launch} {g : Gx} (hok : Wok classes (wC g)) {σ : St} {σ' : St} (hf : f_Deeds_layBack σ = some σ') : CtV classes l y_Deeds_layBack b_Deeds_layBack 3 none 4 (wC g) [.ref (g.2.1 9)] σ σ' :=
  MetV (by decide +kernel) hok (Nat.le_of_ble_eq_true rfl) (fun E _ C hR => w_Deeds_layBack C hR hf)
set_option maxRecDepth 4000 in
theorem w_Top_back {E : Ev} {g : Gx} {r : Int32} {σ' : St} (C : Cx E classes 1 (wC g) b_Top_back "WithTheReds" 5) (hR : RetI E classes 1 (wC g) b_Top_back r σ') {σ : St} (hf : f_Top_back σ = some (r, σ')) : V E classes 1 (wC g) σ 0 [(0, .ref (g.2.1 0))] [] := by
  unfold f_Top_back at hf
  refine V_aload_n C 0 d_Top_back_0 rfl ?_
  refine gC_Top_deeds C fl_Top_67 d_Top_back_1 ?_
  obtain ⟨r4_1, hg, hf⟩ := bd hf
  refine V_callVi C [] (c_Deeds_hasImage C.2.2.2.2.2.2.2.1 hg) (by decide) cw_Top_316 9 rfl rfl rfl rfl (Nat.le_of_ble_eq_true rfl) rfl d_Top_back_4 ?_
  refine V_if_ne (pc := 7) (tgt := 13) C d_Top_back_7 (by decide) hf (fun hf => ?_) (fun hf => ?_)
  · refine V_aload_n C 0 d_Top_back_13 rfl ?_
    refine gC_Top_deeds C fl_Top_67 d_Top_back_14 ?_
    obtain ⟨σ17_2, hg, hf⟩ := bd hf
    refine V_callVv C [] (c_Deeds_layBack C.2.2.2.2.2.2.2.1 hg) (by decide) cw_Top_319 9 rfl rfl rfl rfl (Nat.le_of_ble_eq_true rfl) rfl d_Top_back_17 ?_
    refine V_aload_n C 0 d_Top_back_20 rfl ?_
    refine gC_Top_deeds C fl_Top_67 d_Top_back_21 ?_
    refine gC_Deeds_led C fl_Top_310 d_Top_back_24 ?_
    refine V_iconst (v := 0) C d_Top_back_27 (by decide) ?_
    refine aC_10 (v := σ17_2.2.1 10 (0 : Int32).toNatClampNeg) C rfl rfl d_Top_back_28 ?_
    exact V_iretW hR hf d_Top_back_29
  · refine V_bipush (v := -5) C d_Top_back_10 (by decide) ?_
    exact V_iretW hR hf d_Top_back_12
theorem c_Top_back {l : Launch} {g : Gx} (hok : Wok classes (wC g)) {σ : St} {r : Int32} {σ' : St} (hf : f_Top_back σ = some (r, σ')) : CtI classes l y_Top_back b_Top_back 1 (some .int) 5 (wC g) [.ref (g.2.1 0)] σ r σ' :=
  MetI (by decide +kernel) hok (Nat.le_of_ble_eq_true rfl) (fun E _ C hR => w_Top_back C hR hf)
set_option maxRecDepth 4000 in
theorem w_Top_bleach {E : Ev} {g : Gx} {r : Int32} {σ' : St} (C : Cx E classes 3 (wC g) b_Top_bleach "WithTheReds" 3) (hR : RetI E classes 3 (wC g) b_Top_bleach r σ') {σ : St} {a1 : Int32} (hf : f_Top_bleach σ a1 = some (r, σ')) : V E classes 3 (wC g) σ 0 [(0, .ref (g.2.1 0)), (1, .int a1)] [] := by
  unfold f_Top_bleach at hf
  refine V_aload_n C 0 d_Top_bleach_0 rfl ?_
  refine gC_Top_basket C fl_Top_10 d_Top_bleach_1 ?_
  refine V_iload_n C 1 d_Top_bleach_4 rfl ?_
  obtain ⟨r5_1, hg, hf⟩ := bd hf
  refine V_callVi C [.int a1] (c_Basket_isThing C.2.2.2.2.2.2.2.1 hg) (by decide) cw_Top_134 1 rfl rfl rfl rfl (Nat.le_of_ble_eq_true rfl) rfl d_Top_bleach_5 ?_
  refine V_if_ne (pc := 8) (tgt := 13) C d_Top_bleach_8 (by decide) hf (fun hf => ?_) (fun hf => ?_)
  · refine V_aload_n C 0 d_Top_bleach_13 rfl ?_
    refine gC_Top_basket C fl_Top_10 d_Top_bleach_14 ?_
    refine gC_Basket_tints C fl_Top_300 d_Top_bleach_17 ?_
    refine V_iload_n C 1 d_Top_bleach_20 rfl ?_
    obtain ⟨hi21_2, hf⟩ := gu hf
    refine aC_3 (v := σ.2.1 3 a1.toNatClampNeg) C hi21_2 rfl d_Top_bleach_21 ?_
    refine V_istore_n C d_Top_bleach_22 (by decide) rfl ?_
    refine V_aload_n C 1 d_Top_bleach_23 rfl ?_
    refine gC_Top_basket C fl_Top_10 d_Top_bleach_24 ?_
    refine gC_Basket_tints C fl_Top_300 d_Top_bleach_27 ?_
    refine V_iload_n C 2 d_Top_bleach_30 rfl ?_
    refine V_iconst (v := 0) C d_Top_bleach_31 (by decide) ?_
    obtain ⟨hi32_3, hf⟩ := gu hf
    refine sC_3 C hi32_3 d_Top_bleach_32 ?_
    refine V_iload_n C 0 d_Top_bleach_33 rfl ?_
    exact V_iretW hR hf d_Top_bleach_34
  · refine V_iconst (v := -1) C d_Top_bleach_11 (by decide) ?_
    exact V_iretW hR hf d_Top_bleach_12
theorem c_Top_bleach {l : Launch} {g : Gx} (hok : Wok classes (wC g)) {σ : St} {a1 : Int32} {r : Int32} {σ' : St} (hf : f_Top_bleach σ a1 = some (r, σ')) : CtI classes l y_Top_bleach b_Top_bleach 3 (some .int) 3 (wC g) [.ref (g.2.1 0), .int a1] σ r σ' :=
  MetI (by decide +kernel) hok (Nat.le_of_ble_eq_true rfl) (fun E _ C hR => w_Top_bleach C hR hf)
set_option maxRecDepth 4000 in
theorem w_Socks_isFull {E : Ev} {g : Gx} {r : Int32} {σ : St} (C : Cx E classes 1 (wC g) b_Socks_isFull "WithTheReds$Socks" 1) (hR : RetZ E classes 1 (wC g) b_Socks_isFull r σ) (hf : f_Socks_isFull σ = some r) : V E classes 1 (wC g) σ 0 [(0, .ref (g.2.1 32))] [] := by
  unfold f_Socks_isFull at hf
  refine V_aload_n C 0 d_Socks_isFull_0 rfl ?_
  refine gC_Socks_bodies (v := σ.1 3202) C fl_Socks_18 rfl d_Socks_isFull_1 ?_
  refine V_bipush (v := 50) C d_Socks_isFull_4 (by decide) ?_
  refine V_icmp_lt (pc := 6) (tgt := 13) C d_Socks_isFull_6 (by decide) hf (fun hf => ?_) (fun hf => ?_)
  · refine V_iconst (v := 0) C d_Socks_isFull_13 (by decide) ?_
    exact V_zret hR hf rfl d_Socks_isFull_14
  · refine V_iconst (v := 1) C d_Socks_isFull_9 (by decide) ?_
    refine V_goto (pc := 10) (tgt := 14) C d_Socks_isFull_10 (by decide) ?_
    exact V_zret hR hf rfl d_Socks_isFull_14
theorem c_Socks_isFull {l : Launch} {g : Gx} (hok : Wok classes (wC g)) {σ : St} {r : Int32} (hf : f_Socks_isFull σ = some r) : CtI classes l y_Socks_isFull b_Socks_isFull 1 (some .boolean) 1 (wC g) [.ref (g.2.1 32)] σ r σ :=
  MetZ (by decide +kernel) hok (Nat.le_of_ble_eq_true rfl) (fun E _ C hR => w_Socks_isFull C hR hf)
set_option maxRecDepth 4000 in
theorem w_Socks_add {E : Ev} {g : Gx} {r : Int32} {σ' : St} (C : Cx E classes 2 (wC g) b_Socks_add "WithTheReds$Socks" 2) (hR : RetI E classes 2 (wC g) b_Socks_add r σ') {σ : St} {a1 : Int32} (hf : f_Socks_add σ a1 = some (r, σ')) : V E classes 2 (wC g) σ 0 [(0, .ref (g.2.1 32)), (1, .int a1)] [] := by
  unfold f_Socks_add at hf
  refine V_aload_n C 0 d_Socks_add_0 rfl ?_
  obtain ⟨r1_1, hg, hf⟩ := bd hf
  refine V_callVi C [] (c_Socks_isFull C.2.2.2.2.2.2.2.1 hg) (by decide) cw_Socks_26 32 rfl rfl rfl rfl (Nat.le_of_ble_eq_true rfl) rfl d_Socks_add_1 ?_
  refine V_if_eq (pc := 4) (tgt := 10) C d_Socks_add_4 (by decide) hf (fun hf => ?_) (fun hf => ?_)
  · refine V_aload_n C 0 d_Socks_add_10 rfl ?_
    refine gC_Socks_kinds C fl_Socks_11 d_Socks_add_11 ?_
    refine V_aload_n C 0 d_Socks_add_14 rfl ?_
    refine gC_Socks_bodies (v := σ.1 3202) C fl_Socks_18 rfl d_Socks_add_15 ?_
    refine V_iload_n C 1 d_Socks_add_18 rfl ?_
    obtain ⟨hi19_2, hf⟩ := gu hf
    refine sC_33 C hi19_2 d_Socks_add_19 ?_
    refine V_aload_n C 0 d_Socks_add_20 rfl ?_
    refine V_dup C d_Socks_add_21 rfl ?_
    refine gC_Socks_bodies (v := σ.1 3202) C fl_Socks_18 rfl d_Socks_add_22 ?_
    refine V_iconst (v := 1) C d_Socks_add_25 (by decide) ?_
    refine V_iadd C d_Socks_add_26 ?_
    refine pC_Socks_bodies C fl_Socks_18 d_Socks_add_27 ?_
    refine V_aload_n C 0 d_Socks_add_30 rfl ?_
    refine gC_Socks_bodies (v := ((σ.1 3202) + (1 : Int32))) C fl_Socks_18 rfl d_Socks_add_31 ?_
    refine V_iconst (v := 1) C d_Socks_add_34 (by decide) ?_
    refine V_isub C d_Socks_add_35 ?_
    exact V_iretW hR hf d_Socks_add_36
  · refine V_bipush (v := -3) C d_Socks_add_7 (by decide) ?_
    exact V_iretW hR hf d_Socks_add_9
theorem c_Socks_add {l : Launch} {g : Gx} (hok : Wok classes (wC g)) {σ : St} {a1 : Int32} {r : Int32} {σ' : St} (hf : f_Socks_add σ a1 = some (r, σ')) : CtI classes l y_Socks_add b_Socks_add 2 (some .int) 2 (wC g) [.ref (g.2.1 32), .int a1] σ r σ' :=
  MetI (by decide +kernel) hok (Nat.le_of_ble_eq_true rfl) (fun E _ C hR => w_Socks_add C hR hf)
set_option maxRecDepth 4000 in
theorem w_Top_body {E : Ev} {g : Gx} {r : Int32} {σ' : St} (C : Cx E classes 2 (wC g) b_Top_body "WithTheReds" 3) (hR : RetI E classes 2 (wC g) b_Top_body r σ') {σ : St} {a1 : Int32} (hf : f_Top_body σ a1 = some (r, σ')) : V E classes 2 (wC g) σ 0 [(0, .ref (g.2.1 0)), (1, .int a1)] [] := by
  unfold f_Top_body at hf
  refine V_iload_n C 1 d_Top_body_0 rfl ?_
  refine V_iconst (v := 0) C d_Top_body_1 (by decide) ?_
  refine V_bipush (v := 7) C d_Top_body_2 (by decide) ?_
  obtain ⟨r4_1, hg, hf⟩ := bd hf
  refine V_callSi C [.int a1, .int (0 : Int32), .int (7 : Int32)] (c_Top_within C.2.2.2.2.2.2.2.1 hg) (by decide) cw_Top_108 rfl (Nat.le_of_ble_eq_true rfl) rfl d_Top_body_4 ?_
  refine V_if_ne (pc := 7) (tgt := 12) C d_Top_body_7 (by decide) hf (fun hf => ?_) (fun hf => ?_)
  · refine V_aload_n C 0 d_Top_body_12 rfl ?_
    refine gC_Top_socks C fl_Top_81 d_Top_body_13 ?_
    obtain ⟨r16_2, hg, hf⟩ := bd hf
    refine V_callVi C [] (c_Socks_isFull C.2.2.2.2.2.2.2.1 hg) (by decide) cw_Top_334 32 rfl rfl rfl rfl (Nat.le_of_ble_eq_true rfl) rfl d_Top_body_16 ?_
    refine V_if_eq (pc := 19) (tgt := 27) C d_Top_body_19 (by decide) hf (fun hf => ?_) (fun hf => ?_)
    · refine V_aload_n C 0 d_Top_body_27 rfl ?_
      refine gC_Top_socks C fl_Top_81 d_Top_body_28 ?_
      refine V_iload_n C 1 d_Top_body_31 rfl ?_
      obtain ⟨r32_3, σ32_3, hg, hf⟩ := bd2_of hf
      refine V_callVi C [.int a1] (c_Socks_add C.2.2.2.2.2.2.2.1 hg) (by decide) cw_Top_335 32 rfl rfl rfl rfl (Nat.le_of_ble_eq_true rfl) rfl d_Top_body_32 ?_
      exact V_iretW hR hf d_Top_body_35
    · refine V_bipush (v := -3) C d_Top_body_22 (by decide) ?_
      refine V_goto (pc := 24) (tgt := 35) C d_Top_body_24 (by decide) ?_
      exact V_iretW hR hf d_Top_body_35
  · refine V_iconst (v := -1) C d_Top_body_10 (by decide) ?_
    exact V_iretW hR hf d_Top_body_11
theorem c_Top_body {l : Launch} {g : Gx} (hok : Wok classes (wC g)) {σ : St} {a1 : Int32} {r : Int32} {σ' : St} (hf : f_Top_body σ a1 = some (r, σ')) : CtI classes l y_Top_body b_Top_body 2 (some .int) 3 (wC g) [.ref (g.2.1 0), .int a1] σ r σ' :=
  MetI (by decide +kernel) hok (Nat.le_of_ble_eq_true rfl) (fun E _ C hR => w_Top_body C hR hf)
set_option maxRecDepth 4000 in
theorem w_Top_isHeatAndTint {E : Ev} {g : Gx} {r : Int32} {σ : St} (C : Cx E classes 1 (wC g) b_Top_isHeatAndTint "WithTheReds" 3) (hR : RetZ E classes 1 (wC g) b_Top_isHeatAndTint r σ) {a0 : Int32} (hf : f_Top_isHeatAndTint a0 = some r) : V E classes 1 (wC g) σ 0 [(0, .int a0)] [] := by
  unfold f_Top_isHeatAndTint at hf
  refine V_iload_n C 0 d_Top_isHeatAndTint_0 rfl ?_
  refine V_bipush (v := 100) C d_Top_isHeatAndTint_1 (by decide) ?_
  refine V_idiv C d_Top_isHeatAndTint_3 (by decide) ?_
  obtain ⟨r4_1, hg, hf⟩ := bd hf
  refine V_callSi C [.int (a0 / (100 : Int32))] (c_Top_isHeat C.2.2.2.2.2.2.2.1 hg) (by decide) cw_Top_154 rfl (Nat.le_of_ble_eq_true rfl) rfl d_Top_isHeatAndTint_4 ?_
  obtain ⟨hz, hf⟩ := gu hf
  exact V_zret hR hf hz d_Top_isHeatAndTint_7
theorem c_Top_isHeatAndTint {l : Launch} {g : Gx} (hok : Wok classes (wC g)) {σ : St} {a0 : Int32} {r : Int32} (hf : f_Top_isHeatAndTint a0 = some r) : CtI classes l y_Top_isHeatAndTint b_Top_isHeatAndTint 1 (some .boolean) 3 (wC g) [.int a0] σ r σ :=
  MetZ (by decide +kernel) hok (Nat.le_of_ble_eq_true rfl) (fun E _ C hR => w_Top_isHeatAndTint C hR hf)
set_option maxRecDepth 4000 in
theorem w_Top_isSet {E : Ev} {g : Gx} {r : Int32} {σ : St} (C : Cx E classes 2 (wC g) b_Top_isSet "WithTheReds" 1) (hR : RetZ E classes 2 (wC g) b_Top_isSet r σ) {a1 : Int32} (hf : f_Top_isSet σ a1 = some r) : V E classes 2 (wC g) σ 0 [(0, .ref (g.2.1 0)), (1, .int a1)] [] := by
  unfold f_Top_isSet at hf
  refine V_iload_n C 1 d_Top_isSet_0 rfl ?_
  refine V_aload_n C 0 d_Top_isSet_1 rfl ?_
  refine gC_Top_basket C fl_Top_10 d_Top_isSet_2 ?_
  refine gC_Basket_things (v := σ.1 103) C fl_Top_198 rfl d_Top_isSet_5 ?_
  refine V_iushr C d_Top_isSet_8 ?_
  refine V_if_ne (pc := 9) (tgt := 16) C d_Top_isSet_9 (by decide) hf (fun hf => ?_) (fun hf => ?_)
  · refine V_iconst (v := 0) C d_Top_isSet_16 (by decide) ?_
    exact V_zret hR hf rfl d_Top_isSet_17
  · refine V_iconst (v := 1) C d_Top_isSet_12 (by decide) ?_
    refine V_goto (pc := 13) (tgt := 17) C d_Top_isSet_13 (by decide) ?_
    exact V_zret hR hf rfl d_Top_isSet_17
theorem c_Top_isSet {l : Launch} {g : Gx} (hok : Wok classes (wC g)) {σ : St} {a1 : Int32} {r : Int32} (hf : f_Top_isSet σ a1 = some r) : CtI classes l y_Top_isSet b_Top_isSet 2 (some .boolean) 1 (wC g) [.ref (g.2.1 0), .int a1] σ r σ :=
  MetZ (by decide +kernel) hok (Nat.le_of_ble_eq_true rfl) (fun E _ C hR => w_Top_isSet C hR hf)
set_option maxRecDepth 4000 in
theorem w_Basket_toldOfHouse {E : Ev} {g : Gx} {r : Int32} {σ : St} (C : Cx E classes 3 (wC g) b_Basket_toldOfHouse "WithTheReds$Basket" 1) (hR : RetI E classes 3 (wC g) b_Basket_toldOfHouse r σ) {a1 : Int32} (hf : f_Basket_toldOfHouse σ a1 = some r) : V E classes 3 (wC g) σ 0 [(0, .ref (g.2.1 1)), (1, .int a1)] [] := by
  unfold f_Basket_toldOfHouse at hf
  refine V_bipush (v := 80) C d_Basket_toldOfHouse_0 (by decide) ?_
  refine V_iload_n C 1 d_Basket_toldOfHouse_2 rfl ?_
  refine V_iadd C d_Basket_toldOfHouse_3 ?_
  refine V_bipush (v := 8) C d_Basket_toldOfHouse_4 (by decide) ?_
  refine V_isub C d_Basket_toldOfHouse_6 ?_
  refine V_istore_n C d_Basket_toldOfHouse_7 (by decide) rfl ?_
  refine V_iload_n C 0 d_Basket_toldOfHouse_8 rfl ?_
  refine V_bipush (v := 80) C d_Basket_toldOfHouse_9 (by decide) ?_
  refine V_icmp_lt (pc := 11) (tgt := 32) C d_Basket_toldOfHouse_11 (by decide) hf (fun hf => ?_) (fun hf => ?_)
  · refine V_iconst (v := 0) C d_Basket_toldOfHouse_32 (by decide) ?_
    exact V_iret hR hf d_Basket_toldOfHouse_33
  · refine V_iload_n C 0 d_Basket_toldOfHouse_14 rfl ?_
    refine V_aload_n C 1 d_Basket_toldOfHouse_15 rfl ?_
    refine gC_Basket_numbers C fl_Basket_11 d_Basket_toldOfHouse_16 ?_
    refine nC_2 C d_Basket_toldOfHouse_19 ?_
    refine V_icmp_ge (pc := 20) (tgt := 32) C d_Basket_toldOfHouse_20 (by decide) hf (fun hf => ?_) (fun hf => ?_)
    · refine V_iconst (v := 0) C d_Basket_toldOfHouse_32 (by decide) ?_
      exact V_iret hR hf d_Basket_toldOfHouse_33
    · refine V_aload_n C 1 d_Basket_toldOfHouse_23 rfl ?_
      refine gC_Basket_numbers C fl_Basket_11 d_Basket_toldOfHouse_24 ?_
      refine V_iload_n C 0 d_Basket_toldOfHouse_27 rfl ?_
      obtain ⟨hi28_1, hf⟩ := gu hf
      refine aC_2 (v := σ.2.1 2 (((80 : Int32) + a1) - (8 : Int32)).toNatClampNeg) C hi28_1 rfl d_Basket_toldOfHouse_28 ?_
      refine V_goto (pc := 29) (tgt := 33) C d_Basket_toldOfHouse_29 (by decide) ?_
      exact V_iret hR hf d_Basket_toldOfHouse_33
theorem c_Basket_toldOfHouse {l : Launch} {g : Gx} (hok : Wok classes (wC g)) {σ : St} {a1 : Int32} {r : Int32} (hf : f_Basket_toldOfHouse σ a1 = some r) : CtI classes l y_Basket_toldOfHouse b_Basket_toldOfHouse 3 (some .int) 1 (wC g) [.ref (g.2.1 1), .int a1] σ r σ :=
  MetI (by decide +kernel) hok (Nat.le_of_ble_eq_true rfl) (fun E _ C hR => w_Basket_toldOfHouse C hR hf)
set_option maxRecDepth 4000 in
theorem w_Tub_caughtBy {E : Ev} {g : Gx} {r : Int32} {σ : St} (C : Cx E classes 2 (wC g) b_Tub_caughtBy "WithTheReds$Tub" 2) (hR : RetI E classes 2 (wC g) b_Tub_caughtBy r σ) {a1 : Int32} (hf : f_Tub_caughtBy σ a1 = some r) : V E classes 2 (wC g) σ 0 [(0, .ref (g.2.1 39)), (1, .int a1)] [] := by
  unfold f_Tub_caughtBy at hf
  refine V_iload_n C 1 d_Tub_caughtBy_0 rfl ?_
  refine V_aload_n C 0 d_Tub_caughtBy_1 rfl ?_
  refine gC_Tub_basket C fl_Tub_19 d_Tub_caughtBy_2 ?_
  refine V_bipush (v := 9) C d_Tub_caughtBy_5 (by decide) ?_
  obtain ⟨r7_1, hg, hf⟩ := bd hf
  refine V_callVi C [.int (9 : Int32)] (c_Basket_toldOfHouse C.2.2.2.2.2.2.2.1 hg) (by decide) cw_Tub_78 1 rfl rfl rfl rfl (Nat.le_of_ble_eq_true rfl) rfl d_Tub_caughtBy_7 ?_
  refine V_imul C d_Tub_caughtBy_10 ?_
  exact V_iret hR hf d_Tub_caughtBy_11
theorem c_Tub_caughtBy {l : Launch} {g : Gx} (hok : Wok classes (wC g)) {σ : St} {a1 : Int32} {r : Int32} (hf : f_Tub_caughtBy σ a1 = some r) : CtI classes l y_Tub_caughtBy b_Tub_caughtBy 2 (some .int) 2 (wC g) [.ref (g.2.1 39), .int a1] σ r σ :=
  MetI (by decide +kernel) hok (Nat.le_of_ble_eq_true rfl) (fun E _ C hR => w_Tub_caughtBy C hR hf)
set_option maxRecDepth 4000 in
theorem w_Top_isOf {E : Ev} {g : Gx} {r : Int32} {σ : St} (C : Cx E classes 2 (wC g) b_Top_isOf "WithTheReds" 2) (hR : RetZ E classes 2 (wC g) b_Top_isOf r σ) {a0 : Int32} {a1 : Int32} (hf : f_Top_isOf a0 a1 = some r) : V E classes 2 (wC g) σ 0 [(0, .int a0), (1, .int a1)] [] := by
  unfold f_Top_isOf at hf
  refine V_iload_n C 1 d_Top_isOf_0 rfl ?_
  refine V_iconst (v := 0) C d_Top_isOf_1 (by decide) ?_
  refine V_bipush (v := 9) C d_Top_isOf_2 (by decide) ?_
  obtain ⟨r4_1, hg, hf⟩ := bd hf
  refine V_callSi C [.int a1, .int (0 : Int32), .int (9 : Int32)] (c_Top_within C.2.2.2.2.2.2.2.1 hg) (by decide) cw_Top_108 rfl (Nat.le_of_ble_eq_true rfl) rfl d_Top_isOf_4 ?_
  refine V_if_eq (pc := 7) (tgt := 23) C d_Top_isOf_7 (by decide) hf (fun hf => ?_) (fun hf => ?_)
  · refine V_iconst (v := 0) C d_Top_isOf_23 (by decide) ?_
    exact V_zret hR hf rfl d_Top_isOf_24
  · refine V_iload_n C 0 d_Top_isOf_10 rfl ?_
    refine V_iload_n C 1 d_Top_isOf_11 rfl ?_
    refine V_iushr C d_Top_isOf_12 ?_
    refine V_iconst (v := 1) C d_Top_isOf_13 (by decide) ?_
    refine V_iand C d_Top_isOf_14 ?_
    refine V_iconst (v := 1) C d_Top_isOf_15 (by decide) ?_
    refine V_icmp_ne (pc := 16) (tgt := 23) C d_Top_isOf_16 (by decide) hf (fun hf => ?_) (fun hf => ?_)
    · refine V_iconst (v := 0) C d_Top_isOf_23 (by decide) ?_
      exact V_zret hR hf rfl d_Top_isOf_24
    · refine V_iconst (v := 1) C d_Top_isOf_19 (by decide) ?_
      refine V_goto (pc := 20) (tgt := 24) C d_Top_isOf_20 (by decide) ?_
      exact V_zret hR hf rfl d_Top_isOf_24
theorem c_Top_isOf {l : Launch} {g : Gx} (hok : Wok classes (wC g)) {σ : St} {a0 : Int32} {a1 : Int32} {r : Int32} (hf : f_Top_isOf a0 a1 = some r) : CtI classes l y_Top_isOf b_Top_isOf 2 (some .boolean) 2 (wC g) [.int a0, .int a1] σ r σ :=
  MetZ (by decide +kernel) hok (Nat.le_of_ble_eq_true rfl) (fun E _ C hR => w_Top_isOf C hR hf)
set_option maxRecDepth 4000 in
theorem w_Tub_fill_10 {E : Ev} {g : Gx} {σ' : St} (C : Cx E classes 5 (wC g) b_Tub_fill "WithTheReds$Tub" 3) (hR : RetV E classes 5 (wC g) b_Tub_fill σ') : ∀ (n : Nat) (σ : St) (x1 : Int32) (x2 : Int32) (x3 : Int32) (x4 : Int32), f_Tub_fill_10 n σ x1 x2 x3 x4 = some σ' → V E classes 5 (wC g) σ 10 [(0, .ref (g.2.1 39)), (1, .int x1), (2, .int x2), (3, .int x3), (4, .int x4)] [] := by
  intro n
  induction n with
  | zero => intro σ x1 x2 x3 x4 hf; exact absurd hf (by unfold f_Tub_fill_10; exact nofun)
  | succ n ih =>
    intro σ x1 x2 x3 x4 hf
    unfold f_Tub_fill_10 at hf
    refine V_iload C 4 d_Tub_fill_10 rfl ?_
    refine V_aload_n C 0 d_Tub_fill_12 rfl ?_
    refine gC_Tub_basket C fl_Tub_19 d_Tub_fill_13 ?_
    refine gC_Basket_things (v := σ.1 103) C fl_Tub_59 rfl d_Tub_fill_16 ?_
    refine V_icmp_ge (pc := 19) (tgt := 51) C d_Tub_fill_19 (by decide) hf (fun hf => ?_) (fun hf => ?_)
    · refine V_aload_n C 0 d_Tub_fill_51 rfl ?_
      refine V_iconst (v := 0) C d_Tub_fill_52 (by decide) ?_
      refine V_iload_n C 3 d_Tub_fill_53 rfl ?_
      refine V_iload_n C 2 d_Tub_fill_54 rfl ?_
      refine V_isub C d_Tub_fill_55 ?_
      refine V_max C ml_Tub_43 (by decide) (Nat.le_of_ble_eq_true rfl) d_Tub_fill_56 ?_
      refine pC_Tub_loose C fl_Tub_88 d_Tub_fill_59 ?_
      exact V_vret hR hf d_Tub_fill_62
    · refine V_iload_n C 3 d_Tub_fill_22 rfl ?_
      refine V_iload_n C 1 d_Tub_fill_23 rfl ?_
      refine V_iload C 4 d_Tub_fill_24 rfl ?_
      obtain ⟨r26_1, hg, hf⟩ := bd hf
      refine V_callNi C [.int x1, .int x4] (c_Top_isOf C.2.2.2.2.2.2.2.1 hg) (by decide) cw_Tub_84 nw_Tub_84 rfl (Nat.le_of_ble_eq_true rfl) rfl d_Tub_fill_26 ?_
      refine V_if_eq (pc := 29) (tgt := 42) C d_Tub_fill_29 (by decide) hf (fun hf => ?_) (fun hf => ?_)
      · refine V_iconst (v := 0) C d_Tub_fill_42 (by decide) ?_
        refine V_iadd C d_Tub_fill_43 ?_
        refine V_istore_n C d_Tub_fill_44 (by decide) rfl ?_
        refine V_iinc (v := x4 + (1 : Int32)) C 4 d_Tub_fill_45 rfl rfl (by decide) rfl ?_
        refine V_goto (pc := 48) (tgt := 10) C d_Tub_fill_48 (by decide) ?_
        refine V.sub [2, 3, 4, 1, 0] rfl ?_
        exact ih σ x1 x2 (x3 + (0 : Int32)) (x4 + (1 : Int32)) hf
      · refine V_aload_n C 0 d_Tub_fill_32 rfl ?_
        refine gC_Tub_given C fl_Tub_9 d_Tub_fill_33 ?_
        refine V_iload C 4 d_Tub_fill_36 rfl ?_
        obtain ⟨hi38_2, hf⟩ := gu hf
        refine aC_40 (v := σ.2.1 40 x4.toNatClampNeg) C hi38_2 rfl d_Tub_fill_38 ?_
        refine V_goto (pc := 39) (tgt := 43) C d_Tub_fill_39 (by decide) ?_
        refine V_iadd C d_Tub_fill_43 ?_
        refine V_istore_n C d_Tub_fill_44 (by decide) rfl ?_
        refine V_iinc (v := x4 + (1 : Int32)) C 4 d_Tub_fill_45 rfl rfl (by decide) rfl ?_
        refine V_goto (pc := 48) (tgt := 10) C d_Tub_fill_48 (by decide) ?_
        refine V.sub [2, 3, 4, 1, 0] rfl ?_
        exact ih σ x1 x2 (x3 + (σ.2.1 40 x4.toNatClampNeg)) (x4 + (1 : Int32)) hf
set_option maxRecDepth 4000 in
theorem w_Tub_fill {E : Ev} {g : Gx} {σ' : St} (C : Cx E classes 5 (wC g) b_Tub_fill "WithTheReds$Tub" 3) (hR : RetV E classes 5 (wC g) b_Tub_fill σ') {σ : St} {a1 : Int32} {a2 : Int32} (hf : f_Tub_fill σ a1 a2 = some σ') : V E classes 5 (wC g) σ 0 [(0, .ref (g.2.1 39)), (1, .int a1), (2, .int a2)] [] := by
  unfold f_Tub_fill at hf
  refine V_aload_n C 0 d_Tub_fill_0 rfl ?_
  refine V_iload_n C 1 d_Tub_fill_1 rfl ?_
  refine pC_Tub_set C fl_Tub_81 d_Tub_fill_2 ?_
  refine V_iconst (v := 0) C d_Tub_fill_5 (by decide) ?_
  refine V_istore_n C d_Tub_fill_6 (by decide) rfl ?_
  refine V_iconst (v := 0) C d_Tub_fill_7 (by decide) ?_
  refine V_istore C d_Tub_fill_8 (by decide) rfl ?_
  refine V.sub [2, 3, 4, 1, 0] rfl ?_
  exact w_Tub_fill_10 C hR FU (upI σ 3904 a1) a1 a2 (0 : Int32) (0 : Int32) hf
theorem c_Tub_fill {l : Launch} {g : Gx} (hok : Wok classes (wC g)) {σ : St} {a1 : Int32} {a2 : Int32} {σ' : St} (hf : f_Tub_fill σ a1 a2 = some σ') : CtV classes l y_Tub_fill b_Tub_fill 5 none 3 (wC g) [.ref (g.2.1 39), .int a1, .int a2] σ σ' :=
  MetV (by decide +kernel) hok (Nat.le_of_ble_eq_true rfl) (fun E _ C hR => w_Tub_fill C hR hf)
set_option maxRecDepth 4000 in
theorem w_Tub_mayGo_4 {E : Ev} {g : Gx} {r : Int32} {σ : St} (C : Cx E classes 4 (wC g) b_Tub_mayGo "WithTheReds$Tub" 3) (hR : RetZ E classes 4 (wC g) b_Tub_mayGo r σ) : ∀ (n : Nat) (x1 : Int32) (x2 : Int32) (x3 : Int32), f_Tub_mayGo_4 n σ x1 x2 x3 = some r → V E classes 4 (wC g) σ 4 [(0, .ref (g.2.1 39)), (1, .int x1), (2, .int x2), (3, .int x3)] [] := by
  intro n
  induction n with
  | zero => intro x1 x2 x3 hf; exact absurd hf (by unfold f_Tub_mayGo_4; exact nofun)
  | succ n ih =>
    intro x1 x2 x3 hf
    unfold f_Tub_mayGo_4 at hf
    refine V_iload_n C 3 d_Tub_mayGo_4 rfl ?_
    refine V_aload_n C 0 d_Tub_mayGo_5 rfl ?_
    refine gC_Tub_basket C fl_Tub_19 d_Tub_mayGo_6 ?_
    refine gC_Basket_things (v := σ.1 103) C fl_Tub_59 rfl d_Tub_mayGo_9 ?_
    refine V_icmp_ge (pc := 12) (tgt := 55) C d_Tub_mayGo_12 (by decide) hf (fun hf => ?_) (fun hf => ?_)
    · refine V_iload_n C 2 d_Tub_mayGo_55 rfl ?_
      refine V_aload_n C 0 d_Tub_mayGo_56 rfl ?_
      refine gC_Tub_basket C fl_Tub_19 d_Tub_mayGo_57 ?_
      refine V_bipush (v := 8) C d_Tub_mayGo_60 (by decide) ?_
      obtain ⟨r62_1, hg, hf⟩ := bd hf
      refine V_callVi C [.int (8 : Int32)] (c_Basket_toldOfHouse C.2.2.2.2.2.2.2.1 hg) (by decide) cw_Tub_78 1 rfl rfl rfl rfl (Nat.le_of_ble_eq_true rfl) rfl d_Tub_mayGo_62 ?_
      refine V_icmp_gt (pc := 65) (tgt := 72) C d_Tub_mayGo_65 (by decide) hf (fun hf => ?_) (fun hf => ?_)
      · refine V_iconst (v := 0) C d_Tub_mayGo_72 (by decide) ?_
        exact V_zret hR hf rfl d_Tub_mayGo_73
      · refine V_iconst (v := 1) C d_Tub_mayGo_68 (by decide) ?_
        refine V_goto (pc := 69) (tgt := 73) C d_Tub_mayGo_69 (by decide) ?_
        exact V_zret hR hf rfl d_Tub_mayGo_73
    · refine V_iload_n C 1 d_Tub_mayGo_15 rfl ?_
      refine V_iload_n C 3 d_Tub_mayGo_16 rfl ?_
      obtain ⟨r17_2, hg, hf⟩ := bd hf
      refine V_callNi C [.int x1, .int x3] (c_Top_isOf C.2.2.2.2.2.2.2.1 hg) (by decide) cw_Tub_84 nw_Tub_84 rfl (Nat.le_of_ble_eq_true rfl) rfl d_Tub_mayGo_17 ?_
      refine V_if_eq (pc := 20) (tgt := 49) C d_Tub_mayGo_20 (by decide) hf (fun hf => ?_) (fun hf => ?_)
      · refine V_iinc (v := x3 + (1 : Int32)) C 3 d_Tub_mayGo_49 rfl rfl (by decide) rfl ?_
        refine V_goto (pc := 52) (tgt := 4) C d_Tub_mayGo_52 (by decide) ?_
        refine V.sub [1, 2, 3, 0] rfl ?_
        exact ih x1 x2 (x3 + (1 : Int32)) hf
      · refine V_aload_n C 0 d_Tub_mayGo_23 rfl ?_
        refine gC_Tub_basket C fl_Tub_19 d_Tub_mayGo_24 ?_
        refine gC_Basket_gone C fl_Tub_97 d_Tub_mayGo_27 ?_
        refine V_iload_n C 3 d_Tub_mayGo_30 rfl ?_
        obtain ⟨hi31_3, hf⟩ := gu hf
        refine aC_4 (v := σ.2.1 4 x3.toNatClampNeg) C hi31_3 rfl d_Tub_mayGo_31 ?_
        refine V_if_eq (pc := 32) (tgt := 37) C d_Tub_mayGo_32 (by decide) hf (fun hf => ?_) (fun hf => ?_)
        · refine V_iload_n C 2 d_Tub_mayGo_37 rfl ?_
          refine V_aload_n C 0 d_Tub_mayGo_38 rfl ?_
          refine gC_Tub_basket C fl_Tub_19 d_Tub_mayGo_39 ?_
          refine V_iload_n C 3 d_Tub_mayGo_42 rfl ?_
          refine V_iconst (v := 4) C d_Tub_mayGo_43 (by decide) ?_
          obtain ⟨r44_4, hg, hf⟩ := bd hf
          refine V_callVi C [.int x3, .int (4 : Int32)] (c_Basket_told C.2.2.2.2.2.2.2.1 hg) (by decide) cw_Tub_29 1 rfl rfl rfl rfl (Nat.le_of_ble_eq_true rfl) rfl d_Tub_mayGo_44 ?_
          refine V_iadd C d_Tub_mayGo_47 ?_
          refine V_istore_n C d_Tub_mayGo_48 (by decide) rfl ?_
          refine V_iinc (v := x3 + (1 : Int32)) C 3 d_Tub_mayGo_49 rfl rfl (by decide) rfl ?_
          refine V_goto (pc := 52) (tgt := 4) C d_Tub_mayGo_52 (by decide) ?_
          refine V.sub [2, 3, 1, 0] rfl ?_
          exact ih x1 (x2 + r44_4) (x3 + (1 : Int32)) hf
        · refine V_iconst (v := 0) C d_Tub_mayGo_35 (by decide) ?_
          exact V_zret hR hf rfl d_Tub_mayGo_36
set_option maxRecDepth 4000 in
theorem w_Tub_mayGo {E : Ev} {g : Gx} {r : Int32} {σ : St} (C : Cx E classes 4 (wC g) b_Tub_mayGo "WithTheReds$Tub" 3) (hR : RetZ E classes 4 (wC g) b_Tub_mayGo r σ) {a1 : Int32} (hf : f_Tub_mayGo σ a1 = some r) : V E classes 4 (wC g) σ 0 [(0, .ref (g.2.1 39)), (1, .int a1)] [] := by
  unfold f_Tub_mayGo at hf
  refine V_iconst (v := 0) C d_Tub_mayGo_0 (by decide) ?_
  refine V_istore_n C d_Tub_mayGo_1 (by decide) rfl ?_
  refine V_iconst (v := 0) C d_Tub_mayGo_2 (by decide) ?_
  refine V_istore_n C d_Tub_mayGo_3 (by decide) rfl ?_
  refine V.sub [2, 3, 1, 0] rfl ?_
  exact w_Tub_mayGo_4 C hR FU a1 (0 : Int32) (0 : Int32) hf
theorem c_Tub_mayGo {l : Launch} {g : Gx} (hok : Wok classes (wC g)) {σ : St} {a1 : Int32} {r : Int32} (hf : f_Tub_mayGo σ a1 = some r) : CtI classes l y_Tub_mayGo b_Tub_mayGo 4 (some .boolean) 3 (wC g) [.ref (g.2.1 39), .int a1] σ r σ :=
  MetZ (by decide +kernel) hok (Nat.le_of_ble_eq_true rfl) (fun E _ C hR => w_Tub_mayGo C hR hf)
set_option maxRecDepth 4000 in
theorem w_Tub_goes {E : Ev} {g : Gx} {r : Int32} {σ : St} (C : Cx E classes 1 (wC g) b_Tub_goes "WithTheReds$Tub" 4) (hR : RetZ E classes 1 (wC g) b_Tub_goes r σ) (hf : f_Tub_goes σ = some r) : V E classes 1 (wC g) σ 0 [(0, .ref (g.2.1 39))] [] := by
  unfold f_Tub_goes at hf
  refine V_aload_n C 0 d_Tub_goes_0 rfl ?_
  refine V_aload_n C 0 d_Tub_goes_1 rfl ?_
  refine gC_Tub_set (v := σ.1 3904) C fl_Tub_81 rfl d_Tub_goes_2 ?_
  obtain ⟨r5_1, hg, hf⟩ := bd hf
  refine V_callVi C [.int (σ.1 3904)] (c_Tub_mayGo C.2.2.2.2.2.2.2.1 hg) (by decide) cw_Tub_94 39 rfl rfl rfl rfl (Nat.le_of_ble_eq_true rfl) rfl d_Tub_goes_5 ?_
  obtain ⟨hz, hf⟩ := gu hf
  exact V_zret hR hf hz d_Tub_goes_8
theorem c_Tub_goes {l : Launch} {g : Gx} (hok : Wok classes (wC g)) {σ : St} {r : Int32} (hf : f_Tub_goes σ = some r) : CtI classes l y_Tub_goes b_Tub_goes 1 (some .boolean) 4 (wC g) [.ref (g.2.1 39)] σ r σ :=
  MetZ (by decide +kernel) hok (Nat.le_of_ble_eq_true rfl) (fun E _ C hR => w_Tub_goes C hR hf)
set_option maxRecDepth 4000 in
theorem w_Tub_spoilt_4 {E : Ev} {g : Gx} {r : Int32} {σ : St} (C : Cx E classes 3 (wC g) b_Tub_spoilt "WithTheReds$Tub" 3) (hR : RetI E classes 3 (wC g) b_Tub_spoilt r σ) : ∀ (n : Nat) (x1 : Int32) (x2 : Int32), f_Tub_spoilt_4 n σ x1 x2 = some r → V E classes 3 (wC g) σ 4 [(0, .ref (g.2.1 39)), (1, .int x1), (2, .int x2)] [] := by
  intro n
  induction n with
  | zero => intro x1 x2 hf; exact absurd hf (by unfold f_Tub_spoilt_4; exact nofun)
  | succ n ih =>
    intro x1 x2 hf
    unfold f_Tub_spoilt_4 at hf
    refine V_iload_n C 2 d_Tub_spoilt_4 rfl ?_
    refine V_aload_n C 0 d_Tub_spoilt_5 rfl ?_
    refine gC_Tub_basket C fl_Tub_19 d_Tub_spoilt_6 ?_
    refine gC_Basket_things (v := σ.1 103) C fl_Tub_59 rfl d_Tub_spoilt_9 ?_
    refine V_icmp_ge (pc := 12) (tgt := 54) C d_Tub_spoilt_12 (by decide) hf (fun hf => ?_) (fun hf => ?_)
    · refine V_iload_n C 1 d_Tub_spoilt_54 rfl ?_
      exact V_iret hR hf d_Tub_spoilt_55
    · refine V_aload_n C 0 d_Tub_spoilt_15 rfl ?_
      refine gC_Tub_set (v := σ.1 3904) C fl_Tub_81 rfl d_Tub_spoilt_16 ?_
      refine V_iload_n C 2 d_Tub_spoilt_19 rfl ?_
      obtain ⟨r20_1, hg, hf⟩ := bd hf
      refine V_callNi C [.int (σ.1 3904), .int x2] (c_Top_isOf C.2.2.2.2.2.2.2.1 hg) (by decide) cw_Tub_84 nw_Tub_84 rfl (Nat.le_of_ble_eq_true rfl) rfl d_Tub_spoilt_20 ?_
      refine V_if_eq (pc := 23) (tgt := 48) C d_Tub_spoilt_23 (by decide) hf (fun hf => ?_) (fun hf => ?_)
      · refine V_iinc (v := x2 + (1 : Int32)) C 2 d_Tub_spoilt_48 rfl rfl (by decide) rfl ?_
        refine V_goto (pc := 51) (tgt := 4) C d_Tub_spoilt_51 (by decide) ?_
        refine V.sub [1, 2, 0] rfl ?_
        exact ih x1 (x2 + (1 : Int32)) hf
      · refine V_aload_n C 0 d_Tub_spoilt_26 rfl ?_
        refine gC_Tub_heat (v := σ.1 3903) C fl_Tub_15 rfl d_Tub_spoilt_27 ?_
        refine V_aload_n C 0 d_Tub_spoilt_30 rfl ?_
        refine gC_Tub_basket C fl_Tub_19 d_Tub_spoilt_31 ?_
        refine V_iload_n C 2 d_Tub_spoilt_34 rfl ?_
        refine V_iconst (v := 3) C d_Tub_spoilt_35 (by decide) ?_
        obtain ⟨r36_2, hg, hf⟩ := bd hf
        refine V_callVi C [.int x2, .int (3 : Int32)] (c_Basket_told C.2.2.2.2.2.2.2.1 hg) (by decide) cw_Tub_29 1 rfl rfl rfl rfl (Nat.le_of_ble_eq_true rfl) rfl d_Tub_spoilt_36 ?_
        refine V_icmp_le (pc := 39) (tgt := 48) C d_Tub_spoilt_39 (by decide) hf (fun hf => ?_) (fun hf => ?_)
        · refine V_iinc (v := x2 + (1 : Int32)) C 2 d_Tub_spoilt_48 rfl rfl (by decide) rfl ?_
          refine V_goto (pc := 51) (tgt := 4) C d_Tub_spoilt_51 (by decide) ?_
          refine V.sub [1, 2, 0] rfl ?_
          exact ih x1 (x2 + (1 : Int32)) hf
        · refine V_iload_n C 1 d_Tub_spoilt_42 rfl ?_
          refine V_iconst (v := 1) C d_Tub_spoilt_43 (by decide) ?_
          refine V_iload_n C 2 d_Tub_spoilt_44 rfl ?_
          refine V_ishl C d_Tub_spoilt_45 ?_
          refine V_ior C d_Tub_spoilt_46 ?_
          refine V_istore_n C d_Tub_spoilt_47 (by decide) rfl ?_
          refine V_iinc (v := x2 + (1 : Int32)) C 2 d_Tub_spoilt_48 rfl rfl (by decide) rfl ?_
          refine V_goto (pc := 51) (tgt := 4) C d_Tub_spoilt_51 (by decide) ?_
          refine V.sub [2, 1, 0] rfl ?_
          exact ih (x1 ||| ((1 : Int32) <<< (x2 &&& 31))) (x2 + (1 : Int32)) hf
set_option maxRecDepth 4000 in
theorem w_Tub_spoilt {E : Ev} {g : Gx} {r : Int32} {σ : St} (C : Cx E classes 3 (wC g) b_Tub_spoilt "WithTheReds$Tub" 3) (hR : RetI E classes 3 (wC g) b_Tub_spoilt r σ) (hf : f_Tub_spoilt σ = some r) : V E classes 3 (wC g) σ 0 [(0, .ref (g.2.1 39))] [] := by
  unfold f_Tub_spoilt at hf
  refine V_iconst (v := 0) C d_Tub_spoilt_0 (by decide) ?_
  refine V_istore_n C d_Tub_spoilt_1 (by decide) rfl ?_
  refine V_iconst (v := 0) C d_Tub_spoilt_2 (by decide) ?_
  refine V_istore_n C d_Tub_spoilt_3 (by decide) rfl ?_
  refine V.sub [2, 1, 0] rfl ?_
  exact w_Tub_spoilt_4 C hR FU (0 : Int32) (0 : Int32) hf
theorem c_Tub_spoilt {l : Launch} {g : Gx} (hok : Wok classes (wC g)) {σ : St} {r : Int32} (hf : f_Tub_spoilt σ = some r) : CtI classes l y_Tub_spoilt b_Tub_spoilt 3 (some .int) 3 (wC g) [.ref (g.2.1 39)] σ r σ :=
  MetI (by decide +kernel) hok (Nat.le_of_ble_eq_true rfl) (fun E _ C hR => w_Tub_spoilt C hR hf)
set_option maxRecDepth 4000 in
theorem w_Tub_tintOf {E : Ev} {g : Gx} {r : Int32} {σ : St} (C : Cx E classes 3 (wC g) b_Tub_tintOf "WithTheReds$Tub" 3) (hR : RetI E classes 3 (wC g) b_Tub_tintOf r σ) {a1 : Int32} (hf : f_Tub_tintOf σ a1 = some r) : V E classes 3 (wC g) σ 0 [(0, .ref (g.2.1 39)), (1, .int a1)] [] := by
  unfold f_Tub_tintOf at hf
  refine V_aload_n C 0 d_Tub_tintOf_0 rfl ?_
  refine gC_Tub_basket C fl_Tub_19 d_Tub_tintOf_1 ?_
  refine V_iload_n C 1 d_Tub_tintOf_4 rfl ?_
  obtain ⟨r5_1, hg, hf⟩ := bd hf
  refine V_callVi C [.int a1] (c_Basket_isThing C.2.2.2.2.2.2.2.1 hg) (by decide) cw_Tub_62 1 rfl rfl rfl rfl (Nat.le_of_ble_eq_true rfl) rfl d_Tub_tintOf_5 ?_
  refine V_if_ne (pc := 8) (tgt := 13) C d_Tub_tintOf_8 (by decide) hf (fun hf => ?_) (fun hf => ?_)
  · refine V_iconst (v := 0) C d_Tub_tintOf_13 (by decide) ?_
    refine V_aload_n C 0 d_Tub_tintOf_14 rfl ?_
    refine gC_Tub_loose (v := σ.1 3905) C fl_Tub_88 rfl d_Tub_tintOf_15 ?_
    refine V_aload_n C 0 d_Tub_tintOf_18 rfl ?_
    refine gC_Tub_given C fl_Tub_9 d_Tub_tintOf_19 ?_
    refine V_iload_n C 1 d_Tub_tintOf_22 rfl ?_
    obtain ⟨hi23_2, hf⟩ := gu hf
    refine aC_40 (v := σ.2.1 40 a1.toNatClampNeg) C hi23_2 rfl d_Tub_tintOf_23 ?_
    refine V_isub C d_Tub_tintOf_24 ?_
    refine V_max C ml_Tub_43 (by decide) (Nat.le_of_ble_eq_true rfl) d_Tub_tintOf_25 ?_
    refine V_istore_n C d_Tub_tintOf_28 (by decide) rfl ?_
    refine V_aload_n C 1 d_Tub_tintOf_29 rfl ?_
    refine gC_Tub_basket C fl_Tub_19 d_Tub_tintOf_30 ?_
    refine V_iload_n C 2 d_Tub_tintOf_33 rfl ?_
    refine V_iconst (v := 0) C d_Tub_tintOf_34 (by decide) ?_
    obtain ⟨r35_3, hg, hf⟩ := bd hf
    refine V_callVi C [.int a1, .int (0 : Int32)] (c_Basket_told C.2.2.2.2.2.2.2.1 hg) (by decide) cw_Tub_29 1 rfl rfl rfl rfl (Nat.le_of_ble_eq_true rfl) rfl d_Tub_tintOf_35 ?_
    by_cases hc0 : r35_3 = 0
    · have hf := ite_t hf hc0
      refine V_tin (off := 26) (tgt := 64) C d_Tub_tintOf_38 (by rw [hc0]; decide) (by rw [hc0]; decide) (by rw [hc0]; decide) (by decide) ?_
      refine V_iload_n C 0 d_Tub_tintOf_64 rfl ?_
      exact V_iret hR hf d_Tub_tintOf_65
    have hf := ite_f hf hc0
    by_cases hc1 : r35_3 = 1
    · have hf := ite_t hf hc1
      refine V_tin (off := 28) (tgt := 66) C d_Tub_tintOf_38 (by rw [hc1]; decide) (by rw [hc1]; decide) (by rw [hc1]; decide) (by decide) ?_
      refine V_iload_n C 0 d_Tub_tintOf_66 rfl ?_
      refine V_iconst (v := 2) C d_Tub_tintOf_67 (by decide) ?_
      refine V_idiv C d_Tub_tintOf_68 (by decide) ?_
      exact V_iret hR hf d_Tub_tintOf_69
    have hf := ite_f hf hc1
    by_cases hc2 : r35_3 = 2
    · have hf := ite_t hf hc2
      refine V_tin (off := 32) (tgt := 70) C d_Tub_tintOf_38 (by rw [hc2]; decide) (by rw [hc2]; decide) (by rw [hc2]; decide) (by decide) ?_
      refine V_iload_n C 0 d_Tub_tintOf_70 rfl ?_
      refine V_bipush (v := 10) C d_Tub_tintOf_71 (by decide) ?_
      refine V_idiv C d_Tub_tintOf_73 (by decide) ?_
      exact V_iret hR hf d_Tub_tintOf_74
    have hf := ite_f hf hc2
    have hc0t := neT (k := 0) 0 (by decide) hc0
    have hc1t := neT (k := 1) 1 (by decide) hc1
    have hc2t := neT (k := 2) 2 (by decide) hc2
    refine V_tout (tgt := 75) C d_Tub_tintOf_38 (by omega) (by decide) ?_
    refine V_iconst (v := 0) C d_Tub_tintOf_75 (by decide) ?_
    exact V_iret hR hf d_Tub_tintOf_76
  · refine V_iconst (v := 0) C d_Tub_tintOf_11 (by decide) ?_
    exact V_iret hR hf d_Tub_tintOf_12
theorem c_Tub_tintOf {l : Launch} {g : Gx} (hok : Wok classes (wC g)) {σ : St} {a1 : Int32} {r : Int32} (hf : f_Tub_tintOf σ a1 = some r) : CtI classes l y_Tub_tintOf b_Tub_tintOf 3 (some .int) 3 (wC g) [.ref (g.2.1 39), .int a1] σ r σ :=
  MetI (by decide +kernel) hok (Nat.le_of_ble_eq_true rfl) (fun E _ C hR => w_Tub_tintOf C hR hf)
set_option maxRecDepth 4000 in
theorem w_Tub_isSafe_18 {E : Ev} {g : Gx} {r : Int32} {σ : St} (C : Cx E classes 3 (wC g) b_Tub_isSafe "WithTheReds$Tub" 5) (hR : RetZ E classes 3 (wC g) b_Tub_isSafe r σ) : ∀ (n : Nat) (x1 : Int32) (x2 : Int32), f_Tub_isSafe_18 n σ x1 x2 = some r → V E classes 3 (wC g) σ 18 [(0, .ref (g.2.1 39)), (1, .int x1), (2, .int x2)] [] := by
  intro n
  induction n with
  | zero => intro x1 x2 hf; exact absurd hf (by unfold f_Tub_isSafe_18; exact nofun)
  | succ n ih =>
    intro x1 x2 hf
    unfold f_Tub_isSafe_18 at hf
    refine V_iload_n C 2 d_Tub_isSafe_18 rfl ?_
    refine V_aload_n C 0 d_Tub_isSafe_19 rfl ?_
    refine gC_Tub_basket C fl_Tub_19 d_Tub_isSafe_20 ?_
    refine gC_Basket_things (v := σ.1 103) C fl_Tub_59 rfl d_Tub_isSafe_23 ?_
    refine V_icmp_ge (pc := 26) (tgt := 57) C d_Tub_isSafe_26 (by decide) hf (fun hf => ?_) (fun hf => ?_)
    · refine V_iconst (v := 1) C d_Tub_isSafe_57 (by decide) ?_
      exact V_zret hR hf rfl d_Tub_isSafe_58
    · refine V_aload_n C 0 d_Tub_isSafe_29 rfl ?_
      refine gC_Tub_set (v := σ.1 3904) C fl_Tub_81 rfl d_Tub_isSafe_30 ?_
      refine V_iload_n C 2 d_Tub_isSafe_33 rfl ?_
      obtain ⟨r34_1, hg, hf⟩ := bd hf
      refine V_callNi C [.int (σ.1 3904), .int x2] (c_Top_isOf C.2.2.2.2.2.2.2.1 hg) (by decide) cw_Tub_84 nw_Tub_84 rfl (Nat.le_of_ble_eq_true rfl) rfl d_Tub_isSafe_34 ?_
      refine V_if_eq (pc := 37) (tgt := 51) C d_Tub_isSafe_37 (by decide) hf (fun hf => ?_) (fun hf => ?_)
      · refine V_iinc (v := x2 + (1 : Int32)) C 2 d_Tub_isSafe_51 rfl rfl (by decide) rfl ?_
        refine V_goto (pc := 54) (tgt := 18) C d_Tub_isSafe_54 (by decide) ?_
        refine V.sub [1, 2, 0] rfl ?_
        exact ih x1 (x2 + (1 : Int32)) hf
      · refine V_aload_n C 0 d_Tub_isSafe_40 rfl ?_
        refine V_iload_n C 2 d_Tub_isSafe_41 rfl ?_
        obtain ⟨r42_2, hg, hf⟩ := bd hf
        refine V_callVi C [.int x2] (c_Tub_tintOf C.2.2.2.2.2.2.2.1 hg) (by decide) cw_Tub_91 39 rfl rfl rfl rfl (Nat.le_of_ble_eq_true rfl) rfl d_Tub_isSafe_42 ?_
        refine V_iload_n C 1 d_Tub_isSafe_45 rfl ?_
        refine V_icmp_le (pc := 46) (tgt := 51) C d_Tub_isSafe_46 (by decide) hf (fun hf => ?_) (fun hf => ?_)
        · refine V_iinc (v := x2 + (1 : Int32)) C 2 d_Tub_isSafe_51 rfl rfl (by decide) rfl ?_
          refine V_goto (pc := 54) (tgt := 18) C d_Tub_isSafe_54 (by decide) ?_
          refine V.sub [1, 2, 0] rfl ?_
          exact ih x1 (x2 + (1 : Int32)) hf
        · refine V_iconst (v := 0) C d_Tub_isSafe_49 (by decide) ?_
          exact V_zret hR hf rfl d_Tub_isSafe_50
set_option maxRecDepth 4000 in
theorem w_Tub_isSafe {E : Ev} {g : Gx} {r : Int32} {σ : St} (C : Cx E classes 3 (wC g) b_Tub_isSafe "WithTheReds$Tub" 5) (hR : RetZ E classes 3 (wC g) b_Tub_isSafe r σ) {a1 : Int32} (hf : f_Tub_isSafe σ a1 = some r) : V E classes 3 (wC g) σ 0 [(0, .ref (g.2.1 39)), (1, .int a1)] [] := by
  unfold f_Tub_isSafe at hf
  refine V_aload_n C 0 d_Tub_isSafe_0 rfl ?_
  obtain ⟨r1_1, hg, hf⟩ := bd hf
  refine V_callVi C [] (c_Tub_goes C.2.2.2.2.2.2.2.1 hg) (by decide) cw_Tub_101 39 rfl rfl rfl rfl (Nat.le_of_ble_eq_true rfl) rfl d_Tub_isSafe_1 ?_
  refine V_if_eq (pc := 4) (tgt := 14) C d_Tub_isSafe_4 (by decide) hf (fun hf => ?_) (fun hf => ?_)
  · refine V_iconst (v := 0) C d_Tub_isSafe_14 (by decide) ?_
    exact V_zret hR hf rfl d_Tub_isSafe_15
  · refine V_aload_n C 0 d_Tub_isSafe_7 rfl ?_
    obtain ⟨r8_2, hg, hf⟩ := bd hf
    refine V_callVi C [] (c_Tub_spoilt C.2.2.2.2.2.2.2.1 hg) (by decide) cw_Tub_104 39 rfl rfl rfl rfl (Nat.le_of_ble_eq_true rfl) rfl d_Tub_isSafe_8 ?_
    refine V_if_eq (pc := 11) (tgt := 16) C d_Tub_isSafe_11 (by decide) hf (fun hf => ?_) (fun hf => ?_)
    · refine V_iconst (v := 0) C d_Tub_isSafe_16 (by decide) ?_
      refine V_istore_n C d_Tub_isSafe_17 (by decide) rfl ?_
      refine V.sub [1, 2, 0] rfl ?_
      exact w_Tub_isSafe_18 C hR FU a1 (0 : Int32) hf
    · refine V_iconst (v := 0) C d_Tub_isSafe_14 (by decide) ?_
      exact V_zret hR hf rfl d_Tub_isSafe_15
theorem c_Tub_isSafe {l : Launch} {g : Gx} (hok : Wok classes (wC g)) {σ : St} {a1 : Int32} {r : Int32} (hf : f_Tub_isSafe σ a1 = some r) : CtI classes l y_Tub_isSafe b_Tub_isSafe 3 (some .boolean) 5 (wC g) [.ref (g.2.1 39), .int a1] σ r σ :=
  MetZ (by decide +kernel) hok (Nat.le_of_ble_eq_true rfl) (fun E _ C hR => w_Tub_isSafe C hR hf)
set_option maxRecDepth 4000 in
theorem w_Tub_warm_7 {E : Ev} {g : Gx} {σ' : St} (C : Cx E classes 3 (wC g) b_Tub_warm "WithTheReds$Tub" 5) (hR : RetV E classes 3 (wC g) b_Tub_warm σ') : ∀ (n : Nat) (σ : St) (x1 : Int32) (x2 : Int32), f_Tub_warm_7 n σ x1 x2 = some σ' → V E classes 3 (wC g) σ 7 [(0, .ref (g.2.1 39)), (1, .int x1), (2, .int x2)] [] := by
  intro n
  induction n with
  | zero => intro σ x1 x2 hf; exact absurd hf (by unfold f_Tub_warm_7; exact nofun)
  | succ n ih =>
    intro σ x1 x2 hf
    unfold f_Tub_warm_7 at hf
    refine V_iload_n C 2 d_Tub_warm_7 rfl ?_
    refine V_aload_n C 0 d_Tub_warm_8 rfl ?_
    refine gC_Tub_basket C fl_Tub_19 d_Tub_warm_9 ?_
    refine gC_Basket_things (v := σ.1 103) C fl_Tub_59 rfl d_Tub_warm_12 ?_
    refine V_icmp_ge (pc := 15) (tgt := 54) C d_Tub_warm_15 (by decide) hf (fun hf => ?_) (fun hf => ?_)
    · exact V_vret hR hf d_Tub_warm_54
    · refine V_aload_n C 0 d_Tub_warm_18 rfl ?_
      refine gC_Tub_given C fl_Tub_9 d_Tub_warm_19 ?_
      refine V_iload_n C 2 d_Tub_warm_22 rfl ?_
      refine V_aload_n C 0 d_Tub_warm_23 rfl ?_
      refine V_iload_n C 2 d_Tub_warm_24 rfl ?_
      refine V_aload_n C 0 d_Tub_warm_25 rfl ?_
      refine gC_Tub_basket C fl_Tub_19 d_Tub_warm_26 ?_
      refine V_iload_n C 2 d_Tub_warm_29 rfl ?_
      refine V_iconst (v := 1) C d_Tub_warm_30 (by decide) ?_
      obtain ⟨r31_1, hg, hf⟩ := bd hf
      refine V_callVi C [.int x2, .int (1 : Int32)] (c_Basket_told C.2.2.2.2.2.2.2.1 hg) (by decide) cw_Tub_29 1 rfl rfl rfl rfl (Nat.le_of_ble_eq_true rfl) rfl d_Tub_warm_31 ?_
      refine V_aload_n C 0 d_Tub_warm_34 rfl ?_
      refine gC_Tub_basket C fl_Tub_19 d_Tub_warm_35 ?_
      refine V_iload_n C 2 d_Tub_warm_38 rfl ?_
      refine V_iconst (v := 2) C d_Tub_warm_39 (by decide) ?_
      obtain ⟨r40_2, hg, hf⟩ := bd hf
      refine V_callVi C [.int x2, .int (2 : Int32)] (c_Basket_told C.2.2.2.2.2.2.2.1 hg) (by decide) cw_Tub_29 1 rfl rfl rfl rfl (Nat.le_of_ble_eq_true rfl) rfl d_Tub_warm_40 ?_
      refine V_iload_n C 1 d_Tub_warm_43 rfl ?_
      obtain ⟨r44_3, σ44_3, hg, hf⟩ := bd2_of hf
      refine V_callVi C [.int x2, .int r31_1, .int r40_2, .int x1] (c_Tub_dyeIf C.2.2.2.2.2.2.2.1 hg) (by decide) cw_Tub_33 39 rfl rfl rfl rfl (Nat.le_of_ble_eq_true rfl) rfl d_Tub_warm_44 ?_
      obtain ⟨hi47_4, hf⟩ := gu hf
      refine sC_40 C hi47_4 d_Tub_warm_47 ?_
      refine V_iinc (v := x2 + (1 : Int32)) C 2 d_Tub_warm_48 rfl rfl (by decide) rfl ?_
      refine V_goto (pc := 51) (tgt := 7) C d_Tub_warm_51 (by decide) ?_
      refine V.sub [1, 2, 0] rfl ?_
      exact ih (upA σ44_3 40 x2.toNatClampNeg r44_3) x1 (x2 + (1 : Int32)) hf
set_option maxRecDepth 4000 in
theorem w_Tub_warm {E : Ev} {g : Gx} {σ' : St} (C : Cx E classes 3 (wC g) b_Tub_warm "WithTheReds$Tub" 5) (hR : RetV E classes 3 (wC g) b_Tub_warm σ') {σ : St} {a1 : Int32} (hf : f_Tub_warm σ a1 = some σ') : V E classes 3 (wC g) σ 0 [(0, .ref (g.2.1 39)), (1, .int a1)] [] := by
  unfold f_Tub_warm at hf
  refine V_aload_n C 0 d_Tub_warm_0 rfl ?_
  refine V_iload_n C 1 d_Tub_warm_1 rfl ?_
  refine pC_Tub_heat C fl_Tub_15 d_Tub_warm_2 ?_
  refine V_iconst (v := 0) C d_Tub_warm_5 (by decide) ?_
  refine V_istore_n C d_Tub_warm_6 (by decide) rfl ?_
  refine V.sub [1, 2, 0] rfl ?_
  exact w_Tub_warm_7 C hR FU (upI σ 3903 a1) a1 (0 : Int32) hf
theorem c_Tub_warm {l : Launch} {g : Gx} (hok : Wok classes (wC g)) {σ : St} {a1 : Int32} {σ' : St} (hf : f_Tub_warm σ a1 = some σ') : CtV classes l y_Tub_warm b_Tub_warm 3 none 5 (wC g) [.ref (g.2.1 39), .int a1] σ σ' :=
  MetV (by decide +kernel) hok (Nat.le_of_ble_eq_true rfl) (fun E _ C hR => w_Tub_warm C hR hf)
set_option maxRecDepth 4000 in
theorem w_Top_cloths_30 {E : Ev} {g : Gx} {r : Int32} {σ' : St} (C : Cx E classes 4 (wC g) b_Top_cloths "WithTheReds" 6) (hR : RetI E classes 4 (wC g) b_Top_cloths r σ') : ∀ (n : Nat) (σ : St) (x1 : Int32) (x2 : Int32) (x3 : Int32), f_Top_cloths_30 n σ x1 x2 x3 = some (r, σ') → V E classes 4 (wC g) σ 30 [(0, .ref (g.2.1 0)), (1, .int x1), (2, .int x2), (3, .int x3)] [] := by
  intro n
  induction n with
  | zero => intro σ x1 x2 x3 hf; exact absurd hf (by unfold f_Top_cloths_30; exact nofun)
  | succ n ih =>
    intro σ x1 x2 x3 hf
    unfold f_Top_cloths_30 at hf
    refine V_iload_n C 3 d_Top_cloths_30 rfl ?_
    refine V_bipush (v := 9) C d_Top_cloths_31 (by decide) ?_
    refine V_icmp_gt (pc := 33) (tgt := 74) C d_Top_cloths_33 (by decide) hf (fun hf => ?_) (fun hf => ?_)
    · refine V_bipush (v := -2) C d_Top_cloths_74 (by decide) ?_
      exact V_iretW hR hf d_Top_cloths_76
    · refine V_aload_n C 0 d_Top_cloths_36 rfl ?_
      refine gC_Top_tub C fl_Top_35 d_Top_cloths_37 ?_
      refine V_iload_n C 1 d_Top_cloths_40 rfl ?_
      refine V_aload_n C 0 d_Top_cloths_41 rfl ?_
      refine gC_Top_tub C fl_Top_35 d_Top_cloths_42 ?_
      refine V_iload_n C 3 d_Top_cloths_45 rfl ?_
      obtain ⟨r46_1, hg, hf⟩ := bd hf
      refine V_callVi C [.int x3] (c_Tub_caughtBy C.2.2.2.2.2.2.2.1 hg) (by decide) cw_Top_204 39 rfl rfl rfl rfl (Nat.le_of_ble_eq_true rfl) rfl d_Top_cloths_46 ?_
      obtain ⟨σ49_2, hg, hf⟩ := bd hf
      refine V_callVv C [.int x1, .int r46_1] (c_Tub_fill C.2.2.2.2.2.2.2.1 hg) (by decide) cw_Top_201 39 rfl rfl rfl rfl (Nat.le_of_ble_eq_true rfl) rfl d_Top_cloths_49 ?_
      refine V_aload_n C 0 d_Top_cloths_52 rfl ?_
      refine gC_Top_tub C fl_Top_35 d_Top_cloths_53 ?_
      refine V_iload_n C 2 d_Top_cloths_56 rfl ?_
      refine V_bipush (v := 100) C d_Top_cloths_57 (by decide) ?_
      refine V_irem C d_Top_cloths_59 (by decide) ?_
      obtain ⟨r60_3, hg, hf⟩ := bd hf
      refine V_callVi C [.int (irem x2 (100 : Int32))] (c_Tub_isSafe C.2.2.2.2.2.2.2.1 hg) (by decide) cw_Top_188 39 rfl rfl rfl rfl (Nat.le_of_ble_eq_true rfl) rfl d_Top_cloths_60 ?_
      refine V_if_eq (pc := 63) (tgt := 68) C d_Top_cloths_63 (by decide) hf (fun hf => ?_) (fun hf => ?_)
      · refine V_iinc (v := x3 + (1 : Int32)) C 3 d_Top_cloths_68 rfl rfl (by decide) rfl ?_
        refine V_goto (pc := 71) (tgt := 30) C d_Top_cloths_71 (by decide) ?_
        refine V.sub [1, 2, 3, 0] rfl ?_
        exact ih σ49_2 x1 x2 (x3 + (1 : Int32)) hf
      · refine V_iload_n C 3 d_Top_cloths_66 rfl ?_
        exact V_iretW hR hf d_Top_cloths_67
set_option maxRecDepth 4000 in
theorem w_Top_cloths {E : Ev} {g : Gx} {r : Int32} {σ' : St} (C : Cx E classes 4 (wC g) b_Top_cloths "WithTheReds" 6) (hR : RetI E classes 4 (wC g) b_Top_cloths r σ') {σ : St} {a1 : Int32} {a2 : Int32} (hf : f_Top_cloths σ a1 a2 = some (r, σ')) : V E classes 4 (wC g) σ 0 [(0, .ref (g.2.1 0)), (1, .int a1), (2, .int a2)] [] := by
  unfold f_Top_cloths at hf
  refine V_aload_n C 0 d_Top_cloths_0 rfl ?_
  refine V_iload_n C 1 d_Top_cloths_1 rfl ?_
  obtain ⟨r2_1, hg, hf⟩ := bd hf
  refine V_callVi C [.int a1] (c_Top_isSet C.2.2.2.2.2.2.2.1 hg) (by decide) cw_Top_160 0 rfl rfl rfl rfl (Nat.le_of_ble_eq_true rfl) rfl d_Top_cloths_2 ?_
  refine V_if_eq (pc := 5) (tgt := 15) C d_Top_cloths_5 (by decide) hf (fun hf => ?_) (fun hf => ?_)
  · refine V_iconst (v := -1) C d_Top_cloths_15 (by decide) ?_
    exact V_iretW hR hf d_Top_cloths_16
  · refine V_iload_n C 2 d_Top_cloths_8 rfl ?_
    obtain ⟨r9_2, hg, hf⟩ := bd hf
    refine V_callSi C [.int a2] (c_Top_isHeatAndTint C.2.2.2.2.2.2.2.1 hg) (by decide) cw_Top_191 rfl (Nat.le_of_ble_eq_true rfl) rfl d_Top_cloths_9 ?_
    refine V_if_ne (pc := 12) (tgt := 17) C d_Top_cloths_12 (by decide) hf (fun hf => ?_) (fun hf => ?_)
    · refine V_aload_n C 0 d_Top_cloths_17 rfl ?_
      refine gC_Top_tub C fl_Top_35 d_Top_cloths_18 ?_
      refine V_iload_n C 2 d_Top_cloths_21 rfl ?_
      refine V_bipush (v := 100) C d_Top_cloths_22 (by decide) ?_
      refine V_idiv C d_Top_cloths_24 (by decide) ?_
      obtain ⟨σ25_3, hg, hf⟩ := bd hf
      refine V_callVv C [.int (a2 / (100 : Int32))] (c_Tub_warm C.2.2.2.2.2.2.2.1 hg) (by decide) cw_Top_194 39 rfl rfl rfl rfl (Nat.le_of_ble_eq_true rfl) rfl d_Top_cloths_25 ?_
      refine V_iconst (v := 0) C d_Top_cloths_28 (by decide) ?_
      refine V_istore_n C d_Top_cloths_29 (by decide) rfl ?_
      refine V.sub [1, 2, 3, 0] rfl ?_
      exact w_Top_cloths_30 C hR FU σ25_3 a1 a2 (0 : Int32) hf
    · refine V_iconst (v := -1) C d_Top_cloths_15 (by decide) ?_
      exact V_iretW hR hf d_Top_cloths_16
theorem c_Top_cloths {l : Launch} {g : Gx} (hok : Wok classes (wC g)) {σ : St} {a1 : Int32} {a2 : Int32} {r : Int32} {σ' : St} (hf : f_Top_cloths σ a1 a2 = some (r, σ')) : CtI classes l y_Top_cloths b_Top_cloths 4 (some .int) 6 (wC g) [.ref (g.2.1 0), .int a1, .int a2] σ r σ' :=
  MetI (by decide +kernel) hok (Nat.le_of_ble_eq_true rfl) (fun E _ C hR => w_Top_cloths C hR hf)
set_option maxRecDepth 4000 in
theorem w_Heaps_part_131 {E : Ev} {g : Gx} {σ' : St} {rec : St → Int32 → Int32 → Int32 → Option St} {D : Nat} (hD : 2 ≤ D) (hrec : ∀ {l : Launch} {σ : St} {a1 : Int32} {a2 : Int32} {a3 : Int32} {σ' : St}, rec σ a1 a2 a3 = some σ' → CtV classes l y_Heaps_part b_Heaps_part 8 none D (wC g) [.ref (g.2.1 15), .int a1, .int a2, .int a3] σ σ') (C : Cx E classes 8 (wC g) b_Heaps_part "WithTheReds$Heaps" (D + 1)) (hR : RetV E classes 8 (wC g) b_Heaps_part σ') {k41 : St → Int32 → Int32 → Int32 → Int32 → Option St} (hk41 : ∀ (σ : St) (x1 : Int32) (x2 : Int32) (x3 : Int32) (x4 : Int32), k41 σ x1 x2 x3 x4 = some σ' → V E classes 8 (wC g) σ 41 [(0, .ref (g.2.1 15)), (1, .int x1), (2, .int x2), (3, .int x3), (4, .int x4)] []) : ∀ (σ : St) (x1 : Int32) (x2 : Int32) (x3 : Int32) (x4 : Int32) (x5 : Int32) (y0 : Int32), f_Heaps_part_131 rec k41 σ x1 x2 x3 x4 x5 y0 = some σ' → V E classes 8 (wC g) σ 131 [(0, .ref (g.2.1 15)), (1, .int x1), (2, .int x2), (3, .int x3), (4, .int x4), (5, .int x5)] [.int y0] := by
  intro σ x1 x2 x3 x4 x5 y0 hf
  unfold f_Heaps_part_131 at hf
  refine V_istore C d_Heaps_part_131 (by decide) rfl ?_
  refine V_aload_n C 1 d_Heaps_part_133 rfl ?_
  refine V_iload_n C 2 d_Heaps_part_134 rfl ?_
  refine V_iconst (v := 1) C d_Heaps_part_135 (by decide) ?_
  refine V_iadd C d_Heaps_part_136 ?_
  refine V_iload_n C 3 d_Heaps_part_137 rfl ?_
  refine V_iload C 5 d_Heaps_part_138 rfl ?_
  refine V_iconst (v := 1) C d_Heaps_part_140 (by decide) ?_
  refine V_iadd C d_Heaps_part_141 ?_
  refine V_max C ml_Heaps_96 (by omega) (Nat.le_of_ble_eq_true rfl) d_Heaps_part_142 ?_
  refine V_iload_n C 4 d_Heaps_part_145 rfl ?_
  refine V_iload C 0 d_Heaps_part_146 rfl ?_
  refine V_iadd C d_Heaps_part_148 ?_
  obtain ⟨σ149_1, hg, hf⟩ := bd hf
  refine V_callVv C [.int (x1 + (1 : Int32)), .int (imax x2 (x4 + (1 : Int32))), .int (x3 + y0)] (hrec hg) (by omega) cw_Heaps_86 15 rfl rfl rfl rfl (Nat.le_of_ble_eq_true rfl) rfl d_Heaps_part_149 ?_
  refine V_aload_n C 1 d_Heaps_part_152 rfl ?_
  refine gC_Heaps_runs C fl_Heaps_20 d_Heaps_part_153 ?_
  refine V_iload C 5 d_Heaps_part_156 rfl ?_
  refine V_iload C 6 d_Heaps_part_158 rfl ?_
  obtain ⟨hi160_2, hf⟩ := gu hf
  refine sC_18 C hi160_2 d_Heaps_part_160 ?_
  refine V_iinc (v := x4 + (1 : Int32)) C 5 d_Heaps_part_161 rfl rfl (by decide) rfl ?_
  refine V_goto (pc := 164) (tgt := 41) C d_Heaps_part_164 (by decide) ?_
  refine V.sub [2, 3, 4, 5, 0] rfl ?_
  exact hk41 (upA σ149_1 18 x4.toNatClampNeg x5) x1 x2 x3 (x4 + (1 : Int32)) hf
set_option maxRecDepth 4000 in
theorem w_Heaps_part_41 {E : Ev} {g : Gx} {σ' : St} {rec : St → Int32 → Int32 → Int32 → Option St} {D : Nat} (hD : 2 ≤ D) (hrec : ∀ {l : Launch} {σ : St} {a1 : Int32} {a2 : Int32} {a3 : Int32} {σ' : St}, rec σ a1 a2 a3 = some σ' → CtV classes l y_Heaps_part b_Heaps_part 8 none D (wC g) [.ref (g.2.1 15), .int a1, .int a2, .int a3] σ σ') (C : Cx E classes 8 (wC g) b_Heaps_part "WithTheReds$Heaps" (D + 1)) (hR : RetV E classes 8 (wC g) b_Heaps_part σ') : ∀ (n : Nat) (σ : St) (x1 : Int32) (x2 : Int32) (x3 : Int32) (x4 : Int32), f_Heaps_part_41 rec n σ x1 x2 x3 x4 = some σ' → V E classes 8 (wC g) σ 41 [(0, .ref (g.2.1 15)), (1, .int x1), (2, .int x2), (3, .int x3), (4, .int x4)] [] := by
  intro n
  induction n with
  | zero => intro σ x1 x2 x3 x4 hf; exact absurd hf (by unfold f_Heaps_part_41; exact nofun)
  | succ n ih =>
    intro σ x1 x2 x3 x4 hf
    unfold f_Heaps_part_41 at hf
    refine V_iload C 4 d_Heaps_part_41 rfl ?_
    refine V_iload_n C 2 d_Heaps_part_43 rfl ?_
    refine V_icmp_gt (pc := 44) (tgt := 167) C d_Heaps_part_44 (by decide) hf (fun hf => ?_) (fun hf => ?_)
    · exact V_vret hR hf d_Heaps_part_167
    · refine V_iload C 4 d_Heaps_part_47 rfl ?_
      refine V_aload_n C 0 d_Heaps_part_49 rfl ?_
      refine gC_Heaps_runsMost (v := σ.1 1507) C fl_Heaps_79 rfl d_Heaps_part_50 ?_
      refine V_icmp_ge (pc := 53) (tgt := 167) C d_Heaps_part_53 (by decide) hf (fun hf => ?_) (fun hf => ?_)
      · exact V_vret hR hf d_Heaps_part_167
      · refine V_aload_n C 0 d_Heaps_part_56 rfl ?_
        refine gC_Heaps_runs C fl_Heaps_20 d_Heaps_part_57 ?_
        refine V_iload C 4 d_Heaps_part_60 rfl ?_
        obtain ⟨hi62_1, hf⟩ := gu hf
        refine aC_18 (v := σ.2.1 18 x4.toNatClampNeg) C hi62_1 rfl d_Heaps_part_62 ?_
        refine V_istore C d_Heaps_part_63 (by decide) rfl ?_
        refine V_iload C 0 d_Heaps_part_65 rfl ?_
        refine V_iconst (v := 1) C d_Heaps_part_67 (by decide) ?_
        refine V_iload_n C 2 d_Heaps_part_68 rfl ?_
        refine V_ishl C d_Heaps_part_69 ?_
        refine V_ior C d_Heaps_part_70 ?_
        refine V_istore C d_Heaps_part_71 (by decide) rfl ?_
        refine V_aload_n C 2 d_Heaps_part_73 rfl ?_
        refine gC_Heaps_prices C fl_Heaps_17 d_Heaps_part_74 ?_
        refine V_iload C 0 d_Heaps_part_77 rfl ?_
        obtain ⟨hi79_2, hf⟩ := gu hf
        refine aC_17 (v := σ.2.1 17 ((σ.2.1 18 x4.toNatClampNeg) ||| ((1 : Int32) <<< (x1 &&& 31))).toNatClampNeg) C hi79_2 rfl d_Heaps_part_79 ?_
        refine V_iconst (v := -1) C d_Heaps_part_80 (by decide) ?_
        refine V_icmp_eq (pc := 81) (tgt := 161) C d_Heaps_part_81 (by decide) hf (fun hf => ?_) (fun hf => ?_)
        · refine V_iinc (v := x4 + (1 : Int32)) C 6 d_Heaps_part_161 rfl rfl (by decide) rfl ?_
          refine V_goto (pc := 164) (tgt := 41) C d_Heaps_part_164 (by decide) ?_
          refine V.sub [3, 4, 5, 6, 0] rfl ?_
          exact ih σ x1 x2 x3 (x4 + (1 : Int32)) hf
        · refine V_aload_n C 2 d_Heaps_part_84 rfl ?_
          refine gC_Heaps_runs C fl_Heaps_20 d_Heaps_part_85 ?_
          refine V_iload C 6 d_Heaps_part_88 rfl ?_
          refine V_iload C 0 d_Heaps_part_90 rfl ?_
          obtain ⟨hi92_3, hf⟩ := gu hf
          refine sC_18 C hi92_3 d_Heaps_part_92 ?_
          refine V_aload_n C 2 d_Heaps_part_93 rfl ?_
          refine gC_Heaps_ways C fl_Heaps_23 d_Heaps_part_94 ?_
          refine V_iload_n C 3 d_Heaps_part_97 rfl ?_
          refine V_iload C 6 d_Heaps_part_98 rfl ?_
          obtain ⟨hi100_4, hf⟩ := gu hf
          refine sC_19 C hi100_4 d_Heaps_part_100 ?_
          refine V_iload C 1 d_Heaps_part_101 rfl ?_
          refine V_if_ne (pc := 103) (tgt := 116) C d_Heaps_part_103 (by decide) hf (fun hf => ?_) (fun hf => ?_)
          · refine V_aload_n C 2 d_Heaps_part_116 rfl ?_
            refine gC_Heaps_prices C fl_Heaps_17 d_Heaps_part_117 ?_
            refine V_iload C 0 d_Heaps_part_120 rfl ?_
            obtain ⟨hi122_5, hf⟩ := gu hf
            refine aC_17 (v := σ.2.1 17 ((σ.2.1 18 x4.toNatClampNeg) ||| ((1 : Int32) <<< (x1 &&& 31))).toNatClampNeg) C hi122_5 rfl d_Heaps_part_122 ?_
            refine V_aload_n C 2 d_Heaps_part_123 rfl ?_
            refine gC_Heaps_prices C fl_Heaps_17 d_Heaps_part_124 ?_
            refine V_iload C 1 d_Heaps_part_127 rfl ?_
            obtain ⟨hi129_6, hf⟩ := gu hf
            refine aC_17 (v := σ.2.1 17 (σ.2.1 18 x4.toNatClampNeg).toNatClampNeg) C hi129_6 rfl d_Heaps_part_129 ?_
            refine V_isub C d_Heaps_part_130 ?_
            refine V.sub [2, 3, 4, 5, 6, 1] rfl ?_
            exact w_Heaps_part_131 hD hrec C hR ih (upA (upA σ 18 x4.toNatClampNeg ((σ.2.1 18 x4.toNatClampNeg) ||| ((1 : Int32) <<< (x1 &&& 31)))) 19 x1.toNatClampNeg x4) x1 x2 x3 x4 (σ.2.1 18 x4.toNatClampNeg) ((σ.2.1 17 ((σ.2.1 18 x4.toNatClampNeg) ||| ((1 : Int32) <<< (x1 &&& 31))).toNatClampNeg) - (σ.2.1 17 (σ.2.1 18 x4.toNatClampNeg).toNatClampNeg)) hf
          · refine V_aload_n C 2 d_Heaps_part_106 rfl ?_
            refine gC_Heaps_prices C fl_Heaps_17 d_Heaps_part_107 ?_
            refine V_iload C 0 d_Heaps_part_110 rfl ?_
            obtain ⟨hi112_7, hf⟩ := gu hf
            refine aC_17 (v := σ.2.1 17 ((σ.2.1 18 x4.toNatClampNeg) ||| ((1 : Int32) <<< (x1 &&& 31))).toNatClampNeg) C hi112_7 rfl d_Heaps_part_112 ?_
            refine V_goto (pc := 113) (tgt := 131) C d_Heaps_part_113 (by decide) ?_
            refine V.sub [2, 3, 4, 5, 6, 1] rfl ?_
            exact w_Heaps_part_131 hD hrec C hR ih (upA (upA σ 18 x4.toNatClampNeg ((σ.2.1 18 x4.toNatClampNeg) ||| ((1 : Int32) <<< (x1 &&& 31)))) 19 x1.toNatClampNeg x4) x1 x2 x3 x4 (σ.2.1 18 x4.toNatClampNeg) (σ.2.1 17 ((σ.2.1 18 x4.toNatClampNeg) ||| ((1 : Int32) <<< (x1 &&& 31))).toNatClampNeg) hf
set_option maxRecDepth 4000 in
theorem w_Heaps_part_F {E : Ev} {g : Gx} {σ' : St} {rec : St → Int32 → Int32 → Int32 → Option St} {D : Nat} (hD : 2 ≤ D) (hrec : ∀ {l : Launch} {σ : St} {a1 : Int32} {a2 : Int32} {a3 : Int32} {σ' : St}, rec σ a1 a2 a3 = some σ' → CtV classes l y_Heaps_part b_Heaps_part 8 none D (wC g) [.ref (g.2.1 15), .int a1, .int a2, .int a3] σ σ') (C : Cx E classes 8 (wC g) b_Heaps_part "WithTheReds$Heaps" (D + 1)) (hR : RetV E classes 8 (wC g) b_Heaps_part σ') {σ : St} {a1 : Int32} {a2 : Int32} {a3 : Int32} (hf : f_Heaps_part_F rec σ a1 a2 a3 = some σ') : V E classes 8 (wC g) σ 0 [(0, .ref (g.2.1 15)), (1, .int a1), (2, .int a2), (3, .int a3)] [] := by
  unfold f_Heaps_part_F at hf
  refine V_iload_n C 3 d_Heaps_part_0 rfl ?_
  refine V_aload_n C 0 d_Heaps_part_1 rfl ?_
  refine gC_Heaps_least (v := σ.1 1508) C fl_Heaps_83 rfl d_Heaps_part_2 ?_
  refine V_icmp_lt (pc := 5) (tgt := 9) C d_Heaps_part_5 (by decide) hf (fun hf => ?_) (fun hf => ?_)
  · refine V_iload_n C 1 d_Heaps_part_9 rfl ?_
    refine V_aload_n C 0 d_Heaps_part_10 rfl ?_
    refine gC_Heaps_size (v := σ.1 1506) C fl_Heaps_37 rfl d_Heaps_part_11 ?_
    refine V_icmp_lt (pc := 14) (tgt := 38) C d_Heaps_part_14 (by decide) hf (fun hf => ?_) (fun hf => ?_)
    · refine V_iconst (v := 0) C d_Heaps_part_38 (by decide) ?_
      refine V_istore C d_Heaps_part_39 (by decide) rfl ?_
      refine V.sub [1, 2, 3, 4, 0] rfl ?_
      exact w_Heaps_part_41 hD hrec C hR FU σ a1 a2 a3 (0 : Int32) hf
    · refine V_aload_n C 0 d_Heaps_part_17 rfl ?_
      refine V_iload_n C 3 d_Heaps_part_18 rfl ?_
      refine pC_Heaps_least C fl_Heaps_83 d_Heaps_part_19 ?_
      refine V_aload_n C 0 d_Heaps_part_22 rfl ?_
      refine gC_Heaps_ways C fl_Heaps_23 d_Heaps_part_23 ?_
      refine V_iconst (v := 0) C d_Heaps_part_26 (by decide) ?_
      refine V_aload_n C 0 d_Heaps_part_27 rfl ?_
      refine gC_Heaps_best C fl_Heaps_26 d_Heaps_part_28 ?_
      refine V_iconst (v := 0) C d_Heaps_part_31 (by decide) ?_
      refine V_bipush (v := 8) C d_Heaps_part_32 (by decide) ?_
      obtain ⟨hcp, hf⟩ := gu hf
      refine V_cpA (σ' := (stA (upI σ 1508 a3) 20 (va_cpy (σ.2.1 19) (σ.2.1 20) (0 : Int32).toNatClampNeg (0 : Int32).toNatClampNeg (8 : Int32).toNatClampNeg))) C 19 20 rfl rfl rfl rfl rfl hcp (by omega) (Nat.le_of_ble_eq_true rfl) al_Heaps_90 d_Heaps_part_34 ?_
      exact V_vret hR hf d_Heaps_part_37
  · exact V_vret hR hf d_Heaps_part_8
theorem c_Heaps_part_F {l : Launch} {g : Gx} (hok : Wok classes (wC g)) {rec : St → Int32 → Int32 → Int32 → Option St} {D : Nat} (hD : 2 ≤ D) (hrec : ∀ {l : Launch} {σ : St} {a1 : Int32} {a2 : Int32} {a3 : Int32} {σ' : St}, rec σ a1 a2 a3 = some σ' → CtV classes l y_Heaps_part b_Heaps_part 8 none D (wC g) [.ref (g.2.1 15), .int a1, .int a2, .int a3] σ σ') {σ : St} {a1 : Int32} {a2 : Int32} {a3 : Int32} {σ' : St} (hf : f_Heaps_part_F rec σ a1 a2 a3 = some σ') : CtV classes l y_Heaps_part b_Heaps_part 8 none (D + 1) (wC g) [.ref (g.2.1 15), .int a1, .int a2, .int a3] σ σ' :=
  MetV (by decide +kernel) hok (Nat.le_of_ble_eq_true rfl) (fun E _ C hR => w_Heaps_part_F hD hrec C hR hf)
theorem c_Heaps_part {l : Launch} {g : Gx} (hok : Wok classes (wC g)) (n : Nat) {σ : St} {a1 : Int32} {a2 : Int32} {a3 : Int32} {σ' : St} (hf : f_Heaps_part n σ a1 a2 a3 = some σ') : CtV classes l y_Heaps_part b_Heaps_part 8 none (2 + 1 * n) (wC g) [.ref (g.2.1 15), .int a1, .int a2, .int a3] σ σ' := by
  induction n generalizing l σ a1 a2 a3 σ' with
  | zero => exact absurd hf (by unfold f_Heaps_part; exact nofun)
  | succ n ih => exact c_Heaps_part_F hok (D := 2 + 1 * n) (by omega) (fun h => ih h) hf
set_option maxRecDepth 4000 in
theorem w_Heaps_findsWay_18 {E : Ev} {g : Gx} {r : Int32} {σ' : St} (C : Cx E classes 3 (wC g) b_Heaps_findsWay "WithTheReds$Heaps" 23) (hR : RetZ E classes 3 (wC g) b_Heaps_findsWay r σ') : ∀ (n : Nat) (σ : St) (x2 : Int32), f_Heaps_findsWay_18 n σ x2 = some (r, σ') → V E classes 3 (wC g) σ 18 [(0, .ref (g.2.1 15)), (2, .int x2)] [] := by
  intro n
  induction n with
  | zero => intro σ x2 hf; exact absurd hf (by unfold f_Heaps_findsWay_18; exact nofun)
  | succ n ih =>
    intro σ x2 hf
    unfold f_Heaps_findsWay_18 at hf
    refine V_iload_n C 1 d_Heaps_findsWay_18 rfl ?_
    refine V_bipush (v := 8) C d_Heaps_findsWay_19 (by decide) ?_
    refine V_icmp_ge (pc := 21) (tgt := 37) C d_Heaps_findsWay_21 (by decide) hf (fun hf => ?_) (fun hf => ?_)
    · refine V_aload_n C 0 d_Heaps_findsWay_37 rfl ?_
      refine V_iconst (v := 0) C d_Heaps_findsWay_38 (by decide) ?_
      refine V_iconst (v := 0) C d_Heaps_findsWay_39 (by decide) ?_
      refine V_iconst (v := 0) C d_Heaps_findsWay_40 (by decide) ?_
      obtain ⟨σ41_1, hg, hf⟩ := bd hf
      refine V_callVv C [.int (0 : Int32), .int (0 : Int32), .int (0 : Int32)] (c_Heaps_part C.2.2.2.2.2.2.2.1 20 hg) (by decide) cw_Heaps_86 15 rfl rfl rfl rfl (Nat.le_of_ble_eq_true rfl) rfl d_Heaps_findsWay_41 ?_
      refine V_aload_n C 0 d_Heaps_findsWay_44 rfl ?_
      refine gC_Heaps_least (v := σ41_1.1 1508) C fl_Heaps_83 rfl d_Heaps_findsWay_45 ?_
      refine V_ldc C kc_Heaps_82 d_Heaps_findsWay_48 ?_
      refine V_icmp_eq (pc := 50) (tgt := 57) C d_Heaps_findsWay_50 (by decide) hf (fun hf => ?_) (fun hf => ?_)
      · refine V_iconst (v := 0) C d_Heaps_findsWay_57 (by decide) ?_
        exact V_zretW hR hf rfl d_Heaps_findsWay_58
      · refine V_iconst (v := 1) C d_Heaps_findsWay_53 (by decide) ?_
        refine V_goto (pc := 54) (tgt := 58) C d_Heaps_findsWay_54 (by decide) ?_
        exact V_zretW hR hf rfl d_Heaps_findsWay_58
    · refine V_aload_n C 0 d_Heaps_findsWay_24 rfl ?_
      refine gC_Heaps_runs C fl_Heaps_20 d_Heaps_findsWay_25 ?_
      refine V_iload_n C 1 d_Heaps_findsWay_28 rfl ?_
      refine V_iconst (v := 0) C d_Heaps_findsWay_29 (by decide) ?_
      obtain ⟨hi30_2, hf⟩ := gu hf
      refine sC_18 C hi30_2 d_Heaps_findsWay_30 ?_
      refine V_iinc (v := x2 + (1 : Int32)) C 1 d_Heaps_findsWay_31 rfl rfl (by decide) rfl ?_
      refine V_goto (pc := 34) (tgt := 18) C d_Heaps_findsWay_34 (by decide) ?_
      refine V.sub [1, 0] rfl ?_
      exact ih (upA σ 18 x2.toNatClampNeg (0 : Int32)) (x2 + (1 : Int32)) hf
set_option maxRecDepth 4000 in
theorem w_Heaps_findsWay {E : Ev} {g : Gx} {r : Int32} {σ' : St} (C : Cx E classes 3 (wC g) b_Heaps_findsWay "WithTheReds$Heaps" 23) (hR : RetZ E classes 3 (wC g) b_Heaps_findsWay r σ') {σ : St} {a1 : Int32} (hf : f_Heaps_findsWay σ a1 = some (r, σ')) : V E classes 3 (wC g) σ 0 [(0, .ref (g.2.1 15)), (1, .int a1)] [] := by
  unfold f_Heaps_findsWay at hf
  refine V_aload_n C 0 d_Heaps_findsWay_0 rfl ?_
  refine V_iload_n C 1 d_Heaps_findsWay_1 rfl ?_
  refine V_bipush (v := 8) C d_Heaps_findsWay_2 (by decide) ?_
  refine V_min C ml_Heaps_73 (by decide) (Nat.le_of_ble_eq_true rfl) d_Heaps_findsWay_4 ?_
  refine pC_Heaps_runsMost C fl_Heaps_79 d_Heaps_findsWay_7 ?_
  refine V_aload_n C 0 d_Heaps_findsWay_10 rfl ?_
  refine V_ldc C kc_Heaps_82 d_Heaps_findsWay_11 ?_
  refine pC_Heaps_least C fl_Heaps_83 d_Heaps_findsWay_13 ?_
  refine V_iconst (v := 0) C d_Heaps_findsWay_16 (by decide) ?_
  refine V_istore_n C d_Heaps_findsWay_17 (by decide) rfl ?_
  refine V.sub [1, 0] rfl ?_
  exact w_Heaps_findsWay_18 C hR FU (upI (upI σ 1507 (imin a1 (8 : Int32))) 1508 (2147483647 : Int32)) (0 : Int32) hf
theorem c_Heaps_findsWay {l : Launch} {g : Gx} (hok : Wok classes (wC g)) {σ : St} {a1 : Int32} {r : Int32} {σ' : St} (hf : f_Heaps_findsWay σ a1 = some (r, σ')) : CtI classes l y_Heaps_findsWay b_Heaps_findsWay 3 (some .boolean) 23 (wC g) [.ref (g.2.1 15), .int a1] σ r σ' :=
  MetZ (by decide +kernel) hok (Nat.le_of_ble_eq_true rfl) (fun E _ C hR => w_Heaps_findsWay C hR hf)
set_option maxRecDepth 4000 in
theorem w_Heaps_gather_7 {E : Ev} {g : Gx} {σ' : St} (C : Cx E classes 3 (wC g) b_Heaps_gather "WithTheReds$Heaps" 3) (hR : RetV E classes 3 (wC g) b_Heaps_gather σ') : ∀ (n : Nat) (σ : St) (x1 : Int32) (x2 : Int32), f_Heaps_gather_7 n σ x1 x2 = some σ' → V E classes 3 (wC g) σ 7 [(0, .ref (g.2.1 15)), (1, .int x1), (2, .int x2)] [] := by
  intro n
  induction n with
  | zero => intro σ x1 x2 hf; exact absurd hf (by unfold f_Heaps_gather_7; exact nofun)
  | succ n ih =>
    intro σ x1 x2 hf
    unfold f_Heaps_gather_7 at hf
    refine V_iload_n C 2 d_Heaps_gather_7 rfl ?_
    refine V_bipush (v := 10) C d_Heaps_gather_8 (by decide) ?_
    refine V_icmp_ge (pc := 10) (tgt := 56) C d_Heaps_gather_10 (by decide) hf (fun hf => ?_) (fun hf => ?_)
    · exact V_vret hR hf d_Heaps_gather_56
    · refine V_aload_n C 0 d_Heaps_gather_13 rfl ?_
      refine gC_Heaps_size (v := σ.1 1506) C fl_Heaps_37 rfl d_Heaps_gather_14 ?_
      refine V_bipush (v := 8) C d_Heaps_gather_17 (by decide) ?_
      refine V_icmp_ge (pc := 19) (tgt := 56) C d_Heaps_gather_19 (by decide) hf (fun hf => ?_) (fun hf => ?_)
      · exact V_vret hR hf d_Heaps_gather_56
      · refine V_iload_n C 1 d_Heaps_gather_22 rfl ?_
        refine V_iload_n C 2 d_Heaps_gather_23 rfl ?_
        obtain ⟨r24_1, hg, hf⟩ := bd hf
        refine V_callNi C [.int x1, .int x2] (c_Top_isOf C.2.2.2.2.2.2.2.1 hg) (by decide) cw_Heaps_69 nw_Heaps_69 rfl (Nat.le_of_ble_eq_true rfl) rfl d_Heaps_gather_24 ?_
        refine V_if_eq (pc := 27) (tgt := 50) C d_Heaps_gather_27 (by decide) hf (fun hf => ?_) (fun hf => ?_)
        · refine V_iinc (v := x2 + (1 : Int32)) C 2 d_Heaps_gather_50 rfl rfl (by decide) rfl ?_
          refine V_goto (pc := 53) (tgt := 7) C d_Heaps_gather_53 (by decide) ?_
          refine V.sub [1, 2, 0] rfl ?_
          exact ih σ x1 (x2 + (1 : Int32)) hf
        · refine V_aload_n C 0 d_Heaps_gather_30 rfl ?_
          refine gC_Heaps_members C fl_Heaps_11 d_Heaps_gather_31 ?_
          refine V_aload_n C 0 d_Heaps_gather_34 rfl ?_
          refine gC_Heaps_size (v := σ.1 1506) C fl_Heaps_37 rfl d_Heaps_gather_35 ?_
          refine V_iload_n C 2 d_Heaps_gather_38 rfl ?_
          obtain ⟨hi39_2, hf⟩ := gu hf
          refine sC_16 C hi39_2 d_Heaps_gather_39 ?_
          refine V_aload_n C 0 d_Heaps_gather_40 rfl ?_
          refine V_dup C d_Heaps_gather_41 rfl ?_
          refine gC_Heaps_size (v := σ.1 1506) C fl_Heaps_37 rfl d_Heaps_gather_42 ?_
          refine V_iconst (v := 1) C d_Heaps_gather_45 (by decide) ?_
          refine V_iadd C d_Heaps_gather_46 ?_
          refine pC_Heaps_size C fl_Heaps_37 d_Heaps_gather_47 ?_
          refine V_iinc (v := x2 + (1 : Int32)) C 2 d_Heaps_gather_50 rfl rfl (by decide) rfl ?_
          refine V_goto (pc := 53) (tgt := 7) C d_Heaps_gather_53 (by decide) ?_
          refine V.sub [1, 2, 0] rfl ?_
          exact ih (upI (upA σ 16 ((σ.1 1506).toNatClampNeg) x2) 1506 ((σ.1 1506) + (1 : Int32))) x1 (x2 + (1 : Int32)) hf
set_option maxRecDepth 4000 in
theorem w_Heaps_gather {E : Ev} {g : Gx} {σ' : St} (C : Cx E classes 3 (wC g) b_Heaps_gather "WithTheReds$Heaps" 3) (hR : RetV E classes 3 (wC g) b_Heaps_gather σ') {σ : St} {a1 : Int32} (hf : f_Heaps_gather σ a1 = some σ') : V E classes 3 (wC g) σ 0 [(0, .ref (g.2.1 15)), (1, .int a1)] [] := by
  unfold f_Heaps_gather at hf
  refine V_aload_n C 0 d_Heaps_gather_0 rfl ?_
  refine V_iconst (v := 0) C d_Heaps_gather_1 (by decide) ?_
  refine pC_Heaps_size C fl_Heaps_37 d_Heaps_gather_2 ?_
  refine V_iconst (v := 0) C d_Heaps_gather_5 (by decide) ?_
  refine V_istore_n C d_Heaps_gather_6 (by decide) rfl ?_
  refine V.sub [1, 2, 0] rfl ?_
  exact w_Heaps_gather_7 C hR FU (upI σ 1506 (0 : Int32)) a1 (0 : Int32) hf
theorem c_Heaps_gather {l : Launch} {g : Gx} (hok : Wok classes (wC g)) {σ : St} {a1 : Int32} {σ' : St} (hf : f_Heaps_gather σ a1 = some σ') : CtV classes l y_Heaps_gather b_Heaps_gather 3 none 3 (wC g) [.ref (g.2.1 15), .int a1] σ σ' :=
  MetV (by decide +kernel) hok (Nat.le_of_ble_eq_true rfl) (fun E _ C hR => w_Heaps_gather C hR hf)
set_option maxRecDepth 4000 in
theorem w_Heaps_thingsOf_4 {E : Ev} {g : Gx} {r : Int32} {σ : St} (C : Cx E classes 4 (wC g) b_Heaps_thingsOf "WithTheReds$Heaps" 1) (hR : RetI E classes 4 (wC g) b_Heaps_thingsOf r σ) : ∀ (n : Nat) (x1 : Int32) (x2 : Int32) (x3 : Int32), f_Heaps_thingsOf_4 n σ x1 x2 x3 = some r → V E classes 4 (wC g) σ 4 [(0, .ref (g.2.1 15)), (1, .int x1), (2, .int x2), (3, .int x3)] [] := by
  intro n
  induction n with
  | zero => intro x1 x2 x3 hf; exact absurd hf (by unfold f_Heaps_thingsOf_4; exact nofun)
  | succ n ih =>
    intro x1 x2 x3 hf
    unfold f_Heaps_thingsOf_4 at hf
    refine V_iload_n C 3 d_Heaps_thingsOf_4 rfl ?_
    refine V_aload_n C 0 d_Heaps_thingsOf_5 rfl ?_
    refine gC_Heaps_size (v := σ.1 1506) C fl_Heaps_37 rfl d_Heaps_thingsOf_6 ?_
    refine V_icmp_ge (pc := 9) (tgt := 33) C d_Heaps_thingsOf_9 (by decide) hf (fun hf => ?_) (fun hf => ?_)
    · refine V_iload_n C 2 d_Heaps_thingsOf_33 rfl ?_
      exact V_iret hR hf d_Heaps_thingsOf_34
    · refine V_iload_n C 2 d_Heaps_thingsOf_12 rfl ?_
      refine V_iload_n C 1 d_Heaps_thingsOf_13 rfl ?_
      refine V_iload_n C 3 d_Heaps_thingsOf_14 rfl ?_
      refine V_iushr C d_Heaps_thingsOf_15 ?_
      refine V_iconst (v := 1) C d_Heaps_thingsOf_16 (by decide) ?_
      refine V_iand C d_Heaps_thingsOf_17 ?_
      refine V_aload_n C 0 d_Heaps_thingsOf_18 rfl ?_
      refine gC_Heaps_members C fl_Heaps_11 d_Heaps_thingsOf_19 ?_
      refine V_iload_n C 3 d_Heaps_thingsOf_22 rfl ?_
      obtain ⟨hi23_1, hf⟩ := gu hf
      refine aC_16 (v := σ.2.1 16 x3.toNatClampNeg) C hi23_1 rfl d_Heaps_thingsOf_23 ?_
      refine V_ishl C d_Heaps_thingsOf_24 ?_
      refine V_ior C d_Heaps_thingsOf_25 ?_
      refine V_istore_n C d_Heaps_thingsOf_26 (by decide) rfl ?_
      refine V_iinc (v := x3 + (1 : Int32)) C 3 d_Heaps_thingsOf_27 rfl rfl (by decide) rfl ?_
      refine V_goto (pc := 30) (tgt := 4) C d_Heaps_thingsOf_30 (by decide) ?_
      refine V.sub [2, 3, 1, 0] rfl ?_
      exact ih x1 (x2 ||| (((iushr x1 x3) &&& (1 : Int32)) <<< ((σ.2.1 16 x3.toNatClampNeg) &&& 31))) (x3 + (1 : Int32)) hf
set_option maxRecDepth 4000 in
theorem w_Heaps_thingsOf {E : Ev} {g : Gx} {r : Int32} {σ : St} (C : Cx E classes 4 (wC g) b_Heaps_thingsOf "WithTheReds$Heaps" 1) (hR : RetI E classes 4 (wC g) b_Heaps_thingsOf r σ) {a1 : Int32} (hf : f_Heaps_thingsOf σ a1 = some r) : V E classes 4 (wC g) σ 0 [(0, .ref (g.2.1 15)), (1, .int a1)] [] := by
  unfold f_Heaps_thingsOf at hf
  refine V_iconst (v := 0) C d_Heaps_thingsOf_0 (by decide) ?_
  refine V_istore_n C d_Heaps_thingsOf_1 (by decide) rfl ?_
  refine V_iconst (v := 0) C d_Heaps_thingsOf_2 (by decide) ?_
  refine V_istore_n C d_Heaps_thingsOf_3 (by decide) rfl ?_
  refine V.sub [2, 3, 1, 0] rfl ?_
  exact w_Heaps_thingsOf_4 C hR FU a1 (0 : Int32) (0 : Int32) hf
theorem c_Heaps_thingsOf {l : Launch} {g : Gx} (hok : Wok classes (wC g)) {σ : St} {a1 : Int32} {r : Int32} (hf : f_Heaps_thingsOf σ a1 = some r) : CtI classes l y_Heaps_thingsOf b_Heaps_thingsOf 4 (some .int) 1 (wC g) [.ref (g.2.1 15), .int a1] σ r σ :=
  MetI (by decide +kernel) hok (Nat.le_of_ble_eq_true rfl) (fun E _ C hR => w_Heaps_thingsOf C hR hf)
set_option maxRecDepth 4000 in
theorem w_Tub_allTints_4 {E : Ev} {g : Gx} {r : Int32} {σ : St} (C : Cx E classes 3 (wC g) b_Tub_allTints "WithTheReds$Tub" 4) (hR : RetI E classes 3 (wC g) b_Tub_allTints r σ) : ∀ (n : Nat) (x1 : Int32) (x2 : Int32), f_Tub_allTints_4 n σ x1 x2 = some r → V E classes 3 (wC g) σ 4 [(0, .ref (g.2.1 39)), (1, .int x1), (2, .int x2)] [] := by
  intro n
  induction n with
  | zero => intro x1 x2 hf; exact absurd hf (by unfold f_Tub_allTints_4; exact nofun)
  | succ n ih =>
    intro x1 x2 hf
    unfold f_Tub_allTints_4 at hf
    refine V_iload_n C 2 d_Tub_allTints_4 rfl ?_
    refine V_aload_n C 0 d_Tub_allTints_5 rfl ?_
    refine gC_Tub_basket C fl_Tub_19 d_Tub_allTints_6 ?_
    refine gC_Basket_things (v := σ.1 103) C fl_Tub_59 rfl d_Tub_allTints_9 ?_
    refine V_icmp_ge (pc := 12) (tgt := 44) C d_Tub_allTints_12 (by decide) hf (fun hf => ?_) (fun hf => ?_)
    · refine V_iload_n C 1 d_Tub_allTints_44 rfl ?_
      exact V_iret hR hf d_Tub_allTints_45
    · refine V_iload_n C 1 d_Tub_allTints_15 rfl ?_
      refine V_aload_n C 0 d_Tub_allTints_16 rfl ?_
      refine gC_Tub_set (v := σ.1 3904) C fl_Tub_81 rfl d_Tub_allTints_17 ?_
      refine V_iload_n C 2 d_Tub_allTints_20 rfl ?_
      obtain ⟨r21_1, hg, hf⟩ := bd hf
      refine V_callNi C [.int (σ.1 3904), .int x2] (c_Top_isOf C.2.2.2.2.2.2.2.1 hg) (by decide) cw_Tub_84 nw_Tub_84 rfl (Nat.le_of_ble_eq_true rfl) rfl d_Tub_allTints_21 ?_
      refine V_if_eq (pc := 24) (tgt := 35) C d_Tub_allTints_24 (by decide) hf (fun hf => ?_) (fun hf => ?_)
      · refine V_iconst (v := 0) C d_Tub_allTints_35 (by decide) ?_
        refine V_iadd C d_Tub_allTints_36 ?_
        refine V_istore_n C d_Tub_allTints_37 (by decide) rfl ?_
        refine V_iinc (v := x2 + (1 : Int32)) C 2 d_Tub_allTints_38 rfl rfl (by decide) rfl ?_
        refine V_goto (pc := 41) (tgt := 4) C d_Tub_allTints_41 (by decide) ?_
        refine V.sub [2, 1, 0] rfl ?_
        exact ih (x1 + (0 : Int32)) (x2 + (1 : Int32)) hf
      · refine V_aload_n C 0 d_Tub_allTints_27 rfl ?_
        refine V_iload_n C 2 d_Tub_allTints_28 rfl ?_
        obtain ⟨r29_2, hg, hf⟩ := bd hf
        refine V_callVi C [.int x2] (c_Tub_tintOf C.2.2.2.2.2.2.2.1 hg) (by decide) cw_Tub_91 39 rfl rfl rfl rfl (Nat.le_of_ble_eq_true rfl) rfl d_Tub_allTints_29 ?_
        refine V_goto (pc := 32) (tgt := 36) C d_Tub_allTints_32 (by decide) ?_
        refine V_iadd C d_Tub_allTints_36 ?_
        refine V_istore_n C d_Tub_allTints_37 (by decide) rfl ?_
        refine V_iinc (v := x2 + (1 : Int32)) C 2 d_Tub_allTints_38 rfl rfl (by decide) rfl ?_
        refine V_goto (pc := 41) (tgt := 4) C d_Tub_allTints_41 (by decide) ?_
        refine V.sub [2, 1, 0] rfl ?_
        exact ih (x1 + r29_2) (x2 + (1 : Int32)) hf
set_option maxRecDepth 4000 in
theorem w_Tub_allTints {E : Ev} {g : Gx} {r : Int32} {σ : St} (C : Cx E classes 3 (wC g) b_Tub_allTints "WithTheReds$Tub" 4) (hR : RetI E classes 3 (wC g) b_Tub_allTints r σ) (hf : f_Tub_allTints σ = some r) : V E classes 3 (wC g) σ 0 [(0, .ref (g.2.1 39))] [] := by
  unfold f_Tub_allTints at hf
  refine V_iconst (v := 0) C d_Tub_allTints_0 (by decide) ?_
  refine V_istore_n C d_Tub_allTints_1 (by decide) rfl ?_
  refine V_iconst (v := 0) C d_Tub_allTints_2 (by decide) ?_
  refine V_istore_n C d_Tub_allTints_3 (by decide) rfl ?_
  refine V.sub [2, 1, 0] rfl ?_
  exact w_Tub_allTints_4 C hR FU (0 : Int32) (0 : Int32) hf
theorem c_Tub_allTints {l : Launch} {g : Gx} (hok : Wok classes (wC g)) {σ : St} {r : Int32} (hf : f_Tub_allTints σ = some r) : CtI classes l y_Tub_allTints b_Tub_allTints 3 (some .int) 4 (wC g) [.ref (g.2.1 39)] σ r σ :=
  MetI (by decide +kernel) hok (Nat.le_of_ble_eq_true rfl) (fun E _ C hR => w_Tub_allTints C hR hf)
set_option maxRecDepth 4000 in
theorem w_Heaps_leastTints_7 {E : Ev} {g : Gx} {r : Int32} {σ' : St} (C : Cx E classes 4 (wC g) b_Heaps_leastTints "WithTheReds$Heaps" 24) (hR : RetZ E classes 4 (wC g) b_Heaps_leastTints r σ') : ∀ (n : Nat) (σ : St) (x2 : Int32) (x3 : Int32), f_Heaps_leastTints_7 n σ x2 x3 = some (r, σ') → V E classes 4 (wC g) σ 7 [(0, .ref (g.2.1 15)), (2, .int x2), (3, .int x3)] [] := by
  intro n
  induction n with
  | zero => intro σ x2 x3 hf; exact absurd hf (by unfold f_Heaps_leastTints_7; exact nofun)
  | succ n ih =>
    intro σ x2 x3 hf
    unfold f_Heaps_leastTints_7 at hf
    refine V_iload_n C 2 d_Heaps_leastTints_7 rfl ?_
    refine V_iconst (v := 1) C d_Heaps_leastTints_8 (by decide) ?_
    refine V_aload_n C 0 d_Heaps_leastTints_9 rfl ?_
    refine gC_Heaps_size (v := σ.1 1506) C fl_Heaps_37 rfl d_Heaps_leastTints_10 ?_
    refine V_ishl C d_Heaps_leastTints_13 ?_
    refine V_icmp_ge (pc := 14) (tgt := 73) C d_Heaps_leastTints_14 (by decide) hf (fun hf => ?_) (fun hf => ?_)
    · refine V_aload_n C 0 d_Heaps_leastTints_73 rfl ?_
      refine V_iload_n C 1 d_Heaps_leastTints_74 rfl ?_
      obtain ⟨r75_1, σ75_1, hg, hf⟩ := bd2_of hf
      refine V_callVi C [.int x2] (c_Heaps_findsWay C.2.2.2.2.2.2.2.1 hg) (by decide) cw_Heaps_55 15 rfl rfl rfl rfl (Nat.le_of_ble_eq_true rfl) rfl d_Heaps_leastTints_75 ?_
      obtain ⟨hz, hf⟩ := gu hf
      exact V_zretW hR hf hz d_Heaps_leastTints_78
    · refine V_aload_n C 0 d_Heaps_leastTints_17 rfl ?_
      refine gC_Heaps_tub C fl_Heaps_29 d_Heaps_leastTints_18 ?_
      refine V_aload_n C 0 d_Heaps_leastTints_21 rfl ?_
      refine V_iload_n C 2 d_Heaps_leastTints_22 rfl ?_
      obtain ⟨r23_2, hg, hf⟩ := bd hf
      refine V_callVi C [.int x3] (c_Heaps_thingsOf C.2.2.2.2.2.2.2.1 hg) (by decide) cw_Heaps_41 15 rfl rfl rfl rfl (Nat.le_of_ble_eq_true rfl) rfl d_Heaps_leastTints_23 ?_
      refine V_iconst (v := 0) C d_Heaps_leastTints_26 (by decide) ?_
      obtain ⟨σ27_3, hg, hf⟩ := bd hf
      refine V_callVv C [.int r23_2, .int (0 : Int32)] (c_Tub_fill C.2.2.2.2.2.2.2.1 hg) (by decide) cw_Heaps_45 39 rfl rfl rfl rfl (Nat.le_of_ble_eq_true rfl) rfl d_Heaps_leastTints_27 ?_
      refine V_aload_n C 0 d_Heaps_leastTints_30 rfl ?_
      refine gC_Heaps_prices C fl_Heaps_17 d_Heaps_leastTints_31 ?_
      refine V_iload_n C 2 d_Heaps_leastTints_34 rfl ?_
      refine V_aload_n C 0 d_Heaps_leastTints_35 rfl ?_
      refine gC_Heaps_tub C fl_Heaps_29 d_Heaps_leastTints_36 ?_
      obtain ⟨r39_4, hg, hf⟩ := bd hf
      refine V_callVi C [] (c_Tub_goes C.2.2.2.2.2.2.2.1 hg) (by decide) cw_Heaps_58 39 rfl rfl rfl rfl (Nat.le_of_ble_eq_true rfl) rfl d_Heaps_leastTints_39 ?_
      refine V_if_eq (pc := 42) (tgt := 65) C d_Heaps_leastTints_42 (by decide) hf (fun hf => ?_) (fun hf => ?_)
      · refine V_iconst (v := -1) C d_Heaps_leastTints_65 (by decide) ?_
        obtain ⟨hi66_5, hf⟩ := gu hf
        refine sC_17 C hi66_5 d_Heaps_leastTints_66 ?_
        refine V_iinc (v := x3 + (1 : Int32)) C 2 d_Heaps_leastTints_67 rfl rfl (by decide) rfl ?_
        refine V_goto (pc := 70) (tgt := 7) C d_Heaps_leastTints_70 (by decide) ?_
        refine V.sub [1, 2, 0] rfl ?_
        exact ih (upA σ27_3 17 x3.toNatClampNeg (-1 : Int32)) x2 (x3 + (1 : Int32)) hf
      · refine V_aload_n C 0 d_Heaps_leastTints_45 rfl ?_
        refine gC_Heaps_tub C fl_Heaps_29 d_Heaps_leastTints_46 ?_
        obtain ⟨r49_6, hg, hf⟩ := bd hf
        refine V_callVi C [] (c_Tub_spoilt C.2.2.2.2.2.2.2.1 hg) (by decide) cw_Heaps_62 39 rfl rfl rfl rfl (Nat.le_of_ble_eq_true rfl) rfl d_Heaps_leastTints_49 ?_
        refine V_if_ne (pc := 52) (tgt := 65) C d_Heaps_leastTints_52 (by decide) hf (fun hf => ?_) (fun hf => ?_)
        · refine V_iconst (v := -1) C d_Heaps_leastTints_65 (by decide) ?_
          obtain ⟨hi66_7, hf⟩ := gu hf
          refine sC_17 C hi66_7 d_Heaps_leastTints_66 ?_
          refine V_iinc (v := x3 + (1 : Int32)) C 2 d_Heaps_leastTints_67 rfl rfl (by decide) rfl ?_
          refine V_goto (pc := 70) (tgt := 7) C d_Heaps_leastTints_70 (by decide) ?_
          refine V.sub [1, 2, 0] rfl ?_
          exact ih (upA σ27_3 17 x3.toNatClampNeg (-1 : Int32)) x2 (x3 + (1 : Int32)) hf
        · refine V_aload_n C 0 d_Heaps_leastTints_55 rfl ?_
          refine gC_Heaps_tub C fl_Heaps_29 d_Heaps_leastTints_56 ?_
          obtain ⟨r59_8, hg, hf⟩ := bd hf
          refine V_callVi C [] (c_Tub_allTints C.2.2.2.2.2.2.2.1 hg) (by decide) cw_Heaps_66 39 rfl rfl rfl rfl (Nat.le_of_ble_eq_true rfl) rfl d_Heaps_leastTints_59 ?_
          refine V_goto (pc := 62) (tgt := 66) C d_Heaps_leastTints_62 (by decide) ?_
          obtain ⟨hi66_9, hf⟩ := gu hf
          refine sC_17 C hi66_9 d_Heaps_leastTints_66 ?_
          refine V_iinc (v := x3 + (1 : Int32)) C 2 d_Heaps_leastTints_67 rfl rfl (by decide) rfl ?_
          refine V_goto (pc := 70) (tgt := 7) C d_Heaps_leastTints_70 (by decide) ?_
          refine V.sub [1, 2, 0] rfl ?_
          exact ih (upA σ27_3 17 x3.toNatClampNeg r59_8) x2 (x3 + (1 : Int32)) hf
set_option maxRecDepth 4000 in
theorem w_Heaps_leastTints {E : Ev} {g : Gx} {r : Int32} {σ' : St} (C : Cx E classes 4 (wC g) b_Heaps_leastTints "WithTheReds$Heaps" 24) (hR : RetZ E classes 4 (wC g) b_Heaps_leastTints r σ') {σ : St} {a1 : Int32} {a2 : Int32} (hf : f_Heaps_leastTints σ a1 a2 = some (r, σ')) : V E classes 4 (wC g) σ 0 [(0, .ref (g.2.1 15)), (1, .int a1), (2, .int a2)] [] := by
  unfold f_Heaps_leastTints at hf
  refine V_aload_n C 0 d_Heaps_leastTints_0 rfl ?_
  refine V_iload_n C 1 d_Heaps_leastTints_1 rfl ?_
  obtain ⟨σ2_1, hg, hf⟩ := bd hf
  refine V_callVv C [.int a1] (c_Heaps_gather C.2.2.2.2.2.2.2.1 hg) (by decide) cw_Heaps_33 15 rfl rfl rfl rfl (Nat.le_of_ble_eq_true rfl) rfl d_Heaps_leastTints_2 ?_
  refine V_iconst (v := 1) C d_Heaps_leastTints_5 (by decide) ?_
  refine V_istore_n C d_Heaps_leastTints_6 (by decide) rfl ?_
  refine V.sub [1, 3, 0] rfl ?_
  exact w_Heaps_leastTints_7 C hR FU σ2_1 a2 (1 : Int32) hf
theorem c_Heaps_leastTints {l : Launch} {g : Gx} (hok : Wok classes (wC g)) {σ : St} {a1 : Int32} {a2 : Int32} {r : Int32} {σ' : St} (hf : f_Heaps_leastTints σ a1 a2 = some (r, σ')) : CtI classes l y_Heaps_leastTints b_Heaps_leastTints 4 (some .boolean) 24 (wC g) [.ref (g.2.1 15), .int a1, .int a2] σ r σ' :=
  MetZ (by decide +kernel) hok (Nat.le_of_ble_eq_true rfl) (fun E _ C hR => w_Heaps_leastTints C hR hf)
set_option maxRecDepth 4000 in
theorem w_JI_bitCount {E : Ev} {g : Gx} {r : Int32} {σ : St} (C : Cx E classes 1 (wC g) b_JI_bitCount "java/lang/Integer" 1) (hR : RetI E classes 1 (wC g) b_JI_bitCount r σ) {a0 : Int32} (hf : f_JI_bitCount a0 = some r) : V E classes 1 (wC g) σ 0 [(0, .int a0)] [] := by
  unfold f_JI_bitCount at hf
  refine V_iload_n C 0 d_JI_bitCount_0 rfl ?_
  refine V_iload_n C 0 d_JI_bitCount_1 rfl ?_
  refine V_iconst (v := 1) C d_JI_bitCount_2 (by decide) ?_
  refine V_iushr C d_JI_bitCount_3 ?_
  refine V_ldcw C kc_JI_265 d_JI_bitCount_4 ?_
  refine V_iand C d_JI_bitCount_7 ?_
  refine V_isub C d_JI_bitCount_8 ?_
  refine V_istore_n C d_JI_bitCount_9 (by decide) rfl ?_
  refine V_iload_n C 0 d_JI_bitCount_10 rfl ?_
  refine V_ldcw C kc_JI_266 d_JI_bitCount_11 ?_
  refine V_iand C d_JI_bitCount_14 ?_
  refine V_iload_n C 0 d_JI_bitCount_15 rfl ?_
  refine V_iconst (v := 2) C d_JI_bitCount_16 (by decide) ?_
  refine V_iushr C d_JI_bitCount_17 ?_
  refine V_ldcw C kc_JI_266 d_JI_bitCount_18 ?_
  refine V_iand C d_JI_bitCount_21 ?_
  refine V_iadd C d_JI_bitCount_22 ?_
  refine V_istore_n C d_JI_bitCount_23 (by decide) rfl ?_
  refine V_iload_n C 0 d_JI_bitCount_24 rfl ?_
  refine V_iload_n C 0 d_JI_bitCount_25 rfl ?_
  refine V_iconst (v := 4) C d_JI_bitCount_26 (by decide) ?_
  refine V_iushr C d_JI_bitCount_27 ?_
  refine V_iadd C d_JI_bitCount_28 ?_
  refine V_ldcw C kc_JI_267 d_JI_bitCount_29 ?_
  refine V_iand C d_JI_bitCount_32 ?_
  refine V_istore_n C d_JI_bitCount_33 (by decide) rfl ?_
  refine V_iload_n C 0 d_JI_bitCount_34 rfl ?_
  refine V_iload_n C 0 d_JI_bitCount_35 rfl ?_
  refine V_bipush (v := 8) C d_JI_bitCount_36 (by decide) ?_
  refine V_iushr C d_JI_bitCount_38 ?_
  refine V_iadd C d_JI_bitCount_39 ?_
  refine V_istore_n C d_JI_bitCount_40 (by decide) rfl ?_
  refine V_iload_n C 0 d_JI_bitCount_41 rfl ?_
  refine V_iload_n C 0 d_JI_bitCount_42 rfl ?_
  refine V_bipush (v := 16) C d_JI_bitCount_43 (by decide) ?_
  refine V_iushr C d_JI_bitCount_45 ?_
  refine V_iadd C d_JI_bitCount_46 ?_
  refine V_istore_n C d_JI_bitCount_47 (by decide) rfl ?_
  refine V_iload_n C 0 d_JI_bitCount_48 rfl ?_
  refine V_bipush (v := 63) C d_JI_bitCount_49 (by decide) ?_
  refine V_iand C d_JI_bitCount_51 ?_
  exact V_iret hR hf d_JI_bitCount_52
theorem c_JI_bitCount {l : Launch} {g : Gx} (hok : Wok classes (wC g)) {σ : St} {a0 : Int32} {r : Int32} (hf : f_JI_bitCount a0 = some r) : CtI classes l y_JI_bitCount b_JI_bitCount 1 (some .int) 1 (wC g) [.int a0] σ r σ :=
  MetI (by decide +kernel) hok (Nat.le_of_ble_eq_true rfl) (fun E _ C hR => w_JI_bitCount C hR hf)
set_option maxRecDepth 4000 in
theorem w_Top_cost {E : Ev} {g : Gx} {r : Int32} {σ' : St} (C : Cx E classes 4 (wC g) b_Top_cost "WithTheReds" 25) (hR : RetI E classes 4 (wC g) b_Top_cost r σ') {σ : St} {a1 : Int32} {a2 : Int32} {a3 : Int32} (hf : f_Top_cost σ a1 a2 a3 = some (r, σ')) : V E classes 4 (wC g) σ 0 [(0, .ref (g.2.1 0)), (1, .int a1), (2, .int a2), (3, .int a3)] [] := by
  unfold f_Top_cost at hf
  refine V_aload_n C 0 d_Top_cost_0 rfl ?_
  refine V_iload_n C 1 d_Top_cost_1 rfl ?_
  obtain ⟨r2_1, hg, hf⟩ := bd hf
  refine V_callVi C [.int a1] (c_Top_isSet C.2.2.2.2.2.2.2.1 hg) (by decide) cw_Top_160 0 rfl rfl rfl rfl (Nat.le_of_ble_eq_true rfl) rfl d_Top_cost_2 ?_
  refine V_if_eq (pc := 5) (tgt := 41) C d_Top_cost_5 (by decide) hf (fun hf => ?_) (fun hf => ?_)
  · refine V_iconst (v := -1) C d_Top_cost_41 (by decide) ?_
    exact V_iretW hR hf d_Top_cost_42
  · refine V_iload_n C 3 d_Top_cost_8 rfl ?_
    refine V_iconst (v := 0) C d_Top_cost_9 (by decide) ?_
    refine V_bipush (v := 99) C d_Top_cost_10 (by decide) ?_
    obtain ⟨r12_2, hg, hf⟩ := bd hf
    refine V_callSi C [.int a3, .int (0 : Int32), .int (99 : Int32)] (c_Top_within C.2.2.2.2.2.2.2.1 hg) (by decide) cw_Top_108 rfl (Nat.le_of_ble_eq_true rfl) rfl d_Top_cost_12 ?_
    refine V_if_eq (pc := 15) (tgt := 41) C d_Top_cost_15 (by decide) hf (fun hf => ?_) (fun hf => ?_)
    · refine V_iconst (v := -1) C d_Top_cost_41 (by decide) ?_
      exact V_iretW hR hf d_Top_cost_42
    · refine V_iload_n C 2 d_Top_cost_18 rfl ?_
      refine V_bipush (v := 10) C d_Top_cost_19 (by decide) ?_
      refine V_idiv C d_Top_cost_21 (by decide) ?_
      obtain ⟨r22_3, hg, hf⟩ := bd hf
      refine V_callSi C [.int (a2 / (10 : Int32))] (c_Top_isHeat C.2.2.2.2.2.2.2.1 hg) (by decide) cw_Top_154 rfl (Nat.le_of_ble_eq_true rfl) rfl d_Top_cost_22 ?_
      refine V_if_eq (pc := 25) (tgt := 41) C d_Top_cost_25 (by decide) hf (fun hf => ?_) (fun hf => ?_)
      · refine V_iconst (v := -1) C d_Top_cost_41 (by decide) ?_
        exact V_iretW hR hf d_Top_cost_42
      · refine V_iload_n C 2 d_Top_cost_28 rfl ?_
        refine V_bipush (v := 10) C d_Top_cost_29 (by decide) ?_
        refine V_irem C d_Top_cost_31 (by decide) ?_
        refine V_iconst (v := 1) C d_Top_cost_32 (by decide) ?_
        refine V_bipush (v := 6) C d_Top_cost_33 (by decide) ?_
        obtain ⟨r35_4, hg, hf⟩ := bd hf
        refine V_callSi C [.int (irem a2 (10 : Int32)), .int (1 : Int32), .int (6 : Int32)] (c_Top_within C.2.2.2.2.2.2.2.1 hg) (by decide) cw_Top_108 rfl (Nat.le_of_ble_eq_true rfl) rfl d_Top_cost_35 ?_
        refine V_if_ne (pc := 38) (tgt := 43) C d_Top_cost_38 (by decide) hf (fun hf => ?_) (fun hf => ?_)
        · refine V_iload_n C 1 d_Top_cost_43 rfl ?_
          obtain ⟨r44_5, hg, hf⟩ := bd hf
          refine V_callSi C [.int a1] (c_JI_bitCount C.2.2.2.2.2.2.2.1 hg) (by decide) cw_Top_210 rfl (Nat.le_of_ble_eq_true rfl) rfl d_Top_cost_44 ?_
          refine V_bipush (v := 7) C d_Top_cost_47 (by decide) ?_
          refine V_icmp_le (pc := 49) (tgt := 55) C d_Top_cost_49 (by decide) hf (fun hf => ?_) (fun hf => ?_)
          · refine V_aload_n C 0 d_Top_cost_55 rfl ?_
            refine gC_Top_tub C fl_Top_35 d_Top_cost_56 ?_
            refine V_iload_n C 2 d_Top_cost_59 rfl ?_
            refine V_bipush (v := 10) C d_Top_cost_60 (by decide) ?_
            refine V_idiv C d_Top_cost_62 (by decide) ?_
            obtain ⟨σ63_6, hg, hf⟩ := bd hf
            refine V_callVv C [.int (a2 / (10 : Int32))] (c_Tub_warm C.2.2.2.2.2.2.2.1 hg) (by decide) cw_Top_194 39 rfl rfl rfl rfl (Nat.le_of_ble_eq_true rfl) rfl d_Top_cost_63 ?_
            refine V_aload_n C 0 d_Top_cost_66 rfl ?_
            refine gC_Top_heaps C fl_Top_44 d_Top_cost_67 ?_
            refine V_iload_n C 1 d_Top_cost_70 rfl ?_
            refine V_iload_n C 2 d_Top_cost_71 rfl ?_
            refine V_bipush (v := 10) C d_Top_cost_72 (by decide) ?_
            refine V_irem C d_Top_cost_74 (by decide) ?_
            obtain ⟨r75_7, σ75_7, hg, hf⟩ := bd2_of hf
            refine V_callVi C [.int a1, .int (irem a2 (10 : Int32))] (c_Heaps_leastTints C.2.2.2.2.2.2.2.1 hg) (by decide) cw_Top_224 15 rfl rfl rfl rfl (Nat.le_of_ble_eq_true rfl) rfl d_Top_cost_75 ?_
            refine V_if_eq (pc := 78) (tgt := 93) C d_Top_cost_78 (by decide) hf (fun hf => ?_) (fun hf => ?_)
            · refine V_bipush (v := -2) C d_Top_cost_93 (by decide) ?_
              exact V_iretW hR hf d_Top_cost_95
            · refine V_aload_n C 0 d_Top_cost_81 rfl ?_
              refine gC_Top_heaps C fl_Top_44 d_Top_cost_82 ?_
              refine gC_Heaps_least (v := σ75_7.1 1508) C fl_Top_218 rfl d_Top_cost_85 ?_
              refine V_iload_n C 3 d_Top_cost_88 rfl ?_
              refine V_imul C d_Top_cost_89 ?_
              refine V_goto (pc := 90) (tgt := 95) C d_Top_cost_90 (by decide) ?_
              exact V_iretW hR hf d_Top_cost_95
          · refine V_bipush (v := -5) C d_Top_cost_52 (by decide) ?_
            exact V_iretW hR hf d_Top_cost_54
        · refine V_iconst (v := -1) C d_Top_cost_41 (by decide) ?_
          exact V_iretW hR hf d_Top_cost_42
theorem c_Top_cost {l : Launch} {g : Gx} (hok : Wok classes (wC g)) {σ : St} {a1 : Int32} {a2 : Int32} {a3 : Int32} {r : Int32} {σ' : St} (hf : f_Top_cost σ a1 a2 a3 = some (r, σ')) : CtI classes l y_Top_cost b_Top_cost 4 (some .int) 25 (wC g) [.ref (g.2.1 0), .int a1, .int a2, .int a3] σ r σ' :=
  MetI (by decide +kernel) hok (Nat.le_of_ble_eq_true rfl) (fun E _ C hR => w_Top_cost C hR hf)
set_option maxRecDepth 4000 in
theorem w_Basket_goneOnes_4 {E : Ev} {g : Gx} {r : Int32} {σ : St} (C : Cx E classes 3 (wC g) b_Basket_goneOnes "WithTheReds$Basket" 1) (hR : RetI E classes 3 (wC g) b_Basket_goneOnes r σ) : ∀ (n : Nat) (x1 : Int32) (x2 : Int32), f_Basket_goneOnes_4 n σ x1 x2 = some r → V E classes 3 (wC g) σ 4 [(0, .ref (g.2.1 1)), (1, .int x1), (2, .int x2)] [] := by
  intro n
  induction n with
  | zero => intro x1 x2 hf; exact absurd hf (by unfold f_Basket_goneOnes_4; exact nofun)
  | succ n ih =>
    intro x1 x2 hf
    unfold f_Basket_goneOnes_4 at hf
    refine V_iload_n C 2 d_Basket_goneOnes_4 rfl ?_
    refine V_aload_n C 0 d_Basket_goneOnes_5 rfl ?_
    refine gC_Basket_things (v := σ.1 103) C fl_Basket_41 rfl d_Basket_goneOnes_6 ?_
    refine V_icmp_ge (pc := 9) (tgt := 35) C d_Basket_goneOnes_9 (by decide) hf (fun hf => ?_) (fun hf => ?_)
    · refine V_iload_n C 1 d_Basket_goneOnes_35 rfl ?_
      exact V_iret hR hf d_Basket_goneOnes_36
    · refine V_iload_n C 1 d_Basket_goneOnes_12 rfl ?_
      refine V_aload_n C 0 d_Basket_goneOnes_13 rfl ?_
      refine gC_Basket_gone C fl_Basket_18 d_Basket_goneOnes_14 ?_
      refine V_iload_n C 2 d_Basket_goneOnes_17 rfl ?_
      obtain ⟨hi18_1, hf⟩ := gu hf
      refine aC_4 (v := σ.2.1 4 x2.toNatClampNeg) C hi18_1 rfl d_Basket_goneOnes_18 ?_
      refine V_if_eq (pc := 19) (tgt := 26) C d_Basket_goneOnes_19 (by decide) hf (fun hf => ?_) (fun hf => ?_)
      · refine V_iconst (v := 0) C d_Basket_goneOnes_26 (by decide) ?_
        refine V_iadd C d_Basket_goneOnes_27 ?_
        refine V_istore_n C d_Basket_goneOnes_28 (by decide) rfl ?_
        refine V_iinc (v := x2 + (1 : Int32)) C 2 d_Basket_goneOnes_29 rfl rfl (by decide) rfl ?_
        refine V_goto (pc := 32) (tgt := 4) C d_Basket_goneOnes_32 (by decide) ?_
        refine V.sub [2, 1, 0] rfl ?_
        exact ih (x1 + (0 : Int32)) (x2 + (1 : Int32)) hf
      · refine V_iconst (v := 1) C d_Basket_goneOnes_22 (by decide) ?_
        refine V_goto (pc := 23) (tgt := 27) C d_Basket_goneOnes_23 (by decide) ?_
        refine V_iadd C d_Basket_goneOnes_27 ?_
        refine V_istore_n C d_Basket_goneOnes_28 (by decide) rfl ?_
        refine V_iinc (v := x2 + (1 : Int32)) C 2 d_Basket_goneOnes_29 rfl rfl (by decide) rfl ?_
        refine V_goto (pc := 32) (tgt := 4) C d_Basket_goneOnes_32 (by decide) ?_
        refine V.sub [2, 1, 0] rfl ?_
        exact ih (x1 + (1 : Int32)) (x2 + (1 : Int32)) hf
set_option maxRecDepth 4000 in
theorem w_Basket_goneOnes {E : Ev} {g : Gx} {r : Int32} {σ : St} (C : Cx E classes 3 (wC g) b_Basket_goneOnes "WithTheReds$Basket" 1) (hR : RetI E classes 3 (wC g) b_Basket_goneOnes r σ) (hf : f_Basket_goneOnes σ = some r) : V E classes 3 (wC g) σ 0 [(0, .ref (g.2.1 1))] [] := by
  unfold f_Basket_goneOnes at hf
  refine V_iconst (v := 0) C d_Basket_goneOnes_0 (by decide) ?_
  refine V_istore_n C d_Basket_goneOnes_1 (by decide) rfl ?_
  refine V_iconst (v := 0) C d_Basket_goneOnes_2 (by decide) ?_
  refine V_istore_n C d_Basket_goneOnes_3 (by decide) rfl ?_
  refine V.sub [2, 1, 0] rfl ?_
  exact w_Basket_goneOnes_4 C hR FU (0 : Int32) (0 : Int32) hf
theorem c_Basket_goneOnes {l : Launch} {g : Gx} (hok : Wok classes (wC g)) {σ : St} {r : Int32} (hf : f_Basket_goneOnes σ = some r) : CtI classes l y_Basket_goneOnes b_Basket_goneOnes 3 (some .int) 1 (wC g) [.ref (g.2.1 1)] σ r σ :=
  MetI (by decide +kernel) hok (Nat.le_of_ble_eq_true rfl) (fun E _ C hR => w_Basket_goneOnes C hR hf)
set_option maxRecDepth 4000 in
theorem w_Top_count {E : Ev} {g : Gx} {r : Int32} {σ : St} (C : Cx E classes 2 (wC g) b_Top_count "WithTheReds" 2) (hR : RetI E classes 2 (wC g) b_Top_count r σ) {a1 : Int32} (hf : f_Top_count σ a1 = some r) : V E classes 2 (wC g) σ 0 [(0, .ref (g.2.1 0)), (1, .int a1)] [] := by
  unfold f_Top_count at hf
  refine V_iload_n C 1 d_Top_count_0 rfl ?_
  by_cases hc0 : a1 = 0
  · have hf := ite_t hf hc0
    refine V_tin (off := 39) (tgt := 40) C d_Top_count_1 (by rw [hc0]; decide) (by rw [hc0]; decide) (by rw [hc0]; decide) (by decide) ?_
    refine V_aload_n C 0 d_Top_count_40 rfl ?_
    refine gC_Top_basket C fl_Top_10 d_Top_count_41 ?_
    refine gC_Basket_things (v := σ.1 103) C fl_Top_198 rfl d_Top_count_44 ?_
    exact V_iret hR hf d_Top_count_47
  have hf := ite_f hf hc0
  by_cases hc1 : a1 = 1
  · have hf := ite_t hf hc1
    refine V_tin (off := 47) (tgt := 48) C d_Top_count_1 (by rw [hc1]; decide) (by rw [hc1]; decide) (by rw [hc1]; decide) (by decide) ?_
    refine V_aload_n C 0 d_Top_count_48 rfl ?_
    refine gC_Top_basket C fl_Top_10 d_Top_count_49 ?_
    refine gC_Basket_things (v := σ.1 103) C fl_Top_198 rfl d_Top_count_52 ?_
    refine V_aload_n C 0 d_Top_count_55 rfl ?_
    refine gC_Top_basket C fl_Top_10 d_Top_count_56 ?_
    obtain ⟨r59_1, hg, hf⟩ := bd hf
    refine V_callVi C [] (c_Basket_goneOnes C.2.2.2.2.2.2.2.1 hg) (by decide) cw_Top_307 1 rfl rfl rfl rfl (Nat.le_of_ble_eq_true rfl) rfl d_Top_count_59 ?_
    refine V_isub C d_Top_count_62 ?_
    exact V_iret hR hf d_Top_count_63
  have hf := ite_f hf hc1
  by_cases hc2 : a1 = 2
  · have hf := ite_t hf hc2
    refine V_tin (off := 63) (tgt := 64) C d_Top_count_1 (by rw [hc2]; decide) (by rw [hc2]; decide) (by rw [hc2]; decide) (by decide) ?_
    refine V_aload_n C 0 d_Top_count_64 rfl ?_
    refine gC_Top_tape C fl_Top_19 d_Top_count_65 ?_
    refine gC_Tape_length (v := σ.1 3503) C fl_Top_392 rfl d_Top_count_68 ?_
    exact V_iret hR hf d_Top_count_71
  have hf := ite_f hf hc2
  by_cases hc3 : a1 = 3
  · have hf := ite_t hf hc3
    refine V_tin (off := 71) (tgt := 72) C d_Top_count_1 (by rw [hc3]; decide) (by rw [hc3]; decide) (by rw [hc3]; decide) (by decide) ?_
    refine V_aload_n C 0 d_Top_count_72 rfl ?_
    refine gC_Top_changes C fl_Top_74 d_Top_count_73 ?_
    refine gC_Changes_done (v := σ.1 503) C fl_Top_322 rfl d_Top_count_76 ?_
    exact V_iret hR hf d_Top_count_79
  have hf := ite_f hf hc3
  by_cases hc4 : a1 = 4
  · have hf := ite_t hf hc4
    refine V_tin (off := 79) (tgt := 80) C d_Top_count_1 (by rw [hc4]; decide) (by rw [hc4]; decide) (by rw [hc4]; decide) (by decide) ?_
    refine V_aload_n C 0 d_Top_count_80 rfl ?_
    refine gC_Top_socks C fl_Top_81 d_Top_count_81 ?_
    refine gC_Socks_bodies (v := σ.1 3202) C fl_Top_395 rfl d_Top_count_84 ?_
    exact V_iret hR hf d_Top_count_87
  have hf := ite_f hf hc4
  by_cases hc5 : a1 = 5
  · have hf := ite_t hf hc5
    refine V_tin (off := 87) (tgt := 88) C d_Top_count_1 (by rw [hc5]; decide) (by rw [hc5]; decide) (by rw [hc5]; decide) (by decide) ?_
    refine V_aload_n C 0 d_Top_count_88 rfl ?_
    refine gC_Top_socks C fl_Top_81 d_Top_count_89 ?_
    refine gC_Socks_ran (v := σ.1 3203) C fl_Top_398 rfl d_Top_count_92 ?_
    exact V_iret hR hf d_Top_count_95
  have hf := ite_f hf hc5
  have hc0t := neT (k := 0) 0 (by decide) hc0
  have hc1t := neT (k := 1) 1 (by decide) hc1
  have hc2t := neT (k := 2) 2 (by decide) hc2
  have hc3t := neT (k := 3) 3 (by decide) hc3
  have hc4t := neT (k := 4) 4 (by decide) hc4
  have hc5t := neT (k := 5) 5 (by decide) hc5
  refine V_tout (tgt := 96) C d_Top_count_1 (by omega) (by decide) ?_
  refine V_iconst (v := -1) C d_Top_count_96 (by decide) ?_
  exact V_iret hR hf d_Top_count_97
theorem c_Top_count {l : Launch} {g : Gx} (hok : Wok classes (wC g)) {σ : St} {a1 : Int32} {r : Int32} (hf : f_Top_count σ a1 = some r) : CtI classes l y_Top_count b_Top_count 2 (some .int) 2 (wC g) [.ref (g.2.1 0), .int a1] σ r σ :=
  MetI (by decide +kernel) hok (Nat.le_of_ble_eq_true rfl) (fun E _ C hR => w_Top_count C hR hf)
set_option maxRecDepth 4000 in
theorem w_Tub_draw_7 {E : Ev} {g : Gx} {r : Int32} {σ' : St} (C : Cx E classes 5 (wC g) b_Tub_draw "WithTheReds$Tub" 4) (hR : RetI E classes 5 (wC g) b_Tub_draw r σ') : ∀ (n : Nat) (σ : St) (x2 : Int32) (x3 : Int32) (x4 : Int32), f_Tub_draw_7 n σ x2 x3 x4 = some (r, σ') → V E classes 5 (wC g) σ 7 [(0, .ref (g.2.1 39)), (2, .int x2), (3, .int x3), (4, .int x4)] [] := by
  intro n
  induction n with
  | zero => intro σ x2 x3 x4 hf; exact absurd hf (by unfold f_Tub_draw_7; exact nofun)
  | succ n ih =>
    intro σ x2 x3 x4 hf
    unfold f_Tub_draw_7 at hf
    refine V_iload C 3 d_Tub_draw_7 rfl ?_
    refine V_aload_n C 0 d_Tub_draw_9 rfl ?_
    refine gC_Tub_basket C fl_Tub_19 d_Tub_draw_10 ?_
    refine gC_Basket_things (v := σ.1 103) C fl_Tub_59 rfl d_Tub_draw_13 ?_
    refine V_icmp_ge (pc := 16) (tgt := 66) C d_Tub_draw_16 (by decide) hf (fun hf => ?_) (fun hf => ?_)
    · refine V_aload_n C 0 d_Tub_draw_66 rfl ?_
      refine V_iload_n C 2 d_Tub_draw_67 rfl ?_
      refine V_iconst (v := 0) C d_Tub_draw_68 (by decide) ?_
      obtain ⟨σ69_1, hg, hf⟩ := bd hf
      refine V_callVv C [.int x3, .int (0 : Int32)] (c_Tub_fill C.2.2.2.2.2.2.2.1 hg) (by decide) cw_Tub_74 39 rfl rfl rfl rfl (Nat.le_of_ble_eq_true rfl) rfl d_Tub_draw_69 ?_
      refine V_iload_n C 1 d_Tub_draw_72 rfl ?_
      exact V_iretW hR hf d_Tub_draw_73
    · refine V_iload_n C 1 d_Tub_draw_19 rfl ?_
      refine V_ldc C kc_Tub_107 d_Tub_draw_20 ?_
      refine V_imul C d_Tub_draw_22 ?_
      refine V_sipush (v := 12345) C d_Tub_draw_23 (by decide) ?_
      refine V_iadd C d_Tub_draw_26 ?_
      refine V_istore_n C d_Tub_draw_27 (by decide) rfl ?_
      refine V_iload_n C 0 d_Tub_draw_28 rfl ?_
      refine V_bipush (v := 8) C d_Tub_draw_29 (by decide) ?_
      refine V_iushr C d_Tub_draw_31 ?_
      refine V_bipush (v := 12) C d_Tub_draw_32 (by decide) ?_
      refine V_irem C d_Tub_draw_34 (by decide) ?_
      refine V_bipush (v := 6) C d_Tub_draw_35 (by decide) ?_
      refine V_icmp_ge (pc := 37) (tgt := 60) C d_Tub_draw_37 (by decide) hf (fun hf => ?_) (fun hf => ?_)
      · refine V_iinc (v := x4 + (1 : Int32)) C 3 d_Tub_draw_60 rfl rfl (by decide) rfl ?_
        refine V_goto (pc := 63) (tgt := 7) C d_Tub_draw_63 (by decide) ?_
        refine V.sub [2, 1, 3, 0] rfl ?_
        exact ih σ ((x2 * (1103515245 : Int32)) + (12345 : Int32)) x3 (x4 + (1 : Int32)) hf
      · refine V_aload_n C 1 d_Tub_draw_40 rfl ?_
        refine V_iload_n C 2 d_Tub_draw_41 rfl ?_
        refine V_iconst (v := 1) C d_Tub_draw_42 (by decide) ?_
        refine V_iload C 3 d_Tub_draw_43 rfl ?_
        refine V_ishl C d_Tub_draw_45 ?_
        refine V_ior C d_Tub_draw_46 ?_
        obtain ⟨r47_2, hg, hf⟩ := bd hf
        refine V_callVi C [.int (x3 ||| ((1 : Int32) <<< (x4 &&& 31)))] (c_Tub_mayGo C.2.2.2.2.2.2.2.1 hg) (by decide) cw_Tub_94 39 rfl rfl rfl rfl (Nat.le_of_ble_eq_true rfl) rfl d_Tub_draw_47 ?_
        refine V_if_eq (pc := 50) (tgt := 60) C d_Tub_draw_50 (by decide) hf (fun hf => ?_) (fun hf => ?_)
        · refine V_iinc (v := x4 + (1 : Int32)) C 3 d_Tub_draw_60 rfl rfl (by decide) rfl ?_
          refine V_goto (pc := 63) (tgt := 7) C d_Tub_draw_63 (by decide) ?_
          refine V.sub [2, 1, 3, 0] rfl ?_
          exact ih σ ((x2 * (1103515245 : Int32)) + (12345 : Int32)) x3 (x4 + (1 : Int32)) hf
        · refine V_iload_n C 2 d_Tub_draw_53 rfl ?_
          refine V_iconst (v := 1) C d_Tub_draw_54 (by decide) ?_
          refine V_iload C 3 d_Tub_draw_55 rfl ?_
          refine V_ishl C d_Tub_draw_57 ?_
          refine V_ior C d_Tub_draw_58 ?_
          refine V_istore_n C d_Tub_draw_59 (by decide) rfl ?_
          refine V_iinc (v := x4 + (1 : Int32)) C 3 d_Tub_draw_60 rfl rfl (by decide) rfl ?_
          refine V_goto (pc := 63) (tgt := 7) C d_Tub_draw_63 (by decide) ?_
          refine V.sub [3, 2, 1, 0] rfl ?_
          exact ih σ ((x2 * (1103515245 : Int32)) + (12345 : Int32)) (x3 ||| ((1 : Int32) <<< (x4 &&& 31))) (x4 + (1 : Int32)) hf
set_option maxRecDepth 4000 in
theorem w_Tub_draw {E : Ev} {g : Gx} {r : Int32} {σ' : St} (C : Cx E classes 5 (wC g) b_Tub_draw "WithTheReds$Tub" 4) (hR : RetI E classes 5 (wC g) b_Tub_draw r σ') {σ : St} {a1 : Int32} (hf : f_Tub_draw σ a1 = some (r, σ')) : V E classes 5 (wC g) σ 0 [(0, .ref (g.2.1 39)), (1, .int a1)] [] := by
  unfold f_Tub_draw at hf
  refine V_iload_n C 1 d_Tub_draw_0 rfl ?_
  refine V_istore_n C d_Tub_draw_1 (by decide) rfl ?_
  refine V_iconst (v := 0) C d_Tub_draw_2 (by decide) ?_
  refine V_istore_n C d_Tub_draw_3 (by decide) rfl ?_
  refine V_iconst (v := 0) C d_Tub_draw_4 (by decide) ?_
  refine V_istore C d_Tub_draw_5 (by decide) rfl ?_
  refine V.sub [3, 2, 1, 0] rfl ?_
  exact w_Tub_draw_7 C hR FU σ a1 (0 : Int32) (0 : Int32) hf
theorem c_Tub_draw {l : Launch} {g : Gx} (hok : Wok classes (wC g)) {σ : St} {a1 : Int32} {r : Int32} {σ' : St} (hf : f_Tub_draw σ a1 = some (r, σ')) : CtI classes l y_Tub_draw b_Tub_draw 5 (some .int) 4 (wC g) [.ref (g.2.1 39), .int a1] σ r σ' :=
  MetI (by decide +kernel) hok (Nat.le_of_ble_eq_true rfl) (fun E _ C hR => w_Tub_draw C hR hf)
set_option maxRecDepth 4000 in
theorem w_Top_drawn_57 {E : Ev} {g : Gx} {r : Int32} {σ' : St} (C : Cx E classes 8 (wC g) b_Top_drawn "WithTheReds" 6) (hR : RetI E classes 8 (wC g) b_Top_drawn r σ') : ∀ (n : Nat) (σ : St) (x2 : Int32) (x3 : Int32) (x4 : Int32) (x5 : Int32) (x6 : Int32) (x7 : Int32), f_Top_drawn_57 n σ x2 x3 x4 x5 x6 x7 = some (r, σ') → V E classes 8 (wC g) σ 57 [(0, .ref (g.2.1 0)), (2, .int x2), (3, .int x3), (4, .int x4), (5, .int x5), (6, .int x6), (7, .int x7)] [] := by
  intro n
  induction n with
  | zero => intro σ x2 x3 x4 x5 x6 x7 hf; exact absurd hf (by unfold f_Top_drawn_57; exact nofun)
  | succ n ih =>
    intro σ x2 x3 x4 x5 x6 x7 hf
    unfold f_Top_drawn_57 at hf
    refine V_iload C 6 d_Top_drawn_57 rfl ?_
    refine V_iload_n C 1 d_Top_drawn_59 rfl ?_
    refine V_bipush (v := 10) C d_Top_drawn_60 (by decide) ?_
    refine V_idiv C d_Top_drawn_62 (by decide) ?_
    refine V_icmp_ge (pc := 63) (tgt := 115) C d_Top_drawn_63 (by decide) hf (fun hf => ?_) (fun hf => ?_)
    · refine V_iload_n C 2 d_Top_drawn_115 rfl ?_
      refine V_if_ne (pc := 116) (tgt := 124) C d_Top_drawn_116 (by decide) hf (fun hf => ?_) (fun hf => ?_)
      · refine V_iload C 5 d_Top_drawn_124 rfl ?_
        exact V_iretW hR hf d_Top_drawn_126
      · refine V_iload C 4 d_Top_drawn_119 rfl ?_
        refine V_goto (pc := 121) (tgt := 126) C d_Top_drawn_121 (by decide) ?_
        exact V_iretW hR hf d_Top_drawn_126
    · refine V_aload_n C 0 d_Top_drawn_66 rfl ?_
      refine gC_Top_tub C fl_Top_35 d_Top_drawn_67 ?_
      refine V_iload C 3 d_Top_drawn_70 rfl ?_
      obtain ⟨r72_1, σ72_1, hg, hf⟩ := bd2_of hf
      refine V_callVi C [.int x4] (c_Tub_draw C.2.2.2.2.2.2.2.1 hg) (by decide) cw_Top_293 39 rfl rfl rfl rfl (Nat.le_of_ble_eq_true rfl) rfl d_Top_drawn_72 ?_
      refine V_istore C d_Top_drawn_75 (by decide) rfl ?_
      refine V_iload C 4 d_Top_drawn_77 rfl ?_
      refine V_aload_n C 1 d_Top_drawn_79 rfl ?_
      refine gC_Top_tub C fl_Top_35 d_Top_drawn_80 ?_
      obtain ⟨r83_2, hg, hf⟩ := bd hf
      refine V_callVi C [] (c_Tub_allTints C.2.2.2.2.2.2.2.1 hg) (by decide) cw_Top_173 39 rfl rfl rfl rfl (Nat.le_of_ble_eq_true rfl) rfl d_Top_drawn_83 ?_
      refine V_iadd C d_Top_drawn_86 ?_
      refine V_istore C d_Top_drawn_87 (by decide) rfl ?_
      refine V_iload C 5 d_Top_drawn_89 rfl ?_
      refine V_aload_n C 2 d_Top_drawn_91 rfl ?_
      refine gC_Top_tub C fl_Top_35 d_Top_drawn_92 ?_
      obtain ⟨r95_3, hg, hf⟩ := bd hf
      refine V_callVi C [] (c_Tub_spoilt C.2.2.2.2.2.2.2.1 hg) (by decide) cw_Top_176 39 rfl rfl rfl rfl (Nat.le_of_ble_eq_true rfl) rfl d_Top_drawn_95 ?_
      refine V_if_ne (pc := 98) (tgt := 105) C d_Top_drawn_98 (by decide) hf (fun hf => ?_) (fun hf => ?_)
      · refine V_iconst (v := 1) C d_Top_drawn_105 (by decide) ?_
        refine V_iadd C d_Top_drawn_106 ?_
        refine V_istore C d_Top_drawn_107 (by decide) rfl ?_
        refine V_iinc (v := x7 + (1 : Int32)) C 6 d_Top_drawn_109 rfl rfl (by decide) rfl ?_
        refine V_goto (pc := 112) (tgt := 57) C d_Top_drawn_112 (by decide) ?_
        refine V.sub [4, 5, 6, 3, 2, 1, 0] rfl ?_
        exact ih σ72_1 x2 x3 r72_1 (x5 + r83_2) (x6 + (1 : Int32)) (x7 + (1 : Int32)) hf
      · refine V_iconst (v := 0) C d_Top_drawn_101 (by decide) ?_
        refine V_goto (pc := 102) (tgt := 106) C d_Top_drawn_102 (by decide) ?_
        refine V_iadd C d_Top_drawn_106 ?_
        refine V_istore C d_Top_drawn_107 (by decide) rfl ?_
        refine V_iinc (v := x7 + (1 : Int32)) C 6 d_Top_drawn_109 rfl rfl (by decide) rfl ?_
        refine V_goto (pc := 112) (tgt := 57) C d_Top_drawn_112 (by decide) ?_
        refine V.sub [4, 5, 6, 3, 2, 1, 0] rfl ?_
        exact ih σ72_1 x2 x3 r72_1 (x5 + r83_2) (x6 + (0 : Int32)) (x7 + (1 : Int32)) hf
set_option maxRecDepth 4000 in
theorem w_Top_drawn {E : Ev} {g : Gx} {r : Int32} {σ' : St} (C : Cx E classes 8 (wC g) b_Top_drawn "WithTheReds" 6) (hR : RetI E classes 8 (wC g) b_Top_drawn r σ') {σ : St} {a1 : Int32} {a2 : Int32} {a3 : Int32} (hf : f_Top_drawn σ a1 a2 a3 = some (r, σ')) : V E classes 8 (wC g) σ 0 [(0, .ref (g.2.1 0)), (1, .int a1), (2, .int a2), (3, .int a3)] [] := by
  unfold f_Top_drawn at hf
  refine V_iload_n C 2 d_Top_drawn_0 rfl ?_
  refine V_bipush (v := 10) C d_Top_drawn_1 (by decide) ?_
  refine V_idiv C d_Top_drawn_3 (by decide) ?_
  refine V_iconst (v := 1) C d_Top_drawn_4 (by decide) ?_
  refine V_bipush (v := 30) C d_Top_drawn_5 (by decide) ?_
  obtain ⟨r7_1, hg, hf⟩ := bd hf
  refine V_callSi C [.int (a2 / (10 : Int32)), .int (1 : Int32), .int (30 : Int32)] (c_Top_within C.2.2.2.2.2.2.2.1 hg) (by decide) cw_Top_108 rfl (Nat.le_of_ble_eq_true rfl) rfl d_Top_drawn_7 ?_
  refine V_if_eq (pc := 10) (tgt := 32) C d_Top_drawn_10 (by decide) hf (fun hf => ?_) (fun hf => ?_)
  · refine V_iconst (v := -1) C d_Top_drawn_32 (by decide) ?_
    exact V_iretW hR hf d_Top_drawn_33
  · refine V_iload_n C 2 d_Top_drawn_13 rfl ?_
    refine V_bipush (v := 10) C d_Top_drawn_14 (by decide) ?_
    refine V_irem C d_Top_drawn_16 (by decide) ?_
    obtain ⟨r17_2, hg, hf⟩ := bd hf
    refine V_callSi C [.int (irem a2 (10 : Int32))] (c_Top_isHeat C.2.2.2.2.2.2.2.1 hg) (by decide) cw_Top_154 rfl (Nat.le_of_ble_eq_true rfl) rfl d_Top_drawn_17 ?_
    refine V_if_eq (pc := 20) (tgt := 32) C d_Top_drawn_20 (by decide) hf (fun hf => ?_) (fun hf => ?_)
    · refine V_iconst (v := -1) C d_Top_drawn_32 (by decide) ?_
      exact V_iretW hR hf d_Top_drawn_33
    · refine V_iload_n C 3 d_Top_drawn_23 rfl ?_
      refine V_iconst (v := 0) C d_Top_drawn_24 (by decide) ?_
      refine V_iconst (v := 1) C d_Top_drawn_25 (by decide) ?_
      obtain ⟨r26_3, hg, hf⟩ := bd hf
      refine V_callSi C [.int a3, .int (0 : Int32), .int (1 : Int32)] (c_Top_within C.2.2.2.2.2.2.2.1 hg) (by decide) cw_Top_108 rfl (Nat.le_of_ble_eq_true rfl) rfl d_Top_drawn_26 ?_
      refine V_if_ne (pc := 29) (tgt := 34) C d_Top_drawn_29 (by decide) hf (fun hf => ?_) (fun hf => ?_)
      · refine V_aload_n C 0 d_Top_drawn_34 rfl ?_
        refine gC_Top_tub C fl_Top_35 d_Top_drawn_35 ?_
        refine V_iload_n C 2 d_Top_drawn_38 rfl ?_
        refine V_bipush (v := 10) C d_Top_drawn_39 (by decide) ?_
        refine V_irem C d_Top_drawn_41 (by decide) ?_
        obtain ⟨σ42_4, hg, hf⟩ := bd hf
        refine V_callVv C [.int (irem a2 (10 : Int32))] (c_Tub_warm C.2.2.2.2.2.2.2.1 hg) (by decide) cw_Top_194 39 rfl rfl rfl rfl (Nat.le_of_ble_eq_true rfl) rfl d_Top_drawn_42 ?_
        refine V_iload_n C 1 d_Top_drawn_45 rfl ?_
        refine V_istore C d_Top_drawn_46 (by decide) rfl ?_
        refine V_iconst (v := 0) C d_Top_drawn_48 (by decide) ?_
        refine V_istore C d_Top_drawn_49 (by decide) rfl ?_
        refine V_iconst (v := 0) C d_Top_drawn_51 (by decide) ?_
        refine V_istore C d_Top_drawn_52 (by decide) rfl ?_
        refine V_iconst (v := 0) C d_Top_drawn_54 (by decide) ?_
        refine V_istore C d_Top_drawn_55 (by decide) rfl ?_
        refine V.sub [4, 6, 7, 3, 2, 1, 0] rfl ?_
        exact w_Top_drawn_57 C hR FU σ42_4 a2 a3 a1 (0 : Int32) (0 : Int32) (0 : Int32) hf
      · refine V_iconst (v := -1) C d_Top_drawn_32 (by decide) ?_
        exact V_iretW hR hf d_Top_drawn_33
theorem c_Top_drawn {l : Launch} {g : Gx} (hok : Wok classes (wC g)) {σ : St} {a1 : Int32} {a2 : Int32} {a3 : Int32} {r : Int32} {σ' : St} (hf : f_Top_drawn σ a1 a2 a3 = some (r, σ')) : CtI classes l y_Top_drawn b_Top_drawn 8 (some .int) 6 (wC g) [.ref (g.2.1 0), .int a1, .int a2, .int a3] σ r σ' :=
  MetI (by decide +kernel) hok (Nat.le_of_ble_eq_true rfl) (fun E _ C hR => w_Top_drawn C hR hf)
set_option maxRecDepth 4000 in
theorem w_Top_isShelf {E : Ev} {g : Gx} {r : Int32} {σ : St} (C : Cx E classes 1 (wC g) b_Top_isShelf "WithTheReds" 2) (hR : RetZ E classes 1 (wC g) b_Top_isShelf r σ) {a0 : Int32} (hf : f_Top_isShelf a0 = some r) : V E classes 1 (wC g) σ 0 [(0, .int a0)] [] := by
  unfold f_Top_isShelf at hf
  refine V_iload_n C 0 d_Top_isShelf_0 rfl ?_
  refine V_iconst (v := 0) C d_Top_isShelf_1 (by decide) ?_
  refine V_iconst (v := 5) C d_Top_isShelf_2 (by decide) ?_
  obtain ⟨r3_1, hg, hf⟩ := bd hf
  refine V_callSi C [.int a0, .int (0 : Int32), .int (5 : Int32)] (c_Top_within C.2.2.2.2.2.2.2.1 hg) (by decide) cw_Top_108 rfl (Nat.le_of_ble_eq_true rfl) rfl d_Top_isShelf_3 ?_
  obtain ⟨hz, hf⟩ := gu hf
  exact V_zret hR hf hz d_Top_isShelf_6
theorem c_Top_isShelf {l : Launch} {g : Gx} (hok : Wok classes (wC g)) {σ : St} {a0 : Int32} {r : Int32} (hf : f_Top_isShelf a0 = some r) : CtI classes l y_Top_isShelf b_Top_isShelf 1 (some .boolean) 2 (wC g) [.int a0] σ r σ :=
  MetZ (by decide +kernel) hok (Nat.le_of_ble_eq_true rfl) (fun E _ C hR => w_Top_isShelf C hR hf)
set_option maxRecDepth 4000 in
theorem w_Shelf_hasPlace {E : Ev} {g : Gx} {r : Int32} {σ : St} (C : Cx E classes 2 (wC g) b_Shelf_hasPlace "WithTheReds$Shelf" 2) (hR : RetZ E classes 2 (wC g) b_Shelf_hasPlace r σ) {j0 : Nat} {a1 : Int32} (hj0 : j0 < 6) (hf : f_Shelf_hasPlace σ j0 a1 = some r) : V E classes 2 (wC g) σ 0 [(0, .ref (g.2.1 (42 + 2 * j0))), (1, .int a1)] [] := by
  unfold f_Shelf_hasPlace at hf
  refine V_aload_n C 0 d_Shelf_hasPlace_0 rfl ?_
  obtain ⟨r1_1, hg, hf⟩ := bd hf
  refine V_callVi C [] (c_Shelf_isRow C.2.2.2.2.2.2.2.1 hj0 hg) (by decide) cw_Shelf_22 (42 + 2 * j0) (sh_at hj0) rfl rfl rfl (Nat.le_of_ble_eq_true rfl) rfl d_Shelf_hasPlace_1 ?_
  refine V_if_eq (pc := 4) (tgt := 25) C d_Shelf_hasPlace_4 (by decide) hf (fun hf => ?_) (fun hf => ?_)
  · refine V_iconst (v := 0) C d_Shelf_hasPlace_25 (by decide) ?_
    exact V_zret hR hf rfl d_Shelf_hasPlace_26
  · refine V_iload_n C 1 d_Shelf_hasPlace_7 rfl ?_
    refine V_iconst (v := 0) C d_Shelf_hasPlace_8 (by decide) ?_
    refine V_aload_n C 0 d_Shelf_hasPlace_9 rfl ?_
    refine gC_Shelf_length (v := σ.1 (4203 + 200 * j0)) C hj0 fl_Shelf_26 rfl d_Shelf_hasPlace_10 ?_
    refine V_iconst (v := 1) C d_Shelf_hasPlace_13 (by decide) ?_
    refine V_isub C d_Shelf_hasPlace_14 ?_
    obtain ⟨r15_2, hg, hf⟩ := bd hf
    refine V_callNi C [.int a1, .int (0 : Int32), .int ((σ.1 (4203 + 200 * j0)) - (1 : Int32))] (c_Top_within C.2.2.2.2.2.2.2.1 hg) (by decide) cw_Shelf_29 nw_Shelf_29 rfl (Nat.le_of_ble_eq_true rfl) rfl d_Shelf_hasPlace_15 ?_
    refine V_if_eq (pc := 18) (tgt := 25) C d_Shelf_hasPlace_18 (by decide) hf (fun hf => ?_) (fun hf => ?_)
    · refine V_iconst (v := 0) C d_Shelf_hasPlace_25 (by decide) ?_
      exact V_zret hR hf rfl d_Shelf_hasPlace_26
    · refine V_iconst (v := 1) C d_Shelf_hasPlace_21 (by decide) ?_
      refine V_goto (pc := 22) (tgt := 26) C d_Shelf_hasPlace_22 (by decide) ?_
      exact V_zret hR hf rfl d_Shelf_hasPlace_26
theorem c_Shelf_hasPlace {l : Launch} {g : Gx} (hok : Wok classes (wC g)) {σ : St} {j0 : Nat} {a1 : Int32} {r : Int32} (hj0 : j0 < 6) (hf : f_Shelf_hasPlace σ j0 a1 = some r) : CtI classes l y_Shelf_hasPlace b_Shelf_hasPlace 2 (some .boolean) 2 (wC g) [.ref (g.2.1 (42 + 2 * j0)), .int a1] σ r σ :=
  MetZ (by decide +kernel) hok (Nat.le_of_ble_eq_true rfl) (fun E _ C hR => w_Shelf_hasPlace C hR hj0 hf)
set_option maxRecDepth 4000 in
theorem w_Top_placeRefusal {E : Ev} {g : Gx} {r : Int32} {σ : St} (C : Cx E classes 4 (wC g) b_Top_placeRefusal "WithTheReds" 3) (hR : RetI E classes 4 (wC g) b_Top_placeRefusal r σ) {a1 : Int32} {a2 : Int32} (hf : f_Top_placeRefusal σ a1 a2 = some r) : V E classes 4 (wC g) σ 0 [(0, .ref (g.2.1 0)), (1, .int a1), (2, .int a2)] [] := by
  unfold f_Top_placeRefusal at hf
  refine V_iload_n C 1 d_Top_placeRefusal_0 rfl ?_
  obtain ⟨r1_1, hg, hf⟩ := bd hf
  refine V_callSi C [.int a1] (c_Top_isShelf C.2.2.2.2.2.2.2.1 hg) (by decide) cw_Top_104 rfl (Nat.le_of_ble_eq_true rfl) rfl d_Top_placeRefusal_1 ?_
  refine V_if_ne (pc := 4) (tgt := 9) C d_Top_placeRefusal_4 (by decide) hf (fun hf => ?_) (fun hf => ?_)
  · refine V_aload_n C 0 d_Top_placeRefusal_9 rfl ?_
    refine gC_Top_shelves C fl_Top_87 d_Top_placeRefusal_10 ?_
    refine V_iload_n C 1 d_Top_placeRefusal_13 rfl ?_
    obtain ⟨hi14_2, hf⟩ := gu hf
    refine V_shelves C hi14_2 d_Top_placeRefusal_14 ?_
    refine V_astore_n C d_Top_placeRefusal_15 (by decide) rfl ?_
    refine V_aload_n C 0 d_Top_placeRefusal_16 rfl ?_
    refine gC_Shelf_sort (v := σ.1 (4201 + 200 * (a1.toNatClampNeg))) C (inb6 hi14_2) fl_Top_368 rfl d_Top_placeRefusal_17 ?_
    refine V_bipush (v := -2) C d_Top_placeRefusal_20 (by decide) ?_
    refine V_icmp_ne (pc := 22) (tgt := 28) C d_Top_placeRefusal_22 (by decide) hf (fun hf => ?_) (fun hf => ?_)
    · refine V_aload_n C 0 d_Top_placeRefusal_28 rfl ?_
      obtain ⟨r29_3, hg, hf⟩ := bd hf
      refine V_callVi C [] (c_Shelf_isRow C.2.2.2.2.2.2.2.1 (inb6 hi14_2) hg) (by decide) cw_Top_371 (42 + 2 * (a1.toNatClampNeg)) (sh_at (inb6 hi14_2)) rfl rfl rfl (Nat.le_of_ble_eq_true rfl) rfl d_Top_placeRefusal_29 ?_
      refine V_if_ne (pc := 32) (tgt := 38) C d_Top_placeRefusal_32 (by decide) hf (fun hf => ?_) (fun hf => ?_)
      · refine V_aload_n C 0 d_Top_placeRefusal_38 rfl ?_
        refine V_iload_n C 3 d_Top_placeRefusal_39 rfl ?_
        obtain ⟨r40_4, hg, hf⟩ := bd hf
        refine V_callVi C [.int a2] (c_Shelf_hasPlace C.2.2.2.2.2.2.2.1 (inb6 hi14_2) hg) (by decide) cw_Top_401 (42 + 2 * (a1.toNatClampNeg)) (sh_at (inb6 hi14_2)) rfl rfl rfl (Nat.le_of_ble_eq_true rfl) rfl d_Top_placeRefusal_40 ?_
        refine V_if_eq (pc := 43) (tgt := 50) C d_Top_placeRefusal_43 (by decide) hf (fun hf => ?_) (fun hf => ?_)
        · refine V_bipush (v := -13) C d_Top_placeRefusal_50 (by decide) ?_
          exact V_iret hR hf d_Top_placeRefusal_52
        · refine V_iconst (v := 0) C d_Top_placeRefusal_46 (by decide) ?_
          refine V_goto (pc := 47) (tgt := 52) C d_Top_placeRefusal_47 (by decide) ?_
          exact V_iret hR hf d_Top_placeRefusal_52
      · refine V_bipush (v := -12) C d_Top_placeRefusal_35 (by decide) ?_
        exact V_iret hR hf d_Top_placeRefusal_37
    · refine V_bipush (v := -11) C d_Top_placeRefusal_25 (by decide) ?_
      exact V_iret hR hf d_Top_placeRefusal_27
  · refine V_iconst (v := -1) C d_Top_placeRefusal_7 (by decide) ?_
    exact V_iret hR hf d_Top_placeRefusal_8
theorem c_Top_placeRefusal {l : Launch} {g : Gx} (hok : Wok classes (wC g)) {σ : St} {a1 : Int32} {a2 : Int32} {r : Int32} (hf : f_Top_placeRefusal σ a1 a2 = some r) : CtI classes l y_Top_placeRefusal b_Top_placeRefusal 4 (some .int) 3 (wC g) [.ref (g.2.1 0), .int a1, .int a2] σ r σ :=
  MetI (by decide +kernel) hok (Nat.le_of_ble_eq_true rfl) (fun E _ C hR => w_Top_placeRefusal C hR hf)
set_option maxRecDepth 4000 in
theorem w_Top_element {E : Ev} {g : Gx} {r : Int64} {σ : St} (C : Cx E classes 3 (wC g) b_Top_element "WithTheReds" 4) (hR : RetL E classes 3 (wC g) b_Top_element r σ) {a1 : Int32} {a2 : Int32} (hf : f_Top_element σ a1 a2 = some r) : V E classes 3 (wC g) σ 0 [(0, .ref (g.2.1 0)), (1, .int a1), (2, .int a2)] [] := by
  unfold f_Top_element at hf
  refine V_aload_n C 0 d_Top_element_0 rfl ?_
  refine V_iload_n C 1 d_Top_element_1 rfl ?_
  refine V_iload_n C 2 d_Top_element_2 rfl ?_
  obtain ⟨r3_1, hg, hf⟩ := bd hf
  refine V_callVi C [.int a1, .int a2] (c_Top_placeRefusal C.2.2.2.2.2.2.2.1 hg) (by decide) cw_Top_354 0 rfl rfl rfl rfl (Nat.le_of_ble_eq_true rfl) rfl d_Top_element_3 ?_
  refine V_if_ne (pc := 6) (tgt := 23) C d_Top_element_6 (by decide) hf (fun hf => ?_) (fun hf => ?_)
  · refine V_ldc2 C kc_Top_366 d_Top_element_23 ?_
    exact V_lret hR hf d_Top_element_26
  · refine V_aload_n C 0 d_Top_element_9 rfl ?_
    refine gC_Top_shelves C fl_Top_87 d_Top_element_10 ?_
    refine V_iload_n C 1 d_Top_element_13 rfl ?_
    obtain ⟨hi14_2, hf⟩ := gu hf
    refine V_shelves C hi14_2 d_Top_element_14 ?_
    refine gC_Shelf_elements C (inb6 hi14_2) fl_Top_360 d_Top_element_15 ?_
    refine V_iload_n C 2 d_Top_element_18 rfl ?_
    obtain ⟨hi19_3, hf⟩ := gu hf
    refine aC_she (v := σ.2.2 (43 + 2 * (a1.toNatClampNeg)) a2.toNatClampNeg) C (inb6 hi14_2) hi19_3 rfl d_Top_element_19 ?_
    refine V_goto (pc := 20) (tgt := 26) C d_Top_element_20 (by decide) ?_
    exact V_lret hR hf d_Top_element_26
theorem c_Top_element {l : Launch} {g : Gx} (hok : Wok classes (wC g)) {σ : St} {a1 : Int32} {a2 : Int32} {r : Int64} (hf : f_Top_element σ a1 a2 = some r) : CtL classes l y_Top_element b_Top_element 3 (some .long) 4 (wC g) [.ref (g.2.1 0), .int a1, .int a2] σ r σ :=
  MetL (by decide +kernel) hok (Nat.le_of_ble_eq_true rfl) (fun E _ C hR => w_Top_element C hR hf)
set_option maxRecDepth 4000 in
theorem w_Tape_isFull {E : Ev} {g : Gx} {r : Int32} {σ : St} (C : Cx E classes 1 (wC g) b_Tape_isFull "WithTheReds$Tape" 1) (hR : RetZ E classes 1 (wC g) b_Tape_isFull r σ) (hf : f_Tape_isFull σ = some r) : V E classes 1 (wC g) σ 0 [(0, .ref (g.2.1 35))] [] := by
  unfold f_Tape_isFull at hf
  refine V_aload_n C 0 d_Tape_isFull_0 rfl ?_
  refine gC_Tape_length (v := σ.1 3503) C fl_Tape_23 rfl d_Tape_isFull_1 ?_
  refine V_bipush (v := 120) C d_Tape_isFull_4 (by decide) ?_
  refine V_icmp_lt (pc := 6) (tgt := 13) C d_Tape_isFull_6 (by decide) hf (fun hf => ?_) (fun hf => ?_)
  · refine V_iconst (v := 0) C d_Tape_isFull_13 (by decide) ?_
    exact V_zret hR hf rfl d_Tape_isFull_14
  · refine V_iconst (v := 1) C d_Tape_isFull_9 (by decide) ?_
    refine V_goto (pc := 10) (tgt := 14) C d_Tape_isFull_10 (by decide) ?_
    exact V_zret hR hf rfl d_Tape_isFull_14
theorem c_Tape_isFull {l : Launch} {g : Gx} (hok : Wok classes (wC g)) {σ : St} {r : Int32} (hf : f_Tape_isFull σ = some r) : CtI classes l y_Tape_isFull b_Tape_isFull 1 (some .boolean) 1 (wC g) [.ref (g.2.1 35)] σ r σ :=
  MetZ (by decide +kernel) hok (Nat.le_of_ble_eq_true rfl) (fun E _ C hR => w_Tape_isFull C hR hf)
set_option maxRecDepth 4000 in
theorem w_Tape_add {E : Ev} {g : Gx} {r : Int32} {σ' : St} (C : Cx E classes 2 (wC g) b_Tape_add "WithTheReds$Tape" 2) (hR : RetI E classes 2 (wC g) b_Tape_add r σ') {σ : St} {a1 : Int32} (hf : f_Tape_add σ a1 = some (r, σ')) : V E classes 2 (wC g) σ 0 [(0, .ref (g.2.1 35)), (1, .int a1)] [] := by
  unfold f_Tape_add at hf
  refine V_aload_n C 0 d_Tape_add_0 rfl ?_
  obtain ⟨r1_1, hg, hf⟩ := bd hf
  refine V_callVi C [] (c_Tape_isFull C.2.2.2.2.2.2.2.1 hg) (by decide) cw_Tape_27 35 rfl rfl rfl rfl (Nat.le_of_ble_eq_true rfl) rfl d_Tape_add_1 ?_
  refine V_if_eq (pc := 4) (tgt := 10) C d_Tape_add_4 (by decide) hf (fun hf => ?_) (fun hf => ?_)
  · refine V_aload_n C 0 d_Tape_add_10 rfl ?_
    refine gC_Tape_bytes C fl_Tape_11 d_Tape_add_11 ?_
    refine V_aload_n C 0 d_Tape_add_14 rfl ?_
    refine gC_Tape_length (v := σ.1 3503) C fl_Tape_23 rfl d_Tape_add_15 ?_
    refine V_iload_n C 1 d_Tape_add_18 rfl ?_
    obtain ⟨hi19_2, hf⟩ := gu hf
    refine sC_36 C hi19_2 d_Tape_add_19 ?_
    refine V_aload_n C 0 d_Tape_add_20 rfl ?_
    refine V_dup C d_Tape_add_21 rfl ?_
    refine gC_Tape_length (v := σ.1 3503) C fl_Tape_23 rfl d_Tape_add_22 ?_
    refine V_iconst (v := 1) C d_Tape_add_25 (by decide) ?_
    refine V_iadd C d_Tape_add_26 ?_
    refine pC_Tape_length C fl_Tape_23 d_Tape_add_27 ?_
    refine V_aload_n C 0 d_Tape_add_30 rfl ?_
    refine gC_Tape_length (v := ((σ.1 3503) + (1 : Int32))) C fl_Tape_23 rfl d_Tape_add_31 ?_
    exact V_iretW hR hf d_Tape_add_34
  · refine V_bipush (v := -3) C d_Tape_add_7 (by decide) ?_
    exact V_iretW hR hf d_Tape_add_9
theorem c_Tape_add {l : Launch} {g : Gx} (hok : Wok classes (wC g)) {σ : St} {a1 : Int32} {r : Int32} {σ' : St} (hf : f_Tape_add σ a1 = some (r, σ')) : CtI classes l y_Tape_add b_Tape_add 2 (some .int) 2 (wC g) [.ref (g.2.1 35), .int a1] σ r σ' :=
  MetI (by decide +kernel) hok (Nat.le_of_ble_eq_true rfl) (fun E _ C hR => w_Tape_add C hR hf)
set_option maxRecDepth 4000 in
theorem w_Top_feed {E : Ev} {g : Gx} {r : Int32} {σ' : St} (C : Cx E classes 2 (wC g) b_Top_feed "WithTheReds" 3) (hR : RetI E classes 2 (wC g) b_Top_feed r σ') {σ : St} {a1 : Int32} (hf : f_Top_feed σ a1 = some (r, σ')) : V E classes 2 (wC g) σ 0 [(0, .ref (g.2.1 0)), (1, .int a1)] [] := by
  unfold f_Top_feed at hf
  refine V_iload_n C 1 d_Top_feed_0 rfl ?_
  refine V_iconst (v := 0) C d_Top_feed_1 (by decide) ?_
  refine V_sipush (v := 255) C d_Top_feed_2 (by decide) ?_
  obtain ⟨r5_1, hg, hf⟩ := bd hf
  refine V_callSi C [.int a1, .int (0 : Int32), .int (255 : Int32)] (c_Top_within C.2.2.2.2.2.2.2.1 hg) (by decide) cw_Top_108 rfl (Nat.le_of_ble_eq_true rfl) rfl d_Top_feed_5 ?_
  refine V_if_ne (pc := 8) (tgt := 13) C d_Top_feed_8 (by decide) hf (fun hf => ?_) (fun hf => ?_)
  · refine V_aload_n C 0 d_Top_feed_13 rfl ?_
    refine gC_Top_tape C fl_Top_19 d_Top_feed_14 ?_
    obtain ⟨r17_2, hg, hf⟩ := bd hf
    refine V_callVi C [] (c_Tape_isFull C.2.2.2.2.2.2.2.1 hg) (by decide) cw_Top_140 35 rfl rfl rfl rfl (Nat.le_of_ble_eq_true rfl) rfl d_Top_feed_17 ?_
    refine V_if_eq (pc := 20) (tgt := 28) C d_Top_feed_20 (by decide) hf (fun hf => ?_) (fun hf => ?_)
    · refine V_aload_n C 0 d_Top_feed_28 rfl ?_
      refine gC_Top_tape C fl_Top_19 d_Top_feed_29 ?_
      refine V_iload_n C 1 d_Top_feed_32 rfl ?_
      obtain ⟨r33_3, σ33_3, hg, hf⟩ := bd2_of hf
      refine V_callVi C [.int a1] (c_Tape_add C.2.2.2.2.2.2.2.1 hg) (by decide) cw_Top_141 35 rfl rfl rfl rfl (Nat.le_of_ble_eq_true rfl) rfl d_Top_feed_33 ?_
      exact V_iretW hR hf d_Top_feed_36
    · refine V_bipush (v := -3) C d_Top_feed_23 (by decide) ?_
      refine V_goto (pc := 25) (tgt := 36) C d_Top_feed_25 (by decide) ?_
      exact V_iretW hR hf d_Top_feed_36
  · refine V_iconst (v := -1) C d_Top_feed_11 (by decide) ?_
    exact V_iretW hR hf d_Top_feed_12
theorem c_Top_feed {l : Launch} {g : Gx} (hok : Wok classes (wC g)) {σ : St} {a1 : Int32} {r : Int32} {σ' : St} (hf : f_Top_feed σ a1 = some (r, σ')) : CtI classes l y_Top_feed b_Top_feed 2 (some .int) 3 (wC g) [.ref (g.2.1 0), .int a1] σ r σ' :=
  MetI (by decide +kernel) hok (Nat.le_of_ble_eq_true rfl) (fun E _ C hR => w_Top_feed C hR hf)
set_option maxRecDepth 4000 in
theorem w_Top_firstUnlike_2 {E : Ev} {g : Gx} {r : Int32} {σ : St} (C : Cx E classes 4 (wC g) b_Top_firstUnlike "WithTheReds" 4) (hR : RetI E classes 4 (wC g) b_Top_firstUnlike r σ) : ∀ (n : Nat) (jx1 : Nat) (x2 : Int32) (x3 : Int32) (hjx1 : jx1 < 6), f_Top_firstUnlike_2 n σ jx1 x2 x3 = some r → V E classes 4 (wC g) σ 2 [(0, .ref (g.2.1 0)), (1, .ref (g.2.1 (42 + 2 * jx1))), (2, .int x2), (3, .int x3)] [] := by
  intro n
  induction n with
  | zero => intro jx1 x2 x3 hjx1 hf; exact absurd hf (by unfold f_Top_firstUnlike_2; exact nofun)
  | succ n ih =>
    intro jx1 x2 x3 hjx1 hf
    unfold f_Top_firstUnlike_2 at hf
    refine V_iload_n C 3 d_Top_firstUnlike_2 rfl ?_
    refine V_aload_n C 0 d_Top_firstUnlike_3 rfl ?_
    refine gC_Top_basket C fl_Top_10 d_Top_firstUnlike_4 ?_
    refine gC_Basket_things (v := σ.1 103) C fl_Top_198 rfl d_Top_firstUnlike_7 ?_
    refine V_icmp_ge (pc := 10) (tgt := 56) C d_Top_firstUnlike_10 (by decide) hf (fun hf => ?_) (fun hf => ?_)
    · refine V_bipush (v := -2) C d_Top_firstUnlike_56 (by decide) ?_
      exact V_iret hR hf d_Top_firstUnlike_58
    · refine V_aload_n C 1 d_Top_firstUnlike_13 rfl ?_
      refine V_iload_n C 3 d_Top_firstUnlike_14 rfl ?_
      obtain ⟨r15_1, hg, hf⟩ := bd hf
      refine V_callVi C [.int x3] (c_Shelf_hasPlace C.2.2.2.2.2.2.2.1 hjx1 hg) (by decide) cw_Top_401 (42 + 2 * jx1) (sh_at hjx1) rfl rfl rfl (Nat.le_of_ble_eq_true rfl) rfl d_Top_firstUnlike_15 ?_
      refine V_if_eq (pc := 18) (tgt := 56) C d_Top_firstUnlike_18 (by decide) hf (fun hf => ?_) (fun hf => ?_)
      · refine V_bipush (v := -2) C d_Top_firstUnlike_56 (by decide) ?_
        exact V_iret hR hf d_Top_firstUnlike_58
      · refine V_iload_n C 2 d_Top_firstUnlike_21 rfl ?_
        refine V_iload_n C 3 d_Top_firstUnlike_22 rfl ?_
        obtain ⟨r23_2, hg, hf⟩ := bd hf
        refine V_callSi C [.int x2, .int x3] (c_Top_isOf C.2.2.2.2.2.2.2.1 hg) (by decide) cw_Top_182 rfl (Nat.le_of_ble_eq_true rfl) rfl d_Top_firstUnlike_23 ?_
        refine V_if_eq (pc := 26) (tgt := 50) C d_Top_firstUnlike_26 (by decide) hf (fun hf => ?_) (fun hf => ?_)
        · refine V_iinc (v := x3 + (1 : Int32)) C 3 d_Top_firstUnlike_50 rfl rfl (by decide) rfl ?_
          refine V_goto (pc := 53) (tgt := 2) C d_Top_firstUnlike_53 (by decide) ?_
          refine V.sub [1, 2, 3, 0] rfl ?_
          exact ih jx1 x2 (x3 + (1 : Int32)) hjx1 hf
        · refine V_aload_n C 0 d_Top_firstUnlike_29 rfl ?_
          refine gC_Top_tub C fl_Top_35 d_Top_firstUnlike_30 ?_
          refine V_iload_n C 3 d_Top_firstUnlike_33 rfl ?_
          obtain ⟨r34_3, hg, hf⟩ := bd hf
          refine V_callVi C [.int x3] (c_Tub_tintOf C.2.2.2.2.2.2.2.1 hg) (by decide) cw_Top_185 39 rfl rfl rfl rfl (Nat.le_of_ble_eq_true rfl) rfl d_Top_firstUnlike_34 ?_
          refine V_i2l C d_Top_firstUnlike_37 ?_
          refine V_aload_n C 1 d_Top_firstUnlike_38 rfl ?_
          refine gC_Shelf_elements C hjx1 fl_Top_360 d_Top_firstUnlike_39 ?_
          refine V_iload_n C 3 d_Top_firstUnlike_42 rfl ?_
          obtain ⟨hi43_4, hf⟩ := gu hf
          refine aC_she (v := σ.2.2 (43 + 2 * jx1) x3.toNatClampNeg) C hjx1 hi43_4 rfl d_Top_firstUnlike_43 ?_
          refine V_lcmp C d_Top_firstUnlike_44 ?_
          refine V_if_eq (pc := 45) (tgt := 50) C d_Top_firstUnlike_45 (by decide) hf (fun hf => ?_) (fun hf => ?_)
          · refine V_iinc (v := x3 + (1 : Int32)) C 3 d_Top_firstUnlike_50 rfl rfl (by decide) rfl ?_
            refine V_goto (pc := 53) (tgt := 2) C d_Top_firstUnlike_53 (by decide) ?_
            refine V.sub [1, 2, 3, 0] rfl ?_
            exact ih jx1 x2 (x3 + (1 : Int32)) hjx1 hf
          · refine V_iload_n C 3 d_Top_firstUnlike_48 rfl ?_
            exact V_iret hR hf d_Top_firstUnlike_49
set_option maxRecDepth 4000 in
theorem w_Top_firstUnlike {E : Ev} {g : Gx} {r : Int32} {σ : St} (C : Cx E classes 4 (wC g) b_Top_firstUnlike "WithTheReds" 4) (hR : RetI E classes 4 (wC g) b_Top_firstUnlike r σ) {j1 : Nat} {a2 : Int32} (hj1 : j1 < 6) (hf : f_Top_firstUnlike σ j1 a2 = some r) : V E classes 4 (wC g) σ 0 [(0, .ref (g.2.1 0)), (1, .ref (g.2.1 (42 + 2 * j1))), (2, .int a2)] [] := by
  unfold f_Top_firstUnlike at hf
  refine V_iconst (v := 0) C d_Top_firstUnlike_0 (by decide) ?_
  refine V_istore_n C d_Top_firstUnlike_1 (by decide) rfl ?_
  refine V.sub [1, 2, 3, 0] rfl ?_
  exact w_Top_firstUnlike_2 C hR FU j1 a2 (0 : Int32) hj1 hf
theorem c_Top_firstUnlike {l : Launch} {g : Gx} (hok : Wok classes (wC g)) {σ : St} {j1 : Nat} {a2 : Int32} {r : Int32} (hj1 : j1 < 6) (hf : f_Top_firstUnlike σ j1 a2 = some r) : CtI classes l y_Top_firstUnlike b_Top_firstUnlike 4 (some .int) 4 (wC g) [.ref (g.2.1 0), .ref (g.2.1 (42 + 2 * j1)), .int a2] σ r σ :=
  MetI (by decide +kernel) hok (Nat.le_of_ble_eq_true rfl) (fun E _ C hR => w_Top_firstUnlike C hR hj1 hf)
set_option maxRecDepth 4000 in
theorem w_Tub_dyeOf {E : Ev} {g : Gx} {r : Int32} {σ' : St} (C : Cx E classes 3 (wC g) b_Tub_dyeOf "WithTheReds$Tub" 5) (hR : RetI E classes 3 (wC g) b_Tub_dyeOf r σ') {σ : St} {a1 : Int32} {a2 : Int32} (hf : f_Tub_dyeOf σ a1 a2 = some (r, σ')) : V E classes 3 (wC g) σ 0 [(0, .ref (g.2.1 39)), (1, .int a1), (2, .int a2)] [] := by
  unfold f_Tub_dyeOf at hf
  refine V_aload_n C 0 d_Tub_dyeOf_0 rfl ?_
  refine V_iload_n C 1 d_Tub_dyeOf_1 rfl ?_
  refine V_aload_n C 0 d_Tub_dyeOf_2 rfl ?_
  refine gC_Tub_basket C fl_Tub_19 d_Tub_dyeOf_3 ?_
  refine V_iload_n C 1 d_Tub_dyeOf_6 rfl ?_
  refine V_iconst (v := 1) C d_Tub_dyeOf_7 (by decide) ?_
  obtain ⟨r8_1, hg, hf⟩ := bd hf
  refine V_callVi C [.int a1, .int (1 : Int32)] (c_Basket_told C.2.2.2.2.2.2.2.1 hg) (by decide) cw_Tub_29 1 rfl rfl rfl rfl (Nat.le_of_ble_eq_true rfl) rfl d_Tub_dyeOf_8 ?_
  refine V_aload_n C 0 d_Tub_dyeOf_11 rfl ?_
  refine gC_Tub_basket C fl_Tub_19 d_Tub_dyeOf_12 ?_
  refine V_iload_n C 1 d_Tub_dyeOf_15 rfl ?_
  refine V_iconst (v := 2) C d_Tub_dyeOf_16 (by decide) ?_
  obtain ⟨r17_2, hg, hf⟩ := bd hf
  refine V_callVi C [.int a1, .int (2 : Int32)] (c_Basket_told C.2.2.2.2.2.2.2.1 hg) (by decide) cw_Tub_29 1 rfl rfl rfl rfl (Nat.le_of_ble_eq_true rfl) rfl d_Tub_dyeOf_17 ?_
  refine V_iload_n C 2 d_Tub_dyeOf_20 rfl ?_
  obtain ⟨r21_3, σ21_3, hg, hf⟩ := bd2_of hf
  refine V_callVi C [.int a1, .int r8_1, .int r17_2, .int a2] (c_Tub_dyeIf C.2.2.2.2.2.2.2.1 hg) (by decide) cw_Tub_33 39 rfl rfl rfl rfl (Nat.le_of_ble_eq_true rfl) rfl d_Tub_dyeOf_21 ?_
  exact V_iretW hR hf d_Tub_dyeOf_24
theorem c_Tub_dyeOf {l : Launch} {g : Gx} (hok : Wok classes (wC g)) {σ : St} {a1 : Int32} {a2 : Int32} {r : Int32} {σ' : St} (hf : f_Tub_dyeOf σ a1 a2 = some (r, σ')) : CtI classes l y_Tub_dyeOf b_Tub_dyeOf 3 (some .int) 5 (wC g) [.ref (g.2.1 39), .int a1, .int a2] σ r σ' :=
  MetI (by decide +kernel) hok (Nat.le_of_ble_eq_true rfl) (fun E _ C hR => w_Tub_dyeOf C hR hf)
set_option maxRecDepth 4000 in
theorem w_Top_gives {E : Ev} {g : Gx} {r : Int32} {σ' : St} (C : Cx E classes 3 (wC g) b_Top_gives "WithTheReds" 6) (hR : RetI E classes 3 (wC g) b_Top_gives r σ') {σ : St} {a1 : Int32} {a2 : Int32} (hf : f_Top_gives σ a1 a2 = some (r, σ')) : V E classes 3 (wC g) σ 0 [(0, .ref (g.2.1 0)), (1, .int a1), (2, .int a2)] [] := by
  unfold f_Top_gives at hf
  refine V_aload_n C 0 d_Top_gives_0 rfl ?_
  refine gC_Top_basket C fl_Top_10 d_Top_gives_1 ?_
  refine V_iload_n C 1 d_Top_gives_4 rfl ?_
  obtain ⟨r5_1, hg, hf⟩ := bd hf
  refine V_callVi C [.int a1] (c_Basket_isThing C.2.2.2.2.2.2.2.1 hg) (by decide) cw_Top_134 1 rfl rfl rfl rfl (Nat.le_of_ble_eq_true rfl) rfl d_Top_gives_5 ?_
  refine V_if_eq (pc := 8) (tgt := 30) C d_Top_gives_8 (by decide) hf (fun hf => ?_) (fun hf => ?_)
  · refine V_iconst (v := -1) C d_Top_gives_30 (by decide) ?_
    exact V_iretW hR hf d_Top_gives_31
  · refine V_iload_n C 2 d_Top_gives_11 rfl ?_
    obtain ⟨r12_2, hg, hf⟩ := bd hf
    refine V_callSi C [.int a2] (c_Top_isHeat C.2.2.2.2.2.2.2.1 hg) (by decide) cw_Top_154 rfl (Nat.le_of_ble_eq_true rfl) rfl d_Top_gives_12 ?_
    refine V_if_eq (pc := 15) (tgt := 30) C d_Top_gives_15 (by decide) hf (fun hf => ?_) (fun hf => ?_)
    · refine V_iconst (v := -1) C d_Top_gives_30 (by decide) ?_
      exact V_iretW hR hf d_Top_gives_31
    · refine V_aload_n C 0 d_Top_gives_18 rfl ?_
      refine gC_Top_tub C fl_Top_35 d_Top_gives_19 ?_
      refine V_iload_n C 1 d_Top_gives_22 rfl ?_
      refine V_iload_n C 2 d_Top_gives_23 rfl ?_
      obtain ⟨r24_3, σ24_3, hg, hf⟩ := bd2_of hf
      refine V_callVi C [.int a1, .int a2] (c_Tub_dyeOf C.2.2.2.2.2.2.2.1 hg) (by decide) cw_Top_157 39 rfl rfl rfl rfl (Nat.le_of_ble_eq_true rfl) rfl d_Top_gives_24 ?_
      refine V_goto (pc := 27) (tgt := 31) C d_Top_gives_27 (by decide) ?_
      exact V_iretW hR hf d_Top_gives_31
theorem c_Top_gives {l : Launch} {g : Gx} (hok : Wok classes (wC g)) {σ : St} {a1 : Int32} {a2 : Int32} {r : Int32} {σ' : St} (hf : f_Top_gives σ a1 a2 = some (r, σ')) : CtI classes l y_Top_gives b_Top_gives 3 (some .int) 6 (wC g) [.ref (g.2.1 0), .int a1, .int a2] σ r σ' :=
  MetI (by decide +kernel) hok (Nat.le_of_ble_eq_true rfl) (fun E _ C hR => w_Top_gives C hR hf)
set_option maxRecDepth 4000 in
theorem w_Top_guests_17 {E : Ev} {g : Gx} {r : Int32} {σ' : St} (C : Cx E classes 6 (wC g) b_Top_guests "WithTheReds" 6) (hR : RetI E classes 6 (wC g) b_Top_guests r σ') : ∀ (n : Nat) (σ : St) (jx1 : Nat) (x2 : Int32) (x3 : Int32) (x4 : Int32) (x5 : Int32) (hjx1 : jx1 < 6), f_Top_guests_17 n σ jx1 x2 x3 x4 x5 = some (r, σ') → V E classes 6 (wC g) σ 17 [(0, .ref (g.2.1 0)), (1, .ref (g.2.1 (42 + 2 * jx1))), (2, .int x2), (3, .int x3), (4, .int x4), (5, .int x5)] [] := by
  intro n
  induction n with
  | zero => intro σ jx1 x2 x3 x4 x5 hjx1 hf; exact absurd hf (by unfold f_Top_guests_17; exact nofun)
  | succ n ih =>
    intro σ jx1 x2 x3 x4 x5 hjx1 hf
    unfold f_Top_guests_17 at hf
    refine V_iload C 5 d_Top_guests_17 rfl ?_
    refine V_aload_n C 0 d_Top_guests_19 rfl ?_
    refine gC_Top_basket C fl_Top_10 d_Top_guests_20 ?_
    refine gC_Basket_things (v := σ.1 103) C fl_Top_198 rfl d_Top_guests_23 ?_
    refine V_icmp_ge (pc := 26) (tgt := 92) C d_Top_guests_26 (by decide) hf (fun hf => ?_) (fun hf => ?_)
    · refine V_iload C 4 d_Top_guests_92 rfl ?_
      exact V_iretW hR hf d_Top_guests_94
    · refine V_iload_n C 2 d_Top_guests_29 rfl ?_
      refine V_iload C 5 d_Top_guests_30 rfl ?_
      obtain ⟨r32_1, hg, hf⟩ := bd hf
      refine V_callSi C [.int x2, .int x5] (c_Top_isOf C.2.2.2.2.2.2.2.1 hg) (by decide) cw_Top_182 rfl (Nat.le_of_ble_eq_true rfl) rfl d_Top_guests_32 ?_
      refine V_if_ne (pc := 35) (tgt := 86) C d_Top_guests_35 (by decide) hf (fun hf => ?_) (fun hf => ?_)
      · refine V_iinc (v := x5 + (1 : Int32)) C 5 d_Top_guests_86 rfl rfl (by decide) rfl ?_
        refine V_goto (pc := 89) (tgt := 17) C d_Top_guests_89 (by decide) ?_
        refine V.sub [1, 2, 3, 4, 5, 0] rfl ?_
        exact ih σ jx1 x2 x3 x4 (x5 + (1 : Int32)) hjx1 hf
      · refine V_aload_n C 0 d_Top_guests_38 rfl ?_
        refine gC_Top_tub C fl_Top_35 d_Top_guests_39 ?_
        refine V_iload_n C 2 d_Top_guests_42 rfl ?_
        refine V_iconst (v := 1) C d_Top_guests_43 (by decide) ?_
        refine V_iload C 5 d_Top_guests_44 rfl ?_
        refine V_ishl C d_Top_guests_46 ?_
        refine V_ior C d_Top_guests_47 ?_
        refine V_aload_n C 0 d_Top_guests_48 rfl ?_
        refine gC_Top_tub C fl_Top_35 d_Top_guests_49 ?_
        refine V_iload_n C 3 d_Top_guests_52 rfl ?_
        refine V_bipush (v := 10) C d_Top_guests_53 (by decide) ?_
        refine V_irem C d_Top_guests_55 (by decide) ?_
        obtain ⟨r56_2, hg, hf⟩ := bd hf
        refine V_callVi C [.int (irem x3 (10 : Int32))] (c_Tub_caughtBy C.2.2.2.2.2.2.2.1 hg) (by decide) cw_Top_204 39 rfl rfl rfl rfl (Nat.le_of_ble_eq_true rfl) rfl d_Top_guests_56 ?_
        obtain ⟨σ59_3, hg, hf⟩ := bd hf
        refine V_callVv C [.int (x2 ||| ((1 : Int32) <<< (x5 &&& 31))), .int r56_2] (c_Tub_fill C.2.2.2.2.2.2.2.1 hg) (by decide) cw_Top_201 39 rfl rfl rfl rfl (Nat.le_of_ble_eq_true rfl) rfl d_Top_guests_59 ?_
        refine V_iload C 4 d_Top_guests_62 rfl ?_
        refine V_aload_n C 0 d_Top_guests_64 rfl ?_
        refine V_aload_n C 1 d_Top_guests_65 rfl ?_
        refine V_iload_n C 2 d_Top_guests_66 rfl ?_
        obtain ⟨r67_4, hg, hf⟩ := bd hf
        refine V_callVi C [.ref (g.2.1 (42 + 2 * jx1)), .int x2] (c_Top_firstUnlike C.2.2.2.2.2.2.2.1 hjx1 hg) (by decide) cw_Top_280 0 rfl rfl rfl rfl (Nat.le_of_ble_eq_true rfl) rfl d_Top_guests_67 ?_
        refine V_bipush (v := -2) C d_Top_guests_70 (by decide) ?_
        refine V_icmp_ne (pc := 72) (tgt := 82) C d_Top_guests_72 (by decide) hf (fun hf => ?_) (fun hf => ?_)
        · refine V_iconst (v := 0) C d_Top_guests_82 (by decide) ?_
          refine V_ior C d_Top_guests_83 ?_
          refine V_istore C d_Top_guests_84 (by decide) rfl ?_
          refine V_iinc (v := x5 + (1 : Int32)) C 5 d_Top_guests_86 rfl rfl (by decide) rfl ?_
          refine V_goto (pc := 89) (tgt := 17) C d_Top_guests_89 (by decide) ?_
          refine V.sub [2, 3, 4, 5, 1, 0] rfl ?_
          exact ih σ59_3 jx1 x2 x3 (x4 ||| (0 : Int32)) (x5 + (1 : Int32)) hjx1 hf
        · refine V_iconst (v := 1) C d_Top_guests_75 (by decide) ?_
          refine V_iload C 5 d_Top_guests_76 rfl ?_
          refine V_ishl C d_Top_guests_78 ?_
          refine V_goto (pc := 79) (tgt := 83) C d_Top_guests_79 (by decide) ?_
          refine V_ior C d_Top_guests_83 ?_
          refine V_istore C d_Top_guests_84 (by decide) rfl ?_
          refine V_iinc (v := x5 + (1 : Int32)) C 5 d_Top_guests_86 rfl rfl (by decide) rfl ?_
          refine V_goto (pc := 89) (tgt := 17) C d_Top_guests_89 (by decide) ?_
          refine V.sub [2, 3, 4, 5, 1, 0] rfl ?_
          exact ih σ59_3 jx1 x2 x3 (x4 ||| ((1 : Int32) <<< (x5 &&& 31))) (x5 + (1 : Int32)) hjx1 hf
set_option maxRecDepth 4000 in
theorem w_Top_guests {E : Ev} {g : Gx} {r : Int32} {σ' : St} (C : Cx E classes 6 (wC g) b_Top_guests "WithTheReds" 6) (hR : RetI E classes 6 (wC g) b_Top_guests r σ') {σ : St} {j1 : Nat} {a2 : Int32} {a3 : Int32} (hj1 : j1 < 6) (hf : f_Top_guests σ j1 a2 a3 = some (r, σ')) : V E classes 6 (wC g) σ 0 [(0, .ref (g.2.1 0)), (1, .ref (g.2.1 (42 + 2 * j1))), (2, .int a2), (3, .int a3)] [] := by
  unfold f_Top_guests at hf
  refine V_aload_n C 0 d_Top_guests_0 rfl ?_
  refine gC_Top_tub C fl_Top_35 d_Top_guests_1 ?_
  refine V_iload_n C 3 d_Top_guests_4 rfl ?_
  refine V_bipush (v := 10) C d_Top_guests_5 (by decide) ?_
  refine V_idiv C d_Top_guests_7 (by decide) ?_
  obtain ⟨σ8_1, hg, hf⟩ := bd hf
  refine V_callVv C [.int (a3 / (10 : Int32))] (c_Tub_warm C.2.2.2.2.2.2.2.1 hg) (by decide) cw_Top_194 39 rfl rfl rfl rfl (Nat.le_of_ble_eq_true rfl) rfl d_Top_guests_8 ?_
  refine V_iconst (v := 0) C d_Top_guests_11 (by decide) ?_
  refine V_istore C d_Top_guests_12 (by decide) rfl ?_
  refine V_iconst (v := 0) C d_Top_guests_14 (by decide) ?_
  refine V_istore C d_Top_guests_15 (by decide) rfl ?_
  refine V.sub [2, 3, 4, 5, 1, 0] rfl ?_
  exact w_Top_guests_17 C hR FU σ8_1 j1 a2 a3 (0 : Int32) (0 : Int32) hj1 hf
theorem c_Top_guests {l : Launch} {g : Gx} (hok : Wok classes (wC g)) {σ : St} {j1 : Nat} {a2 : Int32} {a3 : Int32} {r : Int32} {σ' : St} (hj1 : j1 < 6) (hf : f_Top_guests σ j1 a2 a3 = some (r, σ')) : CtI classes l y_Top_guests b_Top_guests 6 (some .int) 6 (wC g) [.ref (g.2.1 0), .ref (g.2.1 (42 + 2 * j1)), .int a2, .int a3] σ r σ' :=
  MetI (by decide +kernel) hok (Nat.le_of_ble_eq_true rfl) (fun E _ C hR => w_Top_guests C hR hj1 hf)
set_option maxRecDepth 4000 in
theorem w_Top_isThingOrAll {E : Ev} {g : Gx} {r : Int32} {σ : St} (C : Cx E classes 2 (wC g) b_Top_isThingOrAll "WithTheReds" 3) (hR : RetZ E classes 2 (wC g) b_Top_isThingOrAll r σ) {a1 : Int32} (hf : f_Top_isThingOrAll σ a1 = some r) : V E classes 2 (wC g) σ 0 [(0, .ref (g.2.1 0)), (1, .int a1)] [] := by
  unfold f_Top_isThingOrAll at hf
  refine V_iload_n C 1 d_Top_isThingOrAll_0 rfl ?_
  refine V_iconst (v := -1) C d_Top_isThingOrAll_1 (by decide) ?_
  refine V_icmp_eq (pc := 2) (tgt := 16) C d_Top_isThingOrAll_2 (by decide) hf (fun hf => ?_) (fun hf => ?_)
  · refine V_iconst (v := 1) C d_Top_isThingOrAll_16 (by decide) ?_
    refine V_goto (pc := 17) (tgt := 21) C d_Top_isThingOrAll_17 (by decide) ?_
    exact V_zret hR hf rfl d_Top_isThingOrAll_21
  · refine V_aload_n C 0 d_Top_isThingOrAll_5 rfl ?_
    refine gC_Top_basket C fl_Top_10 d_Top_isThingOrAll_6 ?_
    refine V_iload_n C 1 d_Top_isThingOrAll_9 rfl ?_
    obtain ⟨r10_1, hg, hf⟩ := bd hf
    refine V_callVi C [.int a1] (c_Basket_isThing C.2.2.2.2.2.2.2.1 hg) (by decide) cw_Top_134 1 rfl rfl rfl rfl (Nat.le_of_ble_eq_true rfl) rfl d_Top_isThingOrAll_10 ?_
    refine V_if_eq (pc := 13) (tgt := 20) C d_Top_isThingOrAll_13 (by decide) hf (fun hf => ?_) (fun hf => ?_)
    · refine V_iconst (v := 0) C d_Top_isThingOrAll_20 (by decide) ?_
      exact V_zret hR hf rfl d_Top_isThingOrAll_21
    · refine V_iconst (v := 1) C d_Top_isThingOrAll_16 (by decide) ?_
      refine V_goto (pc := 17) (tgt := 21) C d_Top_isThingOrAll_17 (by decide) ?_
      exact V_zret hR hf rfl d_Top_isThingOrAll_21
theorem c_Top_isThingOrAll {l : Launch} {g : Gx} (hok : Wok classes (wC g)) {σ : St} {a1 : Int32} {r : Int32} (hf : f_Top_isThingOrAll σ a1 = some r) : CtI classes l y_Top_isThingOrAll b_Top_isThingOrAll 2 (some .boolean) 3 (wC g) [.ref (g.2.1 0), .int a1] σ r σ :=
  MetZ (by decide +kernel) hok (Nat.le_of_ble_eq_true rfl) (fun E _ C hR => w_Top_isThingOrAll C hR hf)
set_option maxRecDepth 4000 in
theorem w_Heaps_fewestRuns_7 {E : Ev} {g : Gx} {r : Int32} {σ' : St} (C : Cx E classes 4 (wC g) b_Heaps_fewestRuns "WithTheReds$Heaps" 24) (hR : RetZ E classes 4 (wC g) b_Heaps_fewestRuns r σ') : ∀ (n : Nat) (σ : St) (x2 : Int32) (x3 : Int32), f_Heaps_fewestRuns_7 n σ x2 x3 = some (r, σ') → V E classes 4 (wC g) σ 7 [(0, .ref (g.2.1 15)), (2, .int x2), (3, .int x3)] [] := by
  intro n
  induction n with
  | zero => intro σ x2 x3 hf; exact absurd hf (by unfold f_Heaps_fewestRuns_7; exact nofun)
  | succ n ih =>
    intro σ x2 x3 hf
    unfold f_Heaps_fewestRuns_7 at hf
    refine V_iload_n C 2 d_Heaps_fewestRuns_7 rfl ?_
    refine V_iconst (v := 1) C d_Heaps_fewestRuns_8 (by decide) ?_
    refine V_aload_n C 0 d_Heaps_fewestRuns_9 rfl ?_
    refine gC_Heaps_size (v := σ.1 1506) C fl_Heaps_37 rfl d_Heaps_fewestRuns_10 ?_
    refine V_ishl C d_Heaps_fewestRuns_13 ?_
    refine V_icmp_ge (pc := 14) (tgt := 58) C d_Heaps_fewestRuns_14 (by decide) hf (fun hf => ?_) (fun hf => ?_)
    · refine V_aload_n C 0 d_Heaps_fewestRuns_58 rfl ?_
      refine V_bipush (v := 8) C d_Heaps_fewestRuns_59 (by decide) ?_
      obtain ⟨r61_1, σ61_1, hg, hf⟩ := bd2_of hf
      refine V_callVi C [.int (8 : Int32)] (c_Heaps_findsWay C.2.2.2.2.2.2.2.1 hg) (by decide) cw_Heaps_55 15 rfl rfl rfl rfl (Nat.le_of_ble_eq_true rfl) rfl d_Heaps_fewestRuns_61 ?_
      obtain ⟨hz, hf⟩ := gu hf
      exact V_zretW hR hf hz d_Heaps_fewestRuns_64
    · refine V_aload_n C 0 d_Heaps_fewestRuns_17 rfl ?_
      refine gC_Heaps_tub C fl_Heaps_29 d_Heaps_fewestRuns_18 ?_
      refine V_aload_n C 0 d_Heaps_fewestRuns_21 rfl ?_
      refine V_iload_n C 2 d_Heaps_fewestRuns_22 rfl ?_
      obtain ⟨r23_2, hg, hf⟩ := bd hf
      refine V_callVi C [.int x3] (c_Heaps_thingsOf C.2.2.2.2.2.2.2.1 hg) (by decide) cw_Heaps_41 15 rfl rfl rfl rfl (Nat.le_of_ble_eq_true rfl) rfl d_Heaps_fewestRuns_23 ?_
      refine V_iconst (v := 0) C d_Heaps_fewestRuns_26 (by decide) ?_
      obtain ⟨σ27_3, hg, hf⟩ := bd hf
      refine V_callVv C [.int r23_2, .int (0 : Int32)] (c_Tub_fill C.2.2.2.2.2.2.2.1 hg) (by decide) cw_Heaps_45 39 rfl rfl rfl rfl (Nat.le_of_ble_eq_true rfl) rfl d_Heaps_fewestRuns_27 ?_
      refine V_aload_n C 0 d_Heaps_fewestRuns_30 rfl ?_
      refine gC_Heaps_prices C fl_Heaps_17 d_Heaps_fewestRuns_31 ?_
      refine V_iload_n C 2 d_Heaps_fewestRuns_34 rfl ?_
      refine V_aload_n C 0 d_Heaps_fewestRuns_35 rfl ?_
      refine gC_Heaps_tub C fl_Heaps_29 d_Heaps_fewestRuns_36 ?_
      refine V_iload_n C 1 d_Heaps_fewestRuns_39 rfl ?_
      obtain ⟨r40_4, hg, hf⟩ := bd hf
      refine V_callVi C [.int x2] (c_Tub_isSafe C.2.2.2.2.2.2.2.1 hg) (by decide) cw_Heaps_51 39 rfl rfl rfl rfl (Nat.le_of_ble_eq_true rfl) rfl d_Heaps_fewestRuns_40 ?_
      refine V_if_eq (pc := 43) (tgt := 50) C d_Heaps_fewestRuns_43 (by decide) hf (fun hf => ?_) (fun hf => ?_)
      · refine V_iconst (v := -1) C d_Heaps_fewestRuns_50 (by decide) ?_
        obtain ⟨hi51_5, hf⟩ := gu hf
        refine sC_17 C hi51_5 d_Heaps_fewestRuns_51 ?_
        refine V_iinc (v := x3 + (1 : Int32)) C 2 d_Heaps_fewestRuns_52 rfl rfl (by decide) rfl ?_
        refine V_goto (pc := 55) (tgt := 7) C d_Heaps_fewestRuns_55 (by decide) ?_
        refine V.sub [1, 2, 0] rfl ?_
        exact ih (upA σ27_3 17 x3.toNatClampNeg (-1 : Int32)) x2 (x3 + (1 : Int32)) hf
      · refine V_iconst (v := 1) C d_Heaps_fewestRuns_46 (by decide) ?_
        refine V_goto (pc := 47) (tgt := 51) C d_Heaps_fewestRuns_47 (by decide) ?_
        obtain ⟨hi51_6, hf⟩ := gu hf
        refine sC_17 C hi51_6 d_Heaps_fewestRuns_51 ?_
        refine V_iinc (v := x3 + (1 : Int32)) C 2 d_Heaps_fewestRuns_52 rfl rfl (by decide) rfl ?_
        refine V_goto (pc := 55) (tgt := 7) C d_Heaps_fewestRuns_55 (by decide) ?_
        refine V.sub [1, 2, 0] rfl ?_
        exact ih (upA σ27_3 17 x3.toNatClampNeg (1 : Int32)) x2 (x3 + (1 : Int32)) hf
set_option maxRecDepth 4000 in
theorem w_Heaps_fewestRuns {E : Ev} {g : Gx} {r : Int32} {σ' : St} (C : Cx E classes 4 (wC g) b_Heaps_fewestRuns "WithTheReds$Heaps" 24) (hR : RetZ E classes 4 (wC g) b_Heaps_fewestRuns r σ') {σ : St} {a1 : Int32} {a2 : Int32} (hf : f_Heaps_fewestRuns σ a1 a2 = some (r, σ')) : V E classes 4 (wC g) σ 0 [(0, .ref (g.2.1 15)), (1, .int a1), (2, .int a2)] [] := by
  unfold f_Heaps_fewestRuns at hf
  refine V_aload_n C 0 d_Heaps_fewestRuns_0 rfl ?_
  refine V_iload_n C 1 d_Heaps_fewestRuns_1 rfl ?_
  obtain ⟨σ2_1, hg, hf⟩ := bd hf
  refine V_callVv C [.int a1] (c_Heaps_gather C.2.2.2.2.2.2.2.1 hg) (by decide) cw_Heaps_33 15 rfl rfl rfl rfl (Nat.le_of_ble_eq_true rfl) rfl d_Heaps_fewestRuns_2 ?_
  refine V_iconst (v := 1) C d_Heaps_fewestRuns_5 (by decide) ?_
  refine V_istore_n C d_Heaps_fewestRuns_6 (by decide) rfl ?_
  refine V.sub [1, 3, 0] rfl ?_
  exact w_Heaps_fewestRuns_7 C hR FU σ2_1 a2 (1 : Int32) hf
theorem c_Heaps_fewestRuns {l : Launch} {g : Gx} (hok : Wok classes (wC g)) {σ : St} {a1 : Int32} {a2 : Int32} {r : Int32} {σ' : St} (hf : f_Heaps_fewestRuns σ a1 a2 = some (r, σ')) : CtI classes l y_Heaps_fewestRuns b_Heaps_fewestRuns 4 (some .boolean) 24 (wC g) [.ref (g.2.1 15), .int a1, .int a2] σ r σ' :=
  MetZ (by decide +kernel) hok (Nat.le_of_ble_eq_true rfl) (fun E _ C hR => w_Heaps_fewestRuns C hR hf)
set_option maxRecDepth 4000 in
theorem w_Heaps_runOf_2 {E : Ev} {g : Gx} {r : Int32} {σ : St} (C : Cx E classes 3 (wC g) b_Heaps_runOf "WithTheReds$Heaps" 1) (hR : RetI E classes 3 (wC g) b_Heaps_runOf r σ) : ∀ (n : Nat) (x1 : Int32) (x2 : Int32), f_Heaps_runOf_2 n σ x1 x2 = some r → V E classes 3 (wC g) σ 2 [(0, .ref (g.2.1 15)), (1, .int x1), (2, .int x2)] [] := by
  intro n
  induction n with
  | zero => intro x1 x2 hf; exact absurd hf (by unfold f_Heaps_runOf_2; exact nofun)
  | succ n ih =>
    intro x1 x2 hf
    unfold f_Heaps_runOf_2 at hf
    refine V_iload_n C 2 d_Heaps_runOf_2 rfl ?_
    refine V_aload_n C 0 d_Heaps_runOf_3 rfl ?_
    refine gC_Heaps_size (v := σ.1 1506) C fl_Heaps_37 rfl d_Heaps_runOf_4 ?_
    refine V_icmp_ge (pc := 7) (tgt := 33) C d_Heaps_runOf_7 (by decide) hf (fun hf => ?_) (fun hf => ?_)
    · refine V_bipush (v := -2) C d_Heaps_runOf_33 (by decide) ?_
      exact V_iret hR hf d_Heaps_runOf_35
    · refine V_aload_n C 0 d_Heaps_runOf_10 rfl ?_
      refine gC_Heaps_members C fl_Heaps_11 d_Heaps_runOf_11 ?_
      refine V_iload_n C 2 d_Heaps_runOf_14 rfl ?_
      obtain ⟨hi15_1, hf⟩ := gu hf
      refine aC_16 (v := σ.2.1 16 x2.toNatClampNeg) C hi15_1 rfl d_Heaps_runOf_15 ?_
      refine V_iload_n C 1 d_Heaps_runOf_16 rfl ?_
      refine V_icmp_ne (pc := 17) (tgt := 27) C d_Heaps_runOf_17 (by decide) hf (fun hf => ?_) (fun hf => ?_)
      · refine V_iinc (v := x2 + (1 : Int32)) C 2 d_Heaps_runOf_27 rfl rfl (by decide) rfl ?_
        refine V_goto (pc := 30) (tgt := 2) C d_Heaps_runOf_30 (by decide) ?_
        refine V.sub [1, 2, 0] rfl ?_
        exact ih x1 (x2 + (1 : Int32)) hf
      · refine V_aload_n C 0 d_Heaps_runOf_20 rfl ?_
        refine gC_Heaps_best C fl_Heaps_26 d_Heaps_runOf_21 ?_
        refine V_iload_n C 2 d_Heaps_runOf_24 rfl ?_
        obtain ⟨hi25_2, hf⟩ := gu hf
        refine aC_20 (v := σ.2.1 20 x2.toNatClampNeg) C hi25_2 rfl d_Heaps_runOf_25 ?_
        exact V_iret hR hf d_Heaps_runOf_26
set_option maxRecDepth 4000 in
theorem w_Heaps_runOf {E : Ev} {g : Gx} {r : Int32} {σ : St} (C : Cx E classes 3 (wC g) b_Heaps_runOf "WithTheReds$Heaps" 1) (hR : RetI E classes 3 (wC g) b_Heaps_runOf r σ) {a1 : Int32} (hf : f_Heaps_runOf σ a1 = some r) : V E classes 3 (wC g) σ 0 [(0, .ref (g.2.1 15)), (1, .int a1)] [] := by
  unfold f_Heaps_runOf at hf
  refine V_iconst (v := 0) C d_Heaps_runOf_0 (by decide) ?_
  refine V_istore_n C d_Heaps_runOf_1 (by decide) rfl ?_
  refine V.sub [1, 2, 0] rfl ?_
  exact w_Heaps_runOf_2 C hR FU a1 (0 : Int32) hf
theorem c_Heaps_runOf {l : Launch} {g : Gx} (hok : Wok classes (wC g)) {σ : St} {a1 : Int32} {r : Int32} (hf : f_Heaps_runOf σ a1 = some r) : CtI classes l y_Heaps_runOf b_Heaps_runOf 3 (some .int) 1 (wC g) [.ref (g.2.1 15), .int a1] σ r σ :=
  MetI (by decide +kernel) hok (Nat.le_of_ble_eq_true rfl) (fun E _ C hR => w_Heaps_runOf C hR hf)
set_option maxRecDepth 4000 in
theorem w_Top_heaps_53 {E : Ev} {g : Gx} {r : Int32} {σ' : St} (C : Cx E classes 4 (wC g) b_Top_heaps "WithTheReds" 25) (hR : RetI E classes 4 (wC g) b_Top_heaps r σ') : ∀ (σ : St) (x1 : Int32) (x2 : Int32) (x3 : Int32), f_Top_heaps_53 σ x1 x2 x3 = some (r, σ') → V E classes 4 (wC g) σ 53 [(0, .ref (g.2.1 0)), (1, .int x1), (2, .int x2), (3, .int x3)] [] := by
  intro σ x1 x2 x3 hf
  unfold f_Top_heaps_53 at hf
  refine V_aload_n C 0 d_Top_heaps_53 rfl ?_
  refine gC_Top_tub C fl_Top_35 d_Top_heaps_54 ?_
  refine V_iload_n C 2 d_Top_heaps_57 rfl ?_
  refine V_bipush (v := 100) C d_Top_heaps_58 (by decide) ?_
  refine V_idiv C d_Top_heaps_60 (by decide) ?_
  obtain ⟨σ61_1, hg, hf⟩ := bd hf
  refine V_callVv C [.int (x2 / (100 : Int32))] (c_Tub_warm C.2.2.2.2.2.2.2.1 hg) (by decide) cw_Top_194 39 rfl rfl rfl rfl (Nat.le_of_ble_eq_true rfl) rfl d_Top_heaps_61 ?_
  refine V_aload_n C 0 d_Top_heaps_64 rfl ?_
  refine gC_Top_heaps C fl_Top_44 d_Top_heaps_65 ?_
  refine V_iload_n C 1 d_Top_heaps_68 rfl ?_
  refine V_iload_n C 2 d_Top_heaps_69 rfl ?_
  refine V_bipush (v := 100) C d_Top_heaps_70 (by decide) ?_
  refine V_irem C d_Top_heaps_72 (by decide) ?_
  obtain ⟨r73_2, σ73_2, hg, hf⟩ := bd2_of hf
  refine V_callVi C [.int x1, .int (irem x2 (100 : Int32))] (c_Heaps_fewestRuns C.2.2.2.2.2.2.2.1 hg) (by decide) cw_Top_215 15 rfl rfl rfl rfl (Nat.le_of_ble_eq_true rfl) rfl d_Top_heaps_73 ?_
  refine V_if_ne (pc := 76) (tgt := 82) C d_Top_heaps_76 (by decide) hf (fun hf => ?_) (fun hf => ?_)
  · refine V_iload_n C 3 d_Top_heaps_82 rfl ?_
    refine V_iconst (v := -1) C d_Top_heaps_83 (by decide) ?_
    refine V_icmp_ne (pc := 84) (tgt := 97) C d_Top_heaps_84 (by decide) hf (fun hf => ?_) (fun hf => ?_)
    · refine V_aload_n C 0 d_Top_heaps_97 rfl ?_
      refine gC_Top_heaps C fl_Top_44 d_Top_heaps_98 ?_
      refine V_iload_n C 3 d_Top_heaps_101 rfl ?_
      obtain ⟨r102_3, hg, hf⟩ := bd hf
      refine V_callVi C [.int x3] (c_Heaps_runOf C.2.2.2.2.2.2.2.1 hg) (by decide) cw_Top_221 15 rfl rfl rfl rfl (Nat.le_of_ble_eq_true rfl) rfl d_Top_heaps_102 ?_
      exact V_iretW hR hf d_Top_heaps_105
    · refine V_aload_n C 0 d_Top_heaps_87 rfl ?_
      refine gC_Top_heaps C fl_Top_44 d_Top_heaps_88 ?_
      refine gC_Heaps_least (v := σ73_2.1 1508) C fl_Top_218 rfl d_Top_heaps_91 ?_
      refine V_goto (pc := 94) (tgt := 105) C d_Top_heaps_94 (by decide) ?_
      exact V_iretW hR hf d_Top_heaps_105
  · refine V_bipush (v := -2) C d_Top_heaps_79 (by decide) ?_
    exact V_iretW hR hf d_Top_heaps_81
set_option maxRecDepth 4000 in
theorem w_Top_heaps {E : Ev} {g : Gx} {r : Int32} {σ' : St} (C : Cx E classes 4 (wC g) b_Top_heaps "WithTheReds" 25) (hR : RetI E classes 4 (wC g) b_Top_heaps r σ') {σ : St} {a1 : Int32} {a2 : Int32} {a3 : Int32} (hf : f_Top_heaps σ a1 a2 a3 = some (r, σ')) : V E classes 4 (wC g) σ 0 [(0, .ref (g.2.1 0)), (1, .int a1), (2, .int a2), (3, .int a3)] [] := by
  unfold f_Top_heaps at hf
  refine V_aload_n C 0 d_Top_heaps_0 rfl ?_
  refine V_iload_n C 1 d_Top_heaps_1 rfl ?_
  obtain ⟨r2_1, hg, hf⟩ := bd hf
  refine V_callVi C [.int a1] (c_Top_isSet C.2.2.2.2.2.2.2.1 hg) (by decide) cw_Top_160 0 rfl rfl rfl rfl (Nat.le_of_ble_eq_true rfl) rfl d_Top_heaps_2 ?_
  refine V_if_eq (pc := 5) (tgt := 23) C d_Top_heaps_5 (by decide) hf (fun hf => ?_) (fun hf => ?_)
  · refine V_iconst (v := -1) C d_Top_heaps_23 (by decide) ?_
    exact V_iretW hR hf d_Top_heaps_24
  · refine V_iload_n C 2 d_Top_heaps_8 rfl ?_
    obtain ⟨r9_2, hg, hf⟩ := bd hf
    refine V_callSi C [.int a2] (c_Top_isHeatAndTint C.2.2.2.2.2.2.2.1 hg) (by decide) cw_Top_191 rfl (Nat.le_of_ble_eq_true rfl) rfl d_Top_heaps_9 ?_
    refine V_if_eq (pc := 12) (tgt := 23) C d_Top_heaps_12 (by decide) hf (fun hf => ?_) (fun hf => ?_)
    · refine V_iconst (v := -1) C d_Top_heaps_23 (by decide) ?_
      exact V_iretW hR hf d_Top_heaps_24
    · refine V_aload_n C 0 d_Top_heaps_15 rfl ?_
      refine V_iload_n C 3 d_Top_heaps_16 rfl ?_
      obtain ⟨r17_3, hg, hf⟩ := bd hf
      refine V_callVi C [.int a3] (c_Top_isThingOrAll C.2.2.2.2.2.2.2.1 hg) (by decide) cw_Top_207 0 rfl rfl rfl rfl (Nat.le_of_ble_eq_true rfl) rfl d_Top_heaps_17 ?_
      refine V_if_ne (pc := 20) (tgt := 25) C d_Top_heaps_20 (by decide) hf (fun hf => ?_) (fun hf => ?_)
      · refine V_iload_n C 1 d_Top_heaps_25 rfl ?_
        obtain ⟨r26_4, hg, hf⟩ := bd hf
        refine V_callSi C [.int a1] (c_JI_bitCount C.2.2.2.2.2.2.2.1 hg) (by decide) cw_Top_210 rfl (Nat.le_of_ble_eq_true rfl) rfl d_Top_heaps_26 ?_
        refine V_bipush (v := 8) C d_Top_heaps_29 (by decide) ?_
        refine V_icmp_le (pc := 31) (tgt := 37) C d_Top_heaps_31 (by decide) hf (fun hf => ?_) (fun hf => ?_)
        · refine V_iload_n C 3 d_Top_heaps_37 rfl ?_
          refine V_iconst (v := -1) C d_Top_heaps_38 (by decide) ?_
          refine V_icmp_eq (pc := 39) (tgt := 53) C d_Top_heaps_39 (by decide) hf (fun hf => ?_) (fun hf => ?_)
          · exact w_Top_heaps_53 C hR σ a1 a2 a3 hf
          · refine V_iload_n C 1 d_Top_heaps_42 rfl ?_
            refine V_iload_n C 3 d_Top_heaps_43 rfl ?_
            obtain ⟨r44_5, hg, hf⟩ := bd hf
            refine V_callSi C [.int a1, .int a3] (c_Top_isOf C.2.2.2.2.2.2.2.1 hg) (by decide) cw_Top_182 rfl (Nat.le_of_ble_eq_true rfl) rfl d_Top_heaps_44 ?_
            refine V_if_ne (pc := 47) (tgt := 53) C d_Top_heaps_47 (by decide) hf (fun hf => ?_) (fun hf => ?_)
            · exact w_Top_heaps_53 C hR σ a1 a2 a3 hf
            · refine V_bipush (v := -2) C d_Top_heaps_50 (by decide) ?_
              exact V_iretW hR hf d_Top_heaps_52
        · refine V_bipush (v := -5) C d_Top_heaps_34 (by decide) ?_
          exact V_iretW hR hf d_Top_heaps_36
      · refine V_iconst (v := -1) C d_Top_heaps_23 (by decide) ?_
        exact V_iretW hR hf d_Top_heaps_24
theorem c_Top_heaps {l : Launch} {g : Gx} (hok : Wok classes (wC g)) {σ : St} {a1 : Int32} {a2 : Int32} {a3 : Int32} {r : Int32} {σ' : St} (hf : f_Top_heaps σ a1 a2 a3 = some (r, σ')) : CtI classes l y_Top_heaps b_Top_heaps 4 (some .int) 25 (wC g) [.ref (g.2.1 0), .int a1, .int a2, .int a3] σ r σ' :=
  MetI (by decide +kernel) hok (Nat.le_of_ble_eq_true rfl) (fun E _ C hR => w_Top_heaps C hR hf)
