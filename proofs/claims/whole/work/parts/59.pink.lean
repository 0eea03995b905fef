/-! a row on a shelf, by both; pink read back -/
def rwC (j s Ln : Nat) (v : Nat → Int32) (σ : St) : Prop := σ.1 (4201 + 200 * j) = nI s ∧ σ.1 (4203 + 200 * j) = nI Ln ∧ ∀ i, i < Ln → σ.2.2 (43 + 2 * j) i = (v i).toInt64
def rwM (j Ln : Nat) (v : Nat → Int32) (τ : St) : Prop := τ.2.1 38 j = nI Ln ∧ ∀ i, i < Ln → τ.2.2 39 (60 * j + i) = (v i).toInt64
theorem scrI_sh {k : Nat} (h : 4200 ≤ k) : scrI k = false := by
  simp only [scrI, Bool.or_eq_false_iff, Bool.and_eq_false_iff, beq_eq_false_iff_ne, decide_eq_false_iff_not]
  omega
theorem rwC_k {j s Ln : Nat} {v : Nat → Int32} {σ σ' : St} (h : kC σ' = kC σ) (hr : rwC j s Ln v σ) : rwC j s Ln v σ' := by
  unfold rwC at *
  rw [kC_i h _ (scrI_sh (by omega)), kC_i h _ (scrI_sh (by omega)), kC_l h]
  exact hr
theorem rwM_k {j Ln : Nat} {v : Nat → Int32} {τ τ' : St} (h : kM τ' = kM τ) (hr : rwM j Ln v τ) : rwM j Ln v τ' := by
  unfold rwM at *
  rw [kM_a h 38 rfl, kM_l h]
  exact hr
theorem row_2 {bn : Nat} {σ τ : St} (hb : bn ≤ 50) (h8 : relSh bn σ τ) (x : Int32) {s : Nat} (hs : s ≤ 1) : (f_Top_rowRefusal σ x (nI s) = some (-1) ∧ f_M_isShelf x = some 0) ∨ (∃ r : Int32, ¬ r = 0 ∧ ¬ r = -1 ∧ ¬ 0 ≤ r ∧ f_Top_rowRefusal σ x (nI s) = some r ∧ f_M_isShelf x = some 1 ∧ f_M_rowFault τ x (nI s) = some r) ∨ (∃ (j Ln : Nat) (v : Nat → Int32), j < 6 ∧ Ln ≤ 60 ∧ x = nI j ∧ f_Top_rowRefusal σ x (nI s) = some 0 ∧ f_M_isShelf x = some 1 ∧ f_M_rowFault τ x (nI s) = some 0 ∧ rwC j s Ln v σ ∧ rwM j Ln v τ) := by
  unfold f_Top_rowRefusal f_M_rowFault
  rcases isShelf_2 x with ⟨g1, g2⟩ | ⟨j, hj, rfl, g1, g2⟩
  · rw [g1, g2]; exact Or.inl ⟨rfl, rfl⟩
  · right
    rw [g1, g2]
    simp only [bind_s, i10, if_false, inb_nI hj (by decide), cond_true, nIt (show j < 2 ^ 31 by omega)]
    rcases h8 j hj with ⟨q1, q2⟩ | ⟨q1, b, hb2, q2, q3⟩ | ⟨s', hs', q1, q2, L, hL, q3, q4, q5⟩
    · rw [q1, q2]; exact Or.inl ⟨-11, by decide, by decide, by decide, by first | rfl | trivial, by first | rfl | trivial, by first | rfl | trivial⟩
    · have c1 : ¬ (-1 : Int32) = nI s := fun q => m1_ne (b := s) (by omega) q.symm
      have c2 : ¬ nI b = (-1 : Int32) := m1_ne (by omega)
      have c3 : ¬ nI b = -2 - nI s := by
        match s, hs with
        | 0, _ => exact m2_ne (by omega)
        | 1, _ => exact nI_neg (by omega) (k := 3) (by decide) (by decide)
      rw [q1, q3]
      simp only [c1, c2, c3, if_false, show ¬ (-1 : Int32) = -2 by decide]
      exact Or.inl ⟨-12, by decide, by decide, by decide, by first | rfl | trivial, by first | rfl | trivial, by first | rfl | trivial⟩
    · have c5 : ¬ nI s' = (-2 : Int32) := m2_ne (by omega)
      obtain ⟨c1, c2, c3, c4⟩ := hold_neg hs'
      rw [q1, q2]
      simp only [c5, c1, if_false]
      by_cases e : s' = s
      · subst e
        simp only [if_true]
        refine Or.inr ⟨j, L, fun i => (σ.2.2 (43 + 2 * j) i).toInt32, hj, hL, by first | rfl | trivial, by first | rfl | trivial, by first | rfl | trivial, by first | rfl | trivial, ⟨q1, q3, fun i hi => ?_⟩, q4, fun i hi => ?_⟩
        · obtain ⟨y, hy⟩ := (q5 i hi).2 hs
          show _ = ((σ.2.2 (43 + 2 * j) i).toInt32).toInt64
          rw [hy, Int32.toInt32_toInt64]
        · obtain ⟨y, hy⟩ := (q5 i hi).2 hs
          have e2 : σ.2.2 (43 + 2 * j) i = τ.2.2 39 (60 * j + i) := (q5 i hi).1
          show _ = ((σ.2.2 (43 + 2 * j) i).toInt32).toInt64
          rw [← e2, hy, Int32.toInt32_toInt64]
      · have d1 : ¬ nI s' = nI s := fun q => e ((nI_eq (by omega) (by omega)).mp q)
        have d2 : ¬ -2 - nI s' = -2 - nI s := fun q => d1 (by rw [← c4, q, (hold_neg (s := s) (by omega)).2.2.2])
        simp only [d1, d2, if_false]
        exact Or.inl ⟨-12, by decide, by decide, by decide, by first | rfl | trivial, by first | rfl | trivial, by first | rfl | trivial⟩
theorem unlike_2 {e e' : Ew} {σ τ : St} (hB : ewB e) (hB' : ewB e') (he : e'.1 = e.1) (h0 : ∀ t, e'.2.1 t 0 = e.2.1 t 0) (hC : ewC e σ) (hM : ewM e' τ) {h b b' off l j Ln : Nat} {v : Nat → Int32} (hh : h ≤ 9) (hg : ∀ t, t < e.1 → σ.2.1 40 t = nI (gN e' h t)) (hb : b < 2 ^ e.1) (hb' : b' < 2 ^ e.1) (ho : off ≤ 1000) (hl : σ.1 3905 = nI l) (hl2 : l = lsN e' (gN e' h) b' off) (hj : j < 6) (hL : Ln ≤ 60) (rc : rwC j 1 Ln v σ) (rm : rwM j Ln v τ) :
    ∃ r τ', f_Top_firstUnlike σ j (nI b) = some r ∧ f_M_wrongPink τ (nI j) (nI b) (nI b') (nI h) (nI off) = some (r, τ') ∧ kM τ' = kM τ ∧ (r = -2 ∨ ∃ t, t < 10 ∧ r = nI t) := by
  have hn := hB.1
  have hg2 : ∀ t, t < e.1 → gN e' h t ≤ 99 := fun t ht => gN_le hB' hh (by omega)
  obtain ⟨τ0, l1, l2⟩ := loose_M hB' hM (b := b') (h := h) (off := off) (by rw [he]; exact hb') hh ho
  have hls : l ≤ 990 := by rw [hl2]; exact lsN_le hB' (fun t ht => gN_le hB' hh ht) b' off
  rw [← hl2] at l1
  unfold f_Top_firstUnlike f_M_wrongPink
  rw [l1, bd2_s]
  have ij : inb (nI j) 6 = true := inb_nI hj (by decide)
  have cj : (nI j).toNatClampNeg = j := nIt (by omega)
  have main := loopF (n := e.1) (P := fun t fuel => ∀ τ1, kM τ1 = kM τ → ∃ r τ', f_Top_firstUnlike_2 fuel σ j (nI b) (nI t) = some r ∧ f_M_wrongPink_14 fuel τ1 (nI j) (nI b) (nI h) (nI l) (nI t) = some (r, τ') ∧ kM τ' = kM τ ∧ (r = -2 ∨ ∃ t, t < 10 ∧ r = nI t)) (fun f τ1 k1 => by
      unfold f_Top_firstUnlike_2 f_M_wrongPink_14
      rw [hC.1, (ewM_k k1 hM).1, he, if_pos (nI_le (Nat.le_refl _) (by omega)), if_pos (nI_le (Nat.le_refl _) (by omega))]
      exact ⟨_, _, rfl, rfl, k1, Or.inl rfl⟩) (fun t f ht ih τ1 k1 => by
      have hM1 := ewM_k k1 hM
      have rm1 := rwM_k k1 rm
      unfold f_Top_firstUnlike_2 f_M_wrongPink_14
      rw [hC.1, hM1.1, he, if_neg (nI_ge ht (by omega)), if_neg (nI_ge ht (by omega)), hasPlace_C (s := 1) (by decide) rc.1 rc.2.1, bind_s, ij, cj, rm1.1]
      by_cases hp : t < Ln
      · rw [decide_eq_true ((isT (by omega) _).mpr ⟨t, hp, rfl⟩), b2_t, if_neg i10, if_neg (nI_ge hp (by omega)), bt_isOf hn hb ht, bt_M hn hb ht, bind_s, nI_1]
        by_cases q : bt b t = true
        · obtain ⟨τ2, m1, m2, -⟩ := tinted_M hB' hM1 (t := t) (h := h) (l := l) (by omega) hh (by omega)
          have k2 : kM τ2 = kM τ := m2.trans k1
          have rm2 := rwM_k k2 rm
          have tC := tintOf_C hB hC hg hl hg2 (by omega) ht
          rw [h0] at m1
          have e60 : (60 : Int32) * nI j + nI t = nI (60 * j + t) := by show nI 60 * nI j + nI t = _; rw [pk_mul, nI_add]
          unfold f_M_at
          rw [b2_nt q, if_neg i10, cond_true, if_pos rfl, m1, bd2_s, tC, bind_s, inb_nI (show t < 60 by omega) (by decide), e60, inb_nI (show 60 * j + t < 360 by omega) (by decide), nIt (show t < 2 ^ 31 by omega), nIt (show 60 * j + t < 2 ^ 31 by omega), rc.2.2 t hp, rm2.2 t hp, Int32.toInt32_toInt64]
          simp only [cond_true, bind_s]
          by_cases r : nI (tN (e.2.1 t 0) (l - gN e' h t)) = v t
          · rw [if_pos ((lg_cmp_eq _ _).mpr (by rw [r])), if_pos r]
            exact ih τ2 k2
          · rw [if_neg (fun z => r (by
              have z2 := (lg_cmp_eq _ _).mp z
              have z3 := congrArg Int64.toInt32 z2
              rw [Int32.toInt32_toInt64, Int32.toInt32_toInt64] at z3
              exact z3)), if_neg r]
            exact ⟨_, _, rfl, rfl, k2, Or.inr ⟨t, by omega, rfl⟩⟩
        · rw [b2_nf (bt_f q), if_pos rfl, cond_true, if_neg i01]
          exact ih τ1 k1
      · rw [decide_eq_false (fun z => by
          obtain ⟨u, hu, z1⟩ := (isT (by omega) _).mp z
          have := (nI_eq (by omega) (by omega)).mp z1
          omega), b2_f, if_pos rfl, cond_true, if_pos (nI_le (by omega) (by omega))]
        exact ⟨_, _, rfl, rfl, k1, Or.inl rfl⟩)
    0 (Nat.zero_le _) FU (by show _ < 1000; omega) τ0 l2
  exact main
theorem rel_sh {σ τ : St} (h : Rel σ τ) : ∃ bn, bn ≤ 50 ∧ relSh bn σ τ := by
  obtain ⟨n, bn, -, -, -, -, -, -, h7, h8⟩ := h
  exact ⟨bn, h7.1, h8⟩
theorem e_judge {σ τ : St} (h : Rel σ τ) (x y z : Int32) : ∃ r σ' τ', f_Top_judge σ x y z = some (r, σ') ∧ f_M_judge τ x y z = some (r, τ') ∧ Rel σ' τ' := by
  obtain ⟨e, hB, hC, hM⟩ := rel_ew h
  obtain ⟨bn, hbn, h8⟩ := rel_sh h
  unfold f_Top_judge f_M_judge
  rcases row_2 hbn h8 x (s := 1) (by decide) with ⟨r1, r2⟩ | ⟨r, z0, zm, zn, r1, r2, r3⟩ | ⟨j, Ln, v, hj, hL, rfl, r1, r2, r3, rc, rm⟩
  · have r1' : f_Top_rowRefusal σ x 1 = _ := r1
    rw [r1', r2]; exact ⟨_, _, _, rfl, rfl, h⟩
  · have r1' : f_Top_rowRefusal σ x 1 = _ := r1
    have r3' : f_M_rowFault τ x 1 = _ := r3
    rw [r1', r2]
    simp only [bind_s, zm, i10, if_false]
    rcases isSet_2 hB hC hM y with ⟨g1, g2⟩ | ⟨b, hb, rfl, g1, g2⟩
    · rw [g1, g2]; exact ⟨_, _, _, rfl, rfl, h⟩
    · rw [g1, g2]
      simp only [bind_s, i10, if_false]
      rcases heatCloth_2 z with ⟨k1, k2⟩ | ⟨w, c, w3, w9, c1, k1, k2, k3, k4⟩
      · rw [k1, k2]; exact ⟨_, _, _, rfl, rfl, h⟩
      · rw [k1, k2, r3']
        simp only [bind_s, i10, z0, zn, if_false]
        exact ⟨_, _, _, rfl, rfl, h⟩
  · have r1' : f_Top_rowRefusal σ (nI j) 1 = _ := r1
    have r3' : f_M_rowFault τ (nI j) 1 = _ := r3
    rw [r1', r2]
    simp only [bind_s, i10, if_false, show ¬ (0 : Int32) = -1 by decide]
    rcases isSet_2 hB hC hM y with ⟨g1, g2⟩ | ⟨b, hb, rfl, g1, g2⟩
    · rw [g1, g2]; exact ⟨_, _, _, rfl, rfl, h⟩
    · rw [g1, g2]
      simp only [bind_s, i10, if_false]
      rcases heatCloth_2 z with ⟨k1, k2⟩ | ⟨w, c, w3, w9, c1, k1, k2, k3, k4⟩
      · rw [k1, k2]; exact ⟨_, _, _, rfl, rfl, h⟩
      · obtain ⟨σ', l1, l2, l3⟩ := load_V hB hC w9 (by omega) k3 k4 hb
        obtain ⟨r, τ', u1, u2, u3, -⟩ := unlike_2 hB hB rfl (fun _ => rfl) l3.1 hM w9 l3.2.1 hb hb (cl_le hB (c := c) (by omega)) l3.2.2.2.2 rfl hj hL (rwC_k l2 rc) rm
        rw [k1, k2, r3']
        simp only [bind_s, i10, if_false, if_true, show (0 : Int32) ≤ 0 by decide, l1, k3, offBy_M hM c1 k4, inb_nI hj (by decide), cond_true, nIt (show j < 2 ^ 31 by omega), u1, u2, bd2_s]
        exact ⟨_, _, _, rfl, rfl, rel_k h l2 u3⟩
theorem e_heatOfIt {σ τ : St} (h : Rel σ τ) (x y : Int32) : ∃ r σ' τ', f_Top_heatOfIt σ x y = some (r, σ') ∧ f_M_heatOfIt τ x y = some (r, τ') ∧ Rel σ' τ' := by
  obtain ⟨e, hB, hC, hM⟩ := rel_ew h
  obtain ⟨bn, hbn, h8⟩ := rel_sh h
  unfold f_Top_heatOfIt f_M_heatOfIt
  rcases row_2 hbn h8 x (s := 1) (by decide) with ⟨r1, r2⟩ | ⟨r, z0, zm, zn, r1, r2, r3⟩ | ⟨j, Ln, v, hj, hL, rfl, r1, r2, r3, rc, rm⟩
  · have r1' : f_Top_rowRefusal σ x 1 = _ := r1
    rw [r1', r2]; exact ⟨_, _, _, rfl, rfl, h⟩
  · have r1' : f_Top_rowRefusal σ x 1 = _ := r1
    have r3' : f_M_rowFault τ x 1 = _ := r3
    rw [r1', r2]
    simp only [bind_s, zm, i10, if_false]
    rcases isSet_2 hB hC hM y with ⟨g1, g2⟩ | ⟨b, hb, rfl, g1, g2⟩
    · rw [g1, g2]; exact ⟨_, _, _, rfl, rfl, h⟩
    · rw [g1, g2, r3']
      simp only [bind_s, i10, z0, zn, if_false]
      exact ⟨_, _, _, rfl, rfl, h⟩
  · have r1' : f_Top_rowRefusal σ (nI j) 1 = _ := r1
    have r3' : f_M_rowFault τ (nI j) 1 = _ := r3
    rw [r1', r2]
    simp only [bind_s, i10, if_false, show ¬ (0 : Int32) = -1 by decide]
    rcases isSet_2 hB hC hM y with ⟨g1, g2⟩ | ⟨b, hb, rfl, g1, g2⟩
    · rw [g1, g2]; exact ⟨_, _, _, rfl, rfl, h⟩
    · rw [g1, g2, r3']
      simp only [bind_s, i10, if_false, if_true, show (0 : Int32) ≤ 0 by decide]
      have main := loopF (n := 10) (P := fun k fuel => 3 ≤ k → ∀ σ2 τ2, kC σ2 = kC σ → kM τ2 = kM τ → ∃ r σ' τ', f_Top_heatOfIt_31 fuel σ2 (nI j) (nI b) (nI k) = some (r, σ') ∧ f_M_heatOfIt_33 fuel τ2 (nI j) (nI b) (nI k) = some (r, τ') ∧ kC σ' = kC σ ∧ kM τ' = kM τ) (fun f _ σ2 τ2 a1 a2 => by
          unfold f_Top_heatOfIt_31 f_M_heatOfIt_33
          exact ⟨_, _, _, rfl, rfl, a1, a2⟩) (fun k f hk ih k3 σ2 τ2 a1 a2 => by
          have hC2 := ewC_k a1 hC
          have hM2 := ewM_k a2 hM
          have w9 : k ≤ 9 := by omega
          have hg := fun t (ht : t < e.1) => gN_le hB w9 ht
          obtain ⟨σ1, w1, wk, wh, wg⟩ := warm_C hB hC2 w9
          obtain ⟨σ3, f1, f2, f3⟩ := fill_V hB (ewC_k wk hC2) (h := k) wg wh hg hb (off := 0) (by omega)
          have f1' : f_Tub_fill σ1 (nI b) 0 = some σ3 := f1
          have kk : kC σ3 = kC σ := f2.trans (wk.trans a1)
          obtain ⟨r, τ3, u1, u2, u3, u4⟩ := unlike_2 hB hB rfl (fun _ => rfl) f3.1 hM2 w9 f3.2.1 hb hb (off := 0) (by omega) f3.2.2.2.2 rfl hj hL (rwC_k kk rc) (rwM_k a2 rm)
          have u2' : f_M_wrongPink τ2 (nI j) (nI b) (nI b) (nI k) 0 = _ := u2
          unfold f_Top_heatOfIt_31 f_M_heatOfIt_33
          have c3 : ¬ (9 : Int32) < nI k := nI_nlt (a := 9) (by omega) (by decide)
          rw [if_neg c3, if_neg c3, w1, bind_s, f1', bind_s, inb_nI hj (by decide), cond_true, nIt (show j < 2 ^ 31 by omega), u1, bind_s, u2', bd2_s, nI_1]
          rcases u4 with rfl | ⟨t, ht, rfl⟩
          · rw [if_pos rfl, if_neg (by decide)]
            exact ⟨_, _, _, rfl, rfl, kk, u3.trans a2⟩
          · rw [if_neg (m2_ne (by omega)), if_pos (nI_pos' (by omega))]
            exact ih (by omega) σ3 τ3 kk (u3.trans a2))
        3 (by decide) FU (by decide) (Nat.le_refl _) σ τ rfl rfl
      obtain ⟨r, σ', τ', z1, z2, z3, z4⟩ := main
      exact ⟨r, σ', τ', z1, z2, rel_k h z3 z4⟩
