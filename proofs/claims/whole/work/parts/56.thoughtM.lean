/-! a run in thought, by the reference -/
theorem in_t {t : Nat} (h : t < 10) : inb (nI t) 10 = true := inb_nI h (by decide)
theorem ct_t {t : Nat} (h : t < 10) : (nI t).toNatClampNeg = t := nIt (by omega)
theorem dyeOf_M {e : Ew} {τ : St} (hB : ewB e) (hM : ewM e τ) {t h : Nat} (ht : t < e.1) (hh : h ≤ 9) : ∃ τ', f_M_dyeOf τ (nI t) (nI h) = some (nI (gN e h t), τ') ∧ samG τ τ' := by
  have hn := hB.1
  obtain ⟨τ', g1, g2⟩ := givesBy_M hB hM (t := t) (w := e.2.1 t 2) (h := h) ht (by have := (hB.2.1 t 2 ht (by decide)).2; have e2 : hiN 2 = 99 := rfl; omega) hh
  refine ⟨τ', ?_, g2⟩
  unfold f_M_dyeOf
  have q2 : τ.2.1 3 t = nI (e.2.1 t 2) := hM.2.1 t 2 ht (by decide)
  rw [in_t (by omega), ct_t (by omega), q2, g1]
  rfl
theorem goesSo_M {e : Ew} {τ : St} {b : Nat} (hB : ewB e) (hM : ewM e τ) (hb : b < 2 ^ e.1) : f_M_goesSo τ (nI b) = some (b2 (goN e b)) := by
  have hn := hB.1
  unfold f_M_goesSo
  refine loopF (n := e.1) (P := fun t fuel => noB t b e.2.2.2.1 = true → f_M_goesSo_4 fuel τ (nI b) (nI (sumB t b (fun t => e.2.1 t 4))) (nI t) = some (b2 (goN e b))) (fun f hno => ?_) (fun t f ht ih hno => ?_) 0 (Nat.zero_le _) FU (by show _ < 1000; omega) rfl
  · unfold f_M_goesSo_4
    have q8 : τ.1 10 = nI (e.2.2.1 0) := hM.2.2.1 0 (by decide)
    have h60 := (hB.2.2.1 0 (by decide)).2
    have e60 : hiN (8 + 0) = 60 := rfl
    have hs : sumB e.1 b (fun t => e.2.1 t 4) ≤ e.1 * 9 := sumB_le (fun t ht => (hB.2.1 t 4 ht (by decide)).2)
    rw [hM.1, if_pos (nI_le (Nat.le_refl _) (by omega)), q8]
    unfold goN
    rw [hno, Bool.true_and]
    by_cases r : sumB e.1 b (fun t => e.2.1 t 4) ≤ e.2.2.1 0
    · rw [decide_eq_true r, if_neg (nI_nlt r (by omega))]; rfl
    · rw [decide_eq_false r, if_pos (nI_lt (by omega) (by omega))]; rfl
  · unfold f_M_goesSo_4
    have q4 : τ.2.1 5 t = nI (e.2.1 t 4) := hM.2.1 t 4 ht (by decide)
    rw [hM.1, if_neg (nI_ge ht (by omega)), bt_M hn hb ht, in_t (by omega), ct_t (by omega), q4, hM.2.2.2.1 t ht]
    rw [sumB_s] at ih
    rw [noB_s] at ih
    by_cases q : bt b t = true
    · rw [b2_nt q, if_neg i10, nI_add, nI_1, cond_true]
      rw [if_pos q, hno, q, Bool.true_and, Bool.true_and] at ih
      cases r : e.2.2.2.1 t
      · rw [r] at ih
        rw [b2_f, if_pos rfl]
        exact ih rfl
      · rw [b2_t, if_neg i10]
        unfold goN
        rw [noB_hit ht q r]; rfl
    · rw [b2_nf (bt_f q), if_pos rfl, nI_1]
      rw [if_neg q, hno, bt_f q] at ih
      exact ih rfl
theorem spoilt_M {e : Ew} {τ : St} {h b : Nat} (hB : ewB e) (hM : ewM e τ) (hb : b < 2 ^ e.1) (hh : h ≤ 9) : f_M_spoilt τ (nI b) (nI h) = some (spN e h b) := by
  have hn := hB.1
  unfold f_M_spoilt
  refine loopF (n := e.1) (P := fun t fuel => f_M_spoilt_5 fuel τ (nI b) (nI h) (orI t b (fun t => decide (e.2.1 t 3 < h))) (nI t) = some (spN e h b)) (fun f => ?_) (fun t f ht ih => ?_) 0 (Nat.zero_le _) FU (by show _ < 1000; omega)
  · unfold f_M_spoilt_5
    rw [hM.1, if_pos (nI_le (Nat.le_refl _) (by omega))]
    rfl
  · unfold f_M_spoilt_5
    have q3 : τ.2.1 4 t = nI (e.2.1 t 3) := hM.2.1 t 3 ht (by decide)
    have h9 := (hB.2.1 t 3 ht (by decide)).2
    have e9 : hiN 3 = 9 := rfl
    rw [hM.1, if_neg (nI_ge ht (by omega)), bt_M hn hb ht, in_t (by omega), ct_t (by omega), q3]
    rw [orI_s] at ih
    by_cases q : bt b t = true
    · rw [b2_nt q, if_pos rfl, nI_1, cond_true]
      rw [q, Bool.true_and] at ih
      by_cases r : e.2.1 t 3 < h
      · rw [decide_eq_true r, if_pos rfl] at ih
        rw [if_neg (nI_ge r (by omega))]
        exact ih
      · rw [decide_eq_false r, if_neg (by decide)] at ih
        rw [if_pos (nI_le (by omega) (by omega))]
        exact ih
    · rw [b2_nf (bt_f q), if_neg i01, nI_1]
      rw [bt_f q, Bool.false_and, if_neg (by decide)] at ih
      exact ih
theorem subadd (a b g : Nat) : nI a - nI b + nI g = nI (a + g) - nI b := by
  rw [← nI_add a g, Int32.sub_eq_add_neg, Int32.sub_eq_add_neg, Int32.add_assoc, Int32.add_comm (-nI b), ← Int32.add_assoc]
theorem loose_M {e : Ew} {τ : St} (hB : ewB e) (hM : ewM e τ) {b h off : Nat} (hb : b < 2 ^ e.1) (hh : h ≤ 9) (ho : off ≤ 1000) : ∃ τ', f_M_loose τ (nI b) (nI h) (nI off) = some (nI (lsN e (gN e h) b off), τ') ∧ kM τ' = kM τ := by
  have hn := hB.1
  unfold f_M_loose
  have e0 : -(nI off) = nI 0 - nI off := by rw [show nI 0 = (0 : Int32) from rfl, Int32.zero_sub]
  rw [e0]
  refine loopF (n := e.1) (P := fun t fuel => ∀ τ1, kM τ1 = kM τ → ∃ τ', f_M_loose_7 fuel τ1 (nI b) (nI h) (nI (sumB t b (gN e h)) - nI off) (nI t) = some (nI (lsN e (gN e h) b off), τ') ∧ kM τ' = kM τ) (fun f τ1 k1 => ?_) (fun t f ht ih τ1 k1 => ?_) 0 (Nat.zero_le _) FU (by show _ < 1000; omega) τ rfl
  · refine ⟨τ1, ?_, k1⟩
    have hs : sumB e.1 b (gN e h) ≤ e.1 * 99 := sumB_le (fun t ht => gN_le hB hh ht)
    unfold f_M_loose_7
    rw [(ewM_k k1 hM).1, if_pos (nI_le (Nat.le_refl _) (by omega))]
    unfold lsN
    by_cases q : off ≤ sumB e.1 b (gN e h)
    · rw [pk_sub q, if_pos (nI_pos' (by omega))]
    · rw [if_neg (show ¬ 0 ≤ nI (sumB e.1 b (gN e h)) - nI off from fun r => by
        rw [il, pk_sub_toInt (by omega) (by omega)] at r
        have z0 : (0 : Int32).toInt = 0 := rfl
        omega), show sumB e.1 b (gN e h) - off = 0 by omega]
      rfl
  · have hM1 := ewM_k k1 hM
    unfold f_M_loose_7
    rw [hM1.1, if_neg (nI_ge ht (by omega)), bt_M hn hb ht]
    rw [sumB_s] at ih
    by_cases q : bt b t = true
    · obtain ⟨τ2, d1, d2⟩ := dyeOf_M hB hM1 ht hh
      rw [b2_nt q, if_pos rfl, d1, bd2_s, subadd, nI_1]
      rw [if_pos q] at ih
      exact ih τ2 (by rw [samG_kM d2, k1])
    · rw [b2_nf (bt_f q), if_neg i01, nI_1]
      rw [if_neg q] at ih
      exact ih τ1 k1
theorem tinted_M {e : Ew} {τ : St} (hB : ewB e) (hM : ewM e τ) {t h l : Nat} (ht : t < e.1) (hh : h ≤ 9) (hl : l ≤ 1000) : ∃ τ', f_M_tinted τ (nI t) (nI l) (nI h) = some (nI (tN (e.2.1 t 0) (l - gN e h t)), τ') ∧ kM τ' = kM τ ∧ samG τ τ' := by
  have hn := hB.1
  obtain ⟨τ', g1, g2⟩ := dyeOf_M hB hM ht hh
  have hM1 := ewM_k (samG_kM g2) hM
  have hg := gN_le hB hh ht
  have h3 : e.2.1 t 0 ≤ 3 := (hB.2.1 t 0 ht (by decide)).2
  have q0 : τ'.2.1 1 t = nI (e.2.1 t 0) := hM1.2.1 t 0 ht (by decide)
  refine ⟨τ', ?_, samG_kM g2, g2⟩
  unfold f_M_tinted
  rw [g1, bd2_s, in_t (by omega), ct_t (by omega), q0]
  by_cases q : gN e h t ≤ l
  · rw [if_neg (show ¬ nI l - nI (gN e h t) < 0 by rw [pk_sub q]; exact nI_pos (by omega)), pk_sub q]
    generalize e.2.1 t 0 = c at h3
    unfold tN
    match c, h3 with
    | 0, _ => rfl
    | 1, _ => exact congrArg (fun x => some (x, τ')) (pk_div (a := l - gN e h t) (d := 2) (by omega) (by decide) (by decide))
    | 2, _ => exact congrArg (fun x => some (x, τ')) (pk_div (a := l - gN e h t) (d := 10) (by omega) (by decide) (by decide))
    | 3, _ => rfl
  · rw [if_pos (pk_sneg (by omega) (by omega)), show l - gN e h t = 0 by omega, tN_0]; rfl
theorem tints_M {e : Ew} {τ : St} (hB : ewB e) (hM : ewM e τ) {b h off : Nat} (hb : b < 2 ^ e.1) (hh : h ≤ 9) (ho : off ≤ 1000) : ∃ τ', f_M_tints τ (nI b) (nI h) (nI off) = some (nI (alN e (gN e h) b (lsN e (gN e h) b off)), τ') ∧ kM τ' = kM τ := by
  have hn := hB.1
  obtain ⟨τ0, l1, l2⟩ := loose_M hB hM hb hh ho
  have hM0 := ewM_k l2 hM
  unfold f_M_tints
  rw [l1, bd2_s]
  have hls : lsN e (gN e h) b off ≤ 990 := by
    unfold lsN
    have hs : sumB e.1 b (gN e h) ≤ e.1 * 99 := sumB_le (fun t ht => gN_le hB hh ht)
    omega
  generalize lsN e (gN e h) b off = l at hls
  have main := loopF (n := e.1) (P := fun t fuel => ∀ τ1, kM τ1 = kM τ0 → ∃ τ', f_M_tints_15 fuel τ1 (nI b) (nI h) (nI l) (nI (sumB t b (fun t => tN (e.2.1 t 0) (l - gN e h t)))) (nI t) = some (nI (alN e (gN e h) b l), τ') ∧ kM τ' = kM τ0) (fun f τ1 k1 => by
      refine ⟨τ1, ?_, k1⟩
      unfold f_M_tints_15
      rw [(ewM_k k1 hM0).1, if_pos (nI_le (Nat.le_refl _) (by omega))]
      rfl) (fun t f ht ih τ1 k1 => by
      have hM1 := ewM_k k1 hM0
      unfold f_M_tints_15
      rw [hM1.1, if_neg (nI_ge ht (by omega)), bt_M hn hb ht]
      rw [sumB_s] at ih
      by_cases q : bt b t = true
      · obtain ⟨τ2, d1, d2, -⟩ := tinted_M hB hM1 (l := l) ht hh (by omega)
        rw [b2_nt q, if_pos rfl, d1, bd2_s, nI_add, nI_1]
        rw [if_pos q] at ih
        exact ih τ2 (by rw [d2, k1])
      · rw [b2_nf (bt_f q), if_neg i01, nI_1]
        rw [if_neg q] at ih
        exact ih τ1 k1) 0 (Nat.zero_le _) FU (by show _ < 1000; omega) τ0 rfl
  obtain ⟨τ', m1, m2⟩ := main
  exact ⟨τ', m1, m2.trans l2⟩
theorem lsN_le {e : Ew} {gv : Nat → Nat} (hB : ewB e) (hg : ∀ t, t < e.1 → gv t ≤ 99) (b off : Nat) : lsN e gv b off ≤ 990 := by
  unfold lsN
  have hs : sumB e.1 b gv ≤ e.1 * 99 := sumB_le hg
  have := hB.1
  omega
theorem isSafe_M {e : Ew} {τ : St} (hB : ewB e) (hM : ewM e τ) {b h off most : Nat} (hb : b < 2 ^ e.1) (hh : h ≤ 9) (ho : off ≤ 1000) (hm : most ≤ 99) : ∃ τ', f_M_isSafe τ (nI b) (nI h) (nI off) (nI most) = some (b2 (sfN e (gN e h) h b (lsN e (gN e h) b off) most), τ') ∧ kM τ' = kM τ := by
  have hn := hB.1
  have hls := lsN_le hB (gv := gN e h) (fun t ht => gN_le hB hh ht) b off
  unfold f_M_isSafe sfN
  rw [goesSo_M hB hM hb, spoilt_M hB hM hb hh, bind_s]
  by_cases q1 : goN e b = true
  · rw [b2_nt q1, if_neg i10, bind_s, q1, Bool.true_and]
    by_cases q2 : spN e h b = 0
    · rw [if_pos q2, decide_eq_true q2, Bool.true_and]
      obtain ⟨τ0, l1, l2⟩ := loose_M hB hM hb hh ho
      have hM0 := ewM_k l2 hM
      rw [l1, bd2_s]
      generalize lsN e (gN e h) b off = l at hls
      have main := loopF (n := e.1) (P := fun t fuel => ∀ τ1, kM τ1 = kM τ0 → noB t b (fun t => decide (most < tN (e.2.1 t 0) (l - gN e h t))) = true → ∃ τ', f_M_isSafe_31 fuel τ1 (nI b) (nI h) (nI most) (nI l) (nI t) = some (b2 (noB e.1 b (fun t => decide (most < tN (e.2.1 t 0) (l - gN e h t)))), τ') ∧ kM τ' = kM τ0) (fun f τ1 k1 hno => by
          refine ⟨τ1, ?_, k1⟩
          unfold f_M_isSafe_31
          rw [(ewM_k k1 hM0).1, if_pos (nI_le (Nat.le_refl _) (by omega)), hno]
          rfl) (fun t f ht ih τ1 k1 hno => by
          have hM1 := ewM_k k1 hM0
          have hle := tN_le (e.2.1 t 0) (l - gN e h t)
          unfold f_M_isSafe_31
          rw [hM1.1, if_neg (nI_ge ht (by omega)), bt_M hn hb ht]
          rw [noB_s] at ih
          by_cases q : bt b t = true
          · obtain ⟨τ2, d1, d2, -⟩ := tinted_M hB hM1 (l := l) ht hh (by omega)
            rw [b2_nt q, if_pos rfl, d1, bd2_s, nI_1]
            by_cases r : most < tN (e.2.1 t 0) (l - gN e h t)
            · rw [if_neg (nI_ge r (by omega)), noB_hit (p := fun t => decide (most < tN (e.2.1 t 0) (l - gN e h t))) ht q (decide_eq_true r)]
              exact ⟨τ2, rfl, d2.trans k1⟩
            · rw [if_pos (nI_le (by omega) (by omega))]
              exact ih τ2 (by rw [d2, k1]) (by rw [hno, q, decide_eq_false r]; rfl)
          · rw [b2_nf (bt_f q), if_neg i01, nI_1]
            exact ih τ1 k1 (by rw [hno, bt_f q]; rfl)) 0 (Nat.zero_le _) FU (by show _ < 1000; omega) τ0 rfl rfl
      obtain ⟨τ', m1, m2⟩ := main
      exact ⟨τ', m1, m2.trans l2⟩
    · rw [if_neg q2, decide_eq_false q2]; exact ⟨τ, rfl, rfl⟩
  · rw [b2_nf (Bool.eq_false_iff.mpr q1), if_pos rfl, Bool.eq_false_iff.mpr q1]; exact ⟨τ, rfl, rfl⟩
