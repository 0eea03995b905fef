/-! a run in thought, by the reference: nothing but its law's stack and names changes -/
theorem samG_tr {a b c : St} (h1 : samG a b) (h2 : samG b c) : samG a c := ⟨h2.1.trans h1.1, fun k k1 k2 => (h2.2.1 k k1 k2).trans (h1.2.1 k k1 k2), h2.2.2.trans h1.2.2⟩
theorem loose_MG {e : Ew} {τ : St} (hB : ewB e) (hM : ewM e τ) {b h off : Nat} (hb : b < 2 ^ e.1) (hh : h ≤ 9) (ho : off ≤ 1000) : ∃ τ', f_M_loose τ (nI b) (nI h) (nI off) = some (nI (lsN e (gN e h) b off), τ') ∧ samG τ τ' := by
  have hn := hB.1
  unfold f_M_loose
  have e0 : -(nI off) = nI 0 - nI off := by rw [show nI 0 = (0 : Int32) from rfl, Int32.zero_sub]
  rw [e0]
  refine loopF (n := e.1) (P := fun t fuel => ∀ τ1, samG τ τ1 → ∃ τ', f_M_loose_7 fuel τ1 (nI b) (nI h) (nI (sumB t b (gN e h)) - nI off) (nI t) = some (nI (lsN e (gN e h) b off), τ') ∧ samG τ τ') (fun f τ1 k1 => ?_) (fun t f ht ih τ1 k1 => ?_) 0 (Nat.zero_le _) FU (by show _ < 1000; omega) τ (samG_rf τ)
  · refine ⟨τ1, ?_, k1⟩
    have hs : sumB e.1 b (gN e h) ≤ e.1 * 99 := sumB_le (fun t ht => gN_le hB hh ht)
    unfold f_M_loose_7
    rw [(ewM_k (samG_kM k1) hM).1, if_pos (nI_le (Nat.le_refl _) (by omega))]
    unfold lsN
    by_cases q : off ≤ sumB e.1 b (gN e h)
    · rw [pk_sub q, if_pos (nI_pos' (by omega))]
    · rw [if_neg (show ¬ 0 ≤ nI (sumB e.1 b (gN e h)) - nI off from fun r => by
        rw [il, pk_sub_toInt (by omega) (by omega)] at r
        have z0 : (0 : Int32).toInt = 0 := rfl
        omega), show sumB e.1 b (gN e h) - off = 0 by omega]
      rfl
  · have hM1 := ewM_k (samG_kM k1) hM
    unfold f_M_loose_7
    rw [hM1.1, if_neg (nI_ge ht (by omega)), bt_M hn hb ht]
    rw [sumB_s] at ih
    by_cases q : bt b t = true
    · obtain ⟨τ2, d1, d2⟩ := dyeOf_M hB hM1 ht hh
      rw [b2_nt q, if_pos rfl, d1, bd2_s, subadd, nI_1]
      rw [if_pos q] at ih
      exact ih τ2 (samG_tr k1 d2)
    · rw [b2_nf (bt_f q), if_neg i01, nI_1]
      rw [if_neg q] at ih
      exact ih τ1 k1
theorem tints_MG {e : Ew} {τ : St} (hB : ewB e) (hM : ewM e τ) {b h off : Nat} (hb : b < 2 ^ e.1) (hh : h ≤ 9) (ho : off ≤ 1000) : ∃ τ', f_M_tints τ (nI b) (nI h) (nI off) = some (nI (alN e (gN e h) b (lsN e (gN e h) b off)), τ') ∧ samG τ τ' := by
  have hn := hB.1
  obtain ⟨τ0, l1, l2⟩ := loose_MG hB hM hb hh ho
  have hM0 := ewM_k (samG_kM l2) hM
  unfold f_M_tints
  rw [l1, bd2_s]
  have hls : lsN e (gN e h) b off ≤ 990 := by
    unfold lsN
    have hs : sumB e.1 b (gN e h) ≤ e.1 * 99 := sumB_le (fun t ht => gN_le hB hh ht)
    omega
  generalize lsN e (gN e h) b off = l at hls
  have main := loopF (n := e.1) (P := fun t fuel => ∀ τ1, samG τ0 τ1 → ∃ τ', f_M_tints_15 fuel τ1 (nI b) (nI h) (nI l) (nI (sumB t b (fun t => tN (e.2.1 t 0) (l - gN e h t)))) (nI t) = some (nI (alN e (gN e h) b l), τ') ∧ samG τ0 τ') (fun f τ1 k1 => by
      refine ⟨τ1, ?_, k1⟩
      unfold f_M_tints_15
      rw [(ewM_k (samG_kM k1) hM0).1, if_pos (nI_le (Nat.le_refl _) (by omega))]
      rfl) (fun t f ht ih τ1 k1 => by
      have hM1 := ewM_k (samG_kM k1) hM0
      unfold f_M_tints_15
      rw [hM1.1, if_neg (nI_ge ht (by omega)), bt_M hn hb ht]
      rw [sumB_s] at ih
      by_cases q : bt b t = true
      · obtain ⟨τ2, d1, -, d2⟩ := tinted_M hB hM1 (l := l) ht hh (by omega)
        rw [b2_nt q, if_pos rfl, d1, bd2_s, nI_add, nI_1]
        rw [if_pos q] at ih
        exact ih τ2 (samG_tr k1 d2)
      · rw [b2_nf (bt_f q), if_neg i01, nI_1]
        rw [if_neg q] at ih
        exact ih τ1 k1) 0 (Nat.zero_le _) FU (by show _ < 1000; omega) τ0 (samG_rf τ0)
  obtain ⟨τ', m1, m2⟩ := main
  exact ⟨τ', m1, samG_tr l2 m2⟩
theorem isSafe_MG {e : Ew} {τ : St} (hB : ewB e) (hM : ewM e τ) {b h off most : Nat} (hb : b < 2 ^ e.1) (hh : h ≤ 9) (ho : off ≤ 1000) (hm : most ≤ 99) : ∃ τ', f_M_isSafe τ (nI b) (nI h) (nI off) (nI most) = some (b2 (sfN e (gN e h) h b (lsN e (gN e h) b off) most), τ') ∧ samG τ τ' := by
  have hn := hB.1
  have hls := lsN_le hB (gv := gN e h) (fun t ht => gN_le hB hh ht) b off
  unfold f_M_isSafe sfN
  rw [goesSo_M hB hM hb, spoilt_M hB hM hb hh, bind_s]
  by_cases q1 : goN e b = true
  · rw [b2_nt q1, if_neg i10, bind_s, q1, Bool.true_and]
    by_cases q2 : spN e h b = 0
    · rw [if_pos q2, decide_eq_true q2, Bool.true_and]
      obtain ⟨τ0, l1, l2⟩ := loose_MG hB hM hb hh ho
      have hM0 := ewM_k (samG_kM l2) hM
      rw [l1, bd2_s]
      generalize lsN e (gN e h) b off = l at hls
      have main := loopF (n := e.1) (P := fun t fuel => ∀ τ1, samG τ0 τ1 → noB t b (fun t => decide (most < tN (e.2.1 t 0) (l - gN e h t))) = true → ∃ τ', f_M_isSafe_31 fuel τ1 (nI b) (nI h) (nI most) (nI l) (nI t) = some (b2 (noB e.1 b (fun t => decide (most < tN (e.2.1 t 0) (l - gN e h t)))), τ') ∧ samG τ0 τ') (fun f τ1 k1 hno => by
          refine ⟨τ1, ?_, k1⟩
          unfold f_M_isSafe_31
          rw [(ewM_k (samG_kM k1) hM0).1, if_pos (nI_le (Nat.le_refl _) (by omega)), hno]
          rfl) (fun t f ht ih τ1 k1 hno => by
          have hM1 := ewM_k (samG_kM k1) hM0
          have hle := tN_le (e.2.1 t 0) (l - gN e h t)
          unfold f_M_isSafe_31
          rw [hM1.1, if_neg (nI_ge ht (by omega)), bt_M hn hb ht]
          rw [noB_s] at ih
          by_cases q : bt b t = true
          · obtain ⟨τ2, d1, -, d2⟩ := tinted_M hB hM1 (l := l) ht hh (by omega)
            rw [b2_nt q, if_pos rfl, d1, bd2_s, nI_1]
            by_cases r : most < tN (e.2.1 t 0) (l - gN e h t)
            · rw [if_neg (nI_ge r (by omega)), noB_hit (p := fun t => decide (most < tN (e.2.1 t 0) (l - gN e h t))) ht q (decide_eq_true r)]
              exact ⟨τ2, rfl, samG_tr k1 d2⟩
            · rw [if_pos (nI_le (by omega) (by omega))]
              exact ih τ2 (samG_tr k1 d2) (by rw [hno, q, decide_eq_false r]; rfl)
          · rw [b2_nf (bt_f q), if_neg i01, nI_1]
            exact ih τ1 k1 (by rw [hno, bt_f q]; rfl)) 0 (Nat.zero_le _) FU (by show _ < 1000; omega) τ0 (samG_rf τ0) rfl
      obtain ⟨τ', m1, m2⟩ := main
      exact ⟨τ', m1, samG_tr l2 m2⟩
    · rw [if_neg q2, decide_eq_false q2]; exact ⟨τ, rfl, samG_rf τ⟩
  · rw [b2_nf (Bool.eq_false_iff.mpr q1), if_pos rfl, Bool.eq_false_iff.mpr q1]; exact ⟨τ, rfl, samG_rf τ⟩
