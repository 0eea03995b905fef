/-! the easy calls -/
theorem relSh_m {bn bm : Nat} {σ τ : St} (h : relSh bn σ τ) (hb : bn ≤ bm) : relSh bm σ τ := by
  intro j hj
  rcases h j hj with q | ⟨q, b, hb, q2⟩ | q
  · exact Or.inl q
  · exact Or.inr (Or.inl ⟨q, b, by omega, q2⟩)
  · exact Or.inr (Or.inr q)
theorem i10 : ¬ (1 : Int32) = 0 := by decide
theorem e_feed {σ τ : St} (h : Rel σ τ) (a : Int32) : ∃ r σ' τ', f_Top_feed σ a = some (r, σ') ∧ f_M_feed τ a = some (r, τ') ∧ Rel σ' τ' := by
  obtain ⟨n, bn, h1, h2, h3, ⟨L, hL, g1, g2, g3⟩, h5, h6, h7, h8⟩ := id h
  unfold f_Top_feed f_M_feed
  rw [within_eq, in_eq, bind_s, bind_s]
  by_cases hv : (0 : Int32) ≤ a ∧ a ≤ 255
  · obtain ⟨b, hb, rfl⟩ := (isT (n := 256) (by decide) a).mp hv
    simp only [decide_eq_true hv, b2_t, i10, if_false]
    simp only [f_Tape_isFull, g1, g2]
    by_cases hf : L = 120
    · subst hf
      have e1 : ¬ nI 120 < (120 : Int32) := by decide
      have e2 : nI 120 = (120 : Int32) := rfl
      simp only [e1, e2, if_false, if_true, bind_s]
      exact ⟨_, _, _, rfl, rfl, h⟩
    · have e1 : nI L < (120 : Int32) := nI_lt (b := 120) (by omega) (by decide)
      have e2 : ¬ nI L = (120 : Int32) := fun e => hf ((nI_eq (b := 120) (by omega) (by decide)).mp e)
      have e3 : inb (nI L) 120 = true := inb_nI (by omega) (by decide)
      simp only [f_Tape_add, f_Tape_isFull, g1, e1, e2, e3, if_true, if_false, bind_s, bd2_s, cond_true, nIt (show L < 2 ^ 31 by omega)]
      refine ⟨_, _, _, rfl, rfl, n, bn, relT_c h1, h2, h3, ⟨L + 1, by omega, nI_1 L, nI_1 L, fun i hi => ?_⟩, h5, h6, h7, relSh_c h8⟩
      by_cases hi2 : i = L
      · subst hi2
        refine ⟨b, hb, ?_, ?_⟩
        · show upd (σ.2.1 36) i (nI b) i = _; simp [upd]
        · show upd (τ.2.1 13) i (vp_nar .byte _) i = _; simp [upd, pk_vb]
      · obtain ⟨c, hc, c1, c2⟩ := g3 i (by omega)
        refine ⟨c, hc, ?_, ?_⟩
        · show upd (σ.2.1 36) L (nI b) i = _; simp [upd, hi2, c1]
        · show upd (τ.2.1 13) L (vp_nar .byte _) i = _; simp [upd, hi2, c2]
  · simp only [decide_eq_false hv, b2_f, if_true]
    exact ⟨_, _, _, rfl, rfl, h⟩
theorem e_body {σ τ : St} (h : Rel σ τ) (a : Int32) : ∃ r σ' τ', f_Top_body σ a = some (r, σ') ∧ f_M_body τ a = some (r, τ') ∧ Rel σ' τ' := by
  obtain ⟨n, bn, h1, h2, h3, h4, h5, h6, ⟨hb, g1, g2, g3, rn, hrn, g4, g5, g6⟩, h8⟩ := id h
  unfold f_Top_body f_M_body
  rw [within_eq, in_eq, bind_s, bind_s]
  by_cases hv : (0 : Int32) ≤ a ∧ a ≤ 7
  · obtain ⟨k, hk, rfl⟩ := (isT (n := 8) (by decide) a).mp hv
    simp only [decide_eq_true hv, b2_t, i10, if_false]
    simp only [f_Socks_isFull, g1, g2]
    by_cases hf : bn = 50
    · subst hf
      have e1 : ¬ nI 50 < (50 : Int32) := by decide
      have e2 : nI 50 = (50 : Int32) := rfl
      simp only [e1, e2, if_false, if_true, bind_s]
      exact ⟨_, _, _, rfl, rfl, h⟩
    · have e1 : nI bn < (50 : Int32) := nI_lt (b := 50) (by omega) (by decide)
      have e2 : ¬ nI bn = (50 : Int32) := fun e => hf ((nI_eq (b := 50) (by omega) (by decide)).mp e)
      have e3 : inb (nI bn) 50 = true := inb_nI (by omega) (by decide)
      simp only [f_Socks_add, f_Socks_isFull, g1, e1, e2, e3, if_true, if_false, bind_s, bd2_s, cond_true, nIt (show bn < 2 ^ 31 by omega)]
      refine ⟨_, _, _, rfl, rfl, n, bn + 1, relT_c h1, h2, h3, h4, h5, h6, ⟨by omega, nI_1 bn, nI_1 bn, fun i hi => ?_, rn, hrn, g4, g5, g6⟩, relSh_c (relSh_m h8 (Nat.le_succ bn))⟩
      by_cases hi2 : i = bn
      · subst hi2
        refine ⟨?_, k, hk, ?_⟩
        · show upd (σ.2.1 33) i (nI k) i = upd (τ.2.1 35) i (nI k) i; simp [upd]
        · show upd (τ.2.1 35) i (nI k) i = _; simp [upd]
      · obtain ⟨c1, k2, hk2, c2⟩ := g3 i (by omega)
        refine ⟨?_, k2, hk2, ?_⟩
        · show upd (σ.2.1 33) bn (nI k) i = upd (τ.2.1 35) bn (nI k) i; simp [upd, hi2, c1]
        · show upd (τ.2.1 35) bn (nI k) i = _; simp [upd, hi2, c2]
  · simp only [decide_eq_false hv, b2_f, if_true]
    exact ⟨_, _, _, rfl, rfl, h⟩
theorem e_trace {σ τ : St} (h : Rel σ τ) (a : Int32) : ∃ r, f_Top_trace σ a = some r ∧ f_M_trace τ a = some r := by
  obtain ⟨n, bn, h1, h2, h3, h4, h5, h6, ⟨hb, g1, g2, g3, rn, hrn, g4, g5, g6⟩, h8⟩ := id h
  have hm : imin (nI rn) 24 = nI (min rn 24) := by
    unfold imin
    by_cases hq : 24 < rn
    · rw [if_pos (show (24 : Int32) < nI rn from nI_lt (a := 24) hq (by omega)), Nat.min_eq_right (by omega)]; rfl
    · rw [if_neg (show ¬ (24 : Int32) < nI rn from nI_nlt (b := rn) (a := 24) (by omega) (by decide)), Nat.min_eq_left (by omega)]
  unfold f_Top_trace f_M_trace f_Socks_kept
  rw [g4, g5, bind_s, hm, within_eq, bind_s]
  by_cases hv : (0 : Int32) ≤ a ∧ a ≤ nI (min rn 24) - 1
  · simp only [decide_eq_true hv, b2_t, i10, if_false]
    obtain ⟨i, hi, rfl⟩ := (isT (n := min rn 24) (by omega) a).mp hv
    have c1 : ¬ nI i < 0 := nI_pos (by omega)
    have c2 : ¬ nI rn ≤ nI i := nI_ge (by omega) (by omega)
    have c3 : ¬ (24 : Int32) ≤ nI i := nI_ge (b := 24) (by omega) (by decide)
    simp only [inb_nI (show i < 24 by omega) (by decide), c1, c2, c3, if_false, cond_true, nIt (show i < 2 ^ 31 by omega)]
    exact ⟨_, rfl, by rw [g6 i (by omega) (by omega)]⟩
  · simp only [decide_eq_false hv, b2_f, if_true]
    refine ⟨_, rfl, ?_⟩
    by_cases c1 : a < 0
    · rw [if_pos c1]
    · rw [if_neg c1]
      by_cases c2 : nI rn ≤ a
      · rw [if_pos c2]
      · rw [if_neg c2]
        by_cases c3 : (24 : Int32) ≤ a
        · rw [if_pos c3]
        · exfalso
          apply hv
          rw [it] at c1
          rw [il, nI_toInt (by omega)] at c2
          rw [il] at c3
          have z0 : (0 : Int32).toInt = 0 := rfl
          have z24 : (24 : Int32).toInt = 24 := rfl
          rw [z0] at c1
          rw [z24] at c3
          rw [il, il, nI_pred_toInt (by omega), z0]
          omega
