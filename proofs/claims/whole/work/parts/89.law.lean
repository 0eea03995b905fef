/-! the law told, by both -/
theorem law_rel {σ τ σ' τ' : St} (h : Rel σ τ) (iC : ∀ k, k ≠ 2103 → (k < 3503 ∨ 3510 < k) → σ'.1 k = σ.1 k) (aC : ∀ a, a ≠ 22 → a ≠ 37 → a ≠ 38 → σ'.2.1 a = σ.2.1 a) (lC : σ'.2.2 = σ.2.2) (iM : ∀ k, (k < 21 ∨ 25 < k) → k ≠ 33 → τ'.1 k = τ.1 k) (aM : ∀ a, a < 14 ∨ 18 < a → τ'.2.1 a = τ.2.1 a) (lM : τ'.2.2 = τ.2.2) (h3 : σ'.1 3503 = 0) (h21 : τ'.1 21 = 0) (hL : relL σ' τ') : Rel σ' τ' := by
  obtain ⟨n, bn, h1, h2, h3', h4, h5, h6, h7, h8⟩ := h
  refine ⟨n, bn, relT_c h1 (iC 103 (by decide) (by decide)) (aC 2 (by decide) (by decide) (by decide)) (iM 1 (by decide) (by decide)) ⟨aM 1 (by decide), aM 2 (by decide), aM 3 (by decide), aM 4 (by decide), aM 5 (by decide), aM 6 (by decide), aM 7 (by decide), aM 8 (by decide), iM 10 (by decide) (by decide), iM 11 (by decide) (by decide), iM 12 (by decide) (by decide), iM 13 (by decide) (by decide)⟩,
    relG_c h2 (aC 3 (by decide) (by decide) (by decide)) (aC 4 (by decide) (by decide) (by decide)) (aM 28 (by decide)) (aM 29 (by decide)),
    relCh_c h3' (iC 503 (by decide) (by decide)) (iC 504 (by decide) (by decide)) (aC 6 (by decide) (by decide) (by decide)) (aC 7 (by decide) (by decide) (by decide)) (aC 8 (by decide) (by decide) (by decide)) (iM 14 (by decide) (by decide)) (iM 15 (by decide) (by decide)) (aM 9 (by decide)) (aM 10 (by decide)) (aM 11 (by decide)) (aM 12 (by decide)),
    ⟨0, by decide, h3, h21, fun i hi => absurd hi (Nat.not_lt_zero i)⟩, hL,
    relD_c h6 (iC 906 (by decide) (by decide)) (aC 10 (by decide) (by decide) (by decide)) (aC 11 (by decide) (by decide) (by decide)) (aC 12 (by decide) (by decide) (by decide)) (aC 13 (by decide) (by decide) (by decide)) (aC 14 (by decide) (by decide) (by decide)) (iM 48 (by decide) (by decide)) (iM 49 (by decide) (by decide)) (aM 29 (by decide)) (aM 30 (by decide)) (aM 31 (by decide)) (aM 32 (by decide)) (aM 33 (by decide)) (aM 34 (by decide)),
    relS_c h7 (iC 3202 (by decide) (by decide)) (iC 3203 (by decide) (by decide)) (aC 33 (by decide) (by decide) (by decide)) (aC 34 (by decide) (by decide) (by decide)) (iM 54 (by decide) (by decide)) (iM 56 (by decide) (by decide)) (aM 35 (by decide)) (aM 36 (by decide)), fun j hj => ?_⟩
  rw [iC (4201 + 200 * j) (by omega) (by omega), iC (4202 + 200 * j) (by omega) (by omega), iC (4203 + 200 * j) (by omega) (by omega), lC, lM, aM 37 (by decide), aM 38 (by decide)]
  exact h8 j hj
theorem relL_f {σ τ σ' τ' : St} (h : relL σ τ) (h1 : σ'.1 2103 = σ.1 2103) (h2 : σ'.2.1 22 = σ.2.1 22) (h3 : τ'.1 33 = τ.1 33) (g1 : ∀ i, i < 130 → τ'.2.1 14 i = τ.2.1 14 i ∧ τ'.2.1 15 i = τ.2.1 15 i) (g2 : ∀ i, i < 61 → τ'.2.1 17 i = τ.2.1 17 i ∧ τ'.2.1 18 i = τ.2.1 18 i) (g3 : τ'.2.1 16 0 = τ.2.1 16 0) : relL σ' τ' := by
  obtain ⟨L, k1, k2, k3⟩ := h
  refine ⟨L, k1, by unfold lawC at *; rw [h1, h2]; exact k2, ?_⟩
  rcases k3 with ⟨p1, p2⟩ | ⟨p1, p2, q1, q2, q3, q4, q5⟩
  · exact Or.inl ⟨p1, by rw [h3]; exact p2⟩
  · refine Or.inr ⟨p1, by rw [h3]; exact p2, q1, q2, by rw [g3]; exact q3, fun i hi => ?_, fun l x hx => ?_⟩
    · rw [(g1 i (by omega)).1, (g1 i (by omega)).2]; exact q4 i hi
    · have hl : l < L.length := by
        by_cases z : l < L.length
        · exact z
        · rw [List.getElem?_eq_none (by omega)] at hx; cases hx
      rw [(g2 l (by omega)).1, (g2 l (by omega)).2]; exact q5 l x hx
def bOf (σ : St) (i : Nat) : Nat := (σ.2.1 36 i).toNatClampNeg
theorem law_M {b : Nat → Nat} {Lb : Nat} {τ τ' : St} (hLb : Lb ≤ 120) (hfr : frL τ τ') (hG : Good b Lb τ') : ∃ (L : LawT) (τ2 : St), L ≠ [] ∧ (∀ y ∈ L, okLine y) ∧ (lflC L).length ≤ 121 ∧ (∃ w' W' sec dg na, runN b Lb 0 sI = some (w', W', 0, false, sec, dg, na) ∧ (relN 1 w' W').1 ++ [if sec = true then -63 else -59] = lflC L) ∧ f_M_readText_86 τ' 0 = some (-1, τ2) ∧ lawM τ2 L ∧ τ2.1 21 = 0 ∧ (∀ k, (k < 21 ∨ 25 < k) → τ2.1 k = τ.1 k) ∧ (∀ a, a < 14 ∨ 18 < a → τ2.2.1 a = τ.2.1 a) ∧ τ2.2.2 = τ.2.2 := by
  obtain ⟨L, w', W', sec, dg, na, c1, c2, c3, c4, c5, c6, c7, c8, c9, c10⟩ := hG
  have hlen := lMC L
  have hL : L.length ≤ 60 := by omega
  have hm : (lflM L).length ≤ 121 := by omega
  obtain ⟨τ1, a1, a2, a3, a4, a5, a6⟩ := cp_105 hm (lM_nar L c2) (lflM L).length 0 (upI τ' 21 0) (by omega) (by omega) (stM_I c6 (by decide)) (fun j hj => absurd hj (Nat.not_lt_zero j)) FU (by show _ < 1000; omega)
  obtain ⟨τ2, b1, b2', b3, b4, b5, b6⟩ := cp_177 hL hm L.length 0 (upA τ1 16 0 (τ1.2.1 16 1)) (by omega) (by omega) (by
    rw [upA_2, if_pos rfl]
    show (if (0 : Nat) = 0 then τ1.2.1 16 1 else _) = _
    rw [if_pos rfl, a3]; exact c7) (fun l x hx => by
    rw [upA_2, if_neg (by decide), upA_2, if_neg (by decide), a4, a5]
    exact c8 l x hx) (fun l x hl => absurd hl (Nat.not_lt_zero l)) FU (by show _ < 1000; omega)
  have e86 : f_M_readText_86 τ' 0 = some (-1, τ2) := by
    unfold f_M_readText_86
    rw [c5, if_pos (by decide)]
    exact a1.trans b1
  have e16 : τ2.2.1 16 0 = nI L.length := by
    rw [b5, upA_2, if_pos rfl]
    show (if (0 : Nat) = 0 then τ1.2.1 16 1 else _) = _
    rw [if_pos rfl, a3]; exact c7
  refine ⟨L, τ2, c1, c2, by omega, ⟨w', W', sec, dg, na, c9, c10⟩, e86, ⟨by omega, hm, e16, fun i hi => ?_, b6⟩, ?_, fun k hk => ?_, fun a ha => ?_, ?_⟩
  · rw [b3, b4, upA_2, if_neg (by decide), upA_2, if_neg (by decide)]
    exact a6 i hi
  · rw [b2'.1 21, upA_1, a2.1 21, upI_1, if_pos rfl]
  · rw [b2'.1 k, upA_1, a2.1 k, upI_1, if_neg (by omega)]
    exact hfr.1 k (by omega)
  · rw [b2'.2.1 a ha, upA_2, if_neg (by omega), a2.2.1 a ha]
    exact hfr.2.1 a ha
  · rw [b2'.2.2]
    show τ1.2.2 = _
    rw [a2.2.2]
    exact hfr.2.2.2.2.2
theorem e_law {σ τ : St} (h : Rel σ τ) : ∃ r σ' τ', f_Top_law σ = some (r, σ') ∧ f_M_law τ = some (r, τ') ∧ Rel σ' τ' := by
  obtain ⟨n, bn, h1, h2, h3, h4, h5, h6, h7, h8⟩ := id h
  obtain ⟨Lb, hLb, t1, t2, t3⟩ := h4
  have hb : ∀ i, i < Lb → σ.2.1 36 i = nI (bOf σ i) ∧ bOf σ i < 256 ∧ τ.2.1 13 i = lookV (bOf σ i) := by
    intro i hi
    obtain ⟨b0, k1, k2, k3⟩ := t3 i hi
    have e : bOf σ i = b0 := by unfold bOf; rw [k2, nIt (by omega)]
    rw [e]
    exact ⟨k2, k1, k3⟩
  have hM : tpM (bOf σ) Lb τ := ⟨t2, hLb, fun i hi => ⟨(hb i hi).2.2, (hb i hi).2.1⟩⟩
  have hC0 : tpC (bOf σ) Lb σ := ⟨t1, hLb, fun i hi => ⟨(hb i hi).1, (hb i hi).2.1⟩⟩
  have fr0 : frP σ (upI (upI (upI (upI (upI (upI σ 3504 (0 : Int32)) 3505 (0 : Int32)) 3506 (0 : Int32)) 3507 (0 : Int32)) 3509 (1 : Int32)) 3510 (0 : Int32)) := ⟨fun k p => by rw [upI_1, if_neg (by omega), upI_1, if_neg (by omega), upI_1, if_neg (by omega), upI_1, if_neg (by omega), upI_1, if_neg (by omega), upI_1, if_neg (by omega)], fun _ _ _ => rfl, rfl⟩
  have he0 : encT sI (upI (upI (upI (upI (upI (upI σ 3504 (0 : Int32)) 3505 (0 : Int32)) 3506 (0 : Int32)) 3507 (0 : Int32)) 3509 (1 : Int32)) 3510 (0 : Int32)) := ⟨⟨rfl, fun i hi => absurd hi (Nat.not_lt_zero i), rfl, fun i hi => absurd hi (Nat.not_lt_zero i)⟩, rfl, rfl, rfl, rfl, rfl, Or.inl rfl, Nat.zero_le _, Nat.zero_le _⟩
  have hC := tpC_P fr0 hC0
  have er : f_Tape_read σ = f_Tape_read_32 FU (upI (upI (upI (upI (upI (upI σ 3504 (0 : Int32)) 3505 (0 : Int32)) 3506 (0 : Int32)) 3507 (0 : Int32)) 3509 (1 : Int32)) 3510 (0 : Int32)) (nI 0) := rfl
  generalize upI (upI (upI (upI (upI (upI σ 3504 (0 : Int32)) 3505 (0 : Int32)) 3506 (0 : Int32)) 3507 (0 : Int32)) 3509 (1 : Int32)) 3510 (0 : Int32) = σ0 at *
  obtain ⟨τ1, m1, m2, m3⟩ := text_C hM
  unfold f_Top_law f_M_law
  rw [er, m1]
  rcases m3 with hG | ⟨f, hh, s2, g1, g2, g3, g4, g5, g6, g7⟩
  · obtain ⟨L, τ2, c1, c2, c3, ⟨w', W', sec, dg, na, c4, c5⟩, c6, c7, c8, c9, c10, c11⟩ := law_M hLb m2 hG
    obtain ⟨σ1, a1, a2, a3, a4⟩ := read_run Lb 0 sI _ σ0 hC he0 (Nat.le_refl _) (by omega) c4
    obtain ⟨σ2, b1, b2', b3⟩ := read_ok (tpC_P a1 hC) a2 (by simpa using a3) (999 - Lb)
    have e1 := a4 (999 - Lb + 1)
    rw [show 999 - Lb + 1 + Lb = 1000 by omega, Nat.zero_add, b1] at e1
    have e1' : f_Tape_read_32 FU σ0 (nI 0) = some (-1, σ2) := e1
    rw [e1', c6, bd2_s, bd2_s, if_pos rfl, if_pos (show (-1 : Int32) < 0 by decide)]
    rw [c5] at b3
    obtain ⟨k1, k2, k3, k4⟩ := b3
    have fr2 : frP σ σ2 := frP_tr fr0 (frP_tr a1 b2')
    have im : imin (σ2.1 3504) 121 = nI (lflC L).length := by
      unfold imin
      rw [k1, if_neg (show ¬ (121 : Int32) < nI (lflC L).length from nI_nlt (a := 121) (by omega) (by decide))]
    have hcp : cpok (0 : Int32) (0 : Int32) (nI (lflC L).length) 121 121 = true := by
      apply decide_eq_true
      refine ⟨by decide, by decide, nI_pos (by omega), ?_, ?_⟩
      · rw [nIt (by omega)]
        show 0 + _ ≤ 121
        omega
      · rw [nIt (by omega)]
        show 0 + _ ≤ 121
        omega
    have ebe : f_Law_become σ2 = some (stA (upI σ2 2103 (nI (lflC L).length)) 22 (va_cpy (σ2.2.1 37) (σ2.2.1 22) 0 0 (lflC L).length)) := by
      unfold f_Law_become
      rw [im, hcp, cond_true, nIt (by omega)]
      rfl
    rw [ebe, bind_s]
    unfold f_Top_law_24 f_Tape_clear
    rw [bind_s, if_pos rfl]
    refine ⟨1, _, _, rfl, rfl, law_rel h (fun k hk1 hk2 => ?_) (fun a ha1 ha2 ha3 => ?_) ?_ (fun k hk1 hk2 => ?_) (fun a ha => ?_) ?_ ?_ ?_ ?_⟩
    · rw [upI_1, if_neg (by omega)]
      show (upI σ2 2103 (nI (lflC L).length)).1 k = _
      rw [upI_1, if_neg hk1]
      exact fr2.1 k (by omega)
    · show va_up σ2.2.1 22 _ a = _
      rw [va_up_ne _ _ ha1]
      exact fr2.2.1 a ha2 ha3
    · exact fr2.2.2
    · rw [upI_1, if_neg hk2]; exact c9 k hk1
    · exact c10 a ha
    · exact c11
    · rw [upI_1, if_pos rfl]
    · rw [upI_1, if_neg (by decide)]; exact c8
    · refine ⟨L, c2, ⟨c3, ?_, fun i hi => ?_⟩, Or.inr ⟨c1, by rw [upI_1, if_pos rfl], c7⟩⟩
      · rw [upI_1, if_neg (by decide)]
        show (upI σ2 2103 (nI (lflC L).length)).1 2103 = _
        rw [upI_1, if_pos rfl]
      · show va_cpy (σ2.2.1 37) (σ2.2.1 22) 0 0 (lflC L).length i = _
        unfold va_cpy
        rw [if_pos ⟨Nat.zero_le _, by omega⟩, Nat.zero_add, Nat.sub_zero]
        exact k2 i hi
  · obtain ⟨σ1, a1, a2, a3, a4⟩ := read_run (f - 0) 0 sI s2 σ0 hC he0 (Nat.le_refl _) (by omega) g6
    rw [Nat.sub_zero] at a4
    have a3' : s2.1.length + s2.2.1.length ≤ f := by omega
    have hrd : ∃ σ2, f_Tape_read_32 FU σ0 (nI 0) = some (nI f, σ2) ∧ frP σ σ2 := by
      have e1 := a4 (999 - f + 1)
      rw [show 999 - f + 1 + f = 1000 by omega, Nat.zero_add] at e1
      have e1' : f_Tape_read_32 FU σ0 (nI 0) = f_Tape_read_32 (999 - f + 1) σ1 (nI f) := e1
      rcases g7 with ⟨z1, z2⟩ | ⟨z1, z2⟩
      · obtain ⟨σ2, b1, b2'⟩ := read_no (tpC_P a1 hC) a2 a3' z1 z2 (999 - f)
        exact ⟨σ2, by rw [e1', b1], frP_tr fr0 (frP_tr a1 b2')⟩
      · subst z1
        exact ⟨σ1, by rw [e1', read_end (tpC_P a1 hC) a2 a3' z2 (999 - f)], frP_tr fr0 a1⟩
    obtain ⟨σ2, b1, fr2⟩ := hrd
    have n23 : ¬ τ1.1 23 < 0 := by rw [g5]; exact nI_pos (by omega)
    have e86 : f_M_readText_86 τ1 0 = some (nI f, upI τ1 21 0) := by
      unfold f_M_readText_86
      rw [if_neg n23, g5]
    rw [b1, e86, bd2_s, bd2_s, if_neg (fun z => nI_pos (n := f) (by omega) (by rw [z]; decide)), if_neg (nI_pos (by omega))]
    unfold f_Top_law_24 f_Tape_clear
    rw [bind_s, if_neg (fun z => nI_pos (n := f) (by omega) (by rw [z]; decide))]
    refine ⟨_, _, _, rfl, rfl, law_rel h (fun k hk1 hk2 => ?_) (fun a ha1 ha2 ha3 => ?_) ?_ (fun k hk1 hk2 => ?_) (fun a ha => ?_) ?_ ?_ ?_ ?_⟩
    · rw [upI_1, if_neg (by omega)]
      exact fr2.1 k (by omega)
    · exact fr2.2.1 a ha2 ha3
    · exact fr2.2.2
    · rw [upI_1, if_neg (by omega)]; exact m2.1 k (by omega)
    · exact m2.2.1 a ha
    · exact m2.2.2.2.2.2
    · rw [upI_1, if_pos rfl]
    · rw [upI_1, if_pos rfl]
    · refine relL_f h5 ?_ (fr2.2.1 22 (by decide) (by decide)) ?_ m2.2.2.1 m2.2.2.2.1 m2.2.2.2.2.1
      · rw [upI_1, if_neg (by decide)]; exact fr2.1 2103 (by omega)
      · rw [upI_1, if_neg (by decide)]; exact m2.1 33 (by omega)
