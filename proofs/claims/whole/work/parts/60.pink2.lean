/-! counts of bits; which, sock, drawn -/
def pcI (a : Nat) : Int32 := (f_JI_bitCount (nI a)).getD 0
def tzI (a : Nat) : Int32 := (f_JI_numberOfTrailingZeros (nI a)).getD 0
theorem pc_some (a : Nat) : f_JI_bitCount (nI a) = some (pcI a) := rfl
set_option maxRecDepth 100000 in
theorem pc_set0 : ∀ t : Fin 10, ∀ a : Fin (2 ^ t.1), pcI (a.1 ||| 2 ^ t.1) = pcI a.1 + 1 ∧ tzI (a.1 ||| 2 ^ t.1) = (if a.1 = 0 then nI t.1 else tzI a.1) ∧ f_JI_numberOfTrailingZeros (nI (a.1 ||| 2 ^ t.1)) = some (tzI (a.1 ||| 2 ^ t.1)) := by decide +kernel
theorem pc_set {t a : Nat} (ht : t < 10) (ha : a < 2 ^ t) : pcI (a ||| 2 ^ t) = pcI a + 1 ∧ tzI (a ||| 2 ^ t) = (if a = 0 then nI t else tzI a) ∧ f_JI_numberOfTrailingZeros (nI (a ||| 2 ^ t)) = some (tzI (a ||| 2 ^ t)) := pc_set0 ⟨t, ht⟩ ⟨a, ha⟩
set_option maxRecDepth 100000 in
theorem pc_zero : ∀ a : Fin 1024, (pcI a.1 = 0) ↔ a.1 = 0 := by decide +kernel
theorem or_ne0 {a t : Nat} : ¬ (a ||| 2 ^ t) = 0 := fun q => by
  have h1 : (2 : Nat) ^ t ≤ a ||| 2 ^ t := Nat.right_le_or
  have := Nat.two_pow_pos t
  omega
theorem e_which {σ τ : St} (h : Rel σ τ) (x y z u : Int32) : ∃ r σ' τ', f_Top_which σ x y z u = some (r, σ') ∧ f_M_which τ x y z u = some (r, τ') ∧ Rel σ' τ' := by
  obtain ⟨e, hB, hC, hM⟩ := rel_ew h
  obtain ⟨bn, hbn, h8⟩ := rel_sh h
  have hn := hB.1
  unfold f_Top_which f_M_which
  rcases row_2 hbn h8 x (s := 1) (by decide) with ⟨r1, r2⟩ | ⟨r, z0, zm, zn, r1, r2, r3⟩ | ⟨j, Ln, v, hj, hL, rfl, r1, r2, r3, rc, rm⟩
  · have r1' : f_Top_rowRefusal σ x 1 = _ := r1
    rw [r1', r2]; exact ⟨_, _, _, rfl, rfl, h⟩
  · have r1' : f_Top_rowRefusal σ x 1 = _ := r1
    have r3' : f_M_rowFault τ x 1 = _ := r3
    rw [r1', r2]
    simp only [bind_s, zm, i10, if_false]
    rcases isSet_2 hB hC hM y with ⟨g1, g2⟩ | ⟨b, hb, rfl, g1, g2⟩
    · rw [g1, g2]; exact ⟨_, _, _, rfl, rfl, h⟩
    · rw [g1, g2]
      simp only [bind_s, i10, if_false]
      rcases heatCloth_2 z with ⟨k1, k2⟩ | ⟨w, c, w3, w9, c1, k1, k2, k3, k4⟩
      · rw [k1, k2]; exact ⟨_, _, _, rfl, rfl, h⟩
      · rw [k1, k2, r3', within_eq, in_eq]
        simp only [bind_s, i10, if_false]
        by_cases hu : (0 : Int32) ≤ u ∧ u ≤ 1
        · rw [decide_eq_true hu]
          simp only [b2_t, bind_s, i10, z0, zn, if_false]
          exact ⟨_, _, _, rfl, rfl, h⟩
        · rw [decide_eq_false hu]
          exact ⟨_, _, _, rfl, rfl, h⟩
  · have r1' : f_Top_rowRefusal σ (nI j) 1 = _ := r1
    have r3' : f_M_rowFault τ (nI j) 1 = _ := r3
    rw [r1', r2]
    simp only [bind_s, i10, if_false, show ¬ (0 : Int32) = -1 by decide]
    rcases isSet_2 hB hC hM y with ⟨g1, g2⟩ | ⟨b, hb, rfl, g1, g2⟩
    · rw [g1, g2]; exact ⟨_, _, _, rfl, rfl, h⟩
    · rw [g1, g2]
      simp only [bind_s, i10, if_false]
      rcases heatCloth_2 z with ⟨k1, k2⟩ | ⟨w, c, w3, w9, c1, k1, k2, k3, k4⟩
      · rw [k1, k2]; exact ⟨_, _, _, rfl, rfl, h⟩
      · rw [k1, k2, r3', within_eq, in_eq]
        simp only [bind_s, i10, if_false]
        by_cases hu : (0 : Int32) ≤ u ∧ u ≤ 1
        · have hg := fun t (ht : t < e.1) => gN_le hB w9 ht
          obtain ⟨σ1, w1, wk, wh, wg⟩ := warm_C hB hC w9
          have ho := cl_le hB (c := c) (by omega)
          have main := loopF (n := e.1) (P := fun t fuel => ∀ (A : Nat) (fst : Int32) σ2 τ2, A < 2 ^ t → (if A = 0 then fst = -2 else fst = tzI A) → (¬ A = 0 → f_JI_numberOfTrailingZeros (nI A) = some (tzI A)) → kC σ2 = kC σ → kM τ2 = kM τ → σ2.1 3903 = nI w → (∀ v, v < e.1 → σ2.2.1 40 v = nI (gN e w v)) → ∃ A' fst' σ' τ', f_Top_guests_17 fuel σ2 j (nI b) z (nI A) (nI t) = some (nI A', σ') ∧ f_M_which_60 fuel τ2 (nI j) (nI b) z u (pcI A) fst (nI t) = (if u = 0 then some (pcI A', τ') else some (fst', τ')) ∧ A' < 1024 ∧ (if A' = 0 then fst' = -2 else fst' = tzI A') ∧ (¬ A' = 0 → f_JI_numberOfTrailingZeros (nI A') = some (tzI A')) ∧ kC σ' = kC σ ∧ kM τ' = kM τ) (fun f A fst σ2 τ2 a0 a1 a2 a3 a4 a5 a6 => by
              unfold f_Top_guests_17 f_M_which_60
              rw [(ewC_k a3 hC).1, (ewM_k a4 hM).1, if_pos (nI_le (Nat.le_refl _) (by omega)), if_pos (nI_le (Nat.le_refl _) (by omega))]
              exact ⟨A, fst, σ2, τ2, rfl, rfl, p10 hn a0, a1, a2, a3, a4⟩) (fun t f ht ih A fst σ2 τ2 a0 a1 a2 a3 a4 a5 a6 => by
              have hC2 := ewC_k a3 hC
              have hM2 := ewM_k a4 hM
              have t10 : t < 10 := by omega
              have ht2 : (2 : Nat) ^ t ≤ 2 ^ 9 := Nat.pow_le_pow_right (by decide) (by omega)
              have hA : A < 2 ^ (t + 1) := by rw [Nat.pow_succ]; omega
              unfold f_Top_guests_17 f_M_which_60
              rw [hC2.1, hM2.1, if_neg (nI_ge ht (by omega)), if_neg (nI_ge ht (by omega)), bt_isOf hn hb ht, bt_M hn hb ht, bind_s, nI_1]
              by_cases q : bt b t = true
              · rw [b2_nt q, if_neg i10, if_pos rfl]
                exact ih A fst σ2 τ2 hA a1 a2 a3 a4 a5 a6
              · rw [b2_nf (bt_f q), if_pos rfl, if_neg i01]
                have pt : (2 : Nat) ^ t < 2 ^ e.1 := Nat.pow_lt_pow_right (by decide) ht
                have hlt : b ||| 2 ^ t < 2 ^ e.1 := Nat.or_lt_two_pow hb pt
                have hb10 := p10 hn hb
                have hset : nI b ||| ((1 : Int32) <<< (nI t &&& 31)) = nI (b ||| 2 ^ t) := by rw [shl1_nI (by omega), or_nI (by omega) (by omega)]
                have hacc : nI A ||| ((1 : Int32) <<< (nI t &&& 31)) = nI (A ||| 2 ^ t) := by rw [shl1_nI (by omega), or_nI (by omega) (by omega)]
                have hacc0 : nI A ||| (0 : Int32) = nI A := by rw [show (0 : Int32) = nI 0 from rfl, or_nI (by omega) (by decide), Nat.or_zero]
                obtain ⟨σ3, f1, f2, f3⟩ := fill_V hB hC2 (h := w) a6 a5 hg hlt ho
                have kk : kC σ3 = kC σ := f2.trans a3
                obtain ⟨r, τ3, u1, u2, u3, u4⟩ := unlike_2 hB hB rfl (fun _ => rfl) f3.1 hM2 w9 f3.2.1 hb hlt ho f3.2.2.2.2 rfl hj hL (rwC_k kk rc) (rwM_k a4 rm)
                rw [k4, caught_C hC2, bind_s, hset, f1, bind_s, u1, bind_s, offBy_M hM2 c1 k4, bind_s, k3, u2, bd2_s, hacc, hacc0]
                rcases u4 with rfl | ⟨s, hs, rfl⟩
                · rw [if_pos rfl, if_pos (show (-2 : Int32) < 0 by decide)]
                  obtain ⟨pc1, pc2, pc3⟩ := pc_set t10 a0
                  have hA2 : A ||| 2 ^ t < 2 ^ (t + 1) := Nat.or_lt_two_pow hA (by rw [Nat.pow_succ]; have := Nat.two_pow_pos t; omega)
                  have pcz : (pcI A = 0) ↔ A = 0 := by
                    have hz : ∀ a : Fin 1024, (pcI a.1 = 0) ↔ a.1 = 0 := pc_zero
                    exact hz ⟨A, by omega⟩
                  have step := fun fs hfs => ih (A ||| 2 ^ t) fs σ3 τ3 hA2 hfs (fun _ => pc3) kk (u3.trans a4) f3.2.2.1 f3.2.1
                  rw [pc1] at step
                  by_cases A0 : A = 0
                  · rw [if_pos (pcz.mpr A0)]
                    refine step (nI t) ?_
                    rw [if_neg or_ne0, pc2, if_pos A0]
                  · rw [if_neg (fun w => A0 (pcz.mp w))]
                    refine step fst ?_
                    rw [if_neg or_ne0, pc2, if_neg A0]
                    rw [if_neg A0] at a1
                    exact a1
                · rw [if_neg (m2_ne (by omega)), if_neg (nI_pos (by omega))]
                  exact ih A fst σ3 τ3 hA a1 a2 kk (u3.trans a4) f3.2.2.1 f3.2.1)
            0 (Nat.zero_le _) FU (by show _ < 1000; omega) 0 (-2) σ1 τ (by decide) rfl (fun q => absurd rfl q) wk rfl wh wg
          obtain ⟨A', fst', σ', τ', z1, z2, z3, z4, z5, z6, z7⟩ := main
          have z1' : f_Top_guests σ j (nI b) z = some (nI A', σ') := by
            unfold f_Top_guests
            rw [k3, w1, bind_s]
            exact z1
          have z2' : f_M_which_60 FU τ (nI j) (nI b) z u 0 (-2) 0 = _ := z2
          rw [decide_eq_true hu]
          simp only [b2_t, bind_s, i10, if_false, if_true, show (0 : Int32) ≤ 0 by decide, inb_nI hj (by decide), cond_true, nIt (show j < 2 ^ 31 by omega), z1', z2', bd2_s, pc_some]
          by_cases u0 : u = 0
          · simp only [u0, if_true]
            exact ⟨_, _, _, rfl, rfl, rel_k h z6 z7⟩
          · simp only [u0, if_false]
            by_cases A0 : A' = 0
            · subst A0
              rw [if_pos rfl] at z4
              rw [if_pos (show nI 0 = 0 from rfl), z4]
              exact ⟨_, _, _, rfl, rfl, rel_k h z6 z7⟩
            · rw [if_neg A0] at z4
              rw [if_neg (nI_ne0 (by omega) (by omega)), z5 A0, z4]
              exact ⟨_, _, _, rfl, rfl, rel_k h z6 z7⟩
        · rw [decide_eq_false hu]
          exact ⟨_, _, _, rfl, rfl, h⟩
