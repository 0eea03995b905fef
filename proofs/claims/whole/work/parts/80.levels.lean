/-! the rules over operands, one like the other -/
theorem byte_f : ∀ i : Fin 256, rkN (lookV i.val) = rkN (nI i.val) ∧ (0 < rkN (nI i.val) → (¬ (48 ≤ i.val ∧ i.val ≤ 57)) ∧ lookV i.val = nI i.val ∧ vp_nar .byte ((nI i.val).toInt8.toInt32) = nI i.val ∧ stepM (-(nI i.val)) = (nI i.val, 0) ∧ nI i.val ≠ 33 ∧ nI i.val ≠ 126 ∧ ¬ (-6 : Int32) ≤ -(nI i.val) ∧ ¬ (-(nI i.val) = -33 ∨ -(nI i.val) = -126) ∧ isOpS (-(nI i.val)) = true) := by decide +kernel
theorem rk_lk (b : Nat → Nat) {Lb p : Nat} (hb : ∀ i, i < Lb → b i < 256) (h : 0 < rkN (lkN b Lb p)) : p < Lb ∧ rkN (nI (b p)) = rkN (lkN b Lb p) ∧ lkN b Lb p = nI (b p) := by
  unfold lkN at h ⊢
  by_cases q : p < Lb
  · rw [if_pos q] at h ⊢
    have := byte_f ⟨b p, hb p q⟩
    have e1 : rkN (lookV (b p)) = rkN (nI (b p)) := this.1
    exact ⟨q, e1.symm, (this.2 (by show 0 < rkN (nI (b p)); omega)).2.1⟩
  · rw [if_neg q] at h
    exact absurd h (by decide)
theorem take_op {c k : Nat} {w W : List Int32} {o dg na : Nat} {sec : Bool} (hc : c < 256) (hr : rkN (nI c) = k) (hk : k = 1 ∨ k = 2 ∨ k = 4 ∨ k = 5) : takesN (w, W, o, false, sec, dg, na) c = some ((relN k w W).1, nI c :: (relN k w W).2, o, true, sec, 0, na) := by
  have := (byte_f ⟨c, hc⟩).2 (by show 0 < rkN (nI c); omega)
  unfold takesN
  rw [if_neg this.1, if_neg Bool.false_ne_true, if_pos (show 0 < rkN (nI c) by omega), if_neg (show ¬ rkN (nI c) = 3 by omega), hr]
theorem dep_op {S S2 : List Int32} {x : Int32} {c c2 : Nat} (h1 : dpOK S c) (h2 : dpOK S2 c2) (hc : c2 + 1 ≤ c) (n6 : ¬ (-6 : Int32) ≤ x) (nu : ¬ (x = -33 ∨ x = -126)) (ho : isOpS x = true) : dpOK (S ++ S2 ++ [x]) c := by
  intro j hj
  rw [List.append_assoc, dep_app S (S2 ++ [x]) j (j + 1) (h1 j hj), dep_app S2 [x] (j + 1) (j + 2) (h2 (j + 1) (by omega)), dep_c, if_neg n6, if_neg nu, if_pos ⟨ho, by omega⟩]
  rfl
theorem dep_mono {S : List Int32} {c c' : Nat} (h : dpOK S c) (hc : c ≤ c') : dpOK S c' := fun j hj => h j (by omega)
/-- a loop over operators of one rank -/
def isL (k : Nat) (sub : St → Option St) (L : Nat → St → Option St) : Prop :=
  (∀ n σ, 0 ≤ σ.1 23 → L (n + 1) σ = some σ) ∧
  (∀ n σ v, ¬ 0 ≤ σ.1 23 → f_M_look σ = some v → rkN v = k → L (n + 1) σ = (sub (upI σ 22 (σ.1 22 + 1))).bind fun σ2 => (f_M_addStep σ2 v 0).bind fun σ3 => L n σ3) ∧
  (∀ n σ v, ¬ 0 ≤ σ.1 23 → f_M_look σ = some v → ¬ rkN v = k → L (n + 1) σ = some σ)
theorem nI_0le {a : Nat} (h : a < 2 ^ 31) : (0 : Int32) ≤ nI a := nI_le (a := 0) (by omega) h
theorem loop_L {b : Nat → Nat} {Lb o k p : Nat} {m w W : List Int32} {sec : Bool} {dg0 na0 : Nat} {sub : St → Option St} {L : Nat → St → Option St} (hk : k = 1 ∨ k = 2 ∨ k = 4 ∨ k = 5) (HL : isL k sub L) (HC : Claim b Lb o (k + 1) sub) (hm : m.length ≤ p) (hW : rkN (W.headD 0) < k) : ∀ (n q : Nat) (S : List Int32) (s' : TS) (τ : St), Lb - q ≤ n → p < q → q ≤ Lb → S.length ≤ q - p → τ.1 22 = nI q → τ.1 23 = -1 → τ.1 24 = nI o → tpM b Lb τ → stM (m ++ S) τ → runN b (q - p) p (w, W, o, true, sec, dg0, na0) = some s' → aftN k (w ++ S) W o sec s' → okE b Lb q (k + 1) s' → dpOK S (5 * (6 - o) + 1 + (6 - k)) → ∀ fuel, n < fuel → ∃ τ', L fuel τ = some τ' ∧ frR τ τ' ∧ (OkR b Lb o k p m w W sec (w, W, o, true, sec, dg0, na0) τ' ∨ BadR b Lb p m (w, W, o, true, sec, dg0, na0) τ') := by
  have k6 : k ≠ 6 := by omega
  intro n
  induction n with
  | zero =>
    intro q S s' τ hn hpq hq hS t22 t23 t24 ht hst hrun haft hok hdp fuel hf
    obtain ⟨f, rfl⟩ : ∃ f, fuel = f + 1 := ⟨fuel - 1, by omega⟩
    have hlk := look_M ht t22 hq
    rw [HL.2.2 f τ _ (by rw [t23]; decide) hlk (by unfold lkN; rw [if_neg (by omega)]; show ¬ 0 = k; omega)]
    exact ⟨τ, rfl, frR_rf τ, Or.inl ⟨S, q, s', hpq, hq, hS, t22, t23, t24, hst, hrun, haft, fun h => by omega, hdp⟩⟩
  | succ n ih =>
    intro q S s' τ hn hpq hq hS t22 t23 t24 ht hst hrun haft hok hdp fuel hf
    obtain ⟨f, rfl⟩ : ∃ f, fuel = f + 1 := ⟨fuel - 1, by omega⟩
    have hlk := look_M ht t22 hq
    have hLb := ht.2.1
    have n23 : ¬ (0 : Int32) ≤ τ.1 23 := by rw [t23]; decide
    by_cases qk : rkN (lkN b Lb q) = k
    · obtain ⟨z1, z2, z3⟩ := rk_lk b (fun i hi => (ht.2.2 i hi).2) (show 0 < rkN (lkN b Lb q) by omega)
      have hb := (ht.2.2 q z1).2
      have hr : rkN (nI (b q)) = k := by rw [z2]; exact qk
      have bf := (byte_f ⟨b q, hb⟩).2 (show 0 < rkN (nI (b q)) by omega)
      obtain ⟨bf1, bf2, bf3, bf4, bf5, bf6, bf7, bf8, bf9⟩ := bf
      unfold aftN at haft
      rw [if_neg k6] at haft
      obtain ⟨w', W', dg, na, es, er⟩ := haft
      have htk : takesN s' (b q) = some (w ++ S, nI (b q) :: W, o, true, sec, 0, na) := by
        rw [es, take_op hb hr hk, er]
      have hl1 : (m ++ S).length ≤ q + 1 := by rw [List.length_append]; omega
      obtain ⟨τ2, c1, c2, c3⟩ := HC (q + 1) (m ++ S) (w ++ S) (nI (b q) :: W) sec 0 na (upI τ 22 (nI (q + 1))) (by omega) hl1 (tpM_R (frR_I (by omega)) ht) (by rw [upI_1, if_pos rfl]) (by rw [upI_1, if_neg (by decide)]; exact t23) (by rw [upI_1, if_neg (by decide)]; exact t24) (stM_I hst (by decide)) (fun _ => ⟨by show rkN (nI (b q)) < k + 1; omega, bf5, bf6⟩)
      rw [HL.2.1 f τ _ n23 hlk qk, t22, nI_1, c1, bind_s, z3]
      have ht2 : tpM b Lb τ2 := tpM_R c2 (tpM_R (frR_I (by omega)) ht)
      have fr1 : frR τ τ2 := frR_tr (frR_I (by omega)) c2
      rcases c3 with ⟨S2, q2, s2, d1, d2, d3, d4, d5, d6, d7, d8, d9, d10, d11⟩ | ⟨fl, h, l, s2, d1, d2, d3, d4, d5, d6, d7, d8, d9⟩
      · obtain ⟨w2, W2, dg2, na2, e1, e2⟩ := aft_5 (k := k + 1) ⟨by omega, by omega⟩ d9 bf5 bf6
        obtain ⟨τ3, a1, a2, a3, a4, a5, a6⟩ := add_M (a1 := nI (b q)) (a2 := 0) (s := -(nI (b q))) d7 (by rw [List.length_append]; omega) bf3 bf4
        rw [a1, bind_s]
        have hrun2 : runN b (q2 - p) p (w, W, o, true, sec, dg0, na0) = some s2 := run_to (q := q + 1) (run_to (q := q) hrun (by rw [show q + 1 - q = 1 by omega]; exact run_1 htk) (by omega) (by omega)) d8 (by omega) (by omega)
        have hst3 : stM (m ++ (S ++ S2 ++ [-(nI (b q))])) τ3 := by
          rw [show m ++ (S ++ S2 ++ [-(nI (b q))]) = m ++ S ++ S2 ++ [-(nI (b q))] by simp only [List.append_assoc]]; exact a2
        have haft3 : aftN k (w ++ (S ++ S2 ++ [-(nI (b q))])) W o sec s2 := by
          unfold aftN
          rw [if_neg k6]
          refine ⟨w2, W2, dg2, na2, e1, ?_⟩
          rw [← rel_rel (k := k) (k' := k + 1) (by omega) W2 w2, e2]
          show relN k (w ++ S ++ S2) (nI (b q) :: W) = _
          rw [relN_c, if_pos (by omega), rel_stop hW]
          simp only [List.append_assoc]
        have hdp3 : dpOK (S ++ S2 ++ [-(nI (b q))]) (5 * (6 - o) + 1 + (6 - k)) := dep_op hdp d11 (by omega) bf7 bf8 bf9
        obtain ⟨τ4, g1, g2, g3⟩ := ih q2 (S ++ S2 ++ [-(nI (b q))]) s2 τ3 (by omega) (by omega) d2 (by rw [List.length_append, List.length_append]; show S.length + S2.length + 1 ≤ _; omega) (by rw [a4]; exact d4) (by rw [a5]; exact d5) (by rw [a6]; exact d6) (tpM_R a3 ht2) hst3 hrun2 haft3 d10 hdp3 f (by omega)
        exact ⟨τ4, g1, frR_tr fr1 (frR_tr a3 g2), g3⟩
      · rw [List.length_append] at d7
        obtain ⟨τ3, a1, a2, a3, a4, a5⟩ := add_bad (a1 := nI (b q)) (a2 := 0) d6 (by omega)
        rw [a1, bind_s]
        obtain ⟨f', rfl⟩ : ∃ f', f = f' + 1 := ⟨f - 1, by omega⟩
        rw [HL.1 f' τ3 (by rw [a5, d5]; exact nI_0le (by omega))]
        refine ⟨τ3, rfl, frR_tr fr1 a3, Or.inr ⟨fl, h, l + 1, s2, by omega, d2, d3, by rw [a4]; exact d4, by rw [a5]; exact d5, a2, by omega, ?_, d9⟩⟩
        exact run_to (q := q + 1) (run_to (q := q) hrun (by rw [show q + 1 - q = 1 by omega]; exact run_1 htk) (by omega) (by omega)) d8 (by omega) (by omega)
    · rw [HL.2.2 f τ _ n23 hlk qk]
      refine ⟨τ, rfl, frR_rf τ, Or.inl ⟨S, q, s', hpq, hq, hS, t22, t23, t24, hst, hrun, haft, fun h => ?_, hdp⟩⟩
      rintro (hd | hr)
      · exact hok h (Or.inl hd)
      · refine hok h (Or.inr ?_)
        have e1 := (byte_f ⟨b q, (ht.2.2 q h).2⟩).1
        have e2 : rkN (lookV (b q)) = rkN (nI (b q)) := e1
        unfold lkN at qk
        rw [if_pos h, e2] at qk
        omega
theorem level_L {b : Nat → Nat} {Lb o k : Nat} {sub : St → Option St} {L : Nat → St → Option St} (hk : k = 1 ∨ k = 2 ∨ k = 4 ∨ k = 5) (HL : isL k sub L) (HC : Claim b Lb o (k + 1) sub) : Claim b Lb o k (fun τ => (sub τ).bind fun τ1 => L FU τ1) := by
  intro p m w W sec dg na τ hp hm ht t22 t23 t24 hst hW
  obtain ⟨hW1, hW2, hW3⟩ := hW (by omega)
  obtain ⟨τ1, c1, c2, c3⟩ := HC p m w W sec dg na τ hp hm ht t22 t23 t24 hst (fun _ => ⟨by omega, hW2, hW3⟩)
  show ∃ τ', (sub τ).bind (fun τ1 => L FU τ1) = some τ' ∧ _
  rw [c1, bind_s]
  have ht1 := tpM_R c2 ht
  have hLb := ht.2.1
  rcases c3 with ⟨S, q, s', d1, d2, d3, d4, d5, d6, d7, d8, d9, d10, d11⟩ | ⟨fl, h, l, s2, d1, d2, d3, d4, d5, d6, d7, d8, d9⟩
  · obtain ⟨w', W', dg', na', e1, e2⟩ := aft_5 (k := k + 1) ⟨by omega, by omega⟩ d9 hW2 hW3
    have haft : aftN k (w ++ S) W o sec s' := by
      unfold aftN
      rw [if_neg (by omega)]
      refine ⟨w', W', dg', na', e1, ?_⟩
      rw [← rel_rel (k := k) (k' := k + 1) (by omega) W' w', e2]
      exact rel_stop hW1
    obtain ⟨τ2, g1, g2, g3⟩ := loop_L hk HL HC hm hW1 120 q S s' τ1 (by omega) d1 d2 d3 d4 d5 d6 ht1 d7 d8 haft d10 (dep_mono d11 (by omega)) FU (by show _ < 1000; omega)
    exact ⟨τ2, g1, frR_tr c2 g2, g3⟩
  · refine ⟨τ1, ?_, c2, Or.inr ⟨fl, h, l, s2, d1, d2, d3, d4, d5, d6, d7, d8, d9⟩⟩
    exact HL.1 999 τ1 (by rw [d5]; exact nI_0le (by omega))
