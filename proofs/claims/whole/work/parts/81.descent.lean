/-! the rules' names, and what is compared -/
theorem rk_is (v : Int32) : (rkN v = 1 → v = 124) ∧ (rkN v = 2 → v = 38) ∧ (rkN v = 3 → v = 60 ∨ v = 61 ∨ v = 62) ∧ (rkN v = 4 → v = 43 ∨ v = 45) ∧ (rkN v = 5 → v = 42 ∨ v = 47 ∨ v = 37) := by
  unfold rkN
  repeat' split
  all_goals refine ⟨fun h => ?_, fun h => ?_, fun h => ?_, fun h => ?_, fun h => ?_⟩
  all_goals first | (exact absurd h (by decide)) | (rename_i z; exact z) | (rename_i z; exact Or.inl z) | (rename_i z; exact Or.inr z) | (rename_i z; exact Or.inr (Or.inl z)) | (rename_i z; exact Or.inr (Or.inr z))
theorem prod_L (rec : St → Option St) : isL 5 rec (f_M_product_4 rec) := by
  refine ⟨fun n σ h => if_pos h, fun n σ v h hl hv => ?_, fun n σ v h hl hv => ?_⟩
  · conv => lhs; unfold f_M_product_4
    rw [if_neg h, hl, bind_s]
    unfold f_M_product_38
    rcases (rk_is v).2.2.2.2 hv with rfl | rfl | rfl
    · rw [if_pos rfl, hl, bind_s]
    · rw [if_neg (show ¬ (47 : Int32) = 42 by decide), bind_s, if_pos rfl, hl, bind_s]
    · rw [if_neg (show ¬ (37 : Int32) = 42 by decide), bind_s, if_neg (show ¬ (37 : Int32) = 47 by decide), hl, bind_s, if_pos rfl, bind_s]
  · conv => lhs; unfold f_M_product_4
    rw [if_neg h, hl, bind_s, if_neg (fun z => hv (by rw [z]; rfl)), bind_s, if_neg (fun z => hv (by rw [z]; rfl)), bind_s, if_neg (fun z => hv (by rw [z]; rfl))]
theorem sum_L (rec : St → Option St) : isL 4 (f_M_product rec) (f_M_sum_4 rec) := by
  refine ⟨fun n σ h => if_pos h, fun n σ v h hl hv => ?_, fun n σ v h hl hv => ?_⟩
  · conv => lhs; unfold f_M_sum_4
    rw [if_neg h, hl, bind_s]
    unfold f_M_sum_29
    rcases (rk_is v).2.2.2.1 hv with rfl | rfl
    · rw [if_pos rfl, hl, bind_s]
    · rw [if_neg (show ¬ (45 : Int32) = 43 by decide), hl, bind_s, if_pos rfl, bind_s]
  · conv => lhs; unfold f_M_sum_4
    rw [if_neg h, hl, bind_s, if_neg (fun z => hv (by rw [z]; rfl)), bind_s, if_neg (fun z => hv (by rw [z]; rfl))]
theorem both_L (rec : St → Option St) : isL 2 (f_M_compared rec) (f_M_both_4 rec) := by
  refine ⟨fun n σ h => if_pos h, fun n σ v h hl hv => ?_, fun n σ v h hl hv => ?_⟩
  · conv => lhs; unfold f_M_both_4
    rw [if_neg h, hl, bind_s, if_pos ((rk_is v).2.1 hv), (rk_is v).2.1 hv]
  · conv => lhs; unfold f_M_both_4
    rw [if_neg h, hl, bind_s, if_neg (fun z => hv (by rw [z]; rfl))]
theorem either_L (rec : St → Option St) : isL 1 (f_M_both rec) (f_M_either_4 rec) := by
  refine ⟨fun n σ h => if_pos h, fun n σ v h hl hv => ?_, fun n σ v h hl hv => ?_⟩
  · conv => lhs; unfold f_M_either_4
    rw [if_neg h, hl, bind_s, if_pos ((rk_is v).1 hv), (rk_is v).1 hv]
  · conv => lhs; unfold f_M_either_4
    rw [if_neg h, hl, bind_s, if_neg (fun z => hv (by rw [z]; rfl))]
theorem cmp_1 {rec : St → Option St} {σ σ1 : St} {v : Int32} (h1 : f_M_sum rec σ = some σ1) (hl : f_M_look σ1 = some v) : f_M_compared rec σ = if 0 ≤ σ1.1 23 then some σ1 else if rkN v = 3 then (f_M_sum rec (upI σ1 22 (σ1.1 22 + 1))).bind fun σ2 => f_M_addStep σ2 v 0 else some σ1 := by
  unfold f_M_compared
  rw [h1, bind_s, hl, bind_s]
  by_cases q : 0 ≤ σ1.1 23
  · rw [if_pos q, if_pos q]
  · rw [if_neg q, if_neg q]
    unfold f_M_compared_35
    have bs : ∀ x : Option St, (x.bind fun s => some s) = x := by intro x; cases x <;> rfl
    by_cases q3 : rkN v = 3
    · rw [if_pos q3]
      rcases (rk_is v).2.2.1 q3 with rfl | rfl | rfl
      · rw [if_pos rfl]
        congr 1; funext s; exact bs _
      · rw [if_neg (show ¬ (61 : Int32) = 60 by decide), if_pos rfl]
        congr 1; funext s; exact bs _
      · rw [if_neg (show ¬ (62 : Int32) = 60 by decide), if_neg (show ¬ (62 : Int32) = 61 by decide), if_pos rfl]
        congr 1; funext s; exact bs _
    · rw [if_neg q3, if_neg (fun z => q3 (by rw [z]; rfl)), if_neg (fun z => q3 (by rw [z]; rfl)), if_neg (fun z => q3 (by rw [z]; rfl))]
theorem take_cmp {c : Nat} {w W : List Int32} {o dg na : Nat} {sec : Bool} (hc : c < 256) (hr : rkN (nI c) = 3) : takesN (w, W, o, false, sec, dg, na) c = if rkN ((relN 4 w W).2.headD 0) = 3 then none else some ((relN 4 w W).1, nI c :: (relN 4 w W).2, o, true, sec, 0, na) := by
  have := (byte_f ⟨c, hc⟩).2 (by show 0 < rkN (nI c); omega)
  unfold takesN
  rw [if_neg this.1, if_neg Bool.false_ne_true, if_pos (show 0 < rkN (nI c) by omega), if_pos hr]
theorem cmp_C {b : Nat → Nat} {Lb o : Nat} {rec : St → Option St} (HC : Claim b Lb o 4 (f_M_sum rec)) : Claim b Lb o 3 (f_M_compared rec) := by
  intro p m w W sec dg0 na0 τ hp hm ht t22 t23 t24 hst hW
  obtain ⟨hW1, hW2, hW3⟩ := hW (by omega)
  obtain ⟨τ1, c1, c2, c3⟩ := HC p m w W sec dg0 na0 τ hp hm ht t22 t23 t24 hst (fun _ => ⟨by omega, hW2, hW3⟩)
  have ht1 := tpM_R c2 ht
  have hLb := ht.2.1
  rcases c3 with ⟨S, q, s', hpq, hq, hS, u22, u23, u24, ust, hrun, haft0, hok, hdp⟩ | ⟨fl, h, l, s2, d1, d2, d3, d4, d5, d6, d7, d8, d9⟩
  · obtain ⟨w', W', dg, na, es, er⟩ := aft_5 (k := 4) ⟨by omega, by omega⟩ haft0 hW2 hW3
    have hlk := look_M ht1 u22 hq
    rw [cmp_1 c1 hlk, if_neg (show ¬ (0 : Int32) ≤ τ1.1 23 by rw [u23]; decide)]
    by_cases qk : rkN (lkN b Lb q) = 3
    · obtain ⟨z1, z2, z3⟩ := rk_lk b (fun i hi => (ht.2.2 i hi).2) (show 0 < rkN (lkN b Lb q) by omega)
      have hb := (ht.2.2 q z1).2
      have hr : rkN (nI (b q)) = 3 := by rw [z2]; exact qk
      have bf := (byte_f ⟨b q, hb⟩).2 (show 0 < rkN (nI (b q)) by omega)
      obtain ⟨bf1, bf2, bf3, bf4, bf5, bf6, bf7, bf8, bf9⟩ := bf
      have htk : takesN s' (b q) = some (w ++ S, nI (b q) :: W, o, true, sec, 0, na) := by
        rw [es, take_cmp hb hr, er, if_neg (by show ¬ rkN (W.headD 0) = 3; omega)]
      have hl1 : (m ++ S).length ≤ q + 1 := by rw [List.length_append]; omega
      obtain ⟨τ2, e1, e2, e3⟩ := HC (q + 1) (m ++ S) (w ++ S) (nI (b q) :: W) sec 0 na (upI τ1 22 (nI (q + 1))) (by omega) hl1 (tpM_R (frR_I (by omega)) ht1) (by rw [upI_1, if_pos rfl]) (by rw [upI_1, if_neg (by decide)]; exact u23) (by rw [upI_1, if_neg (by decide)]; exact u24) (stM_I ust (by decide)) (fun _ => ⟨by show rkN (nI (b q)) < 4; omega, bf5, bf6⟩)
      rw [if_pos qk, u22, nI_1, e1, bind_s, z3]
      have ht2 : tpM b Lb τ2 := tpM_R e2 (tpM_R (frR_I (by omega)) ht1)
      have fr1 : frR τ τ2 := frR_tr c2 (frR_tr (frR_I (by omega)) e2)
      rcases e3 with ⟨S2, q2, s2, d1, d2, d3, d4, d5, d6, d7, d8, d9, d10, d11⟩ | ⟨fl, h, l, s2, d1, d2, d3, d4, d5, d6, d7, d8, d9⟩
      · obtain ⟨w2, W2, dg2, na2, g1, g2⟩ := aft_5 (k := 4) ⟨by omega, by omega⟩ d9 bf5 bf6
        obtain ⟨τ3, a1, a2, a3, a4, a5, a6⟩ := add_M (a1 := nI (b q)) (a2 := 0) (s := -(nI (b q))) d7 (by rw [List.length_append]; omega) bf3 bf4
        rw [a1]
        have hrun2 : runN b (q2 - p) p (w, W, o, true, sec, dg0, na0) = some s2 := run_to (q := q + 1) (run_to (q := q) hrun (by rw [show q + 1 - q = 1 by omega]; exact run_1 htk) (by omega) (by omega)) d8 (by omega) (by omega)
        refine ⟨τ3, rfl, frR_tr fr1 a3, Or.inl ⟨S ++ S2 ++ [-(nI (b q))], q2, s2, by omega, d2, by rw [List.length_append, List.length_append]; show S.length + S2.length + 1 ≤ _; omega, by rw [a4]; exact d4, by rw [a5]; exact d5, by rw [a6]; exact d6, ?_, hrun2, ?_, ?_, dep_op (dep_mono hdp (by omega)) d11 (by omega) bf7 bf8 bf9⟩⟩
        · rw [show m ++ (S ++ S2 ++ [-(nI (b q))]) = m ++ S ++ S2 ++ [-(nI (b q))] by simp only [List.append_assoc]]; exact a2
        · unfold aftN
          rw [if_neg (by omega)]
          refine ⟨w2, W2, dg2, na2, g1, ?_⟩
          rw [← rel_rel (k := 3) (k' := 4) (by omega) W2 w2, g2]
          show relN 3 (w ++ S ++ S2) (nI (b q) :: W) = _
          rw [relN_c, if_pos (by omega), rel_stop hW1]
          simp only [List.append_assoc]
        · intro h
          rintro (hd | hr2)
          · exact d10 h (Or.inl hd)
          · by_cases q3 : rkN (nI (b q2)) = 3
            · rw [g1, take_cmp (ht.2.2 q2 h).2 q3, g2]
              exact if_pos hr
            · exact d10 h (Or.inr (by omega))
      · rw [List.length_append] at d7
        obtain ⟨τ3, a1, a2, a3, a4, a5⟩ := add_bad (a1 := nI (b q)) (a2 := 0) d6 (by omega)
        rw [a1]
        refine ⟨τ3, rfl, frR_tr fr1 a3, Or.inr ⟨fl, h, l + 1, s2, by omega, d2, d3, by rw [a4]; exact d4, by rw [a5]; exact d5, a2, by omega, ?_, d9⟩⟩
        exact run_to (q := q + 1) (run_to (q := q) hrun (by rw [show q + 1 - q = 1 by omega]; exact run_1 htk) (by omega) (by omega)) d8 (by omega) (by omega)
    · rw [if_neg qk]
      refine ⟨τ1, rfl, c2, Or.inl ⟨S, q, s', hpq, hq, hS, u22, u23, u24, ust, hrun, ?_, fun h => ?_, dep_mono hdp (by omega)⟩⟩
      · unfold aftN
        rw [if_neg (by omega)]
        refine ⟨w', W', dg, na, es, ?_⟩
        rw [← rel_rel (k := 3) (k' := 4) (by omega) W' w', er]
        exact rel_stop hW1
      · rintro (hd | hr)
        · exact hok h (Or.inl hd)
        · refine hok h (Or.inr ?_)
          have e1 := (byte_f ⟨b q, (ht.2.2 q h).2⟩).1
          have e2 : rkN (lookV (b q)) = rkN (nI (b q)) := e1
          unfold lkN at qk
          rw [if_pos h, e2] at qk
          omega
  · have hlk := look_M ht1 d4 d3
    rw [cmp_1 c1 hlk, if_pos (by rw [d5]; exact nI_0le (by omega))]
    exact ⟨τ1, rfl, c2, Or.inr ⟨fl, h, l, s2, d1, d2, d3, d4, d5, d6, d7, d8, d9⟩⟩
theorem either_C {b : Nat → Nat} {Lb o : Nat} {rec : St → Option St} (HC : Claim b Lb o 6 rec) : Claim b Lb o 1 (f_M_either rec) := by
  have h5 : Claim b Lb o 5 (f_M_product rec) := level_L (k := 5) (by omega) (prod_L rec) HC
  have h4 : Claim b Lb o 4 (f_M_sum rec) := level_L (k := 4) (by omega) (sum_L rec) h5
  have h2 : Claim b Lb o 2 (f_M_both rec) := level_L (k := 2) (by omega) (both_L rec) (cmp_C h4)
  exact level_L (k := 1) (by omega) (either_L rec) h2
