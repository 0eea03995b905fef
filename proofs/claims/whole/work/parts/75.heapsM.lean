/-! heaps, by the reference -/
def frM (τ τ' : St) : Prop := (∀ k, k ≠ 37 → τ'.1 k = τ.1 k) ∧ (∀ a, (a < 19 ∨ 23 < a) → τ'.2.1 a = τ.2.1 a) ∧ τ'.2.2 = τ.2.2
theorem frM_rf (τ : St) : frM τ τ := ⟨fun _ _ => rfl, fun _ _ => rfl, rfl⟩
theorem frM_tr {a b c : St} (h1 : frM a b) (h2 : frM b c) : frM a c := ⟨fun k hk => (h2.1 k hk).trans (h1.1 k hk), fun k k1 => (h2.2.1 k k1).trans (h1.2.1 k k1), h2.2.2.trans h1.2.2⟩
theorem frM_kM {τ τ' : St} (h : frM τ τ') : kM τ' = kM τ := by
  refine kM_of (fun k hk => h.1 k ?_) (fun a ha => h.2.1 a ?_) (fun a _ => by rw [h.2.2])
  · rintro rfl; exact absurd hk (by decide)
  · simp only [scrAM, Bool.and_eq_false_iff, decide_eq_false_iff_not] at ha; omega
theorem frM_up {τ : St} {a i : Nat} {v : Int32} (h : 19 ≤ a ∧ a ≤ 23) : frM τ (upA τ a i v) := ⟨fun _ _ => rfl, fun b hb => by rw [upA_2, if_neg (by omega)], rfl⟩
theorem frM_G {τ τ' : St} (h : samG τ τ') : frM τ τ' := ⟨fun k _ => by rw [h.1], fun a ha => h.2.1 a (by omega) (by omega), h.2.2⟩
def hsM (K : Nat) (c : Nat → Nat) (used : Nat) (rho : Nat → Nat) (τ : St) : Prop := ∀ k, k < used → τ.2.1 21 k = nI (thN c (rho k) K)
def f37 (x : Nat) : Nat := if x = MAXI then 11 else x
def bsM (K : Nat) (c : Nat → Nat) (s : Sw) (τ : St) : Prop := τ.1 37 = nI (f37 s.1) ∧ (s.1 ≠ MAXI → ∀ i, i < K → τ.2.1 23 (c i) = nI (s.2 i)) ∧ (s.1 = MAXI ∨ s.1 ≤ 10)
def wyM (a : Nat) (c way : Nat → Nat) (τ : St) : Prop := ∀ i, i < a → τ.2.1 22 (c i) = nI (way i)
def allN (ok : Nat → Bool) (rho : Nat → Nat) : Nat → Bool
  | 0 => true
  | k + 1 => allN ok rho k && ok (rho k)
theorem all_s (ok : Nat → Bool) (rho : Nat → Nat) (k : Nat) : allN ok rho (k + 1) = (allN ok rho k && ok (rho k)) := rfl
theorem all_y {ok : Nat → Bool} {rho : Nat → Nat} : ∀ {k : Nat}, (∀ i, i < k → ok (rho i) = true) → allN ok rho k = true
  | 0, _ => rfl
  | k + 1, h => by rw [all_s, all_y (fun i hi => h i (by omega)), h k (by omega)]; rfl
theorem all_n {ok : Nat → Bool} {rho : Nat → Nat} : ∀ {k i : Nat}, i < k → ok (rho i) = false → allN ok rho k = false
  | k + 1, i, hi, h => by
    rw [all_s]
    by_cases q : i = k
    · subst q; rw [h, Bool.and_false]
    · rw [all_n (k := k) (i := i) (by omega) h]; rfl
theorem areSafe_M {e : Ew} {τ : St} {x : Int32} {h most K many : Nat} {c rho : Nat → Nat} (hB : ewB e) (hM : ewM e τ) (hh : h ≤ 9) (hm : most ≤ 99) (hd : x / 100 = nI h) (hr : irem x 100 = nI most) (hc : ∀ i, i < K → c i < e.1) (hmany : many ≤ 9) (hs : hsM K c many rho τ) : ∃ τ', f_M_areSafe τ (nI many) x = some (b2 (allN (okH e h most K c) rho many), τ') ∧ samG τ τ' := by
  have hn := hB.1
  unfold f_M_areSafe
  exact loopF (n := many) (P := fun k fuel => ∀ τ1, samG τ τ1 → allN (okH e h most K c) rho k = true → ∃ τ', f_M_areSafe_2 fuel τ1 (nI many) x (nI k) = some (b2 (allN (okH e h most K c) rho many), τ') ∧ samG τ τ') (fun f τ1 k1 k2 => by
      unfold f_M_areSafe_2
      rw [if_pos (nI_le (Nat.le_refl _) (by omega)), k2]
      exact ⟨τ1, rfl, k1⟩) (fun k f hk ih τ1 k1 k2 => by
      have hM1 := ewM_k (samG_kM k1) hM
      have hlt : thN c (rho k) K < 2 ^ e.1 := th_lt hc
      obtain ⟨τ2, s1, s2⟩ := isSafe_MG hB hM1 hlt hh (off := 0) (by omega) hm
      have s1' : f_M_isSafe τ1 (nI (thN c (rho k) K)) (nI h) 0 (nI most) = some (b2 (okH e h most K c (rho k)), τ2) := s1
      unfold f_M_areSafe_2
      rw [if_neg (nI_ge hk (by omega)), in_t (t := k) (by omega), ct_t (t := k) (by omega), cond_true, k1.2.1 21 (by decide) (by decide), hs k hk, hd, hr, s1', bd2_s, nI_1]
      rw [all_s] at ih
      cases q : okH e h most K c (rho k)
      · rw [b2_f, if_pos rfl, all_n hk q]
        exact ⟨τ2, rfl, samG_tr k1 s2⟩
      · rw [b2_t, if_neg i10]
        exact ih τ2 (samG_tr k1 s2) (by rw [k2, q]; rfl))
    0 (Nat.zero_le _) FU (by show _ < 1000; omega) τ (samG_rf τ) rfl
theorem bestS_M {e : Ew} {τ : St} (hn : e.1 ≤ 10) (h1 : τ.1 1 = nI e.1) (rec : St → Int32 → Int32 → Int32 → Int32 → Option St) : ∃ τ', f_M_goSafe_36 rec FU τ 0 = some τ' ∧ τ'.1 = τ.1 ∧ (∀ a, a ≠ 23 → τ'.2.1 a = τ.2.1 a) ∧ τ'.2.2 = τ.2.2 ∧ ∀ i, i < e.1 → τ'.2.1 23 i = τ.2.1 22 i := by
  exact loopF (n := e.1) (P := fun t fuel => ∀ τ1, τ1.1 = τ.1 → (∀ a, a ≠ 23 → τ1.2.1 a = τ.2.1 a) → τ1.2.2 = τ.2.2 → (∀ i, i < t → τ1.2.1 23 i = τ.2.1 22 i) → ∃ τ', f_M_goSafe_36 rec fuel τ1 (nI t) = some τ' ∧ τ'.1 = τ.1 ∧ (∀ a, a ≠ 23 → τ'.2.1 a = τ.2.1 a) ∧ τ'.2.2 = τ.2.2 ∧ ∀ i, i < e.1 → τ'.2.1 23 i = τ.2.1 22 i) (fun f τ1 k1 k2 k3 k4 => by
      unfold f_M_goSafe_36
      rw [k1, h1, if_pos (nI_le (Nat.le_refl _) (by omega))]
      exact ⟨τ1, rfl, k1, k2, k3, k4⟩) (fun t f ht ih τ1 k1 k2 k3 k4 => by
      unfold f_M_goSafe_36
      rw [k1, h1, if_neg (nI_ge ht (by omega)), in_t (t := t) (by omega), ct_t (t := t) (by omega), nI_1, k2 22 (by decide)]
      refine ih _ k1 (fun a ha => by rw [upA_2, if_neg ha]; exact k2 a ha) k3 (fun i hi => ?_)
      rw [upA_2, if_pos rfl]
      unfold upd
      by_cases z : i = t
      · rw [if_pos z, z]
      · rw [if_neg z]; exact k4 i (by omega))
    0 (Nat.zero_le _) FU (by show _ < 1000; omega) τ rfl (fun _ _ => rfl) rfl (fun i hi => absurd hi (Nat.not_lt_zero i))
theorem safe_body (rec : St → Int32 → Int32 → Int32 → Int32 → Option St) (fl : Nat) (τ1 : St) (b x : Int32) {t many k W : Nat} (ht : t < 10) (hm : many ≤ 8) (hk : k ≤ many) (hW : W < 1024) (h1 : k < many → τ1.2.1 21 k = nI W) (h2 : k = many → W = 0) : f_M_goSafe_89 rec (fl + 1) τ1 b (nI t) (nI many) x (nI k) = (rec (upA (upA τ1 21 k (nI (W ||| 2 ^ t))) 22 t (nI k)) b (nI (t + 1)) (nI (max many (k + 1))) x).bind fun τ2 => f_M_goSafe_89 rec fl (upA τ2 21 k (nI W)) b (nI t) (nI many) x (nI (k + 1)) := by
  have pt : (2 : Nat) ^ t ≤ 2 ^ 9 := Nat.pow_le_pow_right (by decide) (by omega)
  have eset : nI W ||| ((1 : Int32) <<< (nI t &&& 31)) = nI (W ||| 2 ^ t) := by rw [shl1_nI (by omega), or_nI (by omega) (by omega)]
  conv => lhs; unfold f_M_goSafe_89
  rw [if_neg (nI_nlt (by omega) (by omega)), if_neg (show ¬ (10 : Int32) ≤ nI k from nI_ge (b := 10) (by omega) (by decide))]
  by_cases q : k = many
  · have W0 := h2 q
    have eset0 : (0 : Int32) ||| ((1 : Int32) <<< (nI t &&& 31)) = nI (W ||| 2 ^ t) := by rw [← eset, W0]; rfl
    rw [if_pos (by rw [q])]
    unfold f_M_goSafe_119 f_M_goSafe_160
    rw [in_t (t := k) (by omega), in_t (t := t) (by omega), ct_t (t := k) (by omega), ct_t (t := t) (by omega), if_pos (by rw [q]), nI_1, nI_1, nI_1, eset0, Nat.max_eq_right (by omega), q, W0]
    rfl
  · rw [if_neg (fun z => q ((nI_eq (by omega) (by omega)).mp z)), in_t (t := k) (by omega), ct_t (t := k) (by omega), h1 (by omega), cond_true]
    unfold f_M_goSafe_119 f_M_goSafe_160
    rw [in_t (t := k) (by omega), in_t (t := t) (by omega), ct_t (t := k) (by omega), ct_t (t := t) (by omega), if_neg (fun z => q ((nI_eq (by omega) (by omega)).mp z)), nI_1, nI_1, eset, Nat.max_eq_left (by omega)]
    rfl
theorem noop_S {e : Ew} {b h most : Nat} {x : Int32} (hB : ewB e) (hb : b < 2 ^ e.1) (h8 : (mbN b e.1).2 ≤ 8) (hh : h ≤ 9) (hm : most ≤ 99) (hd : x / 100 = nI h) (hr : irem x 100 = nI most) : ∀ (d t used : Nat) (rho : Nat → Nat) (τ : St), t + d = e.1 → used ≤ (mbN b t).2 → (∀ k, rho k < 2 ^ (mbN b t).2) → (∀ k, used ≤ k → rho k = 0) → ewM e τ → hsM (mbN b e.1).2 (mbN b e.1).1 used rho τ → (∃ k, k < used ∧ okH e h most (mbN b e.1).2 (mbN b e.1).1 (rho k) = false) → ∀ fuel, d < fuel → ∃ τ', f_M_goSafe fuel τ (nI b) (nI t) (nI used) x = some τ' ∧ frM τ τ' ∧ hsM (mbN b e.1).2 (mbN b e.1).1 used rho τ' ∧ τ'.1 37 = τ.1 37 ∧ τ'.2.1 23 = τ.2.1 23 ∧ ∀ i, i < (mbN b t).2 → τ'.2.1 22 ((mbN b e.1).1 i) = τ.2.1 22 ((mbN b e.1).1 i) := by
  have hn := hB.1
  have hcl : ∀ i, i < (mbN b e.1).2 → (mbN b e.1).1 i < e.1 := fun i hi => (mb_lt b hi).1
  intro d
  induction d with
  | zero =>
    intro t used rho τ ht hu hr1 hr2 hM hs hbad fuel hf
    obtain ⟨f, rfl⟩ : ∃ f, fuel = f + 1 := ⟨fuel - 1, by omega⟩
    obtain rfl : t = e.1 := by omega
    obtain ⟨k, k1, k2⟩ := hbad
    obtain ⟨τ1, a1, a2⟩ := areSafe_M hB hM hh hm hd hr hcl (by omega) hs
    rw [all_n k1 k2] at a1
    show ∃ τ', f_M_goSafe_F (f_M_goSafe f) τ (nI b) (nI e.1) (nI used) x = some τ' ∧ _
    unfold f_M_goSafe_F
    by_cases y : nI used < τ.1 37
    · rw [if_pos y, if_pos hM.1.symm, a1, bd2_s, b2_f, if_pos rfl]
      exact ⟨τ1, rfl, frM_G a2, fun k hk => by rw [a2.2.1 21 (by decide) (by decide)]; exact hs k hk, by rw [a2.1], a2.2.1 23 (by decide) (by decide), fun i _ => by rw [a2.2.1 22 (by decide) (by decide)]⟩
    · rw [if_neg y]
      exact ⟨τ, rfl, frM_rf τ, hs, rfl, rfl, fun _ _ => rfl⟩
  | succ d ih =>
    intro t used rho τ ht hu hr1 hr2 hM hs hbad fuel hf
    obtain ⟨f, rfl⟩ : ∃ f, fuel = f + 1 := ⟨fuel - 1, by omega⟩
    have htn : t < e.1 := by omega
    have hmm := mb_mono b (t := t) (t' := e.1) (by omega)
    show ∃ τ', f_M_goSafe_F (f_M_goSafe f) τ (nI b) (nI t) (nI used) x = some τ' ∧ _
    unfold f_M_goSafe_F
    by_cases y : nI used < τ.1 37
    · rw [if_pos y, hM.1, if_neg (fun z => by have := (nI_eq (by omega) (by omega)).mp z; omega), bt_M hn hb htn]
      by_cases q : bt b t = true
      · obtain ⟨ct, clt⟩ := mb_at b htn q
        have e2 : (mbN b (t + 1)).2 = (mbN b t).2 + 1 := by rw [mb_2, if_pos q]
        rw [b2_nt q, if_neg i10]
        have main := loopF (n := used + 1) (P := fun k fl => ∀ τ1, frM τ τ1 → hsM (mbN b e.1).2 (mbN b e.1).1 used rho τ1 → τ1.1 37 = τ.1 37 → τ1.2.1 23 = τ.2.1 23 → (∀ i, i < (mbN b t).2 → τ1.2.1 22 ((mbN b e.1).1 i) = τ.2.1 22 ((mbN b e.1).1 i)) → ∃ τ', f_M_goSafe_89 (f_M_goSafe f) fl τ1 (nI b) (nI t) (nI used) x (nI k) = some τ' ∧ frM τ τ' ∧ hsM (mbN b e.1).2 (mbN b e.1).1 used rho τ' ∧ τ'.1 37 = τ.1 37 ∧ τ'.2.1 23 = τ.2.1 23 ∧ ∀ i, i < (mbN b t).2 → τ'.2.1 22 ((mbN b e.1).1 i) = τ.2.1 22 ((mbN b e.1).1 i)) (fun fl τ1 k1 k2 k3 k4 k5 => by
            unfold f_M_goSafe_89
            rw [if_pos (nI_lt (Nat.lt_succ_self _) (by omega))]
            exact ⟨τ1, rfl, k1, k2, k3, k4, k5⟩) (fun k fl hk ihl τ1 k1 k2 k3 k4 k5 => by
            have hM1 := ewM_k (frM_kM k1) hM
            have hWlt : thN (mbN b e.1).1 (rho k) (mbN b e.1).2 < 2 ^ e.1 := th_lt hcl
            have hW := p10 hn hWlt
            have hafter : thN (mbN b e.1).1 (rho k) (mbN b e.1).2 ||| 2 ^ t = thN (mbN b e.1).1 (rho k ||| 2 ^ (mbN b t).2) (mbN b e.1).2 := by rw [th_or (bt_lt (hr1 k)), if_pos clt, ct]
            rw [safe_body (f_M_goSafe f) fl τ1 (nI b) x (W := thN (mbN b e.1).1 (rho k) (mbN b e.1).2) (by omega) (by omega) (by omega) hW (fun z => k2 k z) (fun z => by rw [hr2 k (by omega), th_0]), hafter]
            have hmx : max used (k + 1) ≤ (mbN b t).2 + 1 := Nat.max_le.mpr ⟨by omega, by omega⟩
            obtain ⟨τ2, j1, j2, j3, j4, j5, j6⟩ := ih (t + 1) (max used (k + 1)) (cxN rho k (rho k ||| 2 ^ (mbN b t).2)) (upA (upA τ1 21 k (nI (thN (mbN b e.1).1 (rho k ||| 2 ^ (mbN b t).2) (mbN b e.1).2))) 22 t (nI k)) (by omega) (by rw [e2]; exact hmx) (fun j => by
                rw [e2, cx_at, Nat.pow_succ]
                have h1 := hr1 j
                have h2 := hr1 k
                by_cases z : j = k
                · rw [if_pos z]
                  have : rho k ||| 2 ^ (mbN b t).2 < 2 ^ ((mbN b t).2 + 1) := Nat.or_lt_two_pow (by rw [Nat.pow_succ]; omega) (by rw [Nat.pow_succ]; omega)
                  rw [Nat.pow_succ] at this
                  exact this
                · rw [if_neg z]; omega) (fun j hj => by
                have hj1 := Nat.le_trans (Nat.le_max_left used (k + 1)) hj
                have hj2 := Nat.le_trans (Nat.le_max_right used (k + 1)) hj
                rw [cx_at, if_neg (by omega)]; exact hr2 j hj1) (ewM_k (frM_kM (frM_tr (frM_up (by omega)) (frM_up (by omega)))) hM1) (fun j hj => by
                rw [upA_2, if_neg (by decide), upA_2, if_pos rfl, cx_at]
                unfold upd
                by_cases z : j = k
                · rw [if_pos z, if_pos z]
                · rw [if_neg z, if_neg z]
                  refine k2 j ?_
                  rcases Nat.le_total used (k + 1) with w | w
                  · rw [Nat.max_eq_right w] at hj; omega
                  · rw [Nat.max_eq_left w] at hj; exact hj) (by
                obtain ⟨kb, kb1, kb2⟩ := hbad
                refine ⟨kb, Nat.lt_of_lt_of_le kb1 (Nat.le_max_left _ _), ?_⟩
                rw [cx_at]
                by_cases z : kb = k
                · rw [if_pos z]
                  cases w : okH e h most (mbN b e.1).2 (mbN b e.1).1 (rho k ||| 2 ^ (mbN b t).2)
                  · rfl
                  · have := sf_sub hB (th_sub (mbN b e.1).1 (rho k) (mbN b t).2 (mbN b e.1).2 (bt_lt (hr1 k))) w
                    rw [z] at kb2
                    exact absurd (show okH e h most (mbN b e.1).2 (mbN b e.1).1 (rho k) = true from this) (by rw [kb2]; decide)
                · rw [if_neg z]; exact kb2) f (by omega)
            rw [j1, bind_s]
            refine ihl _ (frM_tr k1 (frM_tr (frM_tr (frM_up (by omega)) (frM_up (by omega))) (frM_tr j2 (frM_up (by omega))))) (fun j hj => ?_) ?_ ?_ (fun i hi => ?_)
            · rw [upA_2, if_pos rfl]
              unfold upd
              by_cases z : j = k
              · rw [if_pos z, z]
              · have := j3 j (Nat.lt_of_lt_of_le hj (Nat.le_max_left _ _))
                rw [cx_at, if_neg z] at this
                rw [if_neg z]; exact this
            · rw [upA_1, j4, upA_1, upA_1]; exact k3
            · rw [upA_2, if_neg (by decide), j5, upA_2, if_neg (by decide), upA_2, if_neg (by decide)]; exact k4
            · have ne : ¬ (mbN b e.1).1 i = t := fun z => by
                have := mb_inj b e.1 i (mbN b t).2 (by omega) clt (by rw [z, ct])
                omega
              rw [upA_2, if_neg (by decide), j6 i (by rw [e2]; omega), upA_2, if_pos rfl, upA_2, if_neg (by decide)]
              unfold upd
              rw [if_neg ne]; exact k5 i hi)
          0 (Nat.zero_le _) FU (by show _ < 1000; omega) τ (frM_rf τ) hs rfl rfl (fun _ _ => rfl)
        exact main
      · have e2 : (mbN b (t + 1)).2 = (mbN b t).2 := by rw [mb_2, if_neg q]
        obtain ⟨τ2, j1, j2, j3, j4, j5, j6⟩ := ih (t + 1) used rho τ (by omega) (by rw [e2]; exact hu) (by rw [e2]; exact hr1) hr2 hM hs hbad f (by omega)
        rw [b2_nf (bt_f q), if_pos rfl, nI_1, j1]
        exact ⟨τ2, rfl, j2, j3, j4, j5, by rw [← e2]; exact j6⟩
    · rw [if_neg y]
      exact ⟨τ, rfl, frM_rf τ, hs, rfl, rfl, fun _ _ => rfl⟩
theorem goS_M {e : Ew} {b h most : Nat} {x : Int32} (hB : ewB e) (hb : b < 2 ^ e.1) (h8 : (mbN b e.1).2 ≤ 8) (hh : h ≤ 9) (hm : most ≤ 99) (hd : x / 100 = nI h) (hr : irem x 100 = nI most) : ∀ (d t used : Nat) (rho way : Nat → Nat) (s : Sw) (τ : St), t + d = e.1 → used ≤ (mbN b t).2 → goodR (okH e h most (mbN b e.1).2 (mbN b e.1).1) (mbN b t).2 used rho → ewM e τ → hsM (mbN b e.1).2 (mbN b e.1).1 used rho τ → wyM (mbN b t).2 (mbN b e.1).1 way τ → bsM (mbN b e.1).2 (mbN b e.1).1 s τ → ∀ fuel, d < fuel → ∃ τ', f_M_goSafe fuel τ (nI b) (nI t) (nI used) x = some τ' ∧ frM τ τ' ∧ hsM (mbN b e.1).2 (mbN b e.1).1 used rho τ' ∧ wyM (mbN b t).2 (mbN b e.1).1 way τ' ∧ bsM (mbN b e.1).2 (mbN b e.1).1 (srch 8 (okH e h most (mbN b e.1).2 (mbN b e.1).1) wH ((mbN b e.1).2 - (mbN b t).2) (mbN b t).2 used used rho way s) τ' := by
  have hn := hB.1
  have eM : MAXI = 2147483647 := rfl
  have hcl : ∀ i, i < (mbN b e.1).2 → (mbN b e.1).1 i < e.1 := fun i hi => (mb_lt b hi).1
  have chk : ∀ (s : Sw) (τ : St) (used : Nat), used ≤ 8 → bsM (mbN b e.1).2 (mbN b e.1).1 s τ → (nI used < τ.1 37 ↔ ¬ s.1 ≤ used) := by
    intro s τ used hu hbs
    rw [hbs.1]
    unfold f37
    rcases hbs.2.2 with z | z
    · rw [if_pos z, nI_ltI (by omega) (by omega)]; omega
    · rw [if_neg (by omega), nI_ltI (by omega) (by omega)]; omega
  intro d
  induction d with
  | zero =>
    intro t used rho way s τ ht hu hg hM hs hy hbs fuel hf
    obtain ⟨f, rfl⟩ : ∃ f, fuel = f + 1 := ⟨fuel - 1, by omega⟩
    obtain rfl : t = e.1 := by omega
    obtain ⟨τ1, a1, a2⟩ := areSafe_M hB hM hh hm hd hr hcl (by omega) hs
    rw [all_y (fun i hi => (hg.1 i hi).2)] at a1
    have hM1 := ewM_k (samG_kM a2) hM
    rw [Nat.sub_self, srch_z]
    show ∃ τ', f_M_goSafe_F (f_M_goSafe f) τ (nI b) (nI e.1) (nI used) x = some τ' ∧ _
    unfold f_M_goSafe_F
    by_cases y : s.1 ≤ used
    · rw [if_neg (fun z => (chk s τ used (by omega) hbs).mp z y), if_pos y]
      exact ⟨τ, rfl, frM_rf τ, hs, hy, hbs⟩
    · rw [if_pos ((chk s τ used (by omega) hbs).mpr y), if_pos hM.1.symm, a1, bd2_s, b2_t, if_neg i10, if_neg y]
      obtain ⟨τ2, c1, c2, c3, c4, c5⟩ := bestS_M (e := e) (τ := upI τ1 37 (nI used)) hn (by rw [upI_1, if_neg (by decide)]; exact hM1.1) (f_M_goSafe f)
      refine ⟨τ2, c1, frM_tr (frM_G a2) ⟨fun k hk => by rw [c2, upI_1, if_neg hk], fun a ha => by rw [c3 a (by omega)]; rfl, by rw [c4]; rfl⟩, fun k hk => ?_, fun i hi => ?_, ?_, fun _ i hi => ?_, Or.inr (by show used ≤ 10; omega)⟩
      · rw [c3 21 (by decide), upI_2, a2.2.1 21 (by decide) (by decide)]; exact hs k hk
      · rw [c3 22 (by decide), upI_2, a2.2.1 22 (by decide) (by decide)]; exact hy i hi
      · show τ2.1 37 = nI (f37 used)
        unfold f37
        rw [if_neg (by omega), c2, upI_1, if_pos rfl]
      · rw [c5 _ (hcl i hi), upI_2, a2.2.1 22 (by decide) (by decide)]; exact hy i hi
  | succ d ih =>
    intro t used rho way s τ ht hu hg hM hs hy hbs fuel hf
    obtain ⟨f, rfl⟩ : ∃ f, fuel = f + 1 := ⟨fuel - 1, by omega⟩
    have htn : t < e.1 := by omega
    have hmm := mb_mono b (t := t) (t' := e.1) (by omega)
    show ∃ τ', f_M_goSafe_F (f_M_goSafe f) τ (nI b) (nI t) (nI used) x = some τ' ∧ _
    unfold f_M_goSafe_F
    by_cases y : s.1 ≤ used
    · rw [if_neg (fun z => (chk s τ used (by omega) hbs).mp z y), srch_pr y]
      exact ⟨τ, rfl, frM_rf τ, hs, hy, hbs⟩
    · rw [if_pos ((chk s τ used (by omega) hbs).mpr y), hM.1, if_neg (fun z => by have := (nI_eq (by omega) (by omega)).mp z; omega), bt_M hn hb htn]
      by_cases q : bt b t = true
      · obtain ⟨ct, clt⟩ := mb_at b htn q
        have e2 : (mbN b (t + 1)).2 = (mbN b t).2 + 1 := by rw [mb_2, if_pos q]
        obtain ⟨r, er⟩ : ∃ r, (mbN b e.1).2 - (mbN b t).2 = r + 1 := ⟨(mbN b e.1).2 - (mbN b t).2 - 1, by omega⟩
        have er2 : (mbN b e.1).2 - (mbN b (t + 1)).2 = r := by omega
        rw [b2_nt q, if_neg i10, er, srch_s, if_neg y, Nat.min_eq_left (by omega)]
        have main := loopF (n := used + 1) (P := fun k fl => ∀ τ1, frM τ τ1 → hsM (mbN b e.1).2 (mbN b e.1).1 used rho τ1 → wyM (mbN b t).2 (mbN b e.1).1 way τ1 → bsM (mbN b e.1).2 (mbN b e.1).1 (lpN (stepS 8 (okH e h most (mbN b e.1).2 (mbN b e.1).1) wH r (mbN b t).2 used used rho way) k s) τ1 → ∃ τ', f_M_goSafe_89 (f_M_goSafe f) fl τ1 (nI b) (nI t) (nI used) x (nI k) = some τ' ∧ frM τ τ' ∧ hsM (mbN b e.1).2 (mbN b e.1).1 used rho τ' ∧ wyM (mbN b t).2 (mbN b e.1).1 way τ' ∧ bsM (mbN b e.1).2 (mbN b e.1).1 (lpN (stepS 8 (okH e h most (mbN b e.1).2 (mbN b e.1).1) wH r (mbN b t).2 used used rho way) (used + 1) s) τ') (fun fl τ1 k1 k2 k3 k4 => by
            unfold f_M_goSafe_89
            rw [if_pos (nI_lt (Nat.lt_succ_self _) (by omega))]
            exact ⟨τ1, rfl, k1, k2, k3, k4⟩) (fun k fl hk ihl τ1 k1 k2 k3 k4 => by
            have hM1 := ewM_k (frM_kM k1) hM
            have hWlt : thN (mbN b e.1).1 (rho k) (mbN b e.1).2 < 2 ^ e.1 := th_lt hcl
            have hW := p10 hn hWlt
            have hr1 := hg.2.2
            have hr2 := hg.2.1
            have hafter : thN (mbN b e.1).1 (rho k) (mbN b e.1).2 ||| 2 ^ t = thN (mbN b e.1).1 (rho k ||| 2 ^ (mbN b t).2) (mbN b e.1).2 := by rw [th_or (bt_lt (hr1 k)), if_pos clt, ct]
            rw [safe_body (f_M_goSafe f) fl τ1 (nI b) x (W := thN (mbN b e.1).1 (rho k) (mbN b e.1).2) (by omega) (by omega) (by omega) hW (fun z => k2 k z) (fun z => by rw [hr2 k (by omega), th_0]), hafter]
            have hmx : max used (k + 1) ≤ (mbN b t).2 + 1 := Nat.max_le.mpr ⟨by omega, by omega⟩
            have kmid : kM (upA (upA τ1 21 k (nI (thN (mbN b e.1).1 (rho k ||| 2 ^ (mbN b t).2) (mbN b e.1).2))) 22 t (nI k)) = kM τ1 := frM_kM (frM_tr (frM_up (by omega)) (frM_up (by omega)))
            have hsmid : hsM (mbN b e.1).2 (mbN b e.1).1 (max used (k + 1)) (cxN rho k (rho k ||| 2 ^ (mbN b t).2)) (upA (upA τ1 21 k (nI (thN (mbN b e.1).1 (rho k ||| 2 ^ (mbN b t).2) (mbN b e.1).2))) 22 t (nI k)) := fun j hj => by
                rw [upA_2, if_neg (by decide), upA_2, if_pos rfl, cx_at]
                unfold upd
                by_cases z : j = k
                · rw [if_pos z, if_pos z]
                · rw [if_neg z, if_neg z]
                  refine k2 j ?_
                  rcases Nat.le_total used (k + 1) with w | w
                  · rw [Nat.max_eq_right w] at hj; omega
                  · rw [Nat.max_eq_left w] at hj; exact hj
            have hsback : ∀ τ2, hsM (mbN b e.1).2 (mbN b e.1).1 (max used (k + 1)) (cxN rho k (rho k ||| 2 ^ (mbN b t).2)) τ2 → hsM (mbN b e.1).2 (mbN b e.1).1 used rho (upA τ2 21 k (nI (thN (mbN b e.1).1 (rho k) (mbN b e.1).2))) := fun τ2 j3 j hj => by
              rw [upA_2, if_pos rfl]
              unfold upd
              by_cases z : j = k
              · rw [if_pos z, z]
              · have := j3 j (Nat.lt_of_lt_of_le hj (Nat.le_max_left _ _))
                rw [cx_at, if_neg z] at this
                rw [if_neg z]; exact this
            have nect : ∀ i, i < (mbN b t).2 → ¬ (mbN b e.1).1 i = t := fun i hi z => by
                have := mb_inj b e.1 i (mbN b t).2 (by omega) clt (by rw [z, ct])
                omega
            rw [lp_s] at ihl
            by_cases hok : okH e h most (mbN b e.1).2 (mbN b e.1).1 (rho k ||| 2 ^ (mbN b t).2) = true
            · unfold stepS at ihl
              rw [if_pos hok] at ihl
              have g2 := good_next hg (show k ≤ used by omega) hok
              obtain ⟨τ2, j1, j2, j3, j4, j5⟩ := ih (t + 1) (max used (k + 1)) (cxN rho k (rho k ||| 2 ^ (mbN b t).2)) (cxN way (mbN b t).2 k) _ _ (by omega) (by rw [e2]; exact hmx) (by rw [e2]; exact g2) (ewM_k kmid hM1) hsmid (fun i hi => by
                rw [e2] at hi
                rw [upA_2, if_pos rfl, cx_at]
                unfold upd
                by_cases z : i = (mbN b t).2
                · rw [if_pos z, z, if_pos ct]
                · rw [if_neg z, if_neg (nect i (by omega)), upA_2, if_neg (by decide)]; exact k3 i (by omega)) (by
                obtain ⟨z1, z2, z3⟩ := k4
                exact ⟨z1, fun hs i hi => by rw [upA_2, if_neg (by decide), upA_2, if_neg (by decide)]; exact z2 hs i hi, z3⟩) f (by omega)
              rw [e2, show (mbN b e.1).2 - ((mbN b t).2 + 1) = r by omega] at j5
              have epr : used + wH (rho k ||| 2 ^ (mbN b t).2) - wH (rho k) = max used (k + 1) := by
                unfold wH
                rw [if_neg or_ne0]
                by_cases z : k < used
                · rw [if_neg (by have := (hg.1 k z).1; omega), Nat.max_eq_left (by omega)]; omega
                · rw [if_pos (hr2 k (by omega)), Nat.max_eq_right (by omega)]; omega
              rw [epr] at ihl
              rw [j1, bind_s]
              refine ihl _ (frM_tr k1 (frM_tr (frM_tr (frM_up (by omega)) (frM_up (by omega))) (frM_tr j2 (frM_up (by omega))))) (hsback τ2 j3) (fun i hi => ?_) ?_
              · rw [upA_2, if_neg (by decide)]
                have := j4 i (by rw [e2]; omega)
                rw [cx_at, if_neg (by omega)] at this
                exact this
              · obtain ⟨z1, z2, z3⟩ := j5
                exact ⟨z1, fun hs i hi => by rw [upA_2, if_neg (by decide)]; exact z2 hs i hi, z3⟩
            · unfold stepS at ihl
              rw [if_neg hok] at ihl
              obtain ⟨τ2, j1, j2, j3, j4, j5, j6⟩ := noop_S hB hb h8 hh hm hd hr d (t + 1) (max used (k + 1)) (cxN rho k (rho k ||| 2 ^ (mbN b t).2)) _ (by omega) (by rw [e2]; exact hmx) (fun j => by
                rw [e2, cx_at, Nat.pow_succ]
                have h1 := hr1 j
                have h2 := hr1 k
                by_cases z : j = k
                · rw [if_pos z]
                  have : rho k ||| 2 ^ (mbN b t).2 < 2 ^ ((mbN b t).2 + 1) := Nat.or_lt_two_pow (by rw [Nat.pow_succ]; omega) (by rw [Nat.pow_succ]; omega)
                  rw [Nat.pow_succ] at this
                  exact this
                · rw [if_neg z]; omega) (fun j hj => by
                have hj1 := Nat.le_trans (Nat.le_max_left used (k + 1)) hj
                have hj2 := Nat.le_trans (Nat.le_max_right used (k + 1)) hj
                rw [cx_at, if_neg (by omega)]; exact hr2 j hj1) (ewM_k kmid hM1) hsmid ⟨k, Nat.lt_of_lt_of_le (Nat.lt_succ_self k) (Nat.le_max_right _ _), by rw [cx_at, if_pos rfl]; exact Bool.eq_false_iff.mpr hok⟩ f (by omega)
              rw [j1, bind_s]
              refine ihl _ (frM_tr k1 (frM_tr (frM_tr (frM_up (by omega)) (frM_up (by omega))) (frM_tr j2 (frM_up (by omega))))) (hsback τ2 j3) (fun i hi => ?_) ?_
              · rw [upA_2, if_neg (by decide), j6 i (by rw [e2]; omega), upA_2, if_pos rfl]
                unfold upd
                rw [if_neg (nect i hi), upA_2, if_neg (by decide)]; exact k3 i hi
              · obtain ⟨z1, z2, z3⟩ := k4
                exact ⟨by rw [upA_1, j4, upA_1, upA_1]; exact z1, fun hs i hi => by rw [upA_2, if_neg (by decide), j5, upA_2, if_neg (by decide), upA_2, if_neg (by decide)]; exact z2 hs i hi, z3⟩)
          0 (Nat.zero_le _) FU (by show _ < 1000; omega) τ (frM_rf τ) hs hy hbs
        exact main
      · have e2 : (mbN b (t + 1)).2 = (mbN b t).2 := by rw [mb_2, if_neg q]
        obtain ⟨τ2, j1, j2, j3, j4, j5⟩ := ih (t + 1) used rho way s τ (by omega) (by rw [e2]; exact hu) (by rw [e2]; exact hg) hM hs (by rw [e2]; exact hy) hbs f (by omega)
        rw [b2_nf (bt_f q), if_pos rfl, nI_1, j1]
        rw [e2] at j4 j5
        exact ⟨τ2, rfl, j2, j3, j4, j5⟩
