/-! heaps dealt out: the search, and the class's walk of it -/
abbrev Sw : Type := Nat × (Nat → Nat)
def lpN (f : Nat → Sw → Sw) : Nat → Sw → Sw
  | 0, s => s
  | i + 1, s => f i (lpN f i s)
def srch (m : Nat) (ok : Nat → Bool) (w : Nat → Nat) : Nat → Nat → Nat → Nat → (Nat → Nat) → (Nat → Nat) → Sw → Sw
  | 0, _, _, pr, _, way, s => if s.1 ≤ pr then s else (pr, way)
  | r + 1, a, used, pr, rho, way, s => if s.1 ≤ pr then s else lpN (fun i s => if ok (rho i ||| 2 ^ a) = true then srch m ok w r (a + 1) (max used (i + 1)) (pr + w (rho i ||| 2 ^ a) - w (rho i)) (cxN rho i (rho i ||| 2 ^ a)) (cxN way a i) s else s) (min (used + 1) m) s
def stepS (m : Nat) (ok : Nat → Bool) (w : Nat → Nat) (r a used pr : Nat) (rho way : Nat → Nat) (i : Nat) (s : Sw) : Sw := if ok (rho i ||| 2 ^ a) = true then srch m ok w r (a + 1) (max used (i + 1)) (pr + w (rho i ||| 2 ^ a) - w (rho i)) (cxN rho i (rho i ||| 2 ^ a)) (cxN way a i) s else s
theorem srch_z (m : Nat) (ok : Nat → Bool) (w : Nat → Nat) (a used pr : Nat) (rho way : Nat → Nat) (s : Sw) : srch m ok w 0 a used pr rho way s = if s.1 ≤ pr then s else (pr, way) := rfl
theorem srch_s (m : Nat) (ok : Nat → Bool) (w : Nat → Nat) (r a used pr : Nat) (rho way : Nat → Nat) (s : Sw) : srch m ok w (r + 1) a used pr rho way s = if s.1 ≤ pr then s else lpN (stepS m ok w r a used pr rho way) (min (used + 1) m) s := rfl
theorem lp_s (f : Nat → Sw → Sw) (i : Nat) (s : Sw) : lpN f (i + 1) s = f i (lpN f i s) := rfl
theorem srch_pr {m : Nat} {ok : Nat → Bool} {w : Nat → Nat} {r a used pr : Nat} {rho way : Nat → Nat} {s : Sw} (h : s.1 ≤ pr) : srch m ok w r a used pr rho way s = s := by
  cases r with
  | zero => rw [srch_z, if_pos h]
  | succ r => rw [srch_s, if_pos h]
def MAXI : Nat := 2147483647
def hpC (K m : Nat) (rho : Nat → Nat) (s : Sw) (σ : St) : Prop := σ.1 1506 = nI K ∧ σ.1 1507 = nI m ∧ σ.1 1508 = nI s.1 ∧ (∀ i, i < 8 → σ.2.1 18 i = nI (rho i)) ∧ (s.1 ≠ MAXI → ∀ i, i < K → σ.2.1 20 i = nI (s.2 i)) ∧ s.1 ≤ MAXI
def wyC (a : Nat) (way : Nat → Nat) (σ : St) : Prop := ∀ i, i < a → σ.2.1 19 i = nI (way i)
def prC (K : Nat) (ok : Nat → Bool) (w : Nat → Nat) (σ : St) : Prop := ∀ x, 0 < x → x < 2 ^ K → σ.2.1 17 x = if ok x = true then nI (w x) else -1
def frC (σ σ' : St) : Prop := (∀ k, k ≠ 1508 → σ'.1 k = σ.1 k) ∧ (∀ a, a ≠ 18 → a ≠ 19 → a ≠ 20 → σ'.2.1 a = σ.2.1 a) ∧ σ'.2.2 = σ.2.2
theorem frC_rf (σ : St) : frC σ σ := ⟨fun _ _ => rfl, fun _ _ _ _ => rfl, rfl⟩
theorem frC_tr {a b c : St} (h1 : frC a b) (h2 : frC b c) : frC a c := ⟨fun k hk => (h2.1 k hk).trans (h1.1 k hk), fun k k1 k2 k3 => (h2.2.1 k k1 k2 k3).trans (h1.2.1 k k1 k2 k3), h2.2.2.trans h1.2.2⟩
theorem frC_kC {σ σ' : St} (h : frC σ σ') : kC σ' = kC σ := by
  refine kC_of (fun k hk => h.1 k ?_) (fun a ha => h.2.1 a ?_ ?_ ?_) h.2.2
  · rintro rfl; exact absurd hk (by decide)
  · rintro rfl; exact absurd ha (by decide)
  · rintro rfl; exact absurd ha (by decide)
  · rintro rfl; exact absurd ha (by decide)
def goodR (ok : Nat → Bool) (a used : Nat) (rho : Nat → Nat) : Prop := (∀ i, i < used → 0 < rho i ∧ ok (rho i) = true) ∧ (∀ i, used ≤ i → rho i = 0) ∧ (∀ i, rho i < 2 ^ a)
theorem good_next {ok : Nat → Bool} {a used i : Nat} {rho : Nat → Nat} (h : goodR ok a used rho) (hi : i ≤ used) (hok : ok (rho i ||| 2 ^ a) = true) : goodR ok (a + 1) (max used (i + 1)) (cxN rho i (rho i ||| 2 ^ a)) := by
  obtain ⟨h1, h2, h3⟩ := h
  have hp : 0 < rho i ||| 2 ^ a := by
    have : (2 : Nat) ^ a ≤ rho i ||| 2 ^ a := Nat.right_le_or
    have := Nat.two_pow_pos a
    omega
  refine ⟨fun j hj => ?_, fun j hj => ?_, fun j => ?_⟩
  · rw [cx_at]
    by_cases q : j = i
    · rw [if_pos q]; exact ⟨hp, hok⟩
    · rw [if_neg q]
      exact h1 j (by rcases Nat.le_total used (i + 1) with z | z
                     · rw [Nat.max_eq_right z] at hj; omega
                     · rw [Nat.max_eq_left z] at hj; omega)
  · have hj1 := Nat.le_trans (Nat.le_max_left used (i + 1)) hj
    have hj2 := Nat.le_trans (Nat.le_max_right used (i + 1)) hj
    rw [cx_at, if_neg (by omega)]; exact h2 j hj1
  · rw [cx_at, Nat.pow_succ]
    have := h3 j
    have h3i := h3 i
    by_cases q : j = i
    · rw [if_pos q]
      have : rho i ||| 2 ^ a < 2 ^ (a + 1) := Nat.or_lt_two_pow (by rw [Nat.pow_succ]; omega) (by rw [Nat.pow_succ]; omega)
      rw [Nat.pow_succ] at this
      exact this
    · rw [if_neg q]; omega
theorem part_C {K m : Nat} {ok : Nat → Bool} {w : Nat → Nat} (hK : K ≤ 8) (hm : 1 ≤ m ∧ m ≤ 8) (hw : ∀ x, w x ≤ 10000) (hw0 : w 0 = 0) (hmono : ∀ x a, bt x a = false → w x ≤ w (x ||| 2 ^ a)) : ∀ (r a used pr : Nat) (rho way : Nat → Nat) (s : Sw) (σ : St), a + r = K → used ≤ a → used ≤ m → pr ≤ 10000 * a → goodR ok a used rho → hpC K m rho s σ → wyC a way σ → prC K ok w σ → ∀ fuel, r < fuel → ∃ σ', f_Heaps_part fuel σ (nI a) (nI used) (nI pr) = some σ' ∧ hpC K m rho (srch m ok w r a used pr rho way s) σ' ∧ wyC a way σ' ∧ frC σ σ' := by
  have eM : MAXI = 2147483647 := rfl
  intro r
  induction r with
  | zero =>
    intro a used pr rho way s σ ha hu hum hpr hg hp hy hq fuel hf
    obtain ⟨f, rfl⟩ : ∃ f, fuel = f + 1 := ⟨fuel - 1, by omega⟩
    obtain ⟨p1, p2, p3, p4, p5, p6⟩ := hp
    show ∃ σ', f_Heaps_part_F (f_Heaps_part f) σ (nI a) (nI used) (nI pr) = some σ' ∧ _
    unfold f_Heaps_part_F
    rw [srch_z, p3, p1]
    by_cases y : s.1 ≤ pr
    · rw [if_neg (nI_nlt y (by omega)), if_pos y]
      exact ⟨σ, rfl, ⟨p1, p2, p3, p4, p5, p6⟩, hy, frC_rf σ⟩
    · rw [if_pos (nI_lt (by omega) (by omega)), if_neg (nI_nlt (by omega) (by omega)), if_neg y, show cpok 0 0 8 8 8 = true by decide, cond_true]
      refine ⟨_, rfl, ⟨?_, ?_, ?_, fun i hi => ?_, fun _ i hi => ?_, by omega⟩, fun i hi => ?_, fun k hk => ?_, fun b b1 b2' b3 => ?_, rfl⟩
      · rw [stA_1, upI_1, if_neg (by decide)]; exact p1
      · rw [stA_1, upI_1, if_neg (by decide)]; exact p2
      · rw [stA_1, upI_1, if_pos rfl]
      · rw [stA_2, if_neg (by decide), upI_2]; exact p4 i hi
      · rw [stA_2, if_pos rfl]
        show va_cpy (σ.2.1 19) (σ.2.1 20) 0 0 8 i = _
        unfold va_cpy
        have ez : 0 + (i - 0) = i := by omega
        rw [if_pos (by omega), ez]
        exact hy i (by omega)
      · rw [stA_2, if_neg (by decide), upI_2]; exact hy i hi
      · rw [stA_1, upI_1, if_neg hk]
      · rw [stA_2, if_neg b3]; rfl
  | succ r ih =>
    intro a used pr rho way s σ ha hu hum hpr hg hp hy hq fuel hf
    obtain ⟨f, rfl⟩ : ∃ f, fuel = f + 1 := ⟨fuel - 1, by omega⟩
    obtain ⟨p1, p2, p3, p4, p5, p6⟩ := id hp
    show ∃ σ', f_Heaps_part_F (f_Heaps_part f) σ (nI a) (nI used) (nI pr) = some σ' ∧ _
    unfold f_Heaps_part_F
    rw [srch_s, p3, p1]
    by_cases y : s.1 ≤ pr
    · rw [if_neg (nI_nlt y (by omega)), if_pos y]
      exact ⟨σ, rfl, hp, hy, frC_rf σ⟩
    · rw [if_pos (nI_lt (by omega) (by omega)), if_pos (nI_lt (by omega) (by omega)), if_neg y]
      exact loopF (n := min (used + 1) m) (P := fun i fl => ∀ σ1, hpC K m rho (lpN (stepS m ok w r a used pr rho way) i s) σ1 → wyC a way σ1 → frC σ σ1 → ∃ σ', f_Heaps_part_41 (f_Heaps_part f) fl σ1 (nI a) (nI used) (nI pr) (nI i) = some σ' ∧ hpC K m rho (lpN (stepS m ok w r a used pr rho way) (min (used + 1) m) s) σ' ∧ wyC a way σ' ∧ frC σ σ') (fun fl σ1 k1 k2 k3 => by
          unfold f_Heaps_part_41
          by_cases z : used + 1 ≤ m
          · have e1 : min (used + 1) m = used + 1 := Nat.min_eq_left z
            rw [if_pos (nI_lt (by rw [e1]; omega) (by rw [e1]; omega))]
            exact ⟨σ1, rfl, k1, k2, k3⟩
          · have e1 : min (used + 1) m = m := Nat.min_eq_right (by omega)
            rw [if_neg (nI_nlt (by rw [e1]; omega) (by omega)), k1.2.1, if_pos (nI_le (by rw [e1]; omega) (by rw [e1]; omega))]
            exact ⟨σ1, rfl, k1, k2, k3⟩) (fun i fl hi ihl σ1 k1 k2 k3 => by
          have hi1 : i < used + 1 := Nat.lt_of_lt_of_le hi (Nat.min_le_left _ _)
          have hi2 : i < m := Nat.lt_of_lt_of_le hi (Nat.min_le_right _ _)
          obtain ⟨c1, c2, c3, c4, c5, c6⟩ := id k1
          have ri := hg.2.2 i
          have pa : (2 : Nat) ^ (a + 1) ≤ 2 ^ K := Nat.pow_le_pow_right (by decide) (by omega)
          have pK : (2 : Nat) ^ K ≤ 2 ^ 8 := Nat.pow_le_pow_right (by decide) hK
          have ps : (2 : Nat) ^ (a + 1) = 2 ^ a * 2 := Nat.pow_succ 2 a
          have hafter : rho i ||| 2 ^ a < 2 ^ (a + 1) := Nat.or_lt_two_pow (by omega) (by omega)
          have hap : 0 < rho i ||| 2 ^ a := by
            have : (2 : Nat) ^ a ≤ rho i ||| 2 ^ a := Nat.right_le_or
            have := Nat.two_pow_pos a
            omega
          have eset : nI (rho i) ||| ((1 : Int32) <<< (nI a &&& 31)) = nI (rho i ||| 2 ^ a) := by rw [shl1_nI (by omega), or_nI (by omega) (by omega)]
          have q17 : ∀ x, 0 < x → x < 2 ^ K → σ1.2.1 17 x = if ok x = true then nI (w x) else -1 := fun x h1 h2 => by rw [k3.2.1 17 (by decide) (by decide) (by decide)]; exact hq x h1 h2
          have wa := hw (rho i ||| 2 ^ a)
          have wm := hmono (rho i) a (bt_lt ri)
          unfold f_Heaps_part_41
          rw [if_neg (nI_nlt (by omega) (by omega)), c2, if_neg (nI_ge hi2 (by omega)), inb_nI (show i < 8 by omega) (by decide), nIt (show i < 2 ^ 31 by omega), c4 i (by omega), eset, inb_nI (show rho i ||| 2 ^ a < 256 by omega) (by decide), nIt (show rho i ||| 2 ^ a < 2 ^ 31 by omega), q17 _ hap (by omega), inb_nI (show a < 8 by omega) (by decide), nIt (show a < 2 ^ 31 by omega), nI_1]
          simp only [cond_true]
          rw [lp_s] at ihl
          by_cases hok : ok (rho i ||| 2 ^ a) = true
          · rw [if_pos hok, if_neg (m1_ne (by omega))]
            unfold stepS at ihl
            rw [if_pos hok] at ihl
            have g2 := good_next hg (by omega) hok
            have mx1 : max used (i + 1) ≤ a + 1 := Nat.max_le.mpr ⟨by omega, by omega⟩
            have mx2 : max used (i + 1) ≤ m := Nat.max_le.mpr ⟨by omega, by omega⟩
            have hp2 : hpC K m (cxN rho i (rho i ||| 2 ^ a)) (lpN (stepS m ok w r a used pr rho way) i s) (upA (upA σ1 18 i (nI (rho i ||| 2 ^ a))) 19 a (nI i)) := by
              refine ⟨c1, c2, c3, fun j hj => ?_, fun hs j hj => ?_, c6⟩
              · rw [upA_2, if_neg (by decide), upA_2, if_pos rfl, cx_at]
                unfold upd
                by_cases z : j = i
                · rw [if_pos z, if_pos z]
                · rw [if_neg z, if_neg z]; exact c4 j hj
              · rw [upA_2, if_neg (by decide), upA_2, if_neg (by decide)]; exact c5 hs j hj
            have hy2 : wyC (a + 1) (cxN way a i) (upA (upA σ1 18 i (nI (rho i ||| 2 ^ a))) 19 a (nI i)) := fun j hj => by
              rw [upA_2, if_pos rfl, cx_at]
              unfold upd
              by_cases z : j = a
              · rw [if_pos z, if_pos z]
              · rw [if_neg z, if_neg z, upA_2, if_neg (by decide)]; exact k2 j (by omega)
            have hq2 : prC K ok w (upA (upA σ1 18 i (nI (rho i ||| 2 ^ a))) 19 a (nI i)) := fun x h1 h2 => by
              rw [upA_2, if_neg (by decide), upA_2, if_neg (by decide)]; exact q17 x h1 h2
            obtain ⟨σ3, j1, j2, j3, j4⟩ := ih (a + 1) (max used (i + 1)) (pr + w (rho i ||| 2 ^ a) - w (rho i)) (cxN rho i (rho i ||| 2 ^ a)) (cxN way a i) _ _ (by omega) mx1 mx2 (by omega) g2 hp2 hy2 hq2 f (by omega)
            have key : ∀ v : Int32, v = nI (w (rho i ||| 2 ^ a)) - nI (w (rho i)) → f_Heaps_part_131 (f_Heaps_part f) (f_Heaps_part_41 (f_Heaps_part f) fl) (upA (upA σ1 18 i (nI (rho i ||| 2 ^ a))) 19 a (nI i)) (nI a) (nI used) (nI pr) (nI i) (nI (rho i)) v = f_Heaps_part_41 (f_Heaps_part f) fl (upA σ3 18 i (nI (rho i))) (nI a) (nI used) (nI pr) (nI (i + 1)) := by
              intro v hv
              unfold f_Heaps_part_131
              have e5 : nI pr + v = nI (pr + w (rho i ||| 2 ^ a) - w (rho i)) := by
                rw [hv, pk_sub wm, nI_add, Nat.add_sub_assoc wm]
              rw [nI_1, nI_1, imax_N (by omega) (by omega), e5, j1, bind_s, inb_nI (show i < 8 by omega) (by decide), cond_true, nIt (show i < 2 ^ 31 by omega)]
            have fin := ihl (upA σ3 18 i (nI (rho i))) (by
                obtain ⟨d1, d2, d3, d4, d5, d6⟩ := j2
                refine ⟨d1, d2, d3, fun j hj => ?_, fun hs j hj => ?_, d6⟩
                · rw [upA_2, if_pos rfl]
                  unfold upd
                  by_cases z : j = i
                  · rw [if_pos z, z]
                  · rw [if_neg z]
                    have := d4 j hj
                    rw [cx_at, if_neg z] at this
                    exact this
                · rw [upA_2, if_neg (by decide)]; exact d5 hs j hj) (fun j hj => by
                rw [upA_2, if_neg (by decide)]
                have := j3 j (by omega)
                rw [cx_at, if_neg (by omega)] at this
                exact this) (frC_tr k3 (frC_tr (b := upA (upA σ1 18 i (nI (rho i ||| 2 ^ a))) 19 a (nI i)) ⟨fun _ _ => rfl, fun b b1 b2' b3 => by rw [upA_2, if_neg b2', upA_2, if_neg b1], rfl⟩ (frC_tr j4 ⟨fun _ _ => rfl, fun b b1 b2' b3 => by rw [upA_2, if_neg b1], rfl⟩)))
            by_cases z : rho i = 0
            · rw [if_pos (show nI (rho i) = 0 by rw [z]; rfl), key _ (by rw [z, hw0, show nI 0 = (0 : Int32) from rfl, Int32.sub_zero])]
              exact fin
            · have hiu : i < used := by
                rcases Nat.lt_or_ge i used with q | q
                · exact q
                · exact absurd (hg.2.1 i q) z
              rw [if_neg (nI_ne0 (by omega) (by omega)), inb_nI (show rho i < 256 by omega) (by decide), cond_true, nIt (show rho i < 2 ^ 31 by omega), q17 (rho i) (by omega) (by omega), if_pos (hg.1 i hiu).2, key _ rfl]
              exact fin
          · rw [if_neg hok, if_pos rfl]
            unfold stepS at ihl
            rw [if_neg hok] at ihl
            exact ihl σ1 k1 k2 k3)
        0 (Nat.zero_le _) FU (by show _ < 1000; have := Nat.min_le_right (used + 1) m; omega) σ hp hy (frC_rf σ)
