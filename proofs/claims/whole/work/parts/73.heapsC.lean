/-! heaps and cost by the class, up to the search -/
theorem gather_C {e : Ew} {σ : St} {b : Nat} (hn : e.1 ≤ 10) (hb : b < 2 ^ e.1) (h8 : (mbN b e.1).2 ≤ 8) : ∃ σ', f_Heaps_gather σ (nI b) = some σ' ∧ σ'.1 1506 = nI (mbN b e.1).2 ∧ (∀ i, i < (mbN b e.1).2 → σ'.2.1 16 i = nI ((mbN b e.1).1 i)) ∧ (∀ k, k ≠ 1506 → σ'.1 k = σ.1 k) ∧ (∀ a, a ≠ 16 → σ'.2.1 a = σ.2.1 a) ∧ σ'.2.2 = σ.2.2 := by
  have h10 : (mbN b 10).2 = (mbN b e.1).2 := mb_hi hb hn
  have hpre : ∀ t, t ≤ 10 → ∀ i, i < (mbN b t).2 → (mbN b t).1 i = (mbN b e.1).1 i := fun t ht i hi => by
    have hm := mb_mono b ht
    rw [← mb_pre b ht i hi]
    exact mb_pre b hn i (by omega)
  have hb10 := p10 hn hb
  unfold f_Heaps_gather
  exact loopF (n := 10) (P := fun t fuel => ∀ σ1 : St, σ1.1 1506 = nI (mbN b t).2 → (∀ i, i < (mbN b t).2 → σ1.2.1 16 i = nI ((mbN b t).1 i)) → (∀ k, k ≠ 1506 → σ1.1 k = σ.1 k) → (∀ a, a ≠ 16 → σ1.2.1 a = σ.2.1 a) → σ1.2.2 = σ.2.2 → ∃ σ', f_Heaps_gather_7 fuel σ1 (nI b) (nI t) = some σ' ∧ σ'.1 1506 = nI (mbN b e.1).2 ∧ (∀ i, i < (mbN b e.1).2 → σ'.2.1 16 i = nI ((mbN b e.1).1 i)) ∧ (∀ k, k ≠ 1506 → σ'.1 k = σ.1 k) ∧ (∀ a, a ≠ 16 → σ'.2.1 a = σ.2.1 a) ∧ σ'.2.2 = σ.2.2) (fun f σ1 k1 k2 k3 k4 k5 => by
      unfold f_Heaps_gather_7
      rw [if_pos (by decide)]
      refine ⟨σ1, rfl, by rw [k1, h10], fun i hi => ?_, k3, k4, k5⟩
      rw [k2 i (by omega), hpre 10 (Nat.le_refl _) i (by omega)]) (fun t f ht ih σ1 k1 k2 k3 k4 k5 => by
      have hm := mb_mono b (t := t) (t' := 10) (by omega)
      unfold f_Heaps_gather_7
      rw [if_neg (show ¬ (10 : Int32) ≤ nI t from nI_ge (b := 10) ht (by decide)), k1]
      by_cases q8 : (mbN b t).2 = 8
      · rw [if_pos (by rw [q8]; decide)]
        refine ⟨σ1, rfl, by rw [k1]; congr 1; omega, fun i hi => ?_, k3, k4, k5⟩
        rw [k2 i (by omega), hpre t (by omega) i (by omega)]
      · rw [if_neg (show ¬ (8 : Int32) ≤ nI (mbN b t).2 from nI_ge (b := 8) (by omega) (by decide)), isOf_eq (by omega) ht, bind_s, nI_1, inb_nI (show (mbN b t).2 < 8 by omega) (by decide), nIt (show (mbN b t).2 < 2 ^ 31 by omega), nI_1]
        by_cases q : bt b t = true
        · rw [b2_nt q, if_neg i10, cond_true]
          refine ih _ ?_ (fun i hi => ?_) (fun k hk => ?_) (fun a ha => ?_) k5
          · rw [upI_1, if_pos rfl, mb_2, if_pos q]
          · rw [mb_2, if_pos q] at hi
            rw [upI_2, upA_2, if_pos rfl, mb_1]
            unfold upd
            by_cases y : i = (mbN b t).2
            · rw [if_pos y, if_pos ⟨q, y⟩]
            · rw [if_neg y, if_neg (fun z => y z.2)]; exact k2 i (by omega)
          · rw [upI_1, if_neg hk, upA_1]; exact k3 k hk
          · rw [upI_2, upA_2, if_neg ha]; exact k4 a ha
        · rw [b2_nf (bt_f q), if_pos rfl]
          refine ih σ1 ?_ (fun i hi => ?_) k3 k4 k5
          · rw [mb_2, if_neg q]; exact k1
          · rw [mb_2, if_neg q] at hi
            rw [mb_1, if_neg (fun z => q z.1)]; exact k2 i hi)
    0 (by decide) FU (by decide) (upI σ 1506 0) rfl (fun i hi => absurd hi (Nat.not_lt_zero i)) (fun k hk => by rw [upI_1, if_neg hk]) (fun _ _ => rfl) rfl
theorem thingsOf_C {σ : St} {c : Nat → Nat} {K x : Nat} (hK : K ≤ 8) (hx : x < 256) (hc : ∀ i, i < K → c i < 10) (h6 : σ.1 1506 = nI K) (h16 : ∀ i, i < K → σ.2.1 16 i = nI (c i)) : f_Heaps_thingsOf σ (nI x) = some (nI (thN c x K)) := by
  unfold f_Heaps_thingsOf
  refine loopF (n := K) (P := fun t fuel => f_Heaps_thingsOf_4 fuel σ (nI x) (nI (thN c x t)) (nI t) = some (nI (thN c x K))) (fun f => ?_) (fun t f ht ih => ?_) 0 (Nat.zero_le _) FU (by show _ < 1000; omega)
  · unfold f_Heaps_thingsOf_4
    rw [h6, if_pos (nI_le (Nat.le_refl _) (by omega))]
  · have ct := hc t ht
    have tl : thN c x t < 2 ^ 10 := th_lt (fun i hi => hc i (by omega))
    have p9 : (2 : Nat) ^ c t ≤ 2 ^ 9 := Nat.pow_le_pow_right (by decide) (by omega)
    unfold f_Heaps_thingsOf_4
    rw [h6, if_neg (nI_ge ht (by omega)), inb_nI (show t < 8 by omega) (by decide), cond_true, nIt (show t < 2 ^ 31 by omega), h16 t ht, bit_C (by omega) (by omega), nI_1]
    rw [th_s] at ih
    by_cases q : bt x t = true
    · rw [b2_nt q, shl1_nI (by omega), or_nI (by omega) (by omega)]
      rw [if_pos q] at ih
      exact ih
    · have z : ∀ j : Fin 10, (0 : Int32) <<< (nI j.1 &&& 31) = nI 0 := by decide
      rw [b2_nf (bt_f q), z ⟨c t, ct⟩, or_nI (by omega) (by decide)]
      rw [if_neg q] at ih
      exact ih
theorem finds_C {K mm m : Nat} {ok : Nat → Bool} {w : Nat → Nat} {σ : St} (hK : K ≤ 8) (hmm : mm ≤ 8) (hm : 1 ≤ mm) (hw : ∀ x, w x ≤ 10000) (hw0 : w 0 = 0) (hmono : ∀ x a, bt x a = false → w x ≤ w (x ||| 2 ^ a)) (h6 : σ.1 1506 = nI K) (hq : prC K ok w σ) (em : m = mm) : ∃ σ', f_Heaps_findsWay σ (nI mm) = some ((if (srch m ok w K 0 0 0 (fun _ => 0) (fun _ => 0) (MAXI, fun _ => 0)).1 = MAXI then 0 else 1), σ') ∧ hpC K m (fun _ => 0) (srch m ok w K 0 0 0 (fun _ => 0) (fun _ => 0) (MAXI, fun _ => 0)) σ' ∧ kC σ' = kC σ ∧ σ'.2.1 16 = σ.2.1 16 := by
  subst em
  have eM : MAXI = 2147483647 := rfl
  have him : imin (nI m) 8 = nI m := by
    unfold imin
    by_cases q : m = 8
    · rw [q]; rfl
    · rw [if_neg (show ¬ (8 : Int32) < nI m from nI_nlt (a := 8) (by omega) (by decide))]
  unfold f_Heaps_findsWay
  rw [him]
  refine loopF (n := 8) (P := fun t fuel => ∀ σ1 : St, (∀ k, k ≠ 1507 → k ≠ 1508 → σ1.1 k = σ.1 k) → σ1.1 1507 = nI m → σ1.1 1508 = nI MAXI → (∀ a, a ≠ 18 → σ1.2.1 a = σ.2.1 a) → σ1.2.2 = σ.2.2 → (∀ i, i < t → σ1.2.1 18 i = nI 0) → ∃ σ', f_Heaps_findsWay_18 fuel σ1 (nI t) = some ((if (srch m ok w K 0 0 0 (fun _ => 0) (fun _ => 0) (MAXI, fun _ => 0)).1 = MAXI then 0 else 1), σ') ∧ hpC K m (fun _ => 0) (srch m ok w K 0 0 0 (fun _ => 0) (fun _ => 0) (MAXI, fun _ => 0)) σ' ∧ kC σ' = kC σ ∧ σ'.2.1 16 = σ.2.1 16) (fun f σ1 k1 k2 k3 k4 k5 k6 => ?_) (fun t f ht ih σ1 k1 k2 k3 k4 k5 k6 => ?_) 0 (by decide) FU (by decide) _ (fun k h1 h2 => by rw [upI_1, if_neg h2, upI_1, if_neg h1]) rfl rfl (fun _ _ => rfl) rfl (fun i hi => absurd hi (Nat.not_lt_zero i))
  · have p0 : hpC K m (fun _ => 0) (MAXI, fun _ => 0) σ1 := ⟨by rw [k1 1506 (by decide) (by decide)]; exact h6, k2, k3, k6, fun hs => absurd rfl hs, Nat.le_refl _⟩
    obtain ⟨σ2, j1, j2, j3, j4⟩ := part_C hK ⟨hm, hmm⟩ hw hw0 hmono K 0 0 0 (fun _ => 0) (fun _ => 0) (MAXI, fun _ => 0) σ1 (by omega) (Nat.le_refl _) (Nat.zero_le _) (by omega) ⟨fun i hi => absurd hi (Nat.not_lt_zero i), fun _ _ => rfl, fun _ => Nat.two_pow_pos _⟩ p0 (fun i hi => absurd hi (Nat.not_lt_zero i)) (fun x h1 h2 => by rw [k4 17 (by decide)]; exact hq x h1 h2) 20 (by omega)
    have j1' : f_Heaps_part 20 σ1 0 0 0 = some σ2 := j1
    have kk : kC σ2 = kC σ := by
      rw [frC_kC j4]
      refine kC_of (fun k hk => k1 k ?_ ?_) (fun a ha => k4 a ?_) k5
      · rintro rfl; exact absurd hk (by decide)
      · rintro rfl; exact absurd hk (by decide)
      · rintro rfl; exact absurd ha (by decide)
    have a16 : σ2.2.1 16 = σ.2.1 16 := by rw [j4.2.1 16 (by decide) (by decide) (by decide), k4 16 (by decide)]
    have mx := j2.2.2.2.2.2
    unfold f_Heaps_findsWay_18
    rw [if_pos (by decide), j1', bind_s, j2.2.2.1]
    by_cases z : (srch m ok w K 0 0 0 (fun _ => 0) (fun _ => 0) (MAXI, fun _ => 0)).1 = MAXI
    · rw [if_pos (by rw [z]; rfl), if_pos z]; exact ⟨σ2, rfl, j2, kk, a16⟩
    · rw [if_neg (show ¬ nI (srch m ok w K 0 0 0 (fun _ => 0) (fun _ => 0) (MAXI, fun _ => 0)).1 = 2147483647 from fun y => z ((nI_eq (b := MAXI) (by omega) (by decide)).mp y)), if_neg z]; exact ⟨σ2, rfl, j2, kk, a16⟩
  · unfold f_Heaps_findsWay_18
    rw [if_neg (show ¬ (8 : Int32) ≤ nI t from nI_ge (b := 8) ht (by decide)), inb_nI ht (by decide), cond_true, nIt (show t < 2 ^ 31 by omega), nI_1]
    refine ih _ k1 k2 k3 (fun a ha => by rw [upA_2, if_neg ha]; exact k4 a ha) k5 (fun i hi => ?_)
    rw [upA_2, if_pos rfl]
    unfold upd
    by_cases y : i = t
    · rw [if_pos y]; rfl
    · rw [if_neg y]; exact k6 i (by omega)
theorem pow8 {K : Nat} (hK : K ≤ 8) : (2 : Nat) ^ K ≤ 256 := Nat.pow_le_pow_right (by decide) hK
theorem shlK {K : Nat} (hK : K ≤ 8) : (1 : Int32) <<< (nI K &&& 31) = nI (2 ^ K) := shl1_nI (by omega)
theorem sum_z (f : Nat → Nat) : ∀ n, sumB n 0 f = 0
  | 0 => rfl
  | n + 1 => by rw [sumB_s, sum_z f n, bt_0, if_neg (by decide)]
def wH (x : Nat) : Nat := if x = 0 then 0 else 1
def okH (e : Ew) (h most K : Nat) (c : Nat → Nat) (x : Nat) : Bool := sfN e (gN e h) h (thN c x K) (lsN e (gN e h) (thN c x K) 0) most
def okT (e : Ew) (h K : Nat) (c : Nat → Nat) (x : Nat) : Bool := goN e (thN c x K) && decide (spN e h (thN c x K) = 0)
def wT (e : Ew) (h K : Nat) (c : Nat → Nat) (x : Nat) : Nat := alN e (gN e h) (thN c x K) (lsN e (gN e h) (thN c x K) 0)
theorem wH_mono (x a : Nat) : wH x ≤ wH (x ||| 2 ^ a) := by
  unfold wH
  rw [if_neg or_ne0]
  split <;> omega
theorem th_sub {n : Nat} (c : Nat → Nat) (x a K : Nat) (hx : bt x a = false) : subN n (thN c x K) (thN c (x ||| 2 ^ a) K) := by
  rw [th_or hx]
  split
  · exact sub_or _ _ _
  · exact fun _ _ q => q
theorem al_le {e : Ew} (hB : ewB e) {h b : Nat} (hh : h ≤ 9) : alN e (gN e h) b (lsN e (gN e h) b 0) ≤ 9900 := by
  have hls := lsN_le hB (gv := gN e h) (fun t ht => gN_le hB hh ht) b 0
  unfold alN
  have hs : sumB e.1 b (fun t => tN (e.2.1 t 0) (lsN e (gN e h) b 0 - gN e h t)) ≤ e.1 * 990 := sumB_le (fun t ht => by
    have := tN_le (e.2.1 t 0) (lsN e (gN e h) b 0 - gN e h t)
    omega)
  have := hB.1
  omega
theorem fewest_C {e : Ew} {σ : St} {b h most : Nat} (hB : ewB e) (hC : ewC e σ) (hb : b < 2 ^ e.1) (h8 : (mbN b e.1).2 ≤ 8) (hh : h ≤ 9) (hm : most ≤ 99) (h3 : σ.1 3903 = nI h) (hg : ∀ t, t < e.1 → σ.2.1 40 t = nI (gN e h t)) : ∃ σ', f_Heaps_fewestRuns σ (nI b) (nI most) = some ((if (srch 8 (okH e h most (mbN b e.1).2 (mbN b e.1).1) wH (mbN b e.1).2 0 0 0 (fun _ => 0) (fun _ => 0) (MAXI, fun _ => 0)).1 = MAXI then 0 else 1), σ') ∧ hpC (mbN b e.1).2 8 (fun _ => 0) (srch 8 (okH e h most (mbN b e.1).2 (mbN b e.1).1) wH (mbN b e.1).2 0 0 0 (fun _ => 0) (fun _ => 0) (MAXI, fun _ => 0)) σ' ∧ kC σ' = kC σ ∧ (∀ i, i < (mbN b e.1).2 → σ'.2.1 16 i = nI ((mbN b e.1).1 i)) := by
  have hn := hB.1
  obtain ⟨σ1, a1, a2, a3, a4, a5, a6⟩ := gather_C (σ := σ) hn hb h8
  have k1 : kC σ1 = kC σ := by
    refine kC_of (fun k hk => a4 k ?_) (fun a ha => a5 a ?_) a6
    · rintro rfl; exact absurd hk (by decide)
    · rintro rfl; exact absurd ha (by decide)
  have hcl : ∀ i, i < (mbN b e.1).2 → (mbN b e.1).1 i < e.1 := fun i hi => (mb_lt b hi).1
  generalize (mbN b e.1).2 = K at *
  generalize (mbN b e.1).1 = c at *
  have pK := pow8 h8
  unfold f_Heaps_fewestRuns
  rw [a1, bind_s]
  have g99 := fun t (ht : t < e.1) => gN_le hB hh ht
  have main := loopF (n := 2 ^ K) (P := fun x fuel => 1 ≤ x → ∀ σ2 : St, kC σ2 = kC σ → σ2.1 1506 = nI K → (∀ i, i < K → σ2.2.1 16 i = nI (c i)) → σ2.1 3903 = nI h → (∀ t, t < e.1 → σ2.2.1 40 t = nI (gN e h t)) → (∀ y, 0 < y → y < x → σ2.2.1 17 y = if okH e h most K c y = true then nI (wH y) else -1) → ∃ σ', f_Heaps_fewestRuns_7 fuel σ2 (nI most) (nI x) = some ((if (srch 8 (okH e h most K c) wH K 0 0 0 (fun _ => 0) (fun _ => 0) (MAXI, fun _ => 0)).1 = MAXI then 0 else 1), σ') ∧ hpC K 8 (fun _ => 0) (srch 8 (okH e h most K c) wH K 0 0 0 (fun _ => 0) (fun _ => 0) (MAXI, fun _ => 0)) σ' ∧ kC σ' = kC σ ∧ (∀ i, i < K → σ'.2.1 16 i = nI (c i))) (fun f _ σ2 k2 k6 k16 kh kg k17 => by
      obtain ⟨σ3, f1, f2, f3, f4⟩ := finds_C (K := K) (mm := 8) (m := 8) (ok := okH e h most K c) (w := wH) (σ := σ2) h8 (by decide) (by decide) (fun x => by unfold wH; split <;> omega) rfl (fun x a _ => wH_mono x a) k6 k17 rfl
      have f1' : f_Heaps_findsWay σ2 8 = _ := f1
      unfold f_Heaps_fewestRuns_7
      rw [k6, shlK h8, if_pos (nI_le (Nat.le_refl _) (by omega)), f1', bd2_s]
      refine ⟨σ3, ?_, f2, f3.trans k2, fun i hi => by rw [f4]; exact k16 i hi⟩
      have hz : zb (if (srch 8 (okH e h most K c) wH K 0 0 0 (fun _ => 0) (fun _ => 0) (MAXI, fun _ => 0)).1 = MAXI then 0 else 1) = true := by split <;> rfl
      rw [hz]; rfl) (fun x f hx ih x1 σ2 k2 k6 k16 kh kg k17 => by
      have hC2 := ewC_k k2 hC
      have hlt : thN c x K < 2 ^ e.1 := th_lt hcl
      obtain ⟨σ3, f1, f2, f3⟩ := fill_V hB hC2 (h := h) kg kh g99 hlt (off := 0) (by omega)
      have f1' : f_Tub_fill σ2 (nI (thN c x K)) 0 = some σ3 := f1
      have hls := lsN_le hB g99 (thN c x K) 0
      have e3 : σ3 = upI (upI σ2 3904 (nI (thN c x K))) 3905 (nI (lsN e (gN e h) (thN c x K) 0)) := by
        have := fill_C hB hC2 kg g99 hlt (off := 0) (by omega)
        rw [f1] at this
        exact Option.some.inj this
      have a16 : σ3.2.1 16 = σ2.2.1 16 := by rw [e3]; rfl
      have a17 : σ3.2.1 17 = σ2.2.1 17 := by rw [e3]; rfl
      have i6 : σ3.1 1506 = nI K := by rw [e3, upI_1, if_neg (by decide), upI_1, if_neg (by decide)]; exact k6
      have go : ∀ v : Int32, v = (if okH e h most K c x = true then nI (wH x) else -1) → ∃ σ', f_Heaps_fewestRuns_7 f (upA σ3 17 x v) (nI most) (nI (x + 1)) = some ((if (srch 8 (okH e h most K c) wH K 0 0 0 (fun _ => 0) (fun _ => 0) (MAXI, fun _ => 0)).1 = MAXI then 0 else 1), σ') ∧ hpC K 8 (fun _ => 0) (srch 8 (okH e h most K c) wH K 0 0 0 (fun _ => 0) (fun _ => 0) (MAXI, fun _ => 0)) σ' ∧ kC σ' = kC σ ∧ (∀ i, i < K → σ'.2.1 16 i = nI (c i)) := fun v hv => by
        refine ih (by omega) _ (by rw [kC_upA (by rfl), f2]; exact k2) i6 (fun i hi => by rw [upA_2, if_neg (by decide), a16]; exact k16 i hi) f3.2.2.1 (fun t ht => by rw [upA_2, if_neg (by decide)]; exact f3.2.1 t ht) (fun y y1 y2 => ?_)
        rw [upA_2, if_pos rfl]
        unfold upd
        by_cases z : y = x
        · rw [if_pos z, hv, z]
        · rw [if_neg z, a17]; exact k17 y y1 (by omega)
      unfold f_Heaps_fewestRuns_7
      rw [k6, shlK h8, if_neg (nI_ge hx (by omega)), thingsOf_C h8 (by omega) (fun i hi => by have := hcl i hi; omega) k6 k16, bind_s, f1', bind_s, isSafe_C hB f3 g99 hlt (by omega) hh hm, bind_s, inb_nI (show x < 256 by omega) (by decide), nIt (show x < 2 ^ 31 by omega), nI_1]
      simp only [cond_true]
      have eok : okH e h most K c x = sfN e (gN e h) h (thN c x K) (lsN e (gN e h) (thN c x K) 0) most := rfl
      cases q : sfN e (gN e h) h (thN c x K) (lsN e (gN e h) (thN c x K) 0) most
      · rw [b2_f, if_pos rfl]
        exact go _ (by rw [eok, q, if_neg (by decide)])
      · rw [b2_t, if_neg i10]
        refine go _ ?_
        rw [eok, q, if_pos rfl]
        unfold wH
        rw [if_neg (by omega)]
        rfl)
    1 (Nat.two_pow_pos _) FU (by show _ < 1000; omega) (Nat.le_refl _) σ1 k1 a2 a3 (by rw [a4 3903 (by decide)]; exact h3) (fun t ht => by rw [a5 40 (by decide)]; exact hg t ht) (fun y y1 y2 => absurd y1 (by omega))
  exact main
theorem least_C {e : Ew} {σ : St} {b h m : Nat} (hB : ewB e) (hC : ewC e σ) (hb : b < 2 ^ e.1) (h8 : (mbN b e.1).2 ≤ 8) (hh : h ≤ 9) (hm1 : 1 ≤ m) (hm : m ≤ 8) (h3 : σ.1 3903 = nI h) (hg : ∀ t, t < e.1 → σ.2.1 40 t = nI (gN e h t)) : ∃ σ', f_Heaps_leastTints σ (nI b) (nI m) = some ((if (srch m (okT e h (mbN b e.1).2 (mbN b e.1).1) (wT e h (mbN b e.1).2 (mbN b e.1).1) (mbN b e.1).2 0 0 0 (fun _ => 0) (fun _ => 0) (MAXI, fun _ => 0)).1 = MAXI then 0 else 1), σ') ∧ hpC (mbN b e.1).2 m (fun _ => 0) (srch m (okT e h (mbN b e.1).2 (mbN b e.1).1) (wT e h (mbN b e.1).2 (mbN b e.1).1) (mbN b e.1).2 0 0 0 (fun _ => 0) (fun _ => 0) (MAXI, fun _ => 0)) σ' ∧ kC σ' = kC σ := by
  have hn := hB.1
  obtain ⟨σ1, a1, a2, a3, a4, a5, a6⟩ := gather_C (σ := σ) hn hb h8
  have k1 : kC σ1 = kC σ := by
    refine kC_of (fun k hk => a4 k ?_) (fun a ha => a5 a ?_) a6
    · rintro rfl; exact absurd hk (by decide)
    · rintro rfl; exact absurd ha (by decide)
  have hcl : ∀ i, i < (mbN b e.1).2 → (mbN b e.1).1 i < e.1 := fun i hi => (mb_lt b hi).1
  generalize (mbN b e.1).2 = K at *
  generalize (mbN b e.1).1 = c at *
  have pK := pow8 h8
  unfold f_Heaps_leastTints
  rw [a1, bind_s]
  have g99 := fun t (ht : t < e.1) => gN_le hB hh ht
  have w10 : ∀ x, wT e h K c x ≤ 10000 := fun x => by have := al_le hB (b := thN c x K) hh; unfold wT; omega
  have w0 : wT e h K c 0 = 0 := by unfold wT alN; rw [th_0, sum_z]
  have wm : ∀ x a, bt x a = false → wT e h K c x ≤ wT e h K c (x ||| 2 ^ a) := fun x a hx => al_sub (th_sub c x a K hx)
  have main := loopF (n := 2 ^ K) (P := fun x fuel => 1 ≤ x → ∀ σ2 : St, kC σ2 = kC σ → σ2.1 1506 = nI K → (∀ i, i < K → σ2.2.1 16 i = nI (c i)) → σ2.1 3903 = nI h → (∀ t, t < e.1 → σ2.2.1 40 t = nI (gN e h t)) → (∀ y, 0 < y → y < x → σ2.2.1 17 y = if okT e h K c y = true then nI (wT e h K c y) else -1) → ∃ σ', f_Heaps_leastTints_7 fuel σ2 (nI m) (nI x) = some ((if (srch m (okT e h K c) (wT e h K c) K 0 0 0 (fun _ => 0) (fun _ => 0) (MAXI, fun _ => 0)).1 = MAXI then 0 else 1), σ') ∧ hpC K m (fun _ => 0) (srch m (okT e h K c) (wT e h K c) K 0 0 0 (fun _ => 0) (fun _ => 0) (MAXI, fun _ => 0)) σ' ∧ kC σ' = kC σ) (fun f _ σ2 k2 k6 k16 kh kg k17 => by
      obtain ⟨σ3, f1, f2, f3, f4⟩ := finds_C (K := K) (mm := m) (m := m) (ok := okT e h K c) (w := wT e h K c) (σ := σ2) h8 hm hm1 w10 w0 wm k6 k17 rfl
      unfold f_Heaps_leastTints_7
      rw [k6, shlK h8, if_pos (nI_le (Nat.le_refl _) (by omega)), f1, bd2_s]
      refine ⟨σ3, ?_, f2, f3.trans k2⟩
      have hz : zb (if (srch m (okT e h K c) (wT e h K c) K 0 0 0 (fun _ => 0) (fun _ => 0) (MAXI, fun _ => 0)).1 = MAXI then 0 else 1) = true := by split <;> rfl
      rw [hz]; rfl) (fun x f hx ih x1 σ2 k2 k6 k16 kh kg k17 => by
      have hC2 := ewC_k k2 hC
      have hlt : thN c x K < 2 ^ e.1 := th_lt hcl
      obtain ⟨σ3, f1, f2, f3⟩ := fill_V hB hC2 (h := h) kg kh g99 hlt (off := 0) (by omega)
      have f1' : f_Tub_fill σ2 (nI (thN c x K)) 0 = some σ3 := f1
      have hls := lsN_le hB g99 (thN c x K) 0
      have e3 : σ3 = upI (upI σ2 3904 (nI (thN c x K))) 3905 (nI (lsN e (gN e h) (thN c x K) 0)) := by
        have := fill_C hB hC2 kg g99 hlt (off := 0) (by omega)
        rw [f1] at this
        exact Option.some.inj this
      have a16 : σ3.2.1 16 = σ2.2.1 16 := by rw [e3]; rfl
      have a17 : σ3.2.1 17 = σ2.2.1 17 := by rw [e3]; rfl
      have i6 : σ3.1 1506 = nI K := by rw [e3, upI_1, if_neg (by decide), upI_1, if_neg (by decide)]; exact k6
      have go : ∀ v : Int32, v = (if okT e h K c x = true then nI (wT e h K c x) else -1) → ∃ σ', f_Heaps_leastTints_7 f (upA σ3 17 x v) (nI m) (nI (x + 1)) = some ((if (srch m (okT e h K c) (wT e h K c) K 0 0 0 (fun _ => 0) (fun _ => 0) (MAXI, fun _ => 0)).1 = MAXI then 0 else 1), σ') ∧ hpC K m (fun _ => 0) (srch m (okT e h K c) (wT e h K c) K 0 0 0 (fun _ => 0) (fun _ => 0) (MAXI, fun _ => 0)) σ' ∧ kC σ' = kC σ := fun v hv => by
        refine ih (by omega) _ (by rw [kC_upA (by rfl), f2]; exact k2) i6 (fun i hi => by rw [upA_2, if_neg (by decide), a16]; exact k16 i hi) f3.2.2.1 (fun t ht => by rw [upA_2, if_neg (by decide)]; exact f3.2.1 t ht) (fun y y1 y2 => ?_)
        rw [upA_2, if_pos rfl]
        unfold upd
        by_cases z : y = x
        · rw [if_pos z, hv, z]
        · rw [if_neg z, a17]; exact k17 y y1 (by omega)
      unfold f_Heaps_leastTints_7
      rw [k6, shlK h8, if_neg (nI_ge hx (by omega)), thingsOf_C h8 (by omega) (fun i hi => by have := hcl i hi; omega) k6 k16, bind_s, f1', bind_s, goes_C hB f3.1 f3.2.2.2.1 hlt, spoilt_C hB f3.1 f3.2.2.1 f3.2.2.2.1 hlt hh, allTints_C hB f3 g99 hlt (by omega), bind_s, bind_s, bind_s, inb_nI (show x < 256 by omega) (by decide), nIt (show x < 2 ^ 31 by omega), nI_1]
      simp only [cond_true]
      have eok : okT e h K c x = (goN e (thN c x K) && decide (spN e h (thN c x K) = 0)) := rfl
      cases q : goN e (thN c x K)
      · rw [b2_f, if_pos rfl]
        exact go _ (by rw [eok, q, Bool.false_and, if_neg (by decide)])
      · rw [b2_t, if_neg i10]
        by_cases q2 : spN e h (thN c x K) = 0
        · rw [if_pos q2]
          refine go _ ?_
          rw [eok, q, decide_eq_true q2, if_pos (show (true && true) = true from rfl)]
          rfl
        · rw [if_neg q2]
          exact go _ (by rw [eok, q, decide_eq_false q2, if_neg (by decide)]))
    1 (Nat.two_pow_pos _) FU (by show _ < 1000; omega) (Nat.le_refl _) σ1 k1 a2 a3 (by rw [a4 3903 (by decide)]; exact h3) (fun t ht => by rw [a5 40 (by decide)]; exact hg t ht) (fun y y1 y2 => absurd y1 (by omega))
  exact main
