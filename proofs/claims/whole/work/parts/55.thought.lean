/-! a run in thought, by both, out of plain numbers -/
def sumB : Nat → Nat → (Nat → Nat) → Nat
  | 0, _, _ => 0
  | n + 1, b, f => sumB n b f + (if bt b n = true then f n else 0)
def noB : Nat → Nat → (Nat → Bool) → Bool
  | 0, _, _ => true
  | n + 1, b, p => noB n b p && !(bt b n && p n)
def orI : Nat → Nat → (Nat → Bool) → Int32
  | 0, _, _ => 0
  | n + 1, b, p => if (bt b n && p n) = true then orI n b p ||| ((1 : Int32) <<< (nI n &&& 31)) else orI n b p
theorem sumB_s (n b : Nat) (f : Nat → Nat) : sumB (n + 1) b f = sumB n b f + (if bt b n = true then f n else 0) := rfl
theorem noB_s (n b : Nat) (p : Nat → Bool) : noB (n + 1) b p = (noB n b p && !(bt b n && p n)) := rfl
theorem orI_s (n b : Nat) (p : Nat → Bool) : orI (n + 1) b p = if (bt b n && p n) = true then orI n b p ||| ((1 : Int32) <<< (nI n &&& 31)) else orI n b p := rfl
theorem sumB_le {b : Nat} {f : Nat → Nat} {m : Nat} : ∀ {n : Nat}, (∀ t, t < n → f t ≤ m) → sumB n b f ≤ n * m
  | 0, _ => Nat.zero_le _
  | n + 1, h => by
    unfold sumB
    have := sumB_le (b := b) (m := m) (n := n) (fun t ht => h t (by omega))
    have h2 := h n (by omega)
    rw [Nat.succ_mul]
    split <;> omega
theorem sumB_congr {b : Nat} {f g : Nat → Nat} : ∀ {n : Nat}, (∀ t, t < n → bt b t = true → f t = g t) → sumB n b f = sumB n b g
  | 0, _ => rfl
  | n + 1, h => by
    unfold sumB
    rw [sumB_congr (n := n) (fun t ht => h t (by omega))]
    by_cases q : bt b n = true
    · rw [if_pos q, if_pos q, h n (by omega) q]
    · rw [if_neg q, if_neg q]
theorem noB_hit {b : Nat} {p : Nat → Bool} : ∀ {n t : Nat}, t < n → bt b t = true → p t = true → noB n b p = false
  | n + 1, t, h, h1, h2 => by
    unfold noB
    by_cases q : t = n
    · subst q; rw [h1, h2]; simp
    · rw [noB_hit (n := n) (by omega) h1 h2]; rfl
theorem noB_at {b : Nat} {p : Nat → Bool} : ∀ {n t : Nat}, noB n b p = true → t < n → bt b t = true → p t = false := fun {n t} h ht h1 => by
  cases q : p t
  · rfl
  · rw [noB_hit ht h1 q] at h; cases h
theorem orI_nI {b : Nat} {p : Nat → Bool} : ∀ {n : Nat}, n ≤ 10 → ∃ c, c < 2 ^ n ∧ orI n b p = nI c
  | 0, _ => ⟨0, by decide, rfl⟩
  | n + 1, h => by
    obtain ⟨c, hc, e⟩ := orI_nI (b := b) (p := p) (n := n) (by omega)
    have h2 : (2 : Nat) ^ n ≤ 2 ^ 9 := Nat.pow_le_pow_right (by decide) (by omega)
    unfold orI
    split
    · rw [e, shl1_nI (by omega), or_nI (by omega) (by omega)]
      refine ⟨_, Nat.or_lt_two_pow (Nat.lt_of_lt_of_le hc ?_) ?_, rfl⟩
      · rw [Nat.pow_succ]; omega
      · rw [Nat.pow_succ]; omega
    · refine ⟨c, ?_, e⟩
      rw [Nat.pow_succ]; omega
theorem bt_isOf {n b t : Nat} (hn : n ≤ 10) (hb : b < 2 ^ n) (ht : t < n) : f_Top_isOf (nI b) (nI t) = some (b2 (bt b t)) := isOf_eq (by have : (2 : Nat) ^ n ≤ 2 ^ 10 := Nat.pow_le_pow_right (by decide) hn; omega) (by omega)
theorem bt_M {n b t : Nat} (hn : n ≤ 10) (hb : b < 2 ^ n) (ht : t < n) : nI b >>> (nI t &&& 31) &&& 1 = b2 (bt b t) := bit_M (by have : (2 : Nat) ^ n ≤ 2 ^ 10 := Nat.pow_le_pow_right (by decide) hn; omega) (by omega)
theorem p10 {n b : Nat} (hn : n ≤ 10) (hb : b < 2 ^ n) : b < 1024 := by have : (2 : Nat) ^ n ≤ 2 ^ 10 := Nat.pow_le_pow_right (by decide) hn; omega
/-- dye given at a heat -/
def gN (e : Ew) (h : Nat) (t : Nat) : Nat := dN e t (e.2.1 t 1) (e.2.1 t 2) h
theorem gN_le {e : Ew} (hB : ewB e) {h t : Nat} (hh : h ≤ 9) (ht : t < e.1) : gN e h t ≤ 99 :=
  (dN_eq e (hB.2.1 t 1 ht (by decide)).2 (by have := (hB.2.1 t 2 ht (by decide)).2; have e2 : hiN 2 = 99 := rfl; omega) hh).2
def tN (c d : Nat) : Nat := if c = 0 then d else if c = 1 then d / 2 else if c = 2 then d / 10 else 0
theorem tN_0 (c : Nat) : tN c 0 = 0 := by unfold tN; repeat' split
                                          all_goals rfl
theorem tN_le (c d : Nat) : tN c d ≤ d := by unfold tN; repeat' split
                                             all_goals omega
def spN (e : Ew) (h b : Nat) : Int32 := orI e.1 b (fun t => decide (e.2.1 t 3 < h))
def goN (e : Ew) (b : Nat) : Bool := noB e.1 b e.2.2.2.1 && decide (sumB e.1 b (fun t => e.2.1 t 4) ≤ e.2.2.1 0)
def lsN (e : Ew) (gv : Nat → Nat) (b off : Nat) : Nat := sumB e.1 b gv - off
def alN (e : Ew) (gv : Nat → Nat) (b l : Nat) : Nat := sumB e.1 b (fun t => tN (e.2.1 t 0) (l - gv t))
def sfN (e : Ew) (gv : Nat → Nat) (h b l most : Nat) : Bool := goN e b && (decide (spN e h b = 0) && noB e.1 b (fun t => decide (most < tN (e.2.1 t 0) (l - gv t))))
theorem told_e {e : Ew} {σ : St} (hB : ewB e) (hC : ewC e σ) {t k : Nat} (ht : t < e.1) (hk : k < 8) : f_Basket_told σ (nI t) (nI k) = some (nI (e.2.1 t k)) := by
  rw [← hC.2.1 t k ht hk]; exact told_C σ (by have := hB.1; omega) hk
theorem house_e {e : Ew} {σ : St} (hC : ewC e σ) {k : Nat} (hk : k < 4) : f_Basket_toldOfHouse σ (nI (8 + k)) = some (nI (e.2.2.1 k)) := by
  rw [← hC.2.2.1 k hk]; exact house_C σ hk
theorem b2_nt {p : Bool} (h : p = true) : b2 p = 1 := by rw [h]; rfl
theorem b2_nf {p : Bool} (h : p = false) : b2 p = 0 := by rw [h]; rfl
theorem i01 : ¬ (0 : Int32) = 1 := by decide
theorem bt_f {b t : Nat} (h : ¬ bt b t = true) : bt b t = false := by cases q : bt b t; rfl; exact absurd q h
/-! the class's tub -/
theorem warm_C {e : Ew} {σ : St} (hB : ewB e) (hC : ewC e σ) {h : Nat} (hh : h ≤ 9) : ∃ σ', f_Tub_warm σ (nI h) = some σ' ∧ kC σ' = kC σ ∧ σ'.1 3903 = nI h ∧ ∀ t, t < e.1 → σ'.2.1 40 t = nI (gN e h t) := by
  have hn := hB.1
  have main := loopF (n := e.1) (P := fun t fuel => ∀ σ1, kC σ1 = kC σ → σ1.1 3903 = nI h → (∀ u, u < t → σ1.2.1 40 u = nI (gN e h u)) → ∃ σ', f_Tub_warm_7 fuel σ1 (nI h) (nI t) = some σ' ∧ kC σ' = kC σ ∧ σ'.1 3903 = nI h ∧ ∀ u, u < e.1 → σ'.2.1 40 u = nI (gN e h u))
    (fun f σ1 k1 k2 k3 => by
      have c1 := (ewC_k k1 hC).1
      refine ⟨σ1, ?_, k1, k2, k3⟩
      unfold f_Tub_warm_7
      rw [c1, if_pos (nI_le (Nat.le_refl _) (by omega))])
    (fun t f ht ih σ1 k1 k2 k3 => by
      have hC1 := ewC_k k1 hC
      have q1 := told_e hB hC1 (k := 1) ht (by decide)
      have q2 := told_e hB hC1 (k := 2) ht (by decide)
      obtain ⟨σ2, d1, d2⟩ := dyeIf_C hB hC1 (t := t) (v := e.2.1 t 1) (w := e.2.1 t 2) (h := h) ht (hB.2.1 t 1 ht (by decide)).2 (by have := (hB.2.1 t 2 ht (by decide)).2; have e2 : hiN 2 = 99 := rfl; omega) hh
      obtain ⟨σ', r1, r2⟩ := ih (upA σ2 40 t (nI (gN e h t))) (by rw [kC_upA (by rfl), samD_kC d2, k1]) (by rw [upA_1, d2.1 3903 (by decide)]; exact k2) (fun u hu => by
        rw [upA_2, if_pos rfl]
        by_cases q : u = t
        · subst q; simp [upd]
        · simp only [upd, if_neg q]; rw [d2.2.1 40 (by decide) (by decide)]; exact k3 u (by omega))
      refine ⟨σ', ?_, r2⟩
      unfold f_Tub_warm_7
      rw [hC1.1, if_neg (nI_ge ht (by omega))]
      have q1' : f_Basket_told σ1 (nI t) 1 = _ := q1
      have q2' : f_Basket_told σ1 (nI t) 2 = _ := q2
      simp only [q1', q2', bind_s, d1, bd2_s, inb_nI (show t < 10 by omega) (by decide), cond_true, nIt (show t < 2 ^ 31 by omega), nI_1]
      exact r1)
    0 (Nat.zero_le _) FU (by show _ < 1000; omega) (upI σ 3903 (nI h)) (kC_upI (by rfl)) rfl (fun u hu => absurd hu (Nat.not_lt_zero u))
  exact main
theorem caught_C {e : Ew} {σ : St} (hC : ewC e σ) (c : Nat) : f_Tub_caughtBy σ (nI c) = some (nI (c * e.2.2.1 1)) := by
  unfold f_Tub_caughtBy
  have q : f_Basket_toldOfHouse σ 9 = _ := house_e hC (k := 1) (by decide)
  rw [q, bind_s, pk_mul]
theorem fill_C {e : Ew} {σ : St} (hB : ewB e) (hC : ewC e σ) {gv : Nat → Nat} (hg : ∀ t, t < e.1 → σ.2.1 40 t = nI (gv t)) (hg2 : ∀ t, t < e.1 → gv t ≤ 99) {b off : Nat} (hb : b < 2 ^ e.1) (ho : off ≤ 1000) : f_Tub_fill σ (nI b) (nI off) = some (upI (upI σ 3904 (nI b)) 3905 (nI (lsN e gv b off))) := by
  have hn := hB.1
  unfold f_Tub_fill
  refine loopF (n := e.1) (P := fun t fuel => f_Tub_fill_10 fuel (upI σ 3904 (nI b)) (nI b) (nI off) (nI (sumB t b gv)) (nI t) = some (upI (upI σ 3904 (nI b)) 3905 (nI (lsN e gv b off)))) (fun f => ?_) (fun t f ht ih => ?_) 0 (Nat.zero_le _) FU (by show _ < 1000; omega)
  · unfold f_Tub_fill_10
    have : sumB e.1 b gv ≤ e.1 * 99 := sumB_le hg2
    rw [upI_1, if_neg (show ¬ (103 : Nat) = 3904 by decide), hC.1, if_pos (nI_le (Nat.le_refl _) (by omega)), imax_sub (by omega) (by omega)]
    rfl
  · unfold f_Tub_fill_10
    rw [upI_1, if_neg (show ¬ (103 : Nat) = 3904 by decide), hC.1, if_neg (nI_ge ht (by omega)), bt_isOf hn hb ht, bind_s]
    rw [sumB_s] at ih
    by_cases q : bt b t = true
    · rw [b2_nt q, if_neg i10, inb_nI (show t < 10 by omega) (by decide), nIt (by omega), upI_2, hg t ht, nI_add, nI_1]
      rw [if_pos q] at ih
      exact ih
    · rw [b2_nf (bt_f q), if_pos rfl, nI_1]
      rw [if_neg q] at ih
      rw [show nI (sumB t b gv) + (0 : Int32) = nI (sumB t b gv + 0) from nI_add _ 0]
      exact ih
/-- what lies in the tub -/
def tubV (e : Ew) (gv : Nat → Nat) (h b l : Nat) (σ : St) : Prop := ewC e σ ∧ (∀ t, t < e.1 → σ.2.1 40 t = nI (gv t)) ∧ σ.1 3903 = nI h ∧ σ.1 3904 = nI b ∧ σ.1 3905 = nI l
theorem tintOf_C {e : Ew} {σ : St} {gv : Nat → Nat} {l : Nat} (hB : ewB e) (hC : ewC e σ) (hg : ∀ t, t < e.1 → σ.2.1 40 t = nI (gv t)) (hl : σ.1 3905 = nI l) (hg2 : ∀ t, t < e.1 → gv t ≤ 99) (hl2 : l ≤ 1000) {t : Nat} (ht : t < e.1) : f_Tub_tintOf σ (nI t) = some (nI (tN (e.2.1 t 0) (l - gv t))) := by
  have hn := hB.1
  have h3 : e.2.1 t 0 ≤ 3 := (hB.2.1 t 0 ht (by decide)).2
  have g99 := hg2 t ht
  unfold f_Tub_tintOf f_Basket_isThing
  have q0 : f_Basket_told σ (nI t) 0 = some (nI (e.2.1 t 0)) := told_e hB hC (k := 0) ht (by decide)
  rw [hC.1, within_eq, bind_s, bif_t (zb_b2 _), decide_eq_true ((isT (by omega) _).mpr ⟨t, ht, rfl⟩), b2_t, bind_s, if_neg i10, inb_nI (show t < 10 by omega) (by decide), q0, hl, nIt (by omega), hg t ht, imax_sub (by omega) (by omega)]
  generalize e.2.1 t 0 = c at h3
  unfold tN
  match c, h3 with
  | 0, _ => rfl
  | 1, _ => exact congrArg some (pk_div (a := l - gv t) (d := 2) (by omega) (by decide) (by decide))
  | 2, _ => exact congrArg some (pk_div (a := l - gv t) (d := 10) (by omega) (by decide) (by decide))
  | 3, _ => rfl
theorem allTints_C {e : Ew} {σ : St} {gv : Nat → Nat} {h b l : Nat} (hB : ewB e) (hv : tubV e gv h b l σ) (hg2 : ∀ t, t < e.1 → gv t ≤ 99) (hb : b < 2 ^ e.1) (hl2 : l ≤ 1000) : f_Tub_allTints σ = some (nI (alN e gv b l)) := by
  have hn := hB.1
  obtain ⟨hC, hg, v1, v2, v3⟩ := hv
  unfold f_Tub_allTints
  refine loopF (n := e.1) (P := fun t fuel => f_Tub_allTints_4 fuel σ (nI (sumB t b (fun t => tN (e.2.1 t 0) (l - gv t)))) (nI t) = some (nI (alN e gv b l))) (fun f => ?_) (fun t f ht ih => ?_) 0 (Nat.zero_le _) FU (by show _ < 1000; omega)
  · unfold f_Tub_allTints_4
    rw [hC.1, if_pos (nI_le (Nat.le_refl _) (by omega))]
    rfl
  · unfold f_Tub_allTints_4
    rw [hC.1, if_neg (nI_ge ht (by omega)), v2, bt_isOf hn hb ht, bind_s]
    rw [sumB_s] at ih
    by_cases q : bt b t = true
    · rw [b2_nt q, if_neg i10, tintOf_C hB hC hg v3 hg2 hl2 ht, bind_s, nI_add, nI_1]
      rw [if_pos q] at ih
      exact ih
    · rw [b2_nf (bt_f q), if_pos rfl, nI_1]
      rw [if_neg q] at ih
      rw [show ∀ s : Nat, nI s + (0 : Int32) = nI (s + 0) from fun s => nI_add s 0]
      exact ih
theorem spoilt_C {e : Ew} {σ : St} {h b : Nat} (hB : ewB e) (hC : ewC e σ) (v1 : σ.1 3903 = nI h) (v2 : σ.1 3904 = nI b) (hb : b < 2 ^ e.1) (hh : h ≤ 9) : f_Tub_spoilt σ = some (spN e h b) := by
  have hn := hB.1
  unfold f_Tub_spoilt
  refine loopF (n := e.1) (P := fun t fuel => f_Tub_spoilt_4 fuel σ (orI t b (fun t => decide (e.2.1 t 3 < h))) (nI t) = some (spN e h b)) (fun f => ?_) (fun t f ht ih => ?_) 0 (Nat.zero_le _) FU (by show _ < 1000; omega)
  · unfold f_Tub_spoilt_4
    rw [hC.1, if_pos (nI_le (Nat.le_refl _) (by omega))]
    rfl
  · unfold f_Tub_spoilt_4
    have q3 : f_Basket_told σ (nI t) 3 = some (nI (e.2.1 t 3)) := told_e hB hC (k := 3) ht (by decide)
    have h9 := (hB.2.1 t 3 ht (by decide)).2
    have e9 : hiN 3 = 9 := rfl
    rw [hC.1, if_neg (nI_ge ht (by omega)), v2, bt_isOf hn hb ht, bind_s, q3, bind_s, v1]
    rw [orI_s] at ih
    by_cases q : bt b t = true
    · rw [b2_nt q, if_neg i10, nI_1]
      rw [q, Bool.true_and] at ih
      by_cases r : e.2.1 t 3 < h
      · rw [decide_eq_true r, if_pos rfl] at ih
        rw [if_neg (nI_ge r (by omega))]
        exact ih
      · rw [decide_eq_false r, if_neg (by decide)] at ih
        rw [if_pos (nI_le (by omega) (by omega))]
        exact ih
    · rw [b2_nf (bt_f q), if_pos rfl, nI_1]
      rw [bt_f q, Bool.false_and, if_neg (by decide)] at ih
      exact ih
theorem mayGo_C {e : Ew} {σ : St} {b : Nat} (hB : ewB e) (hC : ewC e σ) (hb : b < 2 ^ e.1) : f_Tub_mayGo σ (nI b) = some (b2 (goN e b)) := by
  have hn := hB.1
  unfold f_Tub_mayGo
  refine loopF (n := e.1) (P := fun t fuel => noB t b e.2.2.2.1 = true → f_Tub_mayGo_4 fuel σ (nI b) (nI (sumB t b (fun t => e.2.1 t 4))) (nI t) = some (b2 (goN e b))) (fun f hno => ?_) (fun t f ht ih hno => ?_) 0 (Nat.zero_le _) FU (by show _ < 1000; omega) rfl
  · unfold f_Tub_mayGo_4
    have q8 : f_Basket_toldOfHouse σ 8 = some (nI (e.2.2.1 0)) := house_e hC (k := 0) (by decide)
    have h60 := (hB.2.2.1 0 (by decide)).2
    have e60 : hiN (8 + 0) = 60 := rfl
    have hs : sumB e.1 b (fun t => e.2.1 t 4) ≤ e.1 * 9 := sumB_le (fun t ht => (hB.2.1 t 4 ht (by decide)).2)
    rw [hC.1, if_pos (nI_le (Nat.le_refl _) (by omega)), q8, bind_s]
    unfold goN
    rw [hno, Bool.true_and]
    by_cases r : sumB e.1 b (fun t => e.2.1 t 4) ≤ e.2.2.1 0
    · rw [decide_eq_true r, if_neg (nI_nlt r (by omega))]; rfl
    · rw [decide_eq_false r, if_pos (nI_lt (by omega) (by omega))]; rfl
  · unfold f_Tub_mayGo_4
    have q4 : f_Basket_told σ (nI t) 4 = some (nI (e.2.1 t 4)) := told_e hB hC (k := 4) ht (by decide)
    rw [hC.1, if_neg (nI_ge ht (by omega)), bt_isOf hn hb ht, bind_s, inb_nI (show t < 10 by omega) (by decide), q4, bind_s, nIt (by omega), hC.2.2.2.1 t ht]
    rw [sumB_s] at ih
    rw [noB_s] at ih
    by_cases q : bt b t = true
    · rw [b2_nt q, if_neg i10, nI_add, nI_1, cond_true]
      rw [if_pos q, hno, q, Bool.true_and, Bool.true_and] at ih
      cases r : e.2.2.2.1 t
      · rw [r] at ih
        rw [b2_f, if_pos rfl]
        exact ih rfl
      · rw [b2_t, if_neg i10]
        unfold goN
        rw [noB_hit ht q r]; rfl
    · rw [b2_nf (bt_f q), if_pos rfl, nI_1]
      rw [if_neg q, hno, bt_f q] at ih
      exact ih rfl
theorem goes_C {e : Ew} {σ : St} {b : Nat} (hB : ewB e) (hC : ewC e σ) (v2 : σ.1 3904 = nI b) (hb : b < 2 ^ e.1) : f_Tub_goes σ = some (b2 (goN e b)) := by
  unfold f_Tub_goes
  rw [v2, mayGo_C hB hC hb, bind_s, bif_t (zb_b2 _)]
theorem isSafe_C {e : Ew} {σ : St} {gv : Nat → Nat} {h b l most : Nat} (hB : ewB e) (hv : tubV e gv h b l σ) (hg2 : ∀ t, t < e.1 → gv t ≤ 99) (hb : b < 2 ^ e.1) (hl2 : l ≤ 1000) (hh : h ≤ 9) (hm : most ≤ 99) : f_Tub_isSafe σ (nI most) = some (b2 (sfN e gv h b l most)) := by
  have hn := hB.1
  obtain ⟨hC, hg, v1, v2, v3⟩ := hv
  unfold f_Tub_isSafe sfN
  rw [goes_C hB hC v2 hb, spoilt_C hB hC v1 v2 hb hh, bind_s]
  by_cases q1 : goN e b = true
  · rw [b2_nt q1, if_neg i10, bind_s, q1, Bool.true_and]
    by_cases q2 : spN e h b = 0
    · rw [if_pos q2, decide_eq_true q2, Bool.true_and]
      refine loopF (n := e.1) (P := fun t fuel => noB t b (fun t => decide (most < tN (e.2.1 t 0) (l - gv t))) = true → f_Tub_isSafe_18 fuel σ (nI most) (nI t) = some (b2 (noB e.1 b (fun t => decide (most < tN (e.2.1 t 0) (l - gv t)))))) (fun f hno => ?_) (fun t f ht ih hno => ?_) 0 (Nat.zero_le _) FU (by show _ < 1000; omega) rfl
      · unfold f_Tub_isSafe_18
        rw [hC.1, if_pos (nI_le (Nat.le_refl _) (by omega)), hno]; rfl
      · unfold f_Tub_isSafe_18
        have hle := tN_le (e.2.1 t 0) (l - gv t)
        rw [hC.1, if_neg (nI_ge ht (by omega)), v2, bt_isOf hn hb ht, bind_s, tintOf_C hB hC hg v3 hg2 hl2 ht, bind_s]
        rw [noB_s] at ih
        by_cases q : bt b t = true
        · rw [b2_nt q, if_neg i10, nI_1]
          rw [hno, q, Bool.true_and, Bool.true_and] at ih
          by_cases r : most < tN (e.2.1 t 0) (l - gv t)
          · rw [if_neg (nI_ge r (by omega)), noB_hit (p := fun t => decide (most < tN (e.2.1 t 0) (l - gv t))) ht q (decide_eq_true r)]; rfl
          · rw [if_pos (nI_le (by omega) (by omega))]
            exact ih (by rw [decide_eq_false r]; rfl)
        · rw [b2_nf (bt_f q), if_pos rfl, nI_1]
          exact ih (by rw [hno, bt_f q]; rfl)
    · rw [if_neg q2, decide_eq_false q2]; rfl
  · rw [b2_nf (Bool.eq_false_iff.mpr q1), if_pos rfl, Bool.eq_false_iff.mpr q1]; rfl
