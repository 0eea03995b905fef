/-! washing in deed -/
def bump (f : Nat → Int32) (va vs vc : Int32) : Nat → Int32 := fun k => if k = 0 then f 0 + 1 else if k = 1 then f 1 + va else if k = 2 then f 2 + vs else if k = 3 then f 3 + vc else f k
theorem cl0 : (0 : Int32).toNatClampNeg = 0 := rfl
theorem cl1 : (1 : Int32).toNatClampNeg = 1 := rfl
theorem cl2 : (2 : Int32).toNatClampNeg = 2 := rfl
theorem cl3 : (3 : Int32).toNatClampNeg = 3 := rfl
theorem upA_st (σ : St) (r i : Nat) (v : Int32) : upA σ r i v = stA σ r (upd (σ.2.1 r) i v) := rfl
theorem stA_st (σ : St) (r : Nat) (f g : Nat → Int32) : stA (stA σ r f) r g = stA σ r g := by
  unfold stA
  refine Prod.ext rfl (Prod.ext ?_ rfl)
  funext b
  show va_up (va_up σ.2.1 r f) r g b = va_up σ.2.1 r g b
  by_cases q : b = r
  · subst q; simp [va_up]
  · simp [va_up, q]
theorem stA_at (σ : St) (r : Nat) (f : Nat → Int32) : (stA σ r f).2.1 r = f := by rw [stA_2, if_pos rfl]
theorem up4_eq (σ : St) (r : Nat) (va vs vc : Int32) : (upA (upA (upA (upA σ r ((0 : Int32).toNatClampNeg) ((σ.2.1 r (0 : Int32).toNatClampNeg) + (1 : Int32))) r ((1 : Int32).toNatClampNeg) (((upd (σ.2.1 r) ((0 : Int32).toNatClampNeg) ((σ.2.1 r (0 : Int32).toNatClampNeg) + (1 : Int32))) (1 : Int32).toNatClampNeg) + va)) r ((2 : Int32).toNatClampNeg) (((upd (upd (σ.2.1 r) ((0 : Int32).toNatClampNeg) ((σ.2.1 r (0 : Int32).toNatClampNeg) + (1 : Int32))) ((1 : Int32).toNatClampNeg) (((upd (σ.2.1 r) ((0 : Int32).toNatClampNeg) ((σ.2.1 r (0 : Int32).toNatClampNeg) + (1 : Int32))) (1 : Int32).toNatClampNeg) + va)) (2 : Int32).toNatClampNeg) + vs)) r ((3 : Int32).toNatClampNeg) (((upd (upd (upd (σ.2.1 r) ((0 : Int32).toNatClampNeg) ((σ.2.1 r (0 : Int32).toNatClampNeg) + (1 : Int32))) ((1 : Int32).toNatClampNeg) (((upd (σ.2.1 r) ((0 : Int32).toNatClampNeg) ((σ.2.1 r (0 : Int32).toNatClampNeg) + (1 : Int32))) (1 : Int32).toNatClampNeg) + va)) ((2 : Int32).toNatClampNeg) (((upd (upd (σ.2.1 r) ((0 : Int32).toNatClampNeg) ((σ.2.1 r (0 : Int32).toNatClampNeg) + (1 : Int32))) ((1 : Int32).toNatClampNeg) (((upd (σ.2.1 r) ((0 : Int32).toNatClampNeg) ((σ.2.1 r (0 : Int32).toNatClampNeg) + (1 : Int32))) (1 : Int32).toNatClampNeg) + va)) (2 : Int32).toNatClampNeg) + vs)) (3 : Int32).toNatClampNeg) + vc)) = stA σ r (bump (σ.2.1 r) va vs vc) := by
  simp only [cl0, cl1, cl2, cl3, upA_st, stA_at, stA_st]
  congr 1
  funext k
  unfold bump upd
  by_cases k0 : k = 0
  · subst k0; simp
  · by_cases k1 : k = 1
    · subst k1; simp
    · by_cases k2 : k = 2
      · subst k2; simp
      · by_cases k3 : k = 3
        · subst k3; simp
        · simp [k0, k1, k2, k3]
theorem up2_eq (σ : St) (r : Nat) (va : Int32) : ∃ f, (upA (upA σ r ((0 : Int32).toNatClampNeg) ((σ.2.1 r (0 : Int32).toNatClampNeg) + (1 : Int32))) r ((1 : Int32).toNatClampNeg) (((upd (σ.2.1 r) ((0 : Int32).toNatClampNeg) ((σ.2.1 r (0 : Int32).toNatClampNeg) + (1 : Int32))) (1 : Int32).toNatClampNeg) + va)) = stA σ r f := by
  simp only [cl0, cl1, upA_st, stA_at, stA_st]
  exact ⟨_, rfl⟩
theorem ewC_10 {e : Ew} {σ : St} (h : ewC e σ) (f : Nat → Int32) : ewC e (stA σ 10 f) := by
  obtain ⟨c1, c2, c3, c4, c5, c6, c7⟩ := h
  refine ⟨c1, fun t k ht hk => ?_, fun k hk => ?_, fun t ht => ?_, c5, c6, fun i hi => ?_⟩
  · rw [stA_2, if_neg (by decide)]; exact c2 t k ht hk
  · rw [stA_2, if_neg (by decide)]; exact c3 k hk
  · rw [stA_2, if_neg (by decide)]; exact c4 t ht
  · rw [stA_2, if_neg (by decide)]; exact c7 i hi
theorem ewM_30 {e : Ew} {τ : St} (h : ewM e τ) (f : Nat → Int32) : ewM e (stA τ 30 f) := by
  obtain ⟨c1, c2, c3, c4, c5⟩ := h
  refine ⟨c1, fun t k ht hk => ?_, c3, fun t ht => ?_, ?_⟩
  · rw [stA_2, if_neg (by omega)]; exact c2 t k ht hk
  · rw [stA_2, if_neg (by decide)]; exact c4 t ht
  · unfold lawM at *
    rw [stA_1, stA_2, if_neg (by decide), stA_2, if_neg (by decide), stA_2, if_neg (by decide), stA_2, if_neg (by decide), stA_2, if_neg (by decide)]
    exact c5
theorem ewM_28 {e : Ew} {τ : St} (h : ewM e τ) (i : Nat) (v : Int32) : ewM e (upA τ 28 i v) := by
  obtain ⟨c1, c2, c3, c4, c5⟩ := h
  refine ⟨c1, fun t k ht hk => ?_, c3, fun t ht => ?_, ?_⟩
  · rw [upA_2, if_neg (by omega)]; exact c2 t k ht hk
  · rw [upA_2, if_neg (by decide)]; exact c4 t ht
  · unfold lawM at *
    rw [upA_1, upA_2, if_neg (by decide), upA_2, if_neg (by decide), upA_2, if_neg (by decide), upA_2, if_neg (by decide), upA_2, if_neg (by decide)]
    exact c5
/-- those of a set ahead of t washed once more -/
def eW (e : Ew) (b t : Nat) : Ew := (e.1, fun u k => if k = 2 ∧ u < t ∧ bt b u = true then min 99 (e.2.1 u 2 + 1) else e.2.1 u k, e.2.2.1, e.2.2.2.1, e.2.2.2.2)
theorem eW_B {e : Ew} (b t : Nat) (hB : ewB e) : ewB (eW e b t) := by
  obtain ⟨b1, b2', b3, b4⟩ := hB
  refine ⟨b1, fun u k hu hk => ?_, b3, b4⟩
  show loN k ≤ (if k = 2 ∧ u < t ∧ bt b u = true then min 99 (e.2.1 u 2 + 1) else e.2.1 u k) ∧ (if k = 2 ∧ u < t ∧ bt b u = true then min 99 (e.2.1 u 2 + 1) else e.2.1 u k) ≤ hiN k
  by_cases q : k = 2 ∧ u < t ∧ bt b u = true
  · rw [if_pos q, q.1]
    exact ⟨Nat.zero_le _, Nat.min_le_left _ _⟩
  · rw [if_neg q]; exact b2' u k hu hk
theorem eW_0 (e : Ew) (b t u k : Nat) (hk : k ≠ 2) : (eW e b t).2.1 u k = e.2.1 u k := by
  show (if k = 2 ∧ u < t ∧ bt b u = true then min 99 (e.2.1 u 2 + 1) else e.2.1 u k) = _
  rw [if_neg (fun z => hk z.1)]
theorem eW_at (e : Ew) (b t : Nat) : (eW e b t).2.1 t 2 = e.2.1 t 2 := by
  show (if 2 = 2 ∧ t < t ∧ bt b t = true then min 99 (e.2.1 t 2 + 1) else e.2.1 t 2) = _
  rw [if_neg (fun z => Nat.lt_irrefl _ z.2.1)]
theorem eW_z (e : Ew) (b : Nat) : eW e b 0 = e := by
  obtain ⟨n, T, H, G, L⟩ := e
  show (n, (fun u k => if k = 2 ∧ u < 0 ∧ bt b u = true then min 99 (T u 2 + 1) else T u k), H, G, L) = (n, T, H, G, L)
  congr 2
  funext u k
  rw [if_neg (fun z => Nat.not_lt_zero _ z.2.1)]
theorem eW_s (e : Ew) (b t u k : Nat) : (eW e b (t + 1)).2.1 u k = if k = 2 ∧ u = t ∧ bt b t = true then min 99 (e.2.1 t 2 + 1) else (eW e b t).2.1 u k := by
  show (if k = 2 ∧ u < t + 1 ∧ bt b u = true then min 99 (e.2.1 u 2 + 1) else e.2.1 u k) = if k = 2 ∧ u = t ∧ bt b t = true then min 99 (e.2.1 t 2 + 1) else (if k = 2 ∧ u < t ∧ bt b u = true then min 99 (e.2.1 u 2 + 1) else e.2.1 u k)
  by_cases k2 : k = 2
  · by_cases ut : u = t
    · subst ut
      by_cases q : bt b u = true
      · rw [if_pos ⟨k2, by omega, q⟩, if_pos ⟨k2, rfl, q⟩]
      · rw [if_neg (fun z => q z.2.2), if_neg (fun z => q z.2.2), if_neg (fun z => q z.2.2)]
    · rw [if_neg (show ¬ (k = 2 ∧ u = t ∧ bt b t = true) from fun z => ut z.2.1)]
      by_cases q : u < t ∧ bt b u = true
      · have q1 := q.1
        rw [if_pos (show k = 2 ∧ u < t + 1 ∧ bt b u = true from ⟨k2, by omega, q.2⟩), if_pos (show k = 2 ∧ u < t ∧ bt b u = true from ⟨k2, q.1, q.2⟩)]
      · rw [if_neg (show ¬ (k = 2 ∧ u < t + 1 ∧ bt b u = true) from fun z => q ⟨by have := z.2.1; omega, z.2.2⟩), if_neg (show ¬ (k = 2 ∧ u < t ∧ bt b u = true) from fun z => q z.2)]
  · rw [if_neg (fun z => k2 z.1), if_neg (fun z => k2 z.1), if_neg (fun z => k2 z.1)]
theorem imin99 {w : Nat} (hw : w < 1000) : imin 99 (nI w) = nI (min 99 w) := by
  unfold imin
  by_cases q : w < 99
  · rw [if_pos (show nI w < (99 : Int32) from nI_lt (b := 99) q (by decide)), Nat.min_eq_right (by omega)]
  · rw [if_neg (show ¬ nI w < (99 : Int32) from nI_nlt (b := 99) (by omega) (by omega)), Nat.min_eq_left (by omega)]; rfl
def wcC (e : Ew) (b t : Nat) (tn : Nat → Nat) (σ0 σ : St) : Prop := ewC (eW e b t) σ ∧ (∀ k, σ.1 k = σ0.1 k) ∧ (∀ a, a ≠ 2 → a ≠ 3 → σ.2.1 a = σ0.2.1 a) ∧ σ.2.2 = σ0.2.2 ∧ ∀ u, σ.2.1 3 u = if u < t ∧ bt b u = true then imin 99 (σ0.2.1 3 u + nI (tn u)) else σ0.2.1 3 u
def wcM (e : Ew) (b t : Nat) (tn : Nat → Nat) (τ0 τ : St) : Prop := ewM e τ ∧ τ.1 = τ0.1 ∧ (∀ a, a ≠ 19 → a ≠ 20 → a ≠ 28 → τ.2.1 a = τ0.2.1 a) ∧ τ.2.2 = τ0.2.2 ∧ ∀ u, τ.2.1 28 u = if u < t ∧ bt b u = true then imin 99 (τ0.2.1 28 u + nI (tn u)) else τ0.2.1 28 u
def wdM (e : Ew) (b t : Nat) (τ0 τ : St) : Prop := ewM (eW e b t) τ ∧ τ.1 = τ0.1 ∧ (∀ a, a ≠ 3 → τ.2.1 a = τ0.2.1 a) ∧ τ.2.2 = τ0.2.2
theorem step28 {b t : Nat} {f g : Nat → Int32} {tn : Nat → Nat} (q : bt b t = true) (h : ∀ u, f u = if u < t ∧ bt b u = true then imin 99 (g u + nI (tn u)) else g u) : ∀ u, upd f t (imin 99 (f t + nI (tn t))) u = if u < t + 1 ∧ bt b u = true then imin 99 (g u + nI (tn u)) else g u := by
  intro u
  unfold upd
  by_cases e : u = t
  · subst e
    rw [if_pos rfl, if_pos ⟨by omega, q⟩, h u, if_neg (fun z => Nat.lt_irrefl _ z.1)]
  · rw [if_neg e, h u]
    by_cases q2 : u < t ∧ bt b u = true
    · rw [if_pos q2, if_pos ⟨by omega, q2.2⟩]
    · rw [if_neg q2, if_neg (fun z => q2 ⟨by omega, z.2⟩)]
theorem skip28 {b t : Nat} {f g : Nat → Int32} {tn : Nat → Nat} (q : ¬ bt b t = true) (h : ∀ u, f u = if u < t ∧ bt b u = true then imin 99 (g u + nI (tn u)) else g u) : ∀ u, f u = if u < t + 1 ∧ bt b u = true then imin 99 (g u + nI (tn u)) else g u := by
  intro u
  rw [h u]
  by_cases q2 : u < t ∧ bt b u = true
  · rw [if_pos q2, if_pos ⟨by omega, q2.2⟩]
  · rw [if_neg q2, if_neg (fun z => q2 ⟨by
      rcases Nat.lt_or_ge u t with z2 | z2
      · exact z2
      · have : u = t := by omega
        subst this
        exact absurd z.2 q, z.2⟩)]
theorem eW_skip {e : Ew} {b t : Nat} (q : ¬ bt b t = true) : eW e b (t + 1) = eW e b t := by
  show (e.1, (fun u k => if k = 2 ∧ u < t + 1 ∧ bt b u = true then min 99 (e.2.1 u 2 + 1) else e.2.1 u k), e.2.2.1, e.2.2.2.1, e.2.2.2.2) = (e.1, (fun u k => if k = 2 ∧ u < t ∧ bt b u = true then min 99 (e.2.1 u 2 + 1) else e.2.1 u k), e.2.2.1, e.2.2.2.1, e.2.2.2.2)
  congr 2
  funext u k
  have := eW_s e b t u k
  rw [if_neg (fun z => q z.2.2)] at this
  exact this
theorem washC {e : Ew} {σ0 : St} {gv : Nat → Nat} {h b l : Nat} {A : Int32} (hB : ewB e) (hv : tubV e gv h b l σ0) (hg2 : ∀ t, t < e.1 → gv t ≤ 99) (hb : b < 2 ^ e.1) (hl2 : l ≤ 1000) : ∃ σ', f_Deeds_washAll_54 FU σ0 A 0 = some (A, σ') ∧ wcC e b e.1 (fun t => tN (e.2.1 t 0) (l - gv t)) σ0 σ' := by
  have hn := hB.1
  obtain ⟨hC, hg, v1, v2, v3⟩ := hv
  refine loopF (n := e.1) (P := fun t fuel => ∀ σ, wcC e b t (fun t => tN (e.2.1 t 0) (l - gv t)) σ0 σ → ∃ σ', f_Deeds_washAll_54 fuel σ A (nI t) = some (A, σ') ∧ wcC e b e.1 (fun t => tN (e.2.1 t 0) (l - gv t)) σ0 σ') (fun f σ hw => ?_) (fun t f ht ih σ hw => ?_) 0 (Nat.zero_le _) FU (by show _ < 1000; omega) σ0 ⟨by rw [eW_z]; exact hC, fun _ => rfl, fun _ _ _ => rfl, rfl, fun u => by rw [if_neg (fun z => Nat.not_lt_zero _ z.1)]⟩
  · unfold f_Deeds_washAll_54
    rw [hw.1.1, show (eW e b e.1).1 = e.1 from rfl, if_pos (nI_le (Nat.le_refl _) (by omega))]
    exact ⟨σ, rfl, hw⟩
  · obtain ⟨w1, w2, w3, w4, w5⟩ := hw
    have hB' := eW_B b t hB
    have e1 : (eW e b t).1 = e.1 := rfl
    have w99 := (hB.2.1 t 2 ht (by decide)).2
    have e99 : hiN 2 = 99 := rfl
    have tt := tintOf_C (gv := gv) (l := l) hB' w1 (fun u hu => by rw [w3 40 (by decide) (by decide)]; exact hg u hu) (by rw [w2]; exact v3) hg2 hl2 (t := t) ht
    rw [eW_0 e b t t 0 (by decide)] at tt
    have told : ∀ v : Int32, f_Basket_told (upA σ 3 t v) (nI t) 2 = some (nI (e.2.1 t 2)) := fun v => by
      have := told_C (upA σ 3 t v) (t := t) (k := 2) (by omega) (by decide)
      rw [upA_2, if_neg (by decide), w1.2.1 t 2 ht (by decide), eW_at] at this
      exact this
    have slot : ∀ v : Int32, f_Basket_slot (upA σ 3 t v) (nI t) 2 = some (nI (8 * t + 2)) := fun v => by
      unfold f_Basket_slot f_Basket_isThing
      rw [within_eq, bind_s, show decide ((0 : Int32) ≤ 2 ∧ (2 : Int32) ≤ 7) = true by decide, b2_t, if_neg i10, upA_1, w1.1, e1, within_eq, bind_s, bif_t (zb_b2 _), decide_eq_true ((isT (by omega) _).mpr ⟨t, ht, rfl⟩), b2_t, bind_s, if_neg i10]
      show some (nI t * nI 8 + nI 2) = _
      rw [pk_mul, nI_add, Nat.mul_comm]
    unfold f_Deeds_washAll_54
    rw [w1.1, e1, if_neg (nI_ge ht (by omega)), w2, v2, bt_isOf hn hb ht, bind_s, nI_1]
    by_cases q : bt b t = true
    · rw [b2_nt q, if_neg i10, in_t (by omega), ct_t (t := t) (by omega), tt]
      simp only [cond_true, bind_s, told, slot, nI_1]
      rw [imin99 (by omega), write_C _ (by omega), bind_s]
      refine ih _ ⟨⟨w1.1, fun u k hu hk => ?_, fun k hk => ?_, fun u hu => ?_, w1.2.2.2.2.1, w1.2.2.2.2.2.1, fun i hi => ?_⟩, fun k => w2 k, fun a h1 h2 => ?_, w4, fun u => ?_⟩
      · rw [upA_2, if_pos rfl, upA_2, if_neg (by decide), eW_s]
        unfold upd
        by_cases z : k = 2 ∧ u = t
        · rw [if_pos (by omega), if_pos ⟨z.1, z.2, q⟩]
        · rw [if_neg (by omega), if_neg (fun y => z ⟨y.1, y.2.1⟩)]
          exact w1.2.1 u k hu hk
      · rw [upA_2, if_pos rfl, upA_2, if_neg (by decide)]
        unfold upd
        rw [if_neg (by omega)]
        exact w1.2.2.1 k hk
      · rw [upA_2, if_neg (by decide), upA_2, if_neg (by decide)]
        exact w1.2.2.2.1 u hu
      · rw [upA_2, if_neg (by decide), upA_2, if_neg (by decide)]
        exact w1.2.2.2.2.2.2 i hi
      · rw [upA_2, if_neg h1, upA_2, if_neg h2]; exact w3 a h1 h2
      · rw [upA_2, if_neg (by decide), upA_2, if_pos rfl]
        exact step28 q w5 u
    · rw [b2_nf (bt_f q), if_pos rfl]
      exact ih σ ⟨by rw [eW_skip q]; exact w1, w2, w3, w4, skip28 q w5⟩
theorem washM1 {e : Ew} {τ0 : St} {h b l : Nat} {A : Int32} (hB : ewB e) (hM : ewM e τ0) (hb : b < 2 ^ e.1) (hh : h ≤ 9) (hl2 : l ≤ 990) : ∃ τ', f_M_wash_114 FU τ0 (nI b) (nI h) (nI l) A 0 = f_M_wash_184 FU τ' (nI b) A 0 ∧ wcM e b e.1 (fun t => tN (e.2.1 t 0) (l - gN e h t)) τ0 τ' := by
  have hn := hB.1
  refine loopF (n := e.1) (P := fun t fuel => ∀ τ, wcM e b t (fun t => tN (e.2.1 t 0) (l - gN e h t)) τ0 τ → ∃ τ', f_M_wash_114 fuel τ (nI b) (nI h) (nI l) A (nI t) = f_M_wash_184 FU τ' (nI b) A 0 ∧ wcM e b e.1 (fun t => tN (e.2.1 t 0) (l - gN e h t)) τ0 τ') (fun f τ hw => ?_) (fun t f ht ih τ hw => ?_) 0 (Nat.zero_le _) FU (by show _ < 1000; omega) τ0 ⟨hM, rfl, fun _ _ _ _ => rfl, rfl, fun u => by rw [if_neg (fun z => Nat.not_lt_zero _ z.1)]⟩
  · unfold f_M_wash_114
    rw [hw.1.1, if_pos (nI_le (Nat.le_refl _) (by omega))]
    exact ⟨τ, rfl, hw⟩
  · obtain ⟨w1, w2, w3, w4, w5⟩ := hw
    unfold f_M_wash_114
    rw [w1.1, if_neg (nI_ge ht (by omega)), bt_M hn hb ht, nI_1]
    by_cases q : bt b t = true
    · obtain ⟨τ2, t1, t2, t3⟩ := tinted_M hB w1 (t := t) (h := h) (l := l) ht hh (by omega)
      rw [b2_nt q, if_neg i10, in_t (by omega), ct_t (t := t) (by omega), t1]
      simp only [cond_true, bd2_s]
      have key : ∀ f2 : St → Option (Int32 × St), (if τ.2.1 28 t + nI (tN (e.2.1 t 0) (l - gN e h t)) ≤ 99 then f2 (upA τ2 28 t (τ.2.1 28 t + nI (tN (e.2.1 t 0) (l - gN e h t)))) else f2 (upA τ2 28 t 99)) = f2 (upA τ2 28 t (imin 99 (τ.2.1 28 t + nI (tN (e.2.1 t 0) (l - gN e h t))))) := by
        intro f2
        unfold imin
        generalize τ.2.1 28 t + nI (tN (e.2.1 t 0) (l - gN e h t)) = y
        by_cases y9 : y ≤ 99
        · rw [if_pos y9]
          by_cases y8 : y < 99
          · rw [if_pos y8]
          · rw [if_neg y8, show y = 99 from by rw [ie]; rw [it] at y8; rw [il] at y9; omega]
        · rw [if_neg y9, if_neg (fun z => y9 (by rw [il]; rw [it] at z; omega))]
      rw [key (fun s => f_M_wash_114 f s (nI b) (nI h) (nI l) A (nI (t + 1)))]
      refine ih _ ⟨ewM_28 (ewM_k t2 w1) _ _, t3.1.trans w2, fun a h1 h2 h3 => ?_, t3.2.2.trans w4, fun u => ?_⟩
      · rw [upA_2, if_neg h3, t3.2.1 a h1 h2]; exact w3 a h1 h2 h3
      · rw [upA_2, if_pos rfl, t3.2.1 28 (by decide) (by decide)]
        exact step28 q w5 u
    · rw [b2_nf (bt_f q), if_pos rfl]
      exact ih τ ⟨w1, w2, w3, w4, skip28 q w5⟩
theorem washM2 {e : Ew} {τ0 : St} {b : Nat} {A : Int32} (hB : ewB e) (hM : ewM e τ0) (hb : b < 2 ^ e.1) : ∃ τ', f_M_wash_184 FU τ0 (nI b) A 0 = some (A, τ') ∧ wdM e b e.1 τ0 τ' := by
  have hn := hB.1
  refine loopF (n := e.1) (P := fun t fuel => ∀ τ, wdM e b t τ0 τ → ∃ τ', f_M_wash_184 fuel τ (nI b) A (nI t) = some (A, τ') ∧ wdM e b e.1 τ0 τ') (fun f τ hw => ?_) (fun t f ht ih τ hw => ?_) 0 (Nat.zero_le _) FU (by show _ < 1000; omega) τ0 ⟨by rw [eW_z]; exact hM, rfl, fun _ _ => rfl, rfl⟩
  · unfold f_M_wash_184
    rw [hw.1.1, show (eW e b e.1).1 = e.1 from rfl, if_pos (nI_le (Nat.le_refl _) (by omega))]
    exact ⟨τ, rfl, hw⟩
  · obtain ⟨w1, w2, w3, w4⟩ := hw
    have e1 : (eW e b t).1 = e.1 := rfl
    have w99 := (hB.2.1 t 2 ht (by decide)).2
    have e99 : hiN 2 = 99 := rfl
    have q3 : τ.2.1 3 t = nI (e.2.1 t 2) := by rw [w1.2.1 t 2 ht (by decide), eW_at]
    unfold f_M_wash_184
    rw [w1.1, e1, if_neg (nI_ge ht (by omega)), bt_M hn hb ht, nI_1]
    by_cases q : bt b t = true
    · rw [b2_nt q, if_pos rfl, in_t (by omega), ct_t (t := t) (by omega), q3]
      simp only [cond_true, nI_1]
      have key : (if (99 : Int32) ≤ nI (e.2.1 t 2) then f_M_wash_184 f τ (nI b) A (nI (t + 1)) else f_M_wash_184 f (upA τ 3 t (nI (e.2.1 t 2 + 1))) (nI b) A (nI (t + 1))) = f_M_wash_184 f (upA τ 3 t (nI (min 99 (e.2.1 t 2 + 1)))) (nI b) A (nI (t + 1)) := by
        by_cases y : 99 ≤ e.2.1 t 2
        · rw [if_pos (show (99 : Int32) ≤ nI (e.2.1 t 2) from nI_le (a := 99) y (by omega)), Nat.min_eq_left (by omega)]
          have : upA τ 3 t (nI 99) = τ := by
            rw [show nI 99 = τ.2.1 3 t by rw [q3]; congr 1; omega]
            unfold upA
            refine Prod.ext rfl (Prod.ext ?_ rfl)
            funext a
            show va_up τ.2.1 3 (upd (τ.2.1 3) t (τ.2.1 3 t)) a = τ.2.1 a
            by_cases z : a = 3
            · subst z
              simp only [va_up, if_true]
              funext i
              unfold upd
              by_cases z2 : i = t
              · simp [z2]
              · simp [z2]
            · simp [va_up, z]
          rw [this]
        · rw [if_neg (show ¬ (99 : Int32) ≤ nI (e.2.1 t 2) from nI_ge (b := 99) (by omega) (by decide)), Nat.min_eq_right (by omega)]
      rw [key]
      refine ih _ ⟨⟨w1.1, fun u k hu hk => ?_, w1.2.2.1, fun u hu => ?_, ?_⟩, w2, fun a h1 => ?_, w4⟩
      · rw [eW_s]
        by_cases k2 : k = 2
        · subst k2
          rw [upA_2, if_pos rfl]
          unfold upd
          by_cases z : u = t
          · rw [if_pos z, if_pos ⟨rfl, z, q⟩]
          · rw [if_neg z, if_neg (fun y => z y.2.1)]
            exact w1.2.1 u 2 hu hk
        · rw [upA_2, if_neg (by omega), if_neg (fun y => k2 y.1)]
          exact w1.2.1 u k hu hk
      · rw [upA_2, if_neg (by decide)]; exact w1.2.2.2.1 u hu
      · have := w1.2.2.2.2
        unfold lawM at *
        rw [upA_1, upA_2, if_neg (by decide), upA_2, if_neg (by decide), upA_2, if_neg (by decide), upA_2, if_neg (by decide), upA_2, if_neg (by decide)]
        exact this
      · rw [upA_2, if_neg h1]; exact w3 a h1
    · rw [b2_nf (bt_f q), if_neg i01]
      exact ih τ ⟨by rw [eW_skip q]; exact w1, w2, w3, w4⟩
theorem okV_of {k w : Nat} (hk : k < 12) (h1 : loN k ≤ w) (h2 : w ≤ hiN k) : okV k (nI w) := by
  have e : ∀ k : Fin 12, tb_LEAST k.1 = nI (loN k.1) ∧ tb_MOST k.1 = nI (hiN k.1) ∧ hiN k.1 < 100 ∧ loN k.1 < 100 := by decide +kernel
  have e1 : tb_LEAST k = nI (loN k) := (e ⟨k, hk⟩).1
  have e2 : tb_MOST k = nI (hiN k) := (e ⟨k, hk⟩).2.1
  have e3 : hiN k < 100 := (e ⟨k, hk⟩).2.2.1
  unfold okV
  rw [e1, e2]
  exact ⟨nI_le h1 (by omega), nI_le h2 (by omega)⟩
theorem relT_of {e : Ew} {σ τ : St} (hB : ewB e) (hC : ewC e σ) (hM : ewM e τ) : relT e.1 σ τ := by
  refine ⟨hB.1, hC.1, hM.1, fun t k ht hk => ?_, fun k hk => ?_⟩
  · rw [hC.2.1 t k ht hk, hM.2.1 t k ht hk]
    exact ⟨rfl, okV_of (by omega) (hB.2.1 t k ht hk).1 (hB.2.1 t k ht hk).2⟩
  · rw [hC.2.2.1 k hk, hM.2.2.1 k hk]
    exact ⟨rfl, okV_of (by omega) (hB.2.2.1 k hk).1 (hB.2.2.1 k hk).2⟩
set_option maxRecDepth 100000 in
theorem bits_eq0 : ∀ a : Fin 1024, f_M_bitsOf (nI a.1) = some (pcI a.1) := by decide +kernel
theorem bits_eq {a : Nat} (h : a < 1024) : f_M_bitsOf (nI a) = some (pcI a) := bits_eq0 ⟨a, h⟩
theorem e_wash {σ τ : St} (h : Rel σ τ) (x y : Int32) : ∃ r σ' τ', f_Top_wash σ x y = some (r, σ') ∧ f_M_wash τ x y = some (r, τ') ∧ Rel σ' τ' := by
  obtain ⟨e, hB, hC, hM⟩ := rel_ew h
  have hn := hB.1
  unfold f_Top_wash f_M_wash
  rcases isSet_2 hB hC hM x with ⟨g1, g2⟩ | ⟨b, hb, rfl, g1, g2⟩
  · rw [g1, g2]; exact ⟨_, _, _, rfl, rfl, h⟩
  · rw [g1, g2]
    rcases heatCloth_2 y with ⟨k1, k2⟩ | ⟨w, c, w3, w9, c1, k1, k2, k3, k4⟩
    · rw [k1, k2]; exact ⟨_, _, _, rfl, rfl, h⟩
    · obtain ⟨σ1, l1, l2, l3⟩ := load_V hB hC w9 (by omega) k3 k4 hb
      have hg := fun t (ht : t < e.1) => gN_le hB w9 ht
      have hls := lsN_le hB hg b (c * e.2.2.1 1)
      have ho := cl_le hB (c := c) (by omega)
      rw [k1, k2]
      simp only [bind_s, i10, if_false, l1]
      rw [goes_C hB l3.1 l3.2.2.2.1 hb, goesSo_M hB hM hb, bind_s, bind_s]
      by_cases qg : goN e b = true
      · rw [b2_nt qg, if_neg i10, if_neg i10]
        obtain ⟨τ1, m1, m2⟩ := loose_M hB hM hb w9 ho
        have hM1 := ewM_k m2 hM
        obtain ⟨τ2, m3, m4⟩ := tints_M hB hM1 hb w9 ho
        have hM2 := ewM_k m4 hM1
        have hR1 : Rel σ1 τ2 := rel_k h l2 (m4.trans m2)
        rw [offBy_M hM c1 k4, bind_s, k3, m1, bd2_s, offBy_M hM1 c1 k4, bind_s, m3, bd2_s]
        unfold f_Deeds_washAll
        rw [allTints_C hB l3 hg hb (by omega), bind_s]
        obtain ⟨f2, e2⟩ := up2_eq σ1 10 (nI (alN e (gN e w) b (lsN e (gN e w) b (c * e.2.2.1 1))))
        obtain ⟨f3, e3⟩ := up2_eq τ2 30 (nI (alN e (gN e w) b (lsN e (gN e w) b (c * e.2.2.1 1))))
        have spC : ∀ s, s = stA σ1 10 f2 → f_Tub_spoilt s = some (spN e w b) := fun s hs => by subst hs; exact spoilt_C hB (ewC_10 l3.1 f2) l3.2.2.1 l3.2.2.2.1 hb w9
        have spM : ∀ s, s = stA τ2 30 f3 → f_M_spoilt s (nI b) (nI w) = some (spN e w b) := fun s hs => by subst hs; exact spoilt_M hB (ewM_30 hM2 f3) hb w9
        rw [spC _ e2, spM _ e3, bind_s, bind_s]
        obtain ⟨sp, hsp, esp⟩ := orI_nI (b := b) (p := fun t => decide (e.2.1 t 3 < w)) hn
        have esp2 : spN e w b = nI sp := esp
        rw [esp2, bits_eq (p10 hn hsp), pc_some, bind_s, bind_s, up4_eq, up4_eq, k4]
        generalize hA : nI (alN e (gN e w) b (lsN e (gN e w) b (c * e.2.2.1 1))) = A
        generalize lsN e (gN e w) b (c * e.2.2.1 1) = l at hls l3
        obtain ⟨hC1, hgv, v1, v2, v3⟩ := l3
        obtain ⟨σF, x1, x2⟩ := washC (A := A) hB (σ0 := stA σ1 10 (bump (σ1.2.1 10) A (pcI sp) (nI c))) (gv := gN e w) (h := w) (b := b) (l := l) ⟨ewC_10 hC1 _, fun t ht => by rw [stA_2, if_neg (by decide)]; exact hgv t ht, v1, v2, v3⟩ hg hb (by omega)
        obtain ⟨τ3, y1, y2⟩ := washM1 (A := A) hB (τ0 := stA τ2 30 (bump (τ2.2.1 30) A (pcI sp) (nI c))) (ewM_30 hM2 _) hb w9 hls
        obtain ⟨τF, z1, z2⟩ := washM2 (A := A) (b := b) hB y2.1 hb
        rw [x1, bd2_s, y1, z1]
        refine ⟨A, σF, τF, rfl, rfl, ?_⟩
        obtain ⟨x3, x4, x5, x6, x7⟩ := x2
        obtain ⟨y3, y4, y5, y6, y7⟩ := y2
        obtain ⟨z3, z4, z5, z6⟩ := z2
        obtain ⟨n, bn, r1, r2, r3, r4, r5, r6, r7, r8⟩ := hR1
        have en : n = e.1 := (nI_eq (by have := r1.1; omega) (by omega)).mp (r1.2.1.symm.trans hC1.1)
        subst en
        have i : ∀ k, σF.1 k = σ1.1 k := fun k => x4 k
        have a : ∀ a, a ≠ 2 → a ≠ 3 → a ≠ 10 → σF.2.1 a = σ1.2.1 a := fun a h1 h2 h3 => by rw [x5 a h1 h2, stA_2, if_neg h3]
        have ti : ∀ k, τF.1 k = τ2.1 k := fun k => by rw [z4, y4]; rfl
        have ta : ∀ a, a ≠ 3 → a ≠ 19 → a ≠ 20 → a ≠ 28 → a ≠ 30 → τF.2.1 a = τ2.2.1 a := fun a h1 h2 h3 h4 h5 => by rw [z5 a h1, y5 a h2 h3 h4, stA_2, if_neg h5]
        have l' : σF.2.2 = σ1.2.2 := x6
        have tl : τF.2.2 = τ2.2.2 := z6.trans y6
        refine ⟨e.1, bn, (relT_of (e := eW e b e.1) (eW_B b e.1 hB) x3 z3 : relT e.1 σF τF), ?_,
          relCh_c r3 (i 503) (i 504) (a 6 (by decide) (by decide) (by decide)) (a 7 (by decide) (by decide) (by decide)) (a 8 (by decide) (by decide) (by decide)) (ti 14) (ti 15) (ta 9 (by decide) (by decide) (by decide) (by decide) (by decide)) (ta 10 (by decide) (by decide) (by decide) (by decide) (by decide)) (ta 11 (by decide) (by decide) (by decide) (by decide) (by decide)) (ta 12 (by decide) (by decide) (by decide) (by decide) (by decide)),
          relTp_c r4 (i 3503) (a 36 (by decide) (by decide) (by decide)) (ti 21) (ta 13 (by decide) (by decide) (by decide) (by decide) (by decide)),
          relL_c r5 (i 2103) (a 22 (by decide) (by decide) (by decide)) (ti 33) (ta 14 (by decide) (by decide) (by decide) (by decide) (by decide)) (ta 15 (by decide) (by decide) (by decide) (by decide) (by decide)) (ta 16 (by decide) (by decide) (by decide) (by decide) (by decide)) (ta 17 (by decide) (by decide) (by decide) (by decide) (by decide)) (ta 18 (by decide) (by decide) (by decide) (by decide) (by decide)), ?_,
          relS_c r7 (i 3202) (i 3203) (a 33 (by decide) (by decide) (by decide)) (a 34 (by decide) (by decide) (by decide)) (ti 54) (ti 56) (ta 35 (by decide) (by decide) (by decide) (by decide) (by decide)) (ta 36 (by decide) (by decide) (by decide) (by decide) (by decide)), fun j hj => ?_⟩
        · have f28 : τF.2.1 28 = τ3.2.1 28 := z5 28 (by decide)
          have f29 : τF.2.1 29 = τ2.2.1 29 := ta 29 (by decide) (by decide) (by decide) (by decide) (by decide)
          have f4 : σF.2.1 4 = σ1.2.1 4 := a 4 (by decide) (by decide) (by decide)
          refine ⟨fun t ht => ?_, fun t ht1 ht2 => ?_⟩
          · rw [f28, f29, f4, x7 t, y7 t, show ∀ g, (stA σ1 10 g).2.1 3 = σ1.2.1 3 from fun g => by rw [stA_2, if_neg (by decide)], show ∀ g, (stA τ2 30 g).2.1 28 = τ2.2.1 28 from fun g => by rw [stA_2, if_neg (by decide)], (r2.1 t ht).1]
            exact ⟨rfl, (r2.1 t ht).2⟩
          · rw [f4, x7 t, if_neg (fun z => by omega), stA_2, if_neg (by decide)]
            exact r2.2 t ht1 ht2
        · obtain ⟨d1, d2, d3⟩ := r6
          have f10 : σF.2.1 10 = bump (σ1.2.1 10) A (pcI sp) (nI c) := by rw [x5 10 (by decide) (by decide), stA_2, if_pos rfl]
          have f30 : τF.2.1 30 = bump (τ2.2.1 30) A (pcI sp) (nI c) := by rw [z5 30 (by decide), y5 30 (by decide) (by decide) (by decide), stA_2, if_pos rfl]
          unfold relD
          rw [f10, f30, i 906, ti 48, ti 49, a 11 (by decide) (by decide) (by decide), a 12 (by decide) (by decide) (by decide), a 13 (by decide) (by decide) (by decide), a 14 (by decide) (by decide) (by decide), ta 29 (by decide) (by decide) (by decide) (by decide) (by decide), ta 31 (by decide) (by decide) (by decide) (by decide) (by decide), ta 32 (by decide) (by decide) (by decide) (by decide) (by decide), ta 33 (by decide) (by decide) (by decide) (by decide) (by decide), ta 34 (by decide) (by decide) (by decide) (by decide) (by decide)]
          refine ⟨fun k hk => ?_, d2, d3⟩
          unfold bump
          rw [d1 0 (by decide), d1 1 (by decide), d1 2 (by decide), d1 3 (by decide), d1 k hk]
        · rw [i, i, i, l', tl, ta 37 (by decide) (by decide) (by decide) (by decide) (by decide), ta 38 (by decide) (by decide) (by decide) (by decide) (by decide)]
          exact r8 j hj
      · rw [b2_nf (Bool.eq_false_iff.mpr qg), if_pos rfl, if_pos rfl]
        exact ⟨_, _, _, rfl, rfl, rel_k h l2 rfl⟩
