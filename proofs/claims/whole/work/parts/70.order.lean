/-! sets by their bits; order -/
theorem bt_tb (b t : Nat) : bt b t = b.testBit t := by
  rw [Nat.testBit_eq_decide_div_mod_eq]
  unfold bt
  by_cases h : b / 2 ^ t % 2 = 1
  · rw [decide_eq_true h, h]; rfl
  · rw [decide_eq_false h]; exact beq_eq_false_iff_ne.mpr h
theorem bt_or (b t u : Nat) : bt (b ||| 2 ^ t) u = (bt b u || decide (t = u)) := by
  rw [bt_tb, bt_tb, Nat.testBit_or, Nat.testBit_two_pow]
theorem bt_0 (u : Nat) : bt 0 u = false := by rw [bt_tb, Nat.zero_testBit]
theorem bt_eq {a b n : Nat} (ha : a < 2 ^ n) (hb : b < 2 ^ n) (h : ∀ t, t < n → bt a t = bt b t) : a = b := by
  refine Nat.eq_of_testBit_eq (fun i => ?_)
  rw [← bt_tb, ← bt_tb]
  by_cases q : i < n
  · exact h i q
  · rw [bt_hi ha (by omega), bt_hi hb (by omega)]
def clN (b t : Nat) : Nat := b &&& (2 ^ t ^^^ (2 ^ 32 - 1))
theorem cl_I {b t : Nat} (hb : b < 1024) (ht : t < 10) : nI b &&& (((1 : Int32) <<< (nI t &&& 31)) ^^^ (-1)) = nI (clN b t) := by
  rw [shl1_nI (by omega)]
  have h2 : (2 : Nat) ^ t ≤ 2 ^ 9 := Nat.pow_le_pow_right (by decide) (by omega)
  have hlt : clN b t < 2 ^ 32 := Nat.lt_of_le_of_lt Nat.and_le_left (by omega)
  apply Int32.toBitVec_inj.mp
  apply BitVec.eq_of_toNat_eq
  have e1 : (nI b &&& (nI (2 ^ t) ^^^ (-1))).toBitVec = (nI b).toBitVec &&& ((nI (2 ^ t)).toBitVec ^^^ (-1 : Int32).toBitVec) := rfl
  rw [e1, BitVec.toNat_and, BitVec.toNat_xor, pk_tn (by omega), pk_tn (by omega), pk_tn hlt]
  rfl
theorem bt_cl {b t u : Nat} (hu : u < 32) : bt (clN b t) u = (bt b u && !decide (t = u)) := by
  unfold clN
  rw [bt_tb, bt_tb, Nat.testBit_and, Nat.testBit_xor, Nat.testBit_two_pow, Nat.testBit_two_pow_sub_one, decide_eq_true hu]
  by_cases h : t = u
  · rw [decide_eq_true h]; rfl
  · rw [decide_eq_false h]; rfl
theorem cl_lt {b t n : Nat} (h : b < 2 ^ n) : clN b t < 2 ^ n := Nat.lt_of_le_of_lt Nat.and_le_left h
theorem mbc_or {U t : Nat} (h : bt U t = false) : ∀ {n : Nat}, (mbN (U ||| 2 ^ t) n).2 = (mbN U n).2 + (if t < n then 1 else 0)
  | 0 => rfl
  | n + 1 => by
    rw [mb_2, mb_2, mbc_or h (n := n), bt_or]
    by_cases q : t = n
    · subst q
      rw [decide_eq_true rfl, Bool.or_true, if_pos rfl, if_neg (Nat.lt_irrefl _), h, if_neg (by decide), if_pos (by omega)]
    · rw [decide_eq_false q, Bool.or_false]
      by_cases w : bt U n = true
      · rw [if_pos w, if_pos w]
        by_cases q2 : t < n
        · rw [if_pos q2, if_pos (show t < n + 1 by omega)]
        · rw [if_neg q2, if_neg (show ¬ t < n + 1 by omega)]
      · rw [if_neg w, if_neg w]
        by_cases q2 : t < n
        · rw [if_pos q2, if_pos (show t < n + 1 by omega)]
        · rw [if_neg q2, if_neg (show ¬ t < n + 1 by omega)]
theorem mbc_sub {U S : Nat} : ∀ {n : Nat}, (∀ u, u < n → bt U u = true → bt S u = true) → (mbN U n).2 ≤ (mbN S n).2
  | 0, _ => Nat.le_refl _
  | n + 1, h => by
    have ih := mbc_sub (U := U) (S := S) (n := n) (fun u hu => h u (by omega))
    rw [mb_2, mb_2]
    by_cases q : bt U n = true
    · rw [if_pos q, if_pos (h n (by omega) q)]; omega
    · rw [if_neg q]; split <;> omega
theorem mbc_0 : ∀ n, (mbN 0 n).2 = 0
  | 0 => rfl
  | n + 1 => by rw [mb_2, bt_0, if_neg (by decide)]; exact mbc_0 n
def cxN (c : Nat → Nat) (k t : Nat) : Nat → Nat := fun i => if i = k then t else c i
theorem cx_at (c : Nat → Nat) (k t i : Nat) : cxN c k t i = if i = k then t else c i := rfl
/-- the first k of an order are told: U are those used, L those left of a set S -/
def ordN (n S L U : Nat) (c : Nat → Nat) (k : Nat) : Prop := S < 2 ^ n ∧ L < 2 ^ n ∧ U < 2 ^ n ∧ (∀ t, t < n → bt L t = (bt S t && !bt U t)) ∧ (∀ t, t < n → bt U t = true → bt S t = true) ∧ (∀ i, i < k → c i < n ∧ bt U (c i) = true) ∧ injN c k ∧ (mbN U n).2 = k
theorem ord_left {n S L U k t : Nat} {c : Nat → Nat} (h : ordN n S L U c k) (ht : t < n) (q : bt L t = true) : bt S t = true ∧ bt U t = false := by
  have := h.2.2.2.1 t ht
  rw [q] at this
  cases h1 : bt S t <;> cases h2 : bt U t <;> rw [h1, h2] at this <;> first | exact ⟨rfl, rfl⟩ | cases this
theorem ord_next {n S L U k t : Nat} {c : Nat → Nat} (hn : n ≤ 10) (h : ordN n S L U c k) (ht : t < n) (q : bt L t = true) : ordN n S (clN L t) (U ||| 2 ^ t) (cxN c k t) (k + 1) := by
  obtain ⟨q1, q2⟩ := ord_left h ht q
  obtain ⟨h1, h2, h3, h4, h5, h6, h7, h8⟩ := h
  have pt : (2 : Nat) ^ t < 2 ^ n := Nat.pow_lt_pow_right (by decide) ht
  refine ⟨h1, cl_lt h2, Nat.or_lt_two_pow h3 pt, fun u hu => ?_, fun u hu hq => ?_, fun i hi => ?_, fun i j hi hj he => ?_, ?_⟩
  · rw [bt_cl (by omega), bt_or, h4 u hu]
    cases bt S u <;> cases bt U u <;> cases decide (t = u) <;> rfl
  · rw [bt_or] at hq
    by_cases z : t = u
    · subst z; exact q1
    · rw [decide_eq_false z, Bool.or_false] at hq; exact h5 u hu hq
  · by_cases z : i = k
    · rw [cx_at, if_pos z, bt_or, decide_eq_true rfl, Bool.or_true]; exact ⟨ht, rfl⟩
    · rw [cx_at, if_neg z, bt_or, (h6 i (by omega)).2]; exact ⟨(h6 i (by omega)).1, rfl⟩
  · have ne : ∀ i, i < k → c i ≠ t := fun i hi z => by have := (h6 i hi).2; rw [z, q2] at this; cases this
    by_cases zi : i = k
    · by_cases zj : j = k
      · omega
      · rw [cx_at, cx_at, if_pos zi, if_neg zj] at he; exact absurd he.symm (ne j (by omega))
    · by_cases zj : j = k
      · rw [cx_at, cx_at, if_neg zi, if_pos zj] at he; exact absurd he (ne i (by omega))
      · rw [cx_at, cx_at, if_neg zi, if_neg zj] at he; exact h7 i j (by omega) (by omega) he
  · rw [mbc_or q2, if_pos ht, h8]
theorem ord_K {n S L U k : Nat} {c : Nat → Nat} (h : ordN n S L U c k) : k ≤ (mbN S n).2 := by
  rw [← h.2.2.2.2.2.2.2]; exact mbc_sub h.2.2.2.2.1
theorem ord_end {n S L U k : Nat} {c : Nat → Nat} (h : ordN n S L U c k) (hz : ∀ t, t < n → bt L t = false) : L = 0 ∧ U = S := by
  obtain ⟨h1, h2, h3, h4, h5, h6, h7, h8⟩ := h
  refine ⟨bt_eq h2 (Nat.two_pow_pos n) (fun t ht => by rw [hz t ht, bt_0]), bt_eq h3 h1 (fun t ht => ?_)⟩
  have := h4 t ht
  rw [hz t ht] at this
  cases q : bt U t
  · cases q2 : bt S t
    · rfl
    · rw [q, q2] at this; cases this
  · rw [h5 t ht q]
theorem ord_go {n S L U k : Nat} {c : Nat → Nat} (h : ordN n S L U c k) (hz : L = 0) : U = S := (ord_end h (fun t _ => by rw [hz, bt_0])).2
theorem ord_ne {n S L U k : Nat} {c : Nat → Nat} (h : ordN n S L U c k) (hz : ¬ L = 0) : ¬ U = S := fun q => hz (by
  obtain ⟨h1, h2, h3, h4, h5, h6, h7, h8⟩ := h
  refine bt_eq h2 (Nat.two_pow_pos n) (fun t ht => ?_)
  rw [h4 t ht, q, bt_0]
  cases bt S t <;> rfl)
theorem ord_zero {n S L U k : Nat} {c : Nat → Nat} (hn : n ≤ 10) (h : ordN n S L U c k) (hk : ¬ k < (mbN S n).2) : L = 0 := by
  refine (ord_end h (fun t ht => ?_)).1
  cases q : bt L t
  · rfl
  · have := ord_K (ord_next hn h ht q); omega
theorem ord_pos {n S L U k : Nat} {c : Nat → Nat} (h : ordN n S L U c k) (hk : k < (mbN S n).2) : ¬ L = 0 := fun q => by
  have := ord_go h q
  have h8 := h.2.2.2.2.2.2.2
  rw [this] at h8
  omega
/-- of the reference's search: c's first k hang -/
def goK (c : Nat → Nat) (k : Nat) (τ : St) : Prop := τ.1 42 = nI k ∧ ∀ i, i < k → τ.2.1 26 i = nI (c i)
theorem firstBad {e : Ew} {c : Nat → Nat} : ∀ K : Nat, ∃ q, q ≤ K ∧ (∀ i, i < q → e.2.1 (c i) 4 ≤ e.2.2.1 3) ∧ (q < K → ¬ e.2.1 (c q) 4 ≤ e.2.2.1 3)
  | 0 => ⟨0, Nat.le_refl _, fun i hi => absurd hi (Nat.not_lt_zero i), fun h => absurd h (Nat.lt_irrefl _)⟩
  | K + 1 => by
    obtain ⟨q, h1, h2, h3⟩ := firstBad (e := e) (c := c) K
    rcases Nat.eq_or_lt_of_le h1 with z | z
    · subst z
      by_cases y : e.2.1 (c q) 4 ≤ e.2.2.1 3
      · exact ⟨q + 1, Nat.le_refl _, fun i hi => by
          by_cases w : i = q
          · rw [w]; exact y
          · exact h2 i (by omega), fun h => absurd h (Nat.lt_irrefl _)⟩
      · exact ⟨q, by omega, h2, fun _ => y⟩
    · exact ⟨q, by omega, h2, fun _ => h3 z⟩
theorem HD_upd {e : Ew} {c : Nat → Nat} {k t : Nat} : HD e (cxN c k t) k = HD e c k := HD_congr (fun i hi => by rw [cx_at, if_neg (by omega)])
/-- what the search keeps: the least minute, its order -/
def keepS (τ τ' : St) : Prop := τ'.1 44 = τ.1 44 ∧ τ'.2.1 27 = τ.2.1 27
theorem mx_up {e : Ew} {c : Nat → Nat} {k : Nat} : mxN (HD e c (k + 1)).2 (k + 1) = max (mxN (HD e c k).2 k) ((HD e c (k + 1)).2 k) := by
  rw [mx_s, mx_congr (D := (HD e c (k + 1)).2) (D' := (HD e c k).2) (fun i hi => by rw [HD_2, if_neg (by omega)])]
theorem noop_M {e : Ew} {S : Nat} (hB : ewB e) (hK : (mbN S e.1).2 ≤ 6) : ∀ (r : Nat) (k L U : Nat) (c : Nat → Nat) (τ : St), k + r = (mbN S e.1).2 → ordN e.1 S L U c k → ewM e τ → goK c k τ →
    ((∃ i, i < k ∧ ¬ e.2.1 (c i) 4 ≤ e.2.2.1 3) ∨ (∃ s, s ≤ 100000 ∧ τ.1 44 = nI s ∧ ((∀ i, i < k → e.2.1 (c i) 4 ≤ e.2.2.1 3) → s ≤ mxN (HD e c k).2 k))) →
    ∀ fuel, r < fuel → ∃ τ', f_M_goOrders fuel τ (nI S) (nI U) = some τ' ∧ kM τ' = kM τ ∧ goK c k τ' ∧ keepS τ τ' := by
  have hn := hB.1
  intro r
  induction r with
  | zero =>
    intro k L U c τ hr ho hM hg hbad fuel hf
    obtain ⟨f, rfl⟩ : ∃ f, fuel = f + 1 := ⟨fuel - 1, by omega⟩
    have eU := ord_go ho (ord_zero hn ho (by omega))
    obtain ⟨q, q1, q2, q3⟩ := firstBad (e := e) (c := c) k
    have hc : ∀ i, i < k → c i < e.1 := fun i hi => (ho.2.2.2.2.2.1 i hi).1
    obtain ⟨τ1, m1, m2, m3, m4⟩ := goLine_M hB hM (by omega) q1 hc ho.2.2.2.2.2.2.1 q2 q3 hg
    have aM := allDry_M hB (by omega) q1 hc q2 (chM_s m2 hg) m3 m4
    have hg1 : goK c k τ1 := chM_s m2 hg
    have ks : keepS τ τ1 := ⟨by rw [m2.1], m2.2.1 27 (by decide) (by decide)⟩
    show ∃ τ', f_M_goOrders_F (f_M_goOrders f) τ (nI S) (nI U) = some τ' ∧ _
    unfold f_M_goOrders_F
    rw [if_pos (by rw [eU]), m1, bind_s, aM, bind_s]
    by_cases y : q = k
    · have hbd := HD_b hB (fun i hi => ⟨hc i (by omega), q2 i hi⟩ : fitC e c q) (by omega)
      have bmx : mxN (HD e c q).2 q ≤ 9900 := mx_le (fun i hi => by have := (hbd i hi).2; omega)
      rcases hbad with ⟨i, i1, i2⟩ | ⟨s, s1, s2, s3⟩
      · exact absurd (q2 i (by omega)) i2
      · have s4 := s3 (fun i hi => q2 i (by omega))
        rw [if_pos y, if_neg (nI_pos (by omega)), ks.1, s2, if_neg (nI_pos (by omega)), if_neg (nI_nlt (by rw [y]; exact s4) (by omega))]
        exact ⟨τ1, rfl, samO_kM m2, hg1, ks⟩
    · rw [if_neg y, if_pos (by decide)]
      exact ⟨τ1, rfl, samO_kM m2, hg1, ks⟩
  | succ r ih =>
    intro k L U c τ hr ho hM hg hbad fuel hf
    obtain ⟨f, rfl⟩ : ∃ f, fuel = f + 1 := ⟨fuel - 1, by omega⟩
    have hne := ord_ne ho (ord_pos ho (by omega))
    have hU := ho.2.2.1
    have hU10 := p10 hn hU
    have hS10 := p10 hn ho.1
    show ∃ τ', f_M_goOrders_F (f_M_goOrders f) τ (nI S) (nI U) = some τ' ∧ _
    unfold f_M_goOrders_F
    rw [if_neg (fun z => hne ((nI_eq (by omega) (by omega)).mp z))]
    exact loopF (n := e.1) (P := fun t fl => ∀ τ1, kM τ1 = kM τ → goK c k τ1 → keepS τ τ1 → ∃ τ', f_M_goOrders_74 (f_M_goOrders f) fl τ1 (nI S) (nI U) (nI t) = some τ' ∧ kM τ' = kM τ ∧ goK c k τ' ∧ keepS τ τ') (fun fl τ1 k1 k2 k3 => by
        unfold f_M_goOrders_74
        rw [(ewM_k k1 hM).1, if_pos (nI_le (Nat.le_refl _) (by omega))]
        exact ⟨τ1, rfl, k1, k2, k3⟩) (fun t fl ht ihl τ1 k1 k2 k3 => by
        have hM1 := ewM_k k1 hM
        unfold f_M_goOrders_74
        rw [hM1.1, if_neg (nI_ge ht (by omega)), bt_M hn ho.1 ht, bt_M hn hU ht, nI_1]
        have hL := ho.2.2.2.1 t ht
        by_cases qS : bt S t = true
        · rw [b2_nt qS, if_neg i10]
          by_cases qU : bt U t = true
          · rw [b2_nt qU, if_pos rfl]; exact ihl τ1 k1 k2 k3
          · have qL : bt L t = true := by rw [hL, qS, bt_f qU]; rfl
            have ho' := ord_next hn ho ht qL
            have pt : (2 : Nat) ^ t < 2 ^ e.1 := Nat.pow_lt_pow_right (by decide) ht
            have pt10 := p10 hn pt
            rw [b2_nf (bt_f qU), if_neg i01, k2.1, in_t (t := k) (by omega), ct_t (t := k) (by omega), nI_1, shl1_nI (by omega), or_nI (by omega) (by omega)]
            obtain ⟨τ2, a1, a2, a3, a4⟩ := ih (k + 1) (clN L t) (U ||| 2 ^ t) (cxN c k t) (upI (upA τ1 26 k (nI t)) 42 (nI (k + 1))) (by omega) ho' (ewM_k (by rw [kM_upI (by rfl), kM_upA (by rfl)]) hM1) ⟨rfl, fun i hi => by
                rw [upI_2, upA_2, if_pos rfl]
                unfold upd
                rw [cx_at]
                by_cases z : i = k
                · rw [if_pos z, if_pos z]
                · rw [if_neg z, if_neg z]; exact k2.2 i (by omega)⟩ (by
                rcases hbad with ⟨i, i1, i2⟩ | ⟨s, s1, s2, s3⟩
                · exact Or.inl ⟨i, by omega, by rw [cx_at, if_neg (by omega)]; exact i2⟩
                · refine Or.inr ⟨s, s1, by rw [upI_1, if_neg (by decide), upA_1, k3.1]; exact s2, fun hf => ?_⟩
                  rw [mx_up, HD_upd]
                  refine Nat.le_trans (s3 (fun i hi => ?_)) (Nat.le_max_left _ _)
                  have := hf i (by omega)
                  rw [cx_at, if_neg (by omega)] at this
                  exact this) f (by omega)
            rw [cond_true, a1, bind_s, a3.1, nI_pred]
            refine ihl _ (by rw [kM_upI (by rfl), a2, kM_upI (by rfl), kM_upA (by rfl)]; exact k1) ⟨rfl, fun i hi => ?_⟩ ⟨?_, ?_⟩
            · have := a3.2 i (by omega)
              rw [cx_at, if_neg (by omega)] at this
              rw [upI_2]; exact this
            · rw [upI_1, if_neg (by decide), a4.1, upI_1, if_neg (by decide), upA_1]; exact k3.1
            · rw [upI_2, a4.2, upI_2, upA_2, if_neg (by decide)]; exact k3.2
        · rw [b2_nf (bt_f qS), if_pos rfl]; exact ihl τ1 k1 k2 k3)
      0 (Nat.zero_le _) FU (by show _ < 1000; omega) τ rfl hg ⟨rfl, rfl⟩
/-- the least minute so far, its order, by both -/
def OS (K : Nat) (σ τ : St) : Prop := ∃ s : Nat, s ≤ 2147483647 ∧ σ.1 2706 = nI s ∧ ((s = 2147483647 ∧ τ.1 44 = -1) ∨ (s ≤ 9900 ∧ τ.1 44 = nI s ∧ ∀ i, i < K → σ.2.1 31 i = τ.2.1 27 i))
theorem encC_upd {e : Ew} {c : Nat → Nat} {k t : Nat} {σ : St} (h : encC e c k σ) : encC e (cxN c k t) k σ := fun i hi => by
  rw [cx_at, if_neg (by omega), HD_upd]; exact h i hi
theorem encC_dn {e : Ew} {c : Nat → Nat} {k t : Nat} {σ : St} (h : encC e (cxN c k t) (k + 1) σ) : encC e c k σ := fun i hi => by
  have := h i (by omega)
  rw [cx_at, if_neg (by omega), HD_1, HD_2, if_neg (by omega), if_neg (by omega), HD_upd] at this
  exact this
theorem best_M {τ : St} {c : Nat → Nat} {K : Nat} (hK : K ≤ 10) (rec : St → Int32 → Int32 → Option St) (h : goK c K τ) : ∃ τ', f_M_goOrders_42 rec FU τ 0 = some τ' ∧ τ'.1 = τ.1 ∧ (∀ a, a ≠ 27 → τ'.2.1 a = τ.2.1 a) ∧ τ'.2.2 = τ.2.2 ∧ ∀ i, i < K → τ'.2.1 27 i = nI (c i) := by
  exact loopF (n := K) (P := fun t fuel => ∀ τ1, τ1.1 = τ.1 → (∀ a, a ≠ 27 → τ1.2.1 a = τ.2.1 a) → τ1.2.2 = τ.2.2 → (∀ i, i < t → τ1.2.1 27 i = nI (c i)) → ∃ τ', f_M_goOrders_42 rec fuel τ1 (nI t) = some τ' ∧ τ'.1 = τ.1 ∧ (∀ a, a ≠ 27 → τ'.2.1 a = τ.2.1 a) ∧ τ'.2.2 = τ.2.2 ∧ ∀ i, i < K → τ'.2.1 27 i = nI (c i)) (fun f τ1 k1 k2 k3 k4 => by
      unfold f_M_goOrders_42
      rw [k1, h.1, if_pos (nI_le (Nat.le_refl _) (by omega))]
      exact ⟨τ1, rfl, k1, k2, k3, k4⟩) (fun t f ht ih τ1 k1 k2 k3 k4 => by
      unfold f_M_goOrders_42
      rw [k1, h.1, if_neg (nI_ge ht (by omega)), in_t (t := t) (by omega), ct_t (t := t) (by omega), nI_1, k2 26 (by decide), h.2 t ht]
      refine ih _ k1 (fun a ha => by rw [upA_2, if_neg ha]; exact k2 a ha) k3 (fun i hi => ?_)
      rw [upA_2, if_pos rfl]
      unfold upd
      by_cases z : i = t
      · rw [if_pos z, z]
      · rw [if_neg z]; exact k4 i (by omega))
    0 (Nat.zero_le _) FU (by show _ < 1000; omega) τ rfl (fun _ _ => rfl) rfl (fun i hi => absurd hi (Nat.not_lt_zero i))
theorem order_J {e : Ew} {S : Nat} (hB : ewB e) (hK : (mbN S e.1).2 ≤ 6) : ∀ (r : Nat) (k L U : Nat) (c : Nat → Nat) (σ τ : St), k + r = (mbN S e.1).2 → ordN e.1 S L U c k → ewC e σ → ewM e τ → fitC e c k → encC e c k σ → goK c k τ → OS (mbN S e.1).2 σ τ →
    ∀ fC, r < fC → ∀ fM, r < fM → ∃ σ' τ', f_Rope_arrange fC σ (nI L) (nI k) (nI (mxN (HD e c k).2 k)) = some σ' ∧ f_M_goOrders fM τ (nI S) (nI U) = some τ' ∧ kC σ' = kC σ ∧ kM τ' = kM τ ∧ encC e c k σ' ∧ goK c k τ' ∧ OS (mbN S e.1).2 σ' τ' := by
  have hn := hB.1
  intro r
  induction r with
  | zero =>
    intro k L U c σ τ hr ho hC hM hf hE hg hS fC hfC fM hfM
    obtain ⟨f, rfl⟩ : ∃ f, fC = f + 1 := ⟨fC - 1, by omega⟩
    obtain ⟨g, rfl⟩ : ∃ g, fM = g + 1 := ⟨fM - 1, by omega⟩
    have eL := ord_zero hn ho (by omega)
    have eU := ord_go ho eL
    have hbd := HD_b hB hf (by omega)
    have bmx : mxN (HD e c k).2 k ≤ 9900 := mx_le (fun i hi => by have := (hbd i hi).2; omega)
    obtain ⟨s, s1, s2, s3⟩ := id hS
    show ∃ σ' τ', f_Rope_arrange_F (f_Rope_arrange f) σ (nI L) (nI k) (nI (mxN (HD e c k).2 k)) = some σ' ∧ _
    unfold f_Rope_arrange_F
    rw [s2]
    by_cases y : s ≤ mxN (HD e c k).2 k
    · rw [if_pos (nI_le y (by omega))]
      have hs : s ≤ 9900 ∧ τ.1 44 = nI s := by
        rcases s3 with ⟨z1, z2⟩ | ⟨z1, z2, -⟩
        · omega
        · exact ⟨z1, z2⟩
      obtain ⟨τ', a1, a2, a3, a4⟩ := noop_M hB hK 0 k L U c τ hr ho hM hg (Or.inr ⟨s, by omega, hs.2, fun _ => y⟩) (g + 1) (by omega)
      refine ⟨σ, τ', rfl, a1, rfl, a2, hE, a3, s, s1, s2, ?_⟩
      rw [a4.1, a4.2]; exact s3
    · rw [if_neg (nI_ge (by omega) (by omega)), if_pos (show nI k ≤ (6 : Int32) from nI_le (b := 6) (by omega) (by decide)), eL, if_pos (show nI 0 = 0 from rfl)]
      have hcp : cpok 0 0 (nI k) 10 10 = true := by
        apply decide_eq_true
        refine ⟨by decide, by decide, nI_pos (by omega), ?_, ?_⟩
        · rw [nIt (by omega)]; show 0 + k ≤ 10; omega
        · rw [nIt (by omega)]; show 0 + k ≤ 10; omega
      rw [hcp, cond_true, nIt (show k < 2 ^ 31 by omega)]
      have hc : ∀ i, i < k → c i < e.1 := fun i hi => (ho.2.2.2.2.2.1 i hi).1
      obtain ⟨τ1, m1, m2, m3, m4⟩ := goLine_M hB hM (K := k) (q := k) (by omega) (Nat.le_refl _) hc ho.2.2.2.2.2.2.1 (fun i hi => (hf i hi).2) (fun z => absurd z (Nat.lt_irrefl _)) hg
      have aM := allDry_M hB (by omega) (Nat.le_refl k) hc (fun i hi => (hf i hi).2) (chM_s m2 hg) m3 m4
      rw [if_pos rfl] at aM
      have hg1 : goK c k (upI τ1 44 (nI (mxN (HD e c k).2 k))) := by
        have := chM_s m2 hg
        exact ⟨by rw [upI_1, if_neg (by decide)]; exact this.1, this.2⟩
      obtain ⟨τ2, b1, b2', b3, b4, b5⟩ := best_M (by omega) (f_M_goOrders g) hg1
      have goM : f_M_goOrders (g + 1) τ (nI S) (nI U) = some τ2 := by
        show f_M_goOrders_F (f_M_goOrders g) τ (nI S) (nI U) = some τ2
        unfold f_M_goOrders_F
        rw [if_pos (by rw [eU]), m1, bind_s, aM, bind_s, if_neg (nI_pos (by omega)), m2.1]
        rcases s3 with ⟨z1, z2⟩ | ⟨z1, z2, -⟩
        · rw [z2, if_pos (by decide)]; exact b1
        · rw [z2, if_neg (nI_pos (by omega)), if_pos (nI_lt (by omega) (by omega))]; exact b1
      have k2 : kM τ2 = kM τ := by
        have h1 : kM τ2 = kM (upI τ1 44 (nI (mxN (HD e c k).2 k))) := by
          refine kM_of (fun j _ => by rw [b2']) (fun a ha => b3 a ?_) (fun a _ => by rw [b4])
          rintro rfl; exact absurd ha (by decide)
        rw [h1, kM_upI (by rfl), samO_kM m2]
      refine ⟨_, τ2, rfl, goM, by rw [kC_stA (by rfl), kC_upI (by rfl)], k2, fun i hi => ?_, ⟨by rw [b2']; exact hg1.1, fun i hi => by rw [b3 26 (by decide)]; exact hg1.2 i hi⟩, mxN (HD e c k).2 k, by omega, ?_, Or.inr ⟨bmx, ?_, fun i hi => ?_⟩⟩
      · rw [stA_2, if_neg (by decide), stA_2, if_neg (by decide), stA_2, if_neg (by decide)]; exact hE i hi
      · rw [stA_1, upI_1, if_pos rfl]
      · rw [b2', upI_1, if_pos rfl]
      · rw [stA_2, if_pos rfl, b5 i (by omega)]
        show va_cpy (σ.2.1 28) (σ.2.1 31) 0 0 k i = _
        unfold va_cpy
        have ez : 0 + (i - 0) = i := by omega
        rw [if_pos (by omega), ez]
        exact (hE i (by omega)).1
  | succ r ih =>
    intro k L U c σ τ hr ho hC hM hf hE hg hS fC hfC fM hfM
    obtain ⟨f, rfl⟩ : ∃ f, fC = f + 1 := ⟨fC - 1, by omega⟩
    obtain ⟨g, rfl⟩ : ∃ g, fM = g + 1 := ⟨fM - 1, by omega⟩
    have hL0 := ord_pos ho (by omega)
    have hne := ord_ne ho hL0
    have hU := ho.2.2.1
    have hU10 := p10 hn hU
    have hL10 := p10 hn ho.2.1
    have hS10 := p10 hn ho.1
    have hbd := HD_b hB hf (by omega)
    have bmx : mxN (HD e c k).2 k ≤ 9900 := mx_le (fun i hi => by have := (hbd i hi).2; omega)
    obtain ⟨s, s1, s2, s3⟩ := id hS
    show ∃ σ' τ', f_Rope_arrange_F (f_Rope_arrange f) σ (nI L) (nI k) (nI (mxN (HD e c k).2 k)) = some σ' ∧ _
    unfold f_Rope_arrange_F
    rw [s2]
    by_cases y : s ≤ mxN (HD e c k).2 k
    · rw [if_pos (nI_le y (by omega))]
      have hs : s ≤ 9900 ∧ τ.1 44 = nI s := by
        rcases s3 with ⟨z1, z2⟩ | ⟨z1, z2, -⟩
        · omega
        · exact ⟨z1, z2⟩
      obtain ⟨τ', a1, a2, a3, a4⟩ := noop_M hB hK (r + 1) k L U c τ hr ho hM hg (Or.inr ⟨s, by omega, hs.2, fun _ => y⟩) (g + 1) (by omega)
      refine ⟨σ, τ', rfl, a1, rfl, a2, hE, a3, s, s1, s2, ?_⟩
      rw [a4.1, a4.2]; exact s3
    · rw [if_neg (nI_ge (by omega) (by omega)), if_pos (show nI k ≤ (6 : Int32) from nI_le (b := 6) (by omega) (by decide)), if_neg (nI_ne0 (by omega) (by omega))]
      have main := loopF (n := e.1) (P := fun t fl => ∀ σ1 τ1, kC σ1 = kC σ → kM τ1 = kM τ → encC e c k σ1 → goK c k τ1 → OS (mbN S e.1).2 σ1 τ1 → ∃ σ' τ', f_Rope_arrange_42 (f_Rope_arrange f) fl σ1 (nI L) (nI k) (nI (mxN (HD e c k).2 k)) (nI t) = some σ' ∧ f_M_goOrders_74 (f_M_goOrders g) fl τ1 (nI S) (nI U) (nI t) = some τ' ∧ kC σ' = kC σ ∧ kM τ' = kM τ ∧ encC e c k σ' ∧ goK c k τ' ∧ OS (mbN S e.1).2 σ' τ') (fun fl σ1 τ1 k1 k2 k3 k4 k5 => by
          unfold f_Rope_arrange_42 f_M_goOrders_74
          rw [(ewC_k k1 hC).1, (ewM_k k2 hM).1, if_pos (nI_le (Nat.le_refl _) (by omega)), if_pos (nI_le (Nat.le_refl _) (by omega))]
          exact ⟨σ1, τ1, rfl, rfl, k1, k2, k3, k4, k5⟩) (fun t fl ht ihl σ1 τ1 k1 k2 k3 k4 k5 => by
          have hC1 := ewC_k k1 hC
          have hM1 := ewM_k k2 hM
          unfold f_Rope_arrange_42 f_M_goOrders_74
          rw [hC1.1, hM1.1, if_neg (nI_ge ht (by omega)), if_neg (nI_ge ht (by omega)), bt_isOf hn ho.2.1 ht, bt_M hn ho.1 ht, bt_M hn hU ht, bind_s, nI_1]
          have hL := ho.2.2.2.1 t ht
          by_cases qL : bt L t = true
          · obtain ⟨qS, qU⟩ := ord_left ho ht qL
            have ho' := ord_next hn ho ht qL
            have pt : (2 : Nat) ^ t < 2 ^ e.1 := Nat.pow_lt_pow_right (by decide) ht
            have pt10 := p10 hn pt
            have gk2 : goK (cxN c k t) (k + 1) (upI (upA τ1 26 k (nI t)) 42 (nI (k + 1))) := ⟨rfl, fun i hi => by
                rw [upI_2, upA_2, if_pos rfl]
                unfold upd
                rw [cx_at]
                by_cases z : i = k
                · rw [if_pos z, if_pos z]
                · rw [if_neg z, if_neg z]; exact k4.2 i (by omega)⟩
            have km2 : kM (upI (upA τ1 26 k (nI t)) 42 (nI (k + 1))) = kM τ1 := by rw [kM_upI (by rfl), kM_upA (by rfl)]
            rw [b2_nt qL, if_neg i10, b2_nt qS, if_neg i10, b2_nf qU, if_neg i01, k4.1, in_t (t := k) (by omega), ct_t (t := k) (by omega), nI_1, shl1_nI (by omega), or_nI (by omega) (by omega)]
            have back : ∀ τ2, goK (cxN c k t) (k + 1) τ2 → goK c k (upI τ2 42 (τ2.1 42 - 1)) := fun τ2 hh => ⟨by rw [upI_1, if_pos rfl, hh.1, nI_pred], fun i hi => by
                have := hh.2 i (by omega)
                rw [cx_at, if_neg (by omega)] at this
                rw [upI_2]; exact this⟩
            by_cases hs : e.2.1 t 4 ≤ e.2.2.1 3
            · have hfk : fitC e (cxN c k t) k := fun i hi => by rw [cx_at, if_neg (by omega)]; exact hf i hi
              obtain ⟨σ2, g1, g2, g3, g4, g5, g6, g7⟩ := hangs_yes (c := cxN c k t) (k := k) (t := t) hB hC1 ht (by omega) hfk (encC_upd k3) (by rw [cx_at, if_pos rfl]) hs
              have hbd2 := HD_b hB g2 (by omega)
              have b2 := (hbd2 k (by omega)).2
              have hOS2 : OS (mbN S e.1).2 σ2 (upI (upA τ1 26 k (nI t)) 42 (nI (k + 1))) := by
                obtain ⟨s', w1, w2, w3⟩ := k5
                refine ⟨s', w1, by rw [g5]; exact w2, ?_⟩
                rw [upI_1, if_neg (by decide), upA_1, g6 31 (by decide) (by decide) (by decide)]
                exact w3
              obtain ⟨σ3, τ3, j1, j2, j3, j4, j5, j6, j7⟩ := ih (k + 1) (clN L t) (U ||| 2 ^ t) (cxN c k t) σ2 (upI (upA τ1 26 k (nI t)) 42 (nI (k + 1))) (by omega) ho' (ewC_k g4 hC1) (ewM_k km2 hM1) g2 g3 gk2 hOS2 f (by omega) g (by omega)
              rw [mx_up, HD_upd] at j1
              have clE : nI L &&& (nI (2 ^ t) ^^^ (-1)) = nI (clN L t) := by rw [← cl_I (by omega) (by omega), shl1_nI (by omega)]
              simp only [cond_true]
              rw [g1, bd2_s, if_neg i10, (g3 k (by omega)).2.2, imax_N (by omega) (by omega), clE, j1, bind_s, j2, bind_s]
              refine ihl σ3 _ (by rw [j3, g4]; exact k1) (by rw [kM_upI (by rfl), j4, km2]; exact k2) (encC_dn j5) (back τ3 j6) ?_
              obtain ⟨s', w1, w2, w3⟩ := j7
              refine ⟨s', w1, w2, ?_⟩
              rw [upI_1, if_neg (by decide)]
              exact w3
            · obtain ⟨τ2, a1, a2, a3, a4⟩ := noop_M hB hK r (k + 1) (clN L t) (U ||| 2 ^ t) (cxN c k t) (upI (upA τ1 26 k (nI t)) 42 (nI (k + 1))) (by omega) ho' (ewM_k km2 hM1) gk2 (Or.inl ⟨k, by omega, by rw [cx_at, if_pos rfl]; exact hs⟩) g (by omega)
              rw [hangs_no hB hC1 ht (by omega) hs, bd2_s, if_pos rfl, cond_true, a1, bind_s]
              refine ihl σ1 _ k1 (by rw [kM_upI (by rfl), a2, km2]; exact k2) k3 (back τ2 a3) ?_
              obtain ⟨s', w1, w2, w3⟩ := k5
              refine ⟨s', w1, w2, ?_⟩
              rw [upI_1, if_neg (by decide), a4.1, upI_2, a4.2, upI_1, if_neg (by decide), upA_1, upI_2, upA_2, if_neg (by decide)]
              exact w3
          · have hskip : (if b2 (bt S t) = 0 then f_M_goOrders_74 (f_M_goOrders g) fl τ1 (nI S) (nI U) (nI (t + 1)) else (if b2 (bt U t) = 1 then f_M_goOrders_74 (f_M_goOrders g) fl τ1 (nI S) (nI U) (nI (t + 1)) else (bif inb (τ1.1 42) 10 then ((f_M_goOrders g (upI (upA τ1 26 ((τ1.1 42).toNatClampNeg) (nI t)) 42 ((τ1.1 42) + (1 : Int32))) (nI S) (nI U ||| ((1 : Int32) <<< (nI t &&& 31)))).bind fun σ129_2 => (f_M_goOrders_74 (f_M_goOrders g) fl (upI σ129_2 42 ((σ129_2.1 42) - (1 : Int32))) (nI S) (nI U) (nI (t + 1)))) else none))) = f_M_goOrders_74 (f_M_goOrders g) fl τ1 (nI S) (nI U) (nI (t + 1)) := by
              by_cases qS : bt S t = true
              · have qU : bt U t = true := by
                  cases z : bt U t
                  · rw [qS, z] at hL; exact absurd hL (by rw [bt_f qL]; decide)
                  · rfl
                rw [b2_nt qS, if_neg i10, b2_nt qU, if_pos rfl]
              · rw [b2_nf (bt_f qS), if_pos rfl]
            rw [b2_nf (bt_f qL), if_pos rfl, hskip]
            exact ihl σ1 τ1 k1 k2 k3 k4 k5)
        0 (Nat.zero_le _) FU (by show _ < 1000; omega) σ τ rfl rfl hE hg hS
      obtain ⟨σ', τ', z1, z2, z3⟩ := main
      refine ⟨σ', τ', z1, ?_, z3⟩
      show f_M_goOrders_F (f_M_goOrders g) τ (nI S) (nI U) = some τ'
      unfold f_M_goOrders_F
      rw [if_neg (fun z => hne ((nI_eq (by omega) (by omega)).mp z))]
      exact z2
theorem e_order {σ τ : St} (h : Rel σ τ) (x y : Int32) : ∃ r σ' τ', f_Top_order σ x y = some (r, σ') ∧ f_M_order τ x y = some (r, τ') ∧ Rel σ' τ' := by
  obtain ⟨e, hB, hC, hM⟩ := rel_ew h
  have hn := hB.1
  unfold f_Top_order f_M_order
  rcases isSet_2 hB hC hM x with ⟨g1, g2⟩ | ⟨b, hb, rfl, g1, g2⟩
  · rw [g1, g2]; exact ⟨_, _, _, rfl, rfl, h⟩
  · rw [g1, g2]
    simp only [bind_s, i10, if_false]
    have hKn := mb_le b e.1
    by_cases hy : (-1 : Int32) ≤ y
    · rw [if_pos hy, if_pos hy, pc_some, bits_eq (p10 hn hb), pc_mb hn hb, bind_s, bind_s]
      by_cases hK : (mbN b e.1).2 ≤ 6
      · have c6 : nI (mbN b e.1).2 ≤ (6 : Int32) := nI_le (b := 6) hK (by decide)
        have o0 : ordN e.1 b b 0 (fun _ => 0) 0 := ⟨hb, hb, Nat.two_pow_pos _, fun t ht => by rw [bt_0]; cases bt b t <;> rfl, fun t ht q => absurd q (by rw [bt_0]; decide), fun i hi => absurd hi (Nat.not_lt_zero i), fun i j hi => absurd hi (Nat.not_lt_zero i), mbc_0 _⟩
        obtain ⟨σ1, τ1, j1, j2, j3, j4, -, -, s, s1, s2, s3⟩ := order_J hB hK (mbN b e.1).2 0 b 0 (fun _ => 0) (upI σ 2706 (2147483647 : Int32)) (upI (upI τ 44 (-1)) 42 0) (by omega) o0 (ewC_k (kC_upI (by rfl)) hC) (ewM_k (by rw [kM_upI (by rfl), kM_upI (by rfl)]) hM) (fun i hi => absurd hi (Nat.not_lt_zero i)) (fun i hi => absurd hi (Nat.not_lt_zero i)) ⟨rfl, fun i hi => absurd hi (Nat.not_lt_zero i)⟩ ⟨2147483647, Nat.le_refl _, rfl, Or.inl ⟨rfl, rfl⟩⟩ 20 (by omega) 20 (by omega)
        have kk : kC σ1 = kC σ := by rw [j3, kC_upI (by rfl)]
        have km : kM τ1 = kM τ := by rw [j4, kM_upI (by rfl), kM_upI (by rfl)]
        have j1' : f_Rope_arrange 20 (upI σ 2706 (2147483647 : Int32)) (nI b) 0 0 = some σ1 := j1
        have j2' : f_M_goOrders 20 (upI (upI τ 44 (-1)) 42 0) (nI b) 0 = some τ1 := j2
        unfold f_Rope_findOrder
        rw [if_pos c6, if_pos c6, j1', bind_s, j2', bind_s, s2]
        rcases s3 with ⟨z1, z2⟩ | ⟨z1, z2, z3⟩
        · rw [z2, if_pos (show (-1 : Int32) < 0 by decide), z1, if_pos (show nI 2147483647 = 2147483647 from rfl), bd2_s, if_pos rfl]
          by_cases w : nI (mbN b e.1).2 ≤ y
          · rw [if_pos w]; exact ⟨_, _, _, rfl, rfl, rel_k h rfl km⟩
          · rw [if_neg w]; exact ⟨_, _, _, rfl, rfl, rel_k h kk km⟩
        · rw [z2, if_neg (nI_pos (by omega)), if_neg (show ¬ nI s = 2147483647 from fun q => by
            have := (nI_eq (b := 2147483647) (by omega) (by decide)).mp q
            omega), bd2_s, if_neg i10, bind_s]
          by_cases w : nI (mbN b e.1).2 ≤ y
          · rw [if_pos w, if_neg (show ¬ y < nI (mbN b e.1).2 by rw [it]; rw [il] at w; omega)]
            exact ⟨_, _, _, rfl, rfl, rel_k h rfl km⟩
          · rw [if_neg w, if_pos (show y < nI (mbN b e.1).2 by rw [it]; rw [il] at w; omega)]
            by_cases y1 : y = -1
            · rw [if_pos y1, if_neg (show ¬ 0 ≤ y by rw [y1]; decide), s2]
              exact ⟨_, _, _, rfl, rfl, rel_k h kk km⟩
            · have y0 : ¬ y < 0 := fun q => y1 (by
                rw [il] at hy
                rw [it] at q
                have zm : (-1 : Int32).toInt = -1 := rfl
                have z0 : (0 : Int32).toInt = 0 := rfl
                exact (ie _ _).mpr (by omega))
              obtain ⟨k, hk, rfl⟩ := nI_of y0
              have hkK : k < (mbN b e.1).2 := by
                rcases Nat.lt_or_ge k (mbN b e.1).2 with q | q
                · exact q
                · exact absurd (nI_le q hk) w
              rw [if_neg y1, if_pos (nI_pos' hk), in_t (t := k) (by omega), ct_t (t := k) (by omega), z3 k hkK]
              exact ⟨_, _, _, rfl, rfl, rel_k h kk km⟩
      · have c6 : ¬ nI (mbN b e.1).2 ≤ (6 : Int32) := nI_ge (a := 6) (by omega) (by omega)
        rw [if_neg c6, if_neg c6]
        exact ⟨_, _, _, rfl, rfl, h⟩
    · rw [if_neg hy, if_neg hy]
      exact ⟨_, _, _, rfl, rfl, h⟩
