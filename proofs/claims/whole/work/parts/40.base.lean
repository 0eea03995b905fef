/-! numbers, bits, tests: what both sides' functions need -/
def b2 (p : Bool) : Int32 := bif p then 1 else 0
theorem b2_t : b2 true = 1 := rfl
theorem b2_f : b2 false = 0 := rfl
theorem b2_eq0 (p : Bool) : (b2 p = 0) = (p = false) := by cases p <;> simp [b2]
theorem zb_b2 (p : Bool) : zb (b2 p) = true := by cases p <;> rfl
theorem inb_nI {t n : Nat} (h : t < n) (hn : n < 2 ^ 31) : inb (nI t) n = true := decide_eq_true (nI_in h hn)
theorem inb_of {x : Int32} {n : Nat} (h : inb x n = true) (hn : n < 2 ^ 31) : ∃ t, t < n ∧ x = nI t := vp_in_of (inb_in h) hn
theorem il (a b : Int32) : a ≤ b ↔ a.toInt ≤ b.toInt := Int32.le_iff_toInt_le
theorem it (a b : Int32) : a < b ↔ a.toInt < b.toInt := Int32.lt_iff_toInt_lt
theorem ie (a b : Int32) : a = b ↔ a.toInt = b.toInt := Int32.toInt_inj.symm
theorem within_eq (v a b : Int32) : f_Top_within v a b = some (b2 (decide (a ≤ v ∧ v ≤ b))) := by
  unfold f_Top_within
  by_cases h1 : v < a
  · have : ¬ (a ≤ v ∧ v ≤ b) := fun h => by rw [it] at h1; rw [il, il] at h; omega
    simp [h1, this, b2]
  · by_cases h2 : b < v
    · have : ¬ (a ≤ v ∧ v ≤ b) := fun h => by rw [it] at h2; rw [il, il] at h; omega
      simp [h1, h2, this, b2]
    · have : (a ≤ v ∧ v ≤ b) := by rw [it] at h1 h2; rw [il, il]; omega
      simp [h1, h2, this, b2]
theorem in_eq (v a b : Int32) : f_M_in v a b = some (b2 (decide (a ≤ v ∧ v ≤ b))) := within_eq v a b
theorem nI_pred_toInt {n : Nat} (hn : n < 2 ^ 30) : (nI n - 1).toInt = (n : Int) - 1 := pk_sub_toInt (b := 1) hn (by decide)
/-- a number of one of n things -/
theorem isT {n : Nat} (hn : n < 2 ^ 30) (x : Int32) : (0 ≤ x ∧ x ≤ nI n - 1) ↔ ∃ t, t < n ∧ x = nI t := by
  constructor
  · intro ⟨h1, h2⟩
    rw [il, nI_pred_toInt hn] at h2
    rw [il] at h1
    have h0 : (0 : Int32).toInt = 0 := rfl
    rw [h0] at h1
    refine ⟨x.toInt.toNat, by omega, ?_⟩
    rw [ie, nI_toInt (by omega)]
    omega
  · rintro ⟨t, ht, rfl⟩
    rw [il, il, nI_pred_toInt hn, nI_toInt (by omega)]
    have h0 : (0 : Int32).toInt = 0 := rfl
    rw [h0]
    omega
theorem nIt {t : Nat} (h : t < 2 ^ 31) : (nI t).toNatClampNeg = t := nI_clamp h
theorem bind_s {α β : Type} (x : α) (f : α → Option β) : (some x).bind f = f x := rfl
theorem bd2_s {α β : Type} (x : α) (σ : St) (f : α → St → Option β) : bd2 (some (x, σ)) f = f x σ := rfl
theorem bif_t {α : Type} {c : Bool} (h : c = true) (a b : α) : (bif c then a else b) = a := by rw [h]; rfl
theorem upI_1 (σ : St) (k j : Nat) (v : Int32) : (upI σ k v).1 j = if j = k then v else σ.1 j := rfl
theorem upI_2 (σ : St) (k : Nat) (v : Int32) : (upI σ k v).2 = σ.2 := rfl
theorem upA_1 (σ : St) (a i : Nat) (v : Int32) : (upA σ a i v).1 = σ.1 := rfl
theorem upA_2 (σ : St) (a i b : Nat) (v : Int32) : (upA σ a i v).2.1 b = if b = a then upd (σ.2.1 a) i v else σ.2.1 b := rfl
theorem upA_3 (σ : St) (a i : Nat) (v : Int32) : (upA σ a i v).2.2 = σ.2.2 := rfl
theorem stA_1 (σ : St) (a : Nat) (f : Nat → Int32) : (stA σ a f).1 = σ.1 := rfl
theorem stA_2 (σ : St) (a b : Nat) (f : Nat → Int32) : (stA σ a f).2.1 b = if b = a then f else σ.2.1 b := rfl
theorem stA_3 (σ : St) (a : Nat) (f : Nat → Int32) : (stA σ a f).2.2 = σ.2.2 := rfl
theorem upL_1 (σ : St) (a i : Nat) (v : Int64) : (upL σ a i v).1 = σ.1 := rfl
theorem upL_2 (σ : St) (a i : Nat) (v : Int64) : (upL σ a i v).2.1 = σ.2.1 := rfl
theorem upL_3 (σ : St) (a i b : Nat) (v : Int64) : (upL σ a i v).2.2 b = if b = a then vp_updL (σ.2.2 a) i v else σ.2.2 b := rfl
theorem stL_1 (σ : St) (a : Nat) (f : Nat → Int64) : (stL σ a f).1 = σ.1 := rfl
theorem stL_2 (σ : St) (a : Nat) (f : Nat → Int64) : (stL σ a f).2.1 = σ.2.1 := rfl
theorem stL_3 (σ : St) (a b : Nat) (f : Nat → Int64) : (stL σ a f).2.2 b = if b = a then f else σ.2.2 b := rfl
/-! bits -/
theorem sh_amt {t : Nat} (h : t < 32) : ((nI t &&& 31).toBitVec.smod 32).toNat = t := by
  have : ∀ t : Fin 32, ((nI t.1 &&& 31).toBitVec.smod 32).toNat = t.1 := by decide +kernel
  exact this ⟨t, h⟩
theorem ush_amt {t : Nat} (h : t < 32) : (((nI t).toUInt32 &&& Int32.toUInt32 31).toBitVec % 32).toNat = t := by
  have : ∀ t : Fin 32, (((nI t.1).toUInt32 &&& Int32.toUInt32 31).toBitVec % 32).toNat = t.1 := by decide +kernel
  exact this ⟨t, h⟩
theorem iushr_nI {b t : Nat} (hb : b < 2 ^ 32) (ht : t < 32) : iushr (nI b) (nI t) = nI (b / 2 ^ t) := pk_ushrN hb (nI t) t (ush_amt ht)
theorem ishr_nI {b t : Nat} (hb : b < 2 ^ 31) (ht : t < 32) : nI b >>> (nI t &&& 31) = nI (b / 2 ^ t) := pk_shrN hb _ t (sh_amt ht)
theorem and1_nI {b : Nat} (hb : b < 2 ^ 32) : nI b &&& 1 = nI (b % 2) := pk_andN hb 1 (by decide)
theorem shl1_nI {t : Nat} (ht : t < 31) : (1 : Int32) <<< (nI t &&& 31) = nI (2 ^ t) := by
  have := pk_shlN (n := 1) (nI t &&& 31) t (sh_amt (by omega)) (by
    have : 2 ^ t ≤ 2 ^ 30 := Nat.pow_le_pow_right (by decide) (by omega)
    omega)
  rw [Nat.one_mul] at this
  exact this
def bt (b t : Nat) : Bool := b / 2 ^ t % 2 == 1
theorem or_nI {a b : Nat} (ha : a < 2 ^ 31) (hb : b < 2 ^ 31) : nI a ||| nI b = nI (a ||| b) := by
  apply Int32.toBitVec_inj.mp
  apply BitVec.eq_of_toNat_eq
  have e1 : (nI a ||| nI b).toBitVec = (nI a).toBitVec ||| (nI b).toBitVec := rfl
  rw [e1, BitVec.toNat_or, pk_tn (by omega), pk_tn (by omega), pk_tn (Nat.lt_trans (Nat.or_lt_two_pow ha hb) (by decide))]
/-- the set's test of the class and of the reference -/
theorem isSet_eq {n : Nat} (hn : n ≤ 10) (x : Int32) : iushr x (nI n) = 0 ↔ ∃ b, b < 2 ^ n ∧ x = nI b := by
  have hx : x = nI x.toBitVec.toNat := by
    apply Int32.toBitVec_inj.mp
    apply BitVec.eq_of_toNat_eq
    rw [pk_tn (show x.toBitVec.toNat < 2 ^ 32 from x.toBitVec.isLt)]
  have hp : (2 : Nat) ^ n ≤ 2 ^ 10 := Nat.pow_le_pow_right (by decide) hn
  constructor
  · intro h
    rw [hx, iushr_nI x.toBitVec.isLt (by omega)] at h
    have h2 : x.toBitVec.toNat / 2 ^ n = 0 := by
      have h3 := congrArg (fun q : Int32 => q.toBitVec.toNat) h
      have h4 : x.toBitVec.toNat / 2 ^ n < 2 ^ 32 := Nat.lt_of_le_of_lt (Nat.div_le_self _ _) x.toBitVec.isLt
      simp only [pk_tn h4] at h3
      exact h3
    exact ⟨_, by have := Nat.lt_of_div_eq_zero (Nat.two_pow_pos n) h2; exact this, hx⟩
  · rintro ⟨b, hb, rfl⟩
    rw [iushr_nI (by omega) (by omega), Nat.div_eq_of_lt hb]
    rfl
theorem areThings_eq {n : Nat} (hn : n ≤ 10) (x : Int32) : (0 ≤ x ∧ x ≤ (1 : Int32) <<< (nI n &&& 31) - 1) ↔ ∃ b, b < 2 ^ n ∧ x = nI b := by
  rw [shl1_nI (by omega)]
  have hp : (2 : Nat) ^ n ≤ 2 ^ 10 := Nat.pow_le_pow_right (by decide) hn
  exact isT (by omega) x
theorem bit_C {b t : Nat} (hb : b < 2 ^ 31) (ht : t < 32) : iushr (nI b) (nI t) &&& 1 = b2 (bt b t) := by
  rw [iushr_nI (by omega) ht, and1_nI (Nat.lt_of_le_of_lt (Nat.div_le_self _ _) (by omega))]
  unfold bt b2
  rcases Nat.mod_two_eq_zero_or_one (b / 2 ^ t) with h | h <;> rw [h] <;> rfl
theorem bit_M {b t : Nat} (hb : b < 2 ^ 31) (ht : t < 32) : nI b >>> (nI t &&& 31) &&& 1 = b2 (bt b t) := by
  rw [ishr_nI hb ht, and1_nI (Nat.lt_of_le_of_lt (Nat.div_le_self _ _) (by omega))]
  unfold bt b2
  rcases Nat.mod_two_eq_zero_or_one (b / 2 ^ t) with h | h <;> rw [h] <;> rfl
theorem isOf_eq {b t : Nat} (hb : b < 2 ^ 31) (ht : t < 10) : f_Top_isOf (nI b) (nI t) = some (b2 (bt b t)) := by
  unfold f_Top_isOf
  rw [within_eq]
  have h : (0 : Int32) ≤ nI t ∧ nI t ≤ 9 := by
    rw [il, il, nI_toInt (by omega)]
    have h0 : (0 : Int32).toInt = 0 := rfl
    have h9 : (9 : Int32).toInt = 9 := rfl
    rw [h0, h9]
    omega
  simp only [bind_s, decide_eq_true h, b2_t]
  rw [bit_C hb (by omega)]
  cases bt b t <;> rfl
