/-! the law worked out, by both: steps over a stack -/
def binV (c x y : Int32) : Int32 := if c = 37 then (if y = 0 then 0 else irem x y) else if c = 38 then (if x = 0 then 0 else if y = 0 then 0 else 1) else if c = 42 then x * y else if c = 43 then x + y else if c = 45 then x - y else if c = 47 then (if y = 0 then 0 else x / y) else if c = 60 then (if y ≤ x then 0 else 1) else if c = 61 then (if x = y then 1 else 0) else if c = 62 then (if x ≤ y then 0 else 1) else if c = 124 then (if x = 0 then (if y = 0 then 0 else 1) else 1) else 0
theorem joined_eq (c x y : Int32) : f_Law_joined c x y = some (binV c x y) := by
  unfold f_Law_joined binV
  have hz : ¬ y = 0 → nz y = true := fun h => decide_eq_true h
  by_cases h0 : y = 0
  · simp only [h0, if_true]
    repeat' split
    all_goals rfl
  · simp only [h0, if_false, hz h0, cond_true]
    repeat' split
    all_goals rfl
theorem div_m1 (x : Int32) : x / (-1) = -x := by
  apply Int32.toInt_inj.mp
  rw [Int32.toInt_div, show (-1 : Int32).toInt = -1 from rfl, Int.tdiv_neg, Int.tdiv_one, Int32.toInt_neg]
theorem rem_m1 (x : Int32) : irem x (-1) = 0 := by
  unfold irem
  rw [div_m1]
  apply Int32.toInt_inj.mp
  have : -x * (-1) = x := by
    rw [Int32.mul_neg, Int32.mul_one, Int32.neg_neg]
  rw [this, Int32.sub_self]
theorem two_eq {s : Int32} (h : isOpS s = true) (x y : Int32) : f_M_twoOf (-s) x y = some (binV (-s) x y) := by
  have hz : ¬ y = 0 → nz y = true := fun h => decide_eq_true h
  simp only [isOpS, Bool.or_eq_true, decide_eq_true_eq] at h
  rcases h with ((((((((rfl | rfl) | rfl) | rfl) | rfl) | rfl) | rfl) | rfl) | rfl) | rfl
  · show f_M_twoOf 124 x y = some (binV 124 x y)
    simp only [f_M_twoOf, binV]
    simp
    repeat' split
    all_goals rfl
  · show f_M_twoOf 38 x y = some (binV 38 x y)
    simp only [f_M_twoOf, binV]
    simp
    repeat' split
    all_goals rfl
  · show f_M_twoOf 60 x y = some (binV 60 x y)
    simp only [f_M_twoOf, binV]
    simp
    repeat' split
    all_goals rfl
  · show f_M_twoOf 61 x y = some (binV 61 x y)
    simp only [f_M_twoOf, binV]
    simp
    repeat' split
    all_goals rfl
  · show f_M_twoOf 62 x y = some (binV 62 x y)
    simp only [f_M_twoOf, binV]
    simp
    repeat' split
    all_goals rfl
  · show f_M_twoOf 43 x y = some (binV 43 x y)
    simp only [f_M_twoOf, binV]
    simp
  · show f_M_twoOf 45 x y = some (binV 45 x y)
    simp only [f_M_twoOf, binV]
    simp
  · show f_M_twoOf 42 x y = some (binV 42 x y)
    simp only [f_M_twoOf, binV]
    simp
  · show f_M_twoOf 47 x y = some (binV 47 x y)
    simp only [f_M_twoOf, binV]
    by_cases h0 : y = 0
    · simp [h0]
    · by_cases h1 : y = -1
      · simp [h1, div_m1]
      · simp [h0, h1, hz h0]
  · show f_M_twoOf 37 x y = some (binV 37 x y)
    simp only [f_M_twoOf, binV]
    by_cases h0 : y = 0
    · simp [h0]
    · by_cases h1 : y = -1
      · simp [h1, rem_m1]
      · simp [h0, h1, hz h0]
/-- one step over a stack (its top first) -/
def stepE (nm : Nat → Int32) (s : Int32) (st : List Int32) : List Int32 := if 0 ≤ s then s :: st else if -6 ≤ s then nm (-1 - s).toNatClampNeg :: st else if s = -33 then (if st.headD 0 = 0 then 1 else 0) :: st.tail else if s = -126 then (-(st.headD 0)) :: st.tail else binV (-s) (st.tail.headD 0) (st.headD 0) :: st.tail.tail
def evalP (nm : Nat → Int32) : List Int32 → List Int32 → List Int32
  | [], st => st
  | s :: r, st => evalP nm r (stepE nm s st)
theorem dep_step {s : Int32} {r : List Int32} {k m : Nat} (nm : Nat → Int32) (st : List Int32) (hk : st.length = k) (h : dep (s :: r) k = some m) : dep r (stepE nm s st).length = some m ∧ (-6 ≤ s → k < 60) ∧ (¬ -6 ≤ s → 1 ≤ k) ∧ (¬ -6 ≤ s → ¬ s = -33 → ¬ s = -126 → 2 ≤ k ∧ isOpS s = true) := by
  unfold dep at h
  unfold stepE
  by_cases h6 : -6 ≤ s
  · rw [if_pos h6] at h
    by_cases h60 : k < 60
    · rw [if_pos h60] at h
      refine ⟨?_, fun _ => h60, fun q => absurd h6 q, fun q => absurd h6 q⟩
      by_cases h0 : 0 ≤ s
      · rw [if_pos h0, List.length_cons, hk]; exact h
      · rw [if_neg h0, if_pos h6, List.length_cons, hk]; exact h
    · rw [if_neg h60] at h; cases h
  · rw [if_neg h6] at h
    have h0 : ¬ 0 ≤ s := fun q => h6 (by rw [il] at *; have e : (-6 : Int32).toInt = -6 := rfl; have e0 : (0 : Int32).toInt = 0 := rfl; omega)
    rw [if_neg h0, if_neg h6]
    by_cases hu : s = -33 ∨ s = -126
    · rw [if_pos hu] at h
      by_cases h1 : 1 ≤ k
      · rw [if_pos h1] at h
        refine ⟨?_, fun q => absurd q h6, fun _ => h1, fun _ q1 q2 => absurd hu (by simp [q1, q2])⟩
        have e : (st.tail.length + 1) = k := by rw [List.length_tail]; omega
        by_cases h33 : s = -33
        · rw [if_pos h33, List.length_cons, e]; exact h
        · rw [if_neg h33, if_pos (hu.resolve_left h33), List.length_cons, e]; exact h
      · rw [if_neg h1] at h; cases h
    · rw [if_neg hu] at h
      by_cases h2 : isOpS s = true ∧ 2 ≤ k
      · rw [if_pos h2] at h
        refine ⟨?_, fun q => absurd q h6, fun _ => by omega, fun _ _ _ => ⟨h2.2, h2.1⟩⟩
        rw [if_neg (fun q => hu (Or.inl q)), if_neg (fun q => hu (Or.inr q)), List.length_cons, List.length_tail, List.length_tail]
        rw [show st.length - 1 - 1 + 1 = k - 1 by omega]
        exact h
      · rw [if_neg h2] at h; cases h
theorem evalP_len (nm : Nat → Int32) : ∀ (seg : List Int32) (st : List Int32) (m : Nat), dep seg st.length = some m → (evalP nm seg st).length = m
  | [], st, m, h => by unfold dep at h; unfold evalP; exact Option.some.inj h
  | s :: r, st, m, h => by
    unfold evalP
    exact evalP_len nm r _ m (dep_step nm st rfl h).1
theorem stepE_app (nm : Nat → Int32) {s : Int32} {r : List Int32} {m : Nat} (st rest : List Int32) (h : dep (s :: r) st.length = some m) : stepE nm s (st ++ rest) = stepE nm s st ++ rest := by
  obtain ⟨-, -, h1, h2⟩ := dep_step nm st rfl h
  unfold stepE
  by_cases h0 : 0 ≤ s
  · rw [if_pos h0, if_pos h0]; rfl
  · rw [if_neg h0, if_neg h0]
    by_cases h6 : -6 ≤ s
    · rw [if_pos h6, if_pos h6]; rfl
    · rw [if_neg h6, if_neg h6]
      match st, h1 h6 with
      | x :: t, _ =>
        by_cases h33 : s = -33
        · rw [if_pos h33, if_pos h33]; rfl
        · rw [if_neg h33, if_neg h33]
          by_cases h126 : s = -126
          · rw [if_pos h126, if_pos h126]; rfl
          · rw [if_neg h126, if_neg h126]
            match t, (h2 h6 h33 h126).1 with
            | y :: u, _ => rfl
theorem evalP_app (nm : Nat → Int32) : ∀ (seg : List Int32) (st rest : List Int32) (m : Nat), dep seg st.length = some m → evalP nm seg (st ++ rest) = evalP nm seg st ++ rest
  | [], _, _, _, _ => rfl
  | s :: r, st, rest, m, h => by
    unfold evalP
    rw [stepE_app nm st rest h]
    exact evalP_app nm r _ rest m (dep_step nm st rfl h).1
/-- a row holds a stack -/
def stk (a : Nat → Int32) (st : List Int32) : Prop := ∀ q, q < st.length → a q = st.getD (st.length - 1 - q) 0
theorem stk_push {a : Nat → Int32} {st : List Int32} (h : stk a st) (v : Int32) : stk (upd a st.length v) (v :: st) := by
  intro q hq
  rw [List.length_cons] at hq ⊢
  unfold upd
  by_cases e : q = st.length
  · rw [if_pos e, show st.length + 1 - 1 - q = 0 by omega]; rfl
  · rw [if_neg e, h q (by omega), show st.length + 1 - 1 - q = (st.length - 1 - q) + 1 by omega]; rfl
theorem stk_pop {a : Nat → Int32} {x : Int32} {st : List Int32} (h : stk a (x :: st)) : a st.length = x ∧ stk a st := by
  constructor
  · have := h st.length (by rw [List.length_cons]; omega)
    rw [List.length_cons, show st.length + 1 - 1 - st.length = 0 by omega] at this
    exact this
  · intro q hq
    have := h q (by rw [List.length_cons]; omega)
    rw [List.length_cons, show st.length + 1 - 1 - q = (st.length - 1 - q) + 1 by omega] at this
    exact this
/-- only the stack of the class's law has changed -/
def samL (σ σ' : St) : Prop := (∀ k, k ≠ 2104 → σ'.1 k = σ.1 k) ∧ (∀ a, a ≠ 23 → σ'.2.1 a = σ.2.1 a) ∧ σ'.2.2 = σ.2.2
theorem samL_rf (σ : St) : samL σ σ := ⟨fun _ _ => rfl, fun _ _ => rfl, rfl⟩
theorem samL_tr {a b c : St} (h1 : samL a b) (h2 : samL b c) : samL a c := ⟨fun k hk => (h2.1 k hk).trans (h1.1 k hk), fun k hk => (h2.2.1 k hk).trans (h1.2.1 k hk), h2.2.2.trans h1.2.2⟩
def stkC (σ : St) (st : List Int32) : Prop := σ.1 2104 = nI st.length ∧ stk (σ.2.1 23) st
theorem pop_C {σ : St} {x : Int32} {st : List Int32} (h : stkC σ (x :: st)) (hl : st.length < 64) : ∃ σ', f_Law_pop σ = some (x, σ') ∧ stkC σ' st ∧ samL σ σ' := by
  obtain ⟨h1, h2⟩ := h
  rw [List.length_cons] at h1
  obtain ⟨e1, e2⟩ := stk_pop h2
  unfold f_Law_pop
  rw [h1, if_pos (show (0 : Int32) < nI (st.length + 1) from nI_lt (a := 0) (by omega) (by omega)), nI_pred, inb_nI hl (by decide), nIt (by omega), e1]
  exact ⟨_, rfl, ⟨rfl, e2⟩, fun k hk => by rw [upI_1, if_neg hk], fun _ _ => rfl, rfl⟩
theorem push_C {σ : St} {st : List Int32} (h : stkC σ st) (hl : st.length < 64) (v : Int32) : ∃ σ', f_Law_push σ v = some σ' ∧ stkC σ' (v :: st) ∧ samL σ σ' := by
  obtain ⟨h1, h2⟩ := h
  unfold f_Law_push
  rw [h1, if_neg (show ¬ (64 : Int32) ≤ nI st.length from nI_ge (b := 64) hl (by decide)), inb_nI hl (by decide), nIt (by omega)]
  refine ⟨_, rfl, ⟨nI_1 _, stk_push h2 v⟩, fun k hk => by rw [upI_1, if_neg hk]; rfl, fun a ha => by rw [upI_2, upA_2, if_neg ha], rfl⟩
theorem value_C {nm : Nat → Int32} {σ : St} {s : Int32} {r st : List Int32} {m : Nat} (h : stkC σ st) (hl : st.length < 62) (hn : ∀ k, k < 6 → σ.2.1 24 k = nm k) (hd : dep (s :: r) st.length = some m) : ∃ v σ1 σ', f_Law_value σ s = some (v, σ1) ∧ f_Law_push σ1 v = some σ' ∧ stkC σ' (stepE nm s st) ∧ samL σ σ' := by
  obtain ⟨-, d1, d2, d3⟩ := dep_step nm st rfl hd
  unfold f_Law_value stepE
  have z0 : (0 : Int32).toInt = 0 := rfl
  have z6 : (-6 : Int32).toInt = -6 := rfl
  by_cases h0 : 0 ≤ s
  · rw [if_neg (show ¬ s < 0 by rw [it]; rw [il] at h0; omega), if_pos h0]
    obtain ⟨σ', p1, p2, p3⟩ := push_C h (by omega) s
    exact ⟨_, _, σ', rfl, p1, p2, p3⟩
  · rw [if_pos (show s < 0 by rw [it]; rw [il] at h0; omega), if_neg h0]
    by_cases h6 : -6 ≤ s
    · rw [if_neg (show ¬ s < -6 by rw [it]; rw [il] at h6; omega), if_pos h6]
      have hb : (0 : Int32) ≤ -1 - s ∧ -1 - s ≤ nI 6 - 1 := by
        have e : (-1 - s : Int32).toInt = -1 - s.toInt := by
          rw [Int32.toInt_sub]
          have em : (-1 : Int32).toInt = -1 := rfl
          rw [em, Int.bmod_def]
          rw [il] at h6
          rw [il] at h0
          split <;> omega
        have e5 : (nI 6 - 1).toInt = 5 := rfl
        rw [il, il, e, e5]
        rw [il] at h6
        rw [il] at h0
        omega
      obtain ⟨q, hq, eq⟩ := (isT (n := 6) (by decide) _).mp hb
      rw [eq, inb_nI hq (by decide), nIt (by omega), hn q hq]
      obtain ⟨σ', p1, p2, p3⟩ := push_C h (by omega) (nm q)
      exact ⟨_, _, σ', rfl, p1, p2, p3⟩
    · rw [if_pos (show s < -6 by rw [it]; rw [il] at h6; omega), if_neg h6]
      match st, d2 h6, h, hl, d3 with
      | x :: t, _, h, hl, d3 =>
        rw [List.length_cons] at hl
        obtain ⟨σ1, p1, p2, p3⟩ := pop_C h (by omega)
        rw [p1]
        by_cases h33 : s = -33
        · simp only [bd2_s, h33, if_true, List.headD_cons, List.tail_cons]
          obtain ⟨σ', q1, q2, q3⟩ := push_C p2 (by omega) (if x = 0 then 1 else 0)
          refine ⟨_, σ1, σ', ?_, q1, q2, samL_tr p3 q3⟩
          split <;> rfl
        · simp only [bd2_s, h33, if_false]
          by_cases h126 : s = -126
          · simp only [h126, if_true, List.headD_cons, List.tail_cons]
            obtain ⟨σ', q1, q2, q3⟩ := push_C p2 (by omega) (-x)
            exact ⟨_, σ1, σ', rfl, q1, q2, samL_tr p3 q3⟩
          · simp only [h126, if_false]
            match t, (d3 h6 h33 h126).1, p2, hl with
            | y :: u, _, p2, hl =>
              rw [List.length_cons] at hl
              obtain ⟨σ2, q1, q2, q3⟩ := pop_C p2 (by omega)
              rw [q1]
              simp only [bd2_s, joined_eq, bind_s, List.headD_cons, List.tail_cons]
              obtain ⟨σ', r1, r2, r3⟩ := push_C q2 (by omega) (binV (-s) y x)
              exact ⟨_, σ2, σ', rfl, r1, r2, samL_tr p3 (samL_tr q3 r3)⟩
