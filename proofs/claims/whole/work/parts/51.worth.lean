/-! lines of the law, by both -/
theorem dep_mark {s : Int32} {r : List Int32} {k m : Nat} (h : dep (s :: r) k = some m) : ¬ s = -59 ∧ ¬ s = -63 := by
  constructor
  · rintro rfl
    unfold dep at h
    rw [if_neg (by decide), if_neg (by decide), if_neg (fun q => absurd q.1 (by decide))] at h
    cases h
  · rintro rfl
    unfold dep at h
    rw [if_neg (by decide), if_neg (by decide), if_neg (fun q => absurd q.1 (by decide))] at h
    cases h
theorem dep_le : ∀ (seg : List Int32) (k m : Nat), dep seg k = some m → k ≤ 60 → m ≤ 60
  | [], k, m, h, hk => by unfold dep at h; have := Option.some.inj h; omega
  | s :: r, k, m, h, hk => by
    have := dep_step (fun _ => 0) (List.replicate k 0) (List.length_replicate) h
    obtain ⟨h1, h2, h3, h4⟩ := this
    refine dep_le r _ m h1 ?_
    unfold stepE
    by_cases h0 : 0 ≤ s
    · rw [if_pos h0, List.length_cons, List.length_replicate]
      have : k < 60 := h2 (by rw [il] at *; have e : (-6 : Int32).toInt = -6 := rfl; have e0 : (0 : Int32).toInt = 0 := rfl; omega)
      omega
    · rw [if_neg h0]
      by_cases h6 : -6 ≤ s
      · rw [if_pos h6, List.length_cons, List.length_replicate]; have := h2 h6; omega
      · rw [if_neg h6]
        have := h3 h6
        split
        · rw [List.length_cons, List.length_tail, List.length_replicate]; omega
        · split
          · rw [List.length_cons, List.length_tail, List.length_replicate]; omega
          · rw [List.length_cons, List.length_tail, List.length_tail, List.length_replicate]; omega
theorem step_le {nm : Nat → Int32} {s : Int32} {r st : List Int32} {m : Nat} (h : dep (s :: r) st.length = some m) (hk : st.length ≤ 60) : (stepE nm s st).length ≤ 60 := by
  obtain ⟨h1, h2, h3, h4⟩ := dep_step nm st rfl h
  unfold stepE
  by_cases h0 : 0 ≤ s
  · rw [if_pos h0, List.length_cons]
    have : st.length < 60 := h2 (by rw [il] at *; have e : (-6 : Int32).toInt = -6 := rfl; have e0 : (0 : Int32).toInt = 0 := rfl; omega)
    omega
  · rw [if_neg h0]
    by_cases h6 : -6 ≤ s
    · rw [if_pos h6, List.length_cons]; have := h2 h6; omega
    · rw [if_neg h6]
      have := h3 h6
      split
      · rw [List.length_cons, List.length_tail]; omega
      · split
        · rw [List.length_cons, List.length_tail]; omega
        · rw [List.length_cons, List.length_tail, List.length_tail]; omega
theorem run_C {nm : Nat → Int32} {len : Nat} (hlen : len ≤ 121) : ∀ (seg : List Int32) (i : Nat) (st : List Int32) (σ : St) (m : Nat), (∀ q, q < seg.length → σ.2.1 22 (i + q) = seg.getD q 0) → σ.1 2103 = nI len → i + seg.length ≤ len → stkC σ st → st.length ≤ 60 → (∀ k, k < 6 → σ.2.1 24 k = nm k) → dep seg st.length = some m →
    ∃ σ', samL σ σ' ∧ stkC σ' (evalP nm seg st) ∧ ∀ fuel, f_Law_worth_7 (fuel + seg.length) σ (nI i) = f_Law_worth_7 fuel σ' (nI (i + seg.length)) := by
  intro seg
  induction seg with
  | nil => intro i st σ m _ _ _ h _ _ _; exact ⟨σ, samL_rf σ, h, fun fuel => rfl⟩
  | cons s r ih =>
    intro i st σ m h1 h2 h3 h4 h5 h6 h7
    rw [List.length_cons] at h3
    obtain ⟨v, σ1, σ2, g1, g2, g3, g4⟩ := value_C (nm := nm) h4 (by omega) h6 h7
    obtain ⟨σ3, k1, k2, k3⟩ := ih (i + 1) _ σ2 m (fun q hq => by
      rw [g4.2.1 22 (by decide), show i + 1 + q = i + (q + 1) by omega, h1 (q + 1) (by rw [List.length_cons]; omega)]; rfl) (by rw [g4.1 2103 (by decide)]; exact h2) (by omega) g3 (step_le h7 h5) (fun k hk => by rw [g4.2.1 24 (by decide)]; exact h6 k hk) (dep_step nm st rfl h7).1
    refine ⟨σ3, samL_tr g4 k1, k2, fun fuel => ?_⟩
    rw [List.length_cons, show fuel + (r.length + 1) = (fuel + r.length) + 1 by omega, show i + (r.length + 1) = i + 1 + r.length by omega, ← k3 fuel]
    have e0 : σ.2.1 22 i = s := by have := h1 0 (by rw [List.length_cons]; omega); rw [Nat.add_zero] at this; exact this
    obtain ⟨m1, m2⟩ := dep_mark h7
    show f_Law_worth_7 (fuel + r.length + 1) σ (nI i) = _
    conv => lhs; unfold f_Law_worth_7
    rw [h2, if_neg (nI_ge (by omega) (by omega)), inb_nI (show i < 121 by omega) (by decide), nIt (by omega), e0]
    simp only [cond_true, m1, m2, if_false, g1, bd2_s, g2, bind_s, nI_1]
def evalLaw (nm : Nat → Int32) : LawT → Int32
  | [] => 0
  | x :: r => match x.1 with
    | none => (evalP nm x.2 []).headD 0
    | some t => if (evalP nm t []).headD 0 = 0 then evalLaw nm r else (evalP nm x.2 []).headD 0
theorem one_of {nm : Nat → Int32} {seg : List Int32} (h : dep seg 0 = some 1) : ∃ v, evalP nm seg [] = [v] := by
  have := evalP_len nm seg [] 1 h
  match e : evalP nm seg [], this with
  | [v], _ => exact ⟨v, rfl⟩
theorem getD_app_l {a b : List Int32} {q : Nat} (h : q < a.length) : (a ++ b).getD q 0 = a.getD q 0 := by
  simp [List.getD_eq_getElem?_getD, List.getElem?_append_left h]
theorem getD_app_r {a b : List Int32} {q : Nat} : (a ++ b).getD (a.length + q) 0 = b.getD q 0 := by
  simp [List.getD_eq_getElem?_getD, List.getElem?_append_right (Nat.le_add_right _ _)]
theorem worth_C {nm : Nat → Int32} {len : Nat} (hlen : len ≤ 121) : ∀ (L : LawT) (i : Nat) (σ : St), (∀ x ∈ L, okLine x) → (∀ q, q < (lflC L).length → σ.2.1 22 (i + q) = (lflC L).getD q 0) → σ.1 2103 = nI len → i + (lflC L).length = len → stkC σ [] → (∀ k, k < 6 → σ.2.1 24 k = nm k) →
    ∃ σ', samL σ σ' ∧ ∀ fuel, (lflC L).length < fuel → f_Law_worth_7 fuel σ (nI i) = some (evalLaw nm L, σ') := by
  intro L
  induction L with
  | nil =>
    intro i σ _ _ h2 h3 _ _
    refine ⟨σ, samL_rf σ, fun fuel hf => ?_⟩
    obtain ⟨f, rfl⟩ : ∃ f, fuel = f + 1 := ⟨fuel - 1, by omega⟩
    unfold f_Law_worth_7
    have : i = len := by simpa [lflC] using h3
    rw [h2, this, if_pos (nI_le (Nat.le_refl _) (by omega))]
    rfl
  | cons x r ih =>
    intro i σ hok h1 h2 h3 h4 h5
    obtain ⟨o1, o2, o3⟩ := hok x List.mem_cons_self
    obtain ⟨xt, xb⟩ := x
    cases xt with
    | none =>
      have ef : lflC ((none, xb) :: r) = xb ++ (-59) :: lflC r := rfl
      rw [ef] at h1 h3
      rw [List.length_append, List.length_cons] at h3
      obtain ⟨σ1, s1, s2, s3⟩ := run_C (nm := nm) hlen xb i [] σ 1 (fun q hq => by rw [h1 q (by rw [List.length_append]; omega), getD_app_l hq]) h2 (by omega) h4 (by decide) h5 o2
      obtain ⟨v, hv⟩ := one_of (nm := nm) o2
      rw [hv] at s2
      obtain ⟨σ2, p1, p2, p3⟩ := pop_C s2 (by decide)
      refine ⟨σ2, samL_tr s1 p3, fun fuel hf => ?_⟩
      rw [ef, List.length_append, List.length_cons] at hf
      obtain ⟨f, rfl⟩ : ∃ f, fuel = (f + 1) + xb.length := ⟨fuel - xb.length - 1, by omega⟩
      rw [s3 (f + 1)]
      unfold f_Law_worth_7
      have em : σ1.2.1 22 (i + xb.length) = -59 := by
        rw [s1.2.1 22 (by decide), h1 xb.length (by rw [List.length_append, List.length_cons]; omega)]
        have := getD_app_r (a := xb) (b := (-59) :: lflC r) (q := 0)
        rw [Nat.add_zero] at this
        rw [this]; rfl
      rw [s1.1 2103 (by decide), h2, if_neg (nI_ge (by omega) (by omega)), inb_nI (show i + xb.length < 121 by omega) (by decide), nIt (by omega), em]
      simp only [cond_true, if_true, p1, bd2_s]
      show some (v, σ2) = some ((evalP nm xb []).headD 0, σ2)
      rw [hv]; rfl
    | some t =>
      have ef : lflC ((some t, xb) :: r) = t ++ (xb ++ (-63) :: lflC r) := by
        show t ++ xb ++ (-63) :: lflC r = _
        rw [List.append_assoc]
      rw [ef] at h1 h3
      rw [List.length_append, List.length_append, List.length_cons] at h3
      have ot := o1 t rfl
      obtain ⟨σ1, s1, s2, s3⟩ := run_C (nm := nm) hlen t i [] σ 1 (fun q hq => by rw [h1 q (by rw [List.length_append]; omega), getD_app_l hq]) h2 (by omega) h4 (by decide) h5 ot
      obtain ⟨v1, hv1⟩ := one_of (nm := nm) ot
      obtain ⟨v2, hv2⟩ := one_of (nm := nm) o2
      rw [hv1] at s2
      obtain ⟨σ2, u1, u2, u3⟩ := run_C (nm := nm) hlen xb (i + t.length) [v1] σ1 2 (fun q hq => by
        rw [s1.2.1 22 (by decide), Nat.add_assoc, h1 (t.length + q) (by rw [List.length_append, List.length_append]; omega), getD_app_r, getD_app_l hq]) (by rw [s1.1 2103 (by decide)]; exact h2) (by omega) s2 (Nat.le_of_ble_eq_true rfl) (fun k hk => by rw [s1.2.1 24 (by decide)]; exact h5 k hk) o3
      have hv3 : evalP nm xb [v1] = [v2, v1] := by
        have := evalP_app nm xb [] [v1] 1 o2
        rw [List.nil_append, hv2] at this
        exact this
      rw [hv3] at u2
      obtain ⟨σ3, p1, p2, p3⟩ := pop_C u2 (Nat.le_of_ble_eq_true rfl)
      obtain ⟨σ4, q1, q2, q3⟩ := pop_C p2 (by decide)
      have s04 : samL σ σ4 := samL_tr s1 (samL_tr u1 (samL_tr p3 q3))
      have em : σ2.2.1 22 (i + t.length + xb.length) = -63 := by
        rw [u1.2.1 22 (by decide), s1.2.1 22 (by decide), Nat.add_assoc, h1 (t.length + xb.length) (by rw [List.length_append, List.length_append, List.length_cons]; omega), getD_app_r]
        have := getD_app_r (a := xb) (b := (-63) :: lflC r) (q := 0)
        rw [Nat.add_zero] at this
        rw [this]; rfl
      have head : ∀ f, f_Law_worth_7 (f + 1 + xb.length + t.length) σ (nI i) = if v1 = 0 then f_Law_worth_7 f σ4 (nI (i + t.length + xb.length + 1)) else some (v2, σ4) := by
        intro f
        rw [s3 (f + 1 + xb.length), u3 (f + 1)]
        conv => lhs; unfold f_Law_worth_7
        rw [u1.1 2103 (by decide), s1.1 2103 (by decide), h2, if_neg (nI_ge (by omega) (by omega)), inb_nI (show i + t.length + xb.length < 121 by omega) (by decide), nIt (by omega), em]
        simp only [cond_true, show ¬ (-63 : Int32) = -59 by decide, if_true, if_false, p1, bd2_s, q1, nI_1]
      by_cases h0 : v1 = 0
      · obtain ⟨σ5, w1, w2⟩ := ih (i + t.length + xb.length + 1) σ4 (fun y hy => hok y (List.mem_cons_of_mem _ hy)) (fun q hq => by
          rw [s04.2.1 22 (by decide), show i + t.length + xb.length + 1 + q = i + (t.length + (xb.length + (q + 1))) by omega, h1 _ (by rw [List.length_append, List.length_append, List.length_cons]; omega), getD_app_r, getD_app_r]; rfl) (by rw [s04.1 2103 (by decide)]; exact h2) (by omega) q2 (fun k hk => by rw [s04.2.1 24 (by decide)]; exact h5 k hk)
        refine ⟨σ5, samL_tr s04 w1, fun fuel hf => ?_⟩
        rw [ef, List.length_append, List.length_append, List.length_cons] at hf
        obtain ⟨f, rfl⟩ : ∃ f, fuel = f + 1 + xb.length + t.length := ⟨fuel - xb.length - t.length - 1, by omega⟩
        rw [head f, if_pos h0, w2 f (by omega)]
        show _ = some (if (evalP nm t []).headD 0 = 0 then evalLaw nm r else (evalP nm xb []).headD 0, σ5)
        rw [hv1]
        simp only [List.headD_cons, h0, if_true]
      · refine ⟨σ4, s04, fun fuel hf => ?_⟩
        rw [ef, List.length_append, List.length_append, List.length_cons] at hf
        obtain ⟨f, rfl⟩ : ∃ f, fuel = f + 1 + xb.length + t.length := ⟨fuel - xb.length - t.length - 1, by omega⟩
        rw [head f, if_neg h0]
        show _ = some (if (evalP nm t []).headD 0 = 0 then evalLaw nm r else (evalP nm xb []).headD 0, σ4)
        rw [hv1, hv2]
        simp only [List.headD_cons, h0, if_false]
