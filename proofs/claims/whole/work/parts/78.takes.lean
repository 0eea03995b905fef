/-! one byte of the tape, by the class -/
abbrev TS : Type := List Int32 × List Int32 × Nat × Bool × Bool × Nat × Nat
def nmN (c : Nat) : Nat := if c = 114 then 0 else if c = 110 then 1 else if c = 104 then 2 else if c = 99 then 3 else if c = 115 then 4 else if c = 98 then 5 else 6
/-- an operand is whole: a step s more -/
def opnN (w W : List Int32) (o : Nat) (sec : Bool) (dg na : Nat) : TS := ((popN w W o).1, (popN w W o).2.1, (popN w W o).2.2, false, sec, dg, na)
def takesN (s : TS) (c : Nat) : Option TS :=
  if 48 ≤ c ∧ c ≤ 57 then
    (if s.2.2.2.1 = true then some (opnN (s.1 ++ [nI (c - 48)]) s.2.1 s.2.2.1 s.2.2.2.2.1 1 s.1.length)
     else if s.2.2.2.2.2.1 = 0 ∨ 4 ≤ s.2.2.2.2.2.1 ∨ ¬ s.2.2.2.2.2.2 < s.1.length then none
     else some (s.1.set s.2.2.2.2.2.2 (s.1.getD s.2.2.2.2.2.2 0 * 10 + nI (c - 48)), s.2.1, s.2.2.1, false, s.2.2.2.2.1, s.2.2.2.2.2.1 + 1, s.2.2.2.2.2.2))
  else if s.2.2.2.1 = true then
    (if nmN c < 6 then some (opnN (s.1 ++ [-1 - nI (nmN c)]) s.2.1 s.2.2.1 s.2.2.2.2.1 0 s.2.2.2.2.2.2)
     else if c = 40 ∨ c = 33 ∨ c = 45 then (if 6 ≤ s.2.2.1 then none else some (s.1, (if c = 45 then 126 else nI c) :: s.2.1, s.2.2.1 + 1, true, s.2.2.2.2.1, 0, s.2.2.2.2.2.2))
     else none)
  else if 0 < rkN (nI c) then
    (if rkN (nI c) = 3 then
      (if rkN ((relN 4 s.1 s.2.1).2.headD 0) = 3 then none else some ((relN 4 s.1 s.2.1).1, nI c :: (relN 4 s.1 s.2.1).2, s.2.2.1, true, s.2.2.2.2.1, 0, s.2.2.2.2.2.2))
     else some ((relN (rkN (nI c)) s.1 s.2.1).1, nI c :: (relN (rkN (nI c)) s.1 s.2.1).2, s.2.2.1, true, s.2.2.2.2.1, 0, s.2.2.2.2.2.2))
  else if c = 41 then (if (relN 1 s.1 s.2.1).2.headD 0 = 40 then some (opnN (relN 1 s.1 s.2.1).1 (relN 1 s.1 s.2.1).2.tail (s.2.2.1 - 1) s.2.2.2.2.1 0 s.2.2.2.2.2.2) else none)
  else if 0 < s.2.2.1 then none
  else if c = 59 then some ((relN 1 s.1 s.2.1).1 ++ [if s.2.2.2.2.1 = true then -63 else -59], (relN 1 s.1 s.2.1).2, s.2.2.1, true, false, 0, s.2.2.2.2.2.2)
  else if c = 63 then (if s.2.2.2.2.1 = true then none else some ((relN 1 s.1 s.2.1).1, (relN 1 s.1 s.2.1).2, s.2.2.1, true, true, 0, s.2.2.2.2.2.2))
  else none
def encT (s : TS) (σ : St) : Prop := encW s.1 s.2.1 σ ∧ σ.1 3506 = nI s.2.2.1 ∧ opW s.2.1 = s.2.2.1 ∧ σ.1 3509 = b2 s.2.2.2.1 ∧ σ.1 3510 = b2 s.2.2.2.2.1 ∧ σ.1 3507 = nI s.2.2.2.2.2.1 ∧ (s.2.2.2.2.2.1 = 0 ∨ σ.1 3508 = nI s.2.2.2.2.2.2) ∧ s.2.2.2.2.2.1 ≤ 4 ∧ s.2.2.2.2.2.2 ≤ 121
def frP (σ σ' : St) : Prop := (∀ k, k < 3504 ∨ 3510 < k → σ'.1 k = σ.1 k) ∧ (∀ a, a ≠ 37 → a ≠ 38 → σ'.2.1 a = σ.2.1 a) ∧ σ'.2.2 = σ.2.2
theorem frP_rf (σ : St) : frP σ σ := ⟨fun _ _ => rfl, fun _ _ _ => rfl, rfl⟩
theorem frP_tr {a b c : St} (h1 : frP a b) (h2 : frP b c) : frP a c := ⟨fun k p => (h2.1 k p).trans (h1.1 k p), fun k p q => (h2.2.1 k p q).trans (h1.2.1 k p q), h2.2.2.trans h1.2.2⟩
theorem frE_P {σ σ' : St} (h : frE σ σ') : frP σ σ' := ⟨fun k p => h.1 k (by omega) (by omega) (by omega) (by omega), h.2.1, h.2.2⟩
theorem frT_P {σ σ' : St} (h : frT σ σ') : frP σ σ' := frE_P (frT_E h)
theorem frP_I {σ : St} {k : Nat} {v : Int32} (hk : 3504 ≤ k ∧ k ≤ 3510) : frP σ (upI σ k v) := ⟨fun j p => by rw [upI_1, if_neg (by omega)], fun _ _ _ => rfl, rfl⟩
theorem frP_kC {σ σ' : St} (h : frP σ σ') : kC σ' = kC σ := by
  refine kC_of (fun k hk => h.1 k ?_) (fun a ha => h.2.1 a ?_ ?_) h.2.2
  · simp only [scrI, Bool.or_eq_false_iff, Bool.and_eq_false_iff, beq_eq_false_iff_ne, decide_eq_false_iff_not] at hk; omega
  · rintro rfl; exact absurd ha (by decide)
  · rintro rfl; exact absurd ha (by decide)
theorem encW_I {w W : List Int32} {σ : St} {k : Nat} {v : Int32} (h : encW w W σ) (h4 : k ≠ 3504) (h5 : k ≠ 3505) : encW w W (upI σ k v) := ⟨by rw [upI_1, if_neg (Ne.symm h4)]; exact h.1, h.2.1, by rw [upI_1, if_neg (Ne.symm h5)]; exact h.2.2.1, h.2.2.2⟩
theorem bytes_C : ∀ c : Fin 256, chr (((nI c.1).toUInt32 % 65536).toInt32) = true ∧ nameIx (((nI c.1).toUInt32 % 65536).toInt32) = (if nmN c.1 < 6 then nI (nmN c.1) else -1) ∧ nmN c.1 ≤ 6 := by decide +kernel
theorem eqc {c : Nat} (hc : c < 256) (v : Nat) (hv : v < 256) : nI c = nI v ↔ c = v := nI_eq (by omega) (by omega)
theorem tp_setD {w : List Int32} {na i : Nat} {v : Int32} (h : na < w.length) : (w.set na v).getD i 0 = if i = na then v else w.getD i 0 := by
  by_cases z : i = na
  · subst z; rw [if_pos rfl]; simp [List.getD_eq_getElem?_getD, h]
  · rw [if_neg z]; simp [List.getD_eq_getElem?_getD, List.getElem?_set_ne (Ne.symm z)]
theorem tail_op {c : Int32} {W : List Int32} {o : Nat} (h : opW (c :: W) = o) (hc : c = 40) : opW W = o - 1 := by
  rw [opW_s, if_pos (Or.inr (Or.inr hc))] at h; omega
/-- one byte: refused by both, or taken by both -/
theorem takes_C {s : TS} {σ : St} {c p : Nat} (hc : c < 256) (h : encT s σ) (hl : s.1.length + s.2.1.length ≤ p) (hp : p < 120) : (takesN s c = none → ∃ σ', f_Tape_takes σ (nI c) = some (0, σ') ∧ frP σ σ') ∧ (∀ s', takesN s c = some s' → ∃ σ', f_Tape_takes σ (nI c) = some (1, σ') ∧ frP σ σ' ∧ encT s' σ' ∧ s'.1.length + s'.2.1.length ≤ p + 1) := by
  obtain ⟨w, W, o, wo, sec, dg, na⟩ := s
  obtain ⟨h1, h2, h3, h4, h5, h6, h7, h8, h9⟩ := h
  simp only at h1 h2 h3 h4 h5 h6 h7 h8 h9 hl
  obtain ⟨y1, y2, y3⟩ := bytes_C ⟨c, hc⟩
  simp only at y1 y2 y3
  have cn : ∀ v : Nat, v < 256 → (nI c = nI v ↔ c = v) := fun v hv => eqc hc v hv
  unfold f_Tape_takes takesN
  simp only
  rw [within_eq, bind_s]
  by_cases hd : 48 ≤ c ∧ c ≤ 57
  · have hd2 : (48 : Int32) ≤ nI c ∧ nI c ≤ 57 := (btw (a := 48) (b := 57) (by omega) (by decide) (by decide)).mpr hd
    rw [decide_eq_true hd2, b2_t, if_neg i10, if_pos hd]
    have e48 : nI c - 48 = nI (c - 48) := pk_sub (b := 48) (by omega)
    unfold f_Tape_takesDigit
    rw [e48, h4]
    cases wo
    · rw [b2_f, if_pos rfl, h6, if_neg (by decide)]
      by_cases q1 : dg = 0
      · rw [if_pos (show nI dg = 0 by rw [q1]; rfl), if_pos (Or.inl q1), bd2_s]
        exact ⟨fun _ => ⟨σ, rfl, frP_rf σ⟩, fun s' hs => by cases hs⟩
      · rw [if_neg (nI_ne0 (by omega) (by omega))]
        by_cases q2 : 4 ≤ dg
        · rw [if_pos (show (4 : Int32) ≤ nI dg from nI_le (a := 4) q2 (by omega)), if_pos (Or.inr (Or.inl q2)), bd2_s]
          exact ⟨fun _ => ⟨σ, rfl, frP_rf σ⟩, fun s' hs => by cases hs⟩
        · rw [if_neg (show ¬ (4 : Int32) ≤ nI dg from nI_ge (b := 4) (by omega) (by decide)), h7.resolve_left q1, h1.1, within_eq, bind_s]
          by_cases q3 : na < w.length
          · rw [decide_eq_true ((isT (by omega) _).mpr ⟨na, q3, rfl⟩), b2_t, if_neg i10, if_neg (by omega), inb_nI (show na < 121 by omega) (by decide), nIt (show na < 2 ^ 31 by omega), h1.2.1 na q3, nI_1]
            simp only [cond_true, bd2_s]
            refine ⟨fun hs => (by cases hs), fun s' hs => ?_⟩
            cases hs
            refine ⟨_, rfl, ⟨fun j hj => ?_, fun a a1 a2 => ?_, rfl⟩, ⟨⟨?_, fun i hi => ?_, ?_, ?_⟩, ?_, h3, ?_, ?_, ?_, ?_, by show dg + 1 ≤ 4; omega, h9⟩, ?_⟩
            · rw [upI_1, if_neg (by omega), upA_1]
            · rw [upI_2, upA_2, if_neg a1]
            · rw [upI_1, if_neg (by decide), upA_1, List.length_set]; exact h1.1
            · rw [List.length_set] at hi
              rw [upI_2, upA_2, if_pos rfl]
              show upd (σ.2.1 37) na (w.getD na 0 * 10 + nI (c - 48)) i = (w.set na (w.getD na 0 * 10 + nI (c - 48))).getD i 0
              rw [tp_setD q3]
              unfold upd
              by_cases z : i = na
              · rw [if_pos z, if_pos z]
              · rw [if_neg z, if_neg z]; exact h1.2.1 i hi
            · rw [upI_1, if_neg (by decide), upA_1]; exact h1.2.2.1
            · rw [upI_2, upA_2, if_neg (by decide)]; exact h1.2.2.2
            · rw [upI_1, if_neg (by decide), upA_1]; exact h2
            · rw [upI_1, if_neg (by decide), upA_1]; exact h4
            · rw [upI_1, if_neg (by decide), upA_1]; exact h5
            · rw [upI_1, if_pos rfl]
            · exact Or.inr (by rw [upI_1, if_neg (by decide), upA_1]; exact h7.resolve_left q1)
            · show (w.set na (w.getD na 0 * 10 + nI (c - 48))).length + W.length ≤ p + 1
              rw [List.length_set]; omega
          · rw [decide_eq_false (fun z => by
              obtain ⟨u, hu, z1⟩ := (isT (by omega) _).mp z
              have := (nI_eq (by omega) (by omega)).mp z1
              omega), b2_f, if_pos rfl, if_pos (Or.inr (Or.inr q3)), bd2_s]
            exact ⟨fun _ => ⟨σ, rfl, frP_rf σ⟩, fun s' hs => by cases hs⟩
    · rw [b2_t, if_neg i10, if_pos rfl, h1.1]
      have hW2 : encW w W (upI (upI σ 3508 (nI w.length)) 3507 1) := encW_I (encW_I h1 (by decide) (by decide)) (by decide) (by decide)
      obtain ⟨σ1, a1, a2, a3⟩ := writeT hW2 (by omega) (nI (c - 48))
      obtain ⟨σ2, b1, b2', b3, b4, b5, b6⟩ := endOpT (o := o) a2 (by rw [a3.1 3506 (by decide) (by decide), upI_1, if_neg (by decide), upI_1, if_neg (by decide)]; exact h2) h3 (by rw [List.length_append]; show w.length + 1 + W.length ≤ 121; omega) (by omega)
      rw [a1, bind_s, b1, bind_s, bd2_s]
      refine ⟨fun hs => (by cases hs), fun s' hs => ?_⟩
      cases hs
      have pl := pop_len W (w ++ [nI (c - 48)]) o
      refine ⟨σ2, rfl, frP_tr (frP_tr (frP_I (by omega)) (frP_I (by omega))) (frP_tr (frT_P a3) (frE_P b6)), ⟨b2', b3, b4, b5, ?_, ?_, ?_, by show (1 : Nat) ≤ 4; decide, by show w.length ≤ 121; omega⟩, ?_⟩
      · rw [b6.1 3510 (by decide) (by decide) (by decide) (by decide), a3.1 3510 (by decide) (by decide), upI_1, if_neg (by decide), upI_1, if_neg (by decide)]; exact h5
      · rw [b6.1 3507 (by decide) (by decide) (by decide) (by decide), a3.1 3507 (by decide) (by decide), upI_1, if_pos rfl]; rfl
      · exact Or.inr (by rw [b6.1 3508 (by decide) (by decide) (by decide) (by decide), a3.1 3508 (by decide) (by decide), upI_1, if_neg (by decide), upI_1, if_pos rfl]; rfl)
      · show (popN (w ++ [nI (c - 48)]) W o).1.length + (popN (w ++ [nI (c - 48)]) W o).2.1.length ≤ p + 1
        rw [pl.1, List.length_append]
        show w.length + 1 + W.length ≤ p + 1
        omega
  · have hd2 : ¬ ((48 : Int32) ≤ nI c ∧ nI c ≤ 57) := fun z => hd ((btw (a := 48) (b := 57) (by omega) (by decide) (by decide)).mp z)
    rw [decide_eq_false hd2, b2_f, if_pos rfl, if_neg hd, h4]
    have hW0 : encW w W (upI σ 3507 0) := encW_I h1 (by decide) (by decide)
    have g6 : (upI σ 3507 0).1 3506 = nI o := by rw [upI_1, if_neg (by decide)]; exact h2
    have g9 : (upI σ 3507 0).1 3509 = b2 wo := by rw [upI_1, if_neg (by decide)]; exact h4
    have g10 : (upI σ 3507 0).1 3510 = b2 sec := by rw [upI_1, if_neg (by decide)]; exact h5
    have g7 : (upI σ 3507 0).1 3507 = nI 0 := by rw [upI_1, if_pos rfl]; rfl
    have fr0 : frP σ (upI σ 3507 0) := frP_I (by omega)
    generalize upI σ 3507 0 = σ0 at *
    cases wo
    · -- a sign
      rw [b2_f, if_pos rfl, if_neg (by decide)]
      unfold f_Tape_takesSign
      rw [rank_C, bind_s]
      have rl := rk_le (nI c)
      by_cases qr : 0 < rkN (nI c)
      · rw [if_neg (nI_nle qr (by omega)), if_pos qr]
        unfold f_Tape_takesJoint
        rw [rank_C, bind_s]
        by_cases q3 : rkN (nI c) = 3
        · obtain ⟨σ1, a1, a2, a3⟩ := releaseT (k := 4) hW0 (by omega) (by omega) (by decide) (by decide)
          have a1' : f_Tape_release σ0 4 = some σ1 := a1
          have rn := rel_len 4 W w
          rw [if_pos (show nI (rkN (nI c)) = 3 from congrArg nI q3), if_pos q3, a1', bind_s, lastT a2 (by omega), bind_s, rank_C, bind_s]
          have rl2 := rk_le ((relN 4 w W).2.headD 0)
          by_cases q4 : rkN ((relN 4 w W).2.headD 0) = 3
          · rw [if_pos (show nI (rkN ((relN 4 w W).2.headD 0)) = 3 from congrArg nI q4), if_pos q4, bd2_s]
            exact ⟨fun _ => ⟨σ1, rfl, frP_tr fr0 (frT_P a3)⟩, fun s' hs => by cases hs⟩
          · rw [if_neg (show ¬ nI (rkN ((relN 4 w W).2.headD 0)) = 3 from fun z => q4 ((nI_eq (b := 3) (by omega) (by decide)).mp z)), if_neg q4]
            obtain ⟨σ2, b1, b2', b3⟩ := pushT a2 (by omega) (nI c)
            rw [b1, bind_s, bd2_s]
            refine ⟨fun hs => (by cases hs), fun s' hs => ?_⟩
            cases hs
            have hop : opW (nI c :: (relN 4 w W).2) = o := by
              rw [opW_s, rel_op 4 (by decide), if_neg (by rintro (z | z | z) <;> rw [z] at qr <;> exact absurd qr (by decide)), h3]; omega
            refine ⟨_, rfl, frP_tr fr0 (frP_tr (frT_P a3) (frP_tr (frT_P b3) (frP_I (by omega)))), ⟨encW_I b2' (by decide) (by decide), ?_, hop, ?_, ?_, ?_, ?_, by show (0 : Nat) ≤ 4; decide, h9⟩, ?_⟩
            · rw [upI_1, if_neg (by decide), b3.1 3506 (by decide) (by decide), a3.1 3506 (by decide) (by decide)]; exact g6
            · rw [upI_1, if_pos rfl]; rfl
            · rw [upI_1, if_neg (by decide), b3.1 3510 (by decide) (by decide), a3.1 3510 (by decide) (by decide)]; exact g10
            · rw [upI_1, if_neg (by decide), b3.1 3507 (by decide) (by decide), a3.1 3507 (by decide) (by decide)]; exact g7
            · exact Or.inl rfl
            · show (relN 4 w W).1.length + (nI c :: (relN 4 w W).2).length ≤ p + 1
              rw [List.length_cons]; omega
        · obtain ⟨σ1, a1, a2, a3⟩ := releaseT (k := rkN (nI c)) hW0 (by omega) (by omega) qr rl
          have rn := rel_len (rkN (nI c)) W w
          obtain ⟨σ2, b1, b2', b3⟩ := pushT a2 (by omega) (nI c)
          rw [if_neg (show ¬ nI (rkN (nI c)) = 3 from fun z => q3 ((nI_eq (b := 3) (by omega) (by decide)).mp z)), if_neg q3, a1, bind_s, b1, bind_s, bd2_s]
          refine ⟨fun hs => (by cases hs), fun s' hs => ?_⟩
          cases hs
          have hop : opW (nI c :: (relN (rkN (nI c)) w W).2) = o := by
            rw [opW_s, rel_op _ qr, if_neg (by rintro (z | z | z) <;> rw [z] at qr <;> exact absurd qr (by decide)), h3]; omega
          refine ⟨_, rfl, frP_tr fr0 (frP_tr (frT_P a3) (frP_tr (frT_P b3) (frP_I (by omega)))), ⟨encW_I b2' (by decide) (by decide), ?_, hop, ?_, ?_, ?_, ?_, by show (0 : Nat) ≤ 4; decide, h9⟩, ?_⟩
          · rw [upI_1, if_neg (by decide), b3.1 3506 (by decide) (by decide), a3.1 3506 (by decide) (by decide)]; exact g6
          · rw [upI_1, if_pos rfl]; rfl
          · rw [upI_1, if_neg (by decide), b3.1 3510 (by decide) (by decide), a3.1 3510 (by decide) (by decide)]; exact g10
          · rw [upI_1, if_neg (by decide), b3.1 3507 (by decide) (by decide), a3.1 3507 (by decide) (by decide)]; exact g7
          · exact Or.inl rfl
          · show (relN (rkN (nI c)) w W).1.length + (nI c :: (relN (rkN (nI c)) w W).2).length ≤ p + 1
            rw [List.length_cons]; omega
      · rw [if_pos (show nI (rkN (nI c)) ≤ 0 by rw [show rkN (nI c) = 0 by omega]; decide), if_neg qr]
        by_cases q41 : c = 41
        · rw [if_pos (show nI c = 41 from (cn 41 (by decide)).mpr q41), if_pos q41]
          obtain ⟨σ1, a1, a2, a3⟩ := releaseT (k := 1) hW0 (by omega) (by omega) (by decide) (by decide)
          have a1' : f_Tape_release σ0 1 = some σ1 := a1
          have rn := rel_len 1 W w
          have ro := rel_op 1 (by decide) W w
          unfold f_Tape_takesClose
          rw [a1', bind_s, lastT a2 (by omega), bind_s]
          generalize (relN 1 w W).1 = w1 at *
          generalize (relN 1 w W).2 = W1 at *
          by_cases q40 : W1.headD 0 = 40
          · rw [if_pos q40, if_pos q40]
            cases W1 with
            | nil => exact absurd q40 (by decide)
            | cons x W2 =>
              have hx : x = 40 := q40
              have hop2 : opW W2 = o - 1 := tail_op (by rw [ro]; exact h3) hx
              have o1 : 1 ≤ o := by
                have := ro
                rw [opW_s, if_pos (Or.inr (Or.inr hx)), h3] at this; omega
              rw [List.length_cons] at rn
              have e6 : σ1.1 3506 - 1 = nI (o - 1) := by rw [a3.1 3506 (by decide) (by decide), g6, show nI o = nI (o - 1 + 1) by congr 1; omega, nI_pred]
              obtain ⟨σ2, b1, b2', b3, b4, b5, b6⟩ := endOpT (σ := upI (upI σ1 3505 (σ1.1 3505 - 1)) 3506 (σ1.1 3506 - 1)) (o := o - 1) (encW_I (popT a2) (by decide) (by decide)) (by rw [upI_1, if_pos rfl]; exact e6) hop2 (by omega) (by omega)
              have e65 : (upI σ1 3505 (σ1.1 3505 - 1)).1 3506 = σ1.1 3506 := by rw [upI_1, if_neg (by decide)]
              rw [b1, bind_s, bd2_s, show zb 1 = true by decide, cond_true, bd2_s]
              refine ⟨fun hs => (by cases hs), fun s' hs => ?_⟩
              cases hs
              have pl := pop_len W2 w1 (o - 1)
              refine ⟨σ2, rfl, frP_tr fr0 (frP_tr (frT_P a3) (frP_tr (frP_tr (frP_I (by omega)) (frP_I (by omega))) (frE_P b6))), ⟨b2', b3, b4, b5, ?_, ?_, ?_, by show (0 : Nat) ≤ 4; decide, h9⟩, ?_⟩
              · rw [b6.1 3510 (by decide) (by decide) (by decide) (by decide), upI_1, if_neg (by decide), upI_1, if_neg (by decide), a3.1 3510 (by decide) (by decide)]; exact g10
              · rw [b6.1 3507 (by decide) (by decide) (by decide) (by decide), upI_1, if_neg (by decide), upI_1, if_neg (by decide), a3.1 3507 (by decide) (by decide)]; exact g7
              · exact Or.inl rfl
              · show (popN w1 W2 (o - 1)).1.length + (popN w1 W2 (o - 1)).2.1.length ≤ p + 1
                omega
          · rw [if_neg q40, if_neg q40, bd2_s, show zb 0 = true by decide, cond_true, bd2_s]
            exact ⟨fun _ => ⟨σ1, rfl, frP_tr fr0 (frT_P a3)⟩, fun s' hs => by cases hs⟩
        · rw [if_neg (show ¬ nI c = 41 from fun z => q41 ((cn 41 (by decide)).mp z)), if_neg q41, g6]
          by_cases qo : 0 < o
          · have hob : o ≤ 120 := by
              rw [← h3]
              have : ∀ W : List Int32, opW W ≤ W.length := by
                intro W
                induction W with
                | nil => exact Nat.le_refl _
                | cons x W ih => rw [opW_s, List.length_cons]; split <;> omega
              have := this W
              omega
            rw [if_neg (nI_nle qo (by omega)), if_pos qo, bd2_s, show zb 0 = true by decide, cond_true]
            exact ⟨fun _ => ⟨σ0, rfl, fr0⟩, fun s' hs => by cases hs⟩
          · have o0 : o = 0 := by omega
            rw [if_pos (show nI o ≤ 0 by rw [o0]; decide), if_neg qo]
            by_cases q59 : c = 59
            · rw [if_pos (show nI c = 59 from (cn 59 (by decide)).mpr q59), if_pos q59]
              obtain ⟨σ1, a1, a2, a3⟩ := releaseT (k := 1) hW0 (by omega) (by omega) (by decide) (by decide)
              have a1' : f_Tape_release σ0 1 = some σ1 := a1
              have rn := rel_len 1 W w
              have ro := rel_op 1 (by decide) W w
              obtain ⟨σ2, b1, b2', b3⟩ := writeT a2 (by omega) (if sec = true then -63 else -59)
              have e10 : σ1.1 3510 = b2 sec := by rw [a3.1 3510 (by decide) (by decide)]; exact g10
              have key : f_Tape_endLine σ0 = some (upI (upI σ2 3510 0) 3509 1) := by
                unfold f_Tape_endLine
                rw [a1', bind_s, e10]
                cases sec
                · rw [b2_f, if_pos rfl]
                  rw [if_neg (by decide)] at b1
                  rw [b1, bind_s]
                · rw [b2_t, if_neg i10]
                  rw [if_pos rfl] at b1
                  rw [b1, bind_s]
              rw [key, bind_s, bd2_s, show zb 1 = true by decide, cond_true]
              refine ⟨fun hs => (by cases hs), fun s' hs => ?_⟩
              cases hs
              refine ⟨_, rfl, frP_tr fr0 (frP_tr (frT_P a3) (frP_tr (frT_P b3) (frP_tr (frP_I (by omega)) (frP_I (by omega))))), ⟨encW_I (encW_I b2' (by decide) (by decide)) (by decide) (by decide), ?_, by rw [ro]; exact h3, ?_, ?_, ?_, ?_, by show (0 : Nat) ≤ 4; decide, h9⟩, ?_⟩
              · rw [upI_1, if_neg (by decide), upI_1, if_neg (by decide), b3.1 3506 (by decide) (by decide), a3.1 3506 (by decide) (by decide)]; exact g6
              · rw [upI_1, if_pos rfl]; rfl
              · rw [upI_1, if_neg (by decide), upI_1, if_pos rfl]; rfl
              · rw [upI_1, if_neg (by decide), upI_1, if_neg (by decide), b3.1 3507 (by decide) (by decide), a3.1 3507 (by decide) (by decide)]; exact g7
              · exact Or.inl rfl
              · show ((relN 1 w W).1 ++ [if sec = true then -63 else -59]).length + (relN 1 w W).2.length ≤ p + 1
                rw [List.length_append]
                show (relN 1 w W).1.length + 1 + (relN 1 w W).2.length ≤ p + 1
                omega
            · rw [if_neg (show ¬ nI c = 59 from fun z => q59 ((cn 59 (by decide)).mp z)), if_neg q59]
              by_cases q63 : c = 63
              · rw [if_pos (show nI c = 63 from (cn 63 (by decide)).mpr q63), if_pos q63, g10]
                cases sec
                · obtain ⟨σ1, a1, a2, a3⟩ := releaseT (k := 1) hW0 (by omega) (by omega) (by decide) (by decide)
                  have a1' : f_Tape_release σ0 1 = some σ1 := a1
                  have rn := rel_len 1 W w
                  have ro := rel_op 1 (by decide) W w
                  rw [b2_f, if_pos rfl, if_neg (by decide), a1', bind_s, bd2_s, show zb 1 = true by decide, cond_true]
                  refine ⟨fun hs => (by cases hs), fun s' hs => ?_⟩
                  cases hs
                  refine ⟨_, rfl, frP_tr fr0 (frP_tr (frT_P a3) (frP_tr (frP_I (by omega)) (frP_I (by omega)))), ⟨encW_I (encW_I a2 (by decide) (by decide)) (by decide) (by decide), ?_, by rw [ro]; exact h3, ?_, ?_, ?_, ?_, by show (0 : Nat) ≤ 4; decide, h9⟩, ?_⟩
                  · rw [upI_1, if_neg (by decide), upI_1, if_neg (by decide), a3.1 3506 (by decide) (by decide)]; exact g6
                  · rw [upI_1, if_pos rfl]; rfl
                  · rw [upI_1, if_neg (by decide), upI_1, if_pos rfl]; rfl
                  · rw [upI_1, if_neg (by decide), upI_1, if_neg (by decide), a3.1 3507 (by decide) (by decide)]; exact g7
                  · exact Or.inl rfl
                  · show (relN 1 w W).1.length + (relN 1 w W).2.length ≤ p + 1
                    omega
                · rw [b2_t, if_neg i10, if_pos rfl, bd2_s, show zb 0 = true by decide, cond_true]
                  exact ⟨fun _ => ⟨σ0, rfl, fr0⟩, fun s' hs => by cases hs⟩
              · rw [if_neg (show ¬ nI c = 63 from fun z => q63 ((cn 63 (by decide)).mp z)), if_neg q63, bd2_s, show zb 0 = true by decide, cond_true]
                exact ⟨fun _ => ⟨σ0, rfl, fr0⟩, fun s' hs => by cases hs⟩
    · -- an operand
      rw [b2_t, if_neg i10, if_pos rfl]
      unfold f_Tape_takesOperand
      rw [y1, cond_true]
      by_cases qn : nmN c < 6
      · obtain ⟨σ1, a1, a2, a3⟩ := writeT hW0 (by omega) (-1 - nI (nmN c))
        obtain ⟨σ2, b1, b2', b3, b4, b5, b6⟩ := endOpT (o := o) a2 (by rw [a3.1 3506 (by decide) (by decide)]; exact g6) h3 (by rw [List.length_append]; show w.length + 1 + W.length ≤ 121; omega) (by omega)
        rw [if_pos qn] at y2
        rw [y2, if_neg (nI_pos (by omega)), if_pos qn, a1, bind_s, b1, bind_s, bd2_s, show zb 1 = true by decide, cond_true]
        refine ⟨fun hs => (by cases hs), fun s' hs => ?_⟩
        cases hs
        have pl := pop_len W (w ++ [-1 - nI (nmN c)]) o
        refine ⟨σ2, rfl, frP_tr fr0 (frP_tr (frT_P a3) (frE_P b6)), ⟨b2', b3, b4, b5, ?_, ?_, ?_, by show (0 : Nat) ≤ 4; decide, h9⟩, ?_⟩
        · rw [b6.1 3510 (by decide) (by decide) (by decide) (by decide), a3.1 3510 (by decide) (by decide)]; exact g10
        · rw [b6.1 3507 (by decide) (by decide) (by decide) (by decide), a3.1 3507 (by decide) (by decide)]; exact g7
        · exact Or.inl rfl
        · show (popN (w ++ [-1 - nI (nmN c)]) W o).1.length + (popN (w ++ [-1 - nI (nmN c)]) W o).2.1.length ≤ p + 1
          rw [pl.1, List.length_append]
          show w.length + 1 + W.length ≤ p + 1
          omega
      · rw [if_neg qn] at y2
        rw [y2, if_pos (show (-1 : Int32) < 0 by decide), if_neg qn]
        have hob : o ≤ 120 := by
          rw [← h3]
          have : ∀ W : List Int32, opW W ≤ W.length := by
            intro W
            induction W with
            | nil => exact Nat.le_refl _
            | cons x W ih => rw [opW_s, List.length_cons]; split <;> omega
          have := this W
          omega
        by_cases qc : c = 40 ∨ c = 33 ∨ c = 45
        · have key : (if nI c = 40 then f_Tape_takesOperand_43 σ0 (nI c) else if nI c = 33 then f_Tape_takesOperand_43 σ0 (nI c) else if nI c = 45 then f_Tape_takesOperand_43 σ0 (nI c) else some ((0 : Int32), σ0)) = f_Tape_takesOperand_43 σ0 (nI c) := by
            rcases qc with rfl | rfl | rfl <;> rfl
          rw [key, if_pos qc]
          unfold f_Tape_takesOperand_43
          rw [g6]
          by_cases q6 : 6 ≤ o
          · rw [if_neg (show ¬ nI o < (6 : Int32) from nI_nlt (b := 6) q6 (by omega)), if_pos q6, bd2_s, show zb 0 = true by decide, cond_true]
            exact ⟨fun _ => ⟨σ0, rfl, fr0⟩, fun s' hs => by cases hs⟩
          · rw [if_pos (show nI o < (6 : Int32) from nI_lt (b := 6) (by omega) (by decide)), if_neg q6, nI_1]
            have hW1 : encW w W (upI σ0 3506 (nI (o + 1))) := encW_I hW0 (by decide) (by decide)
            obtain ⟨σ1, a1, a2, a3⟩ := pushT hW1 (by omega) (if c = 45 then 126 else nI c)
            have key2 : (if nI c = 45 then (f_Tape_pushWaiting (upI σ0 3506 (nI (o + 1))) 126).bind fun σ77_2 => some ((1 : Int32), σ77_2) else (f_Tape_pushWaiting (upI σ0 3506 (nI (o + 1))) (nI c)).bind fun σ77_1 => some ((1 : Int32), σ77_1)) = some (1, σ1) := by
              by_cases q45 : c = 45
              · rw [if_pos (show nI c = 45 from (cn 45 (by decide)).mpr q45)]
                rw [if_pos q45] at a1
                rw [a1]; rfl
              · rw [if_neg (show ¬ nI c = 45 from fun z => q45 ((cn 45 (by decide)).mp z))]
                rw [if_neg q45] at a1
                rw [a1]; rfl
            rw [key2, bd2_s, show zb 1 = true by decide, cond_true]
            refine ⟨fun hs => (by cases hs), fun s' hs => ?_⟩
            cases hs
            have hop : opW ((if c = 45 then 126 else nI c) :: W) = o + 1 := by
              rw [opW_s, h3, if_pos (by
                rcases qc with rfl | rfl | rfl
                · exact Or.inr (Or.inr rfl)
                · exact Or.inl rfl
                · exact Or.inr (Or.inl rfl))]; omega
            refine ⟨σ1, rfl, frP_tr fr0 (frP_tr (frP_I (by omega)) (frT_P a3)), ⟨a2, ?_, hop, ?_, ?_, ?_, ?_, by show (0 : Nat) ≤ 4; decide, h9⟩, ?_⟩
            · rw [a3.1 3506 (by decide) (by decide), upI_1, if_pos rfl]
            · rw [a3.1 3509 (by decide) (by decide), upI_1, if_neg (by decide), g9]
            · rw [a3.1 3510 (by decide) (by decide), upI_1, if_neg (by decide)]; exact g10
            · rw [a3.1 3507 (by decide) (by decide), upI_1, if_neg (by decide)]; exact g7
            · exact Or.inl rfl
            · show w.length + ((if c = 45 then 126 else nI c) :: W).length ≤ p + 1
              rw [List.length_cons]; omega
        · rw [if_neg (show ¬ nI c = 40 from fun z => qc (Or.inl ((cn 40 (by decide)).mp z))), if_neg (show ¬ nI c = 33 from fun z => qc (Or.inr (Or.inl ((cn 33 (by decide)).mp z)))), if_neg (show ¬ nI c = 45 from fun z => qc (Or.inr (Or.inr ((cn 45 (by decide)).mp z)))), if_neg qc, bd2_s, show zb 0 = true by decide, cond_true]
          exact ⟨fun _ => ⟨σ0, rfl, fr0⟩, fun s' hs => by cases hs⟩
