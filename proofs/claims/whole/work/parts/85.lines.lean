/-! a line of the law, as the reference reads it -/
def frL (τ τ' : St) : Prop := (∀ k, k < 22 ∨ 25 < k → τ'.1 k = τ.1 k) ∧ (∀ a, a < 14 ∨ 18 < a → τ'.2.1 a = τ.2.1 a) ∧ (∀ i, i < 130 → τ'.2.1 14 i = τ.2.1 14 i ∧ τ'.2.1 15 i = τ.2.1 15 i) ∧ (∀ i, i < 61 → τ'.2.1 17 i = τ.2.1 17 i ∧ τ'.2.1 18 i = τ.2.1 18 i) ∧ τ'.2.1 16 0 = τ.2.1 16 0 ∧ τ'.2.2 = τ.2.2
theorem frL_rf (τ : St) : frL τ τ := ⟨fun _ _ => rfl, fun _ _ => rfl, fun _ _ => ⟨rfl, rfl⟩, fun _ _ => ⟨rfl, rfl⟩, rfl, rfl⟩
theorem frL_tr {a b c : St} (h1 : frL a b) (h2 : frL b c) : frL a c := ⟨fun k p => (h2.1 k p).trans (h1.1 k p), fun k p => (h2.2.1 k p).trans (h1.2.1 k p), fun i hi => ⟨(h2.2.2.1 i hi).1.trans (h1.2.2.1 i hi).1, (h2.2.2.1 i hi).2.trans (h1.2.2.1 i hi).2⟩, fun i hi => ⟨(h2.2.2.2.1 i hi).1.trans (h1.2.2.2.1 i hi).1, (h2.2.2.2.1 i hi).2.trans (h1.2.2.2.1 i hi).2⟩, h2.2.2.2.2.1.trans h1.2.2.2.2.1, h2.2.2.2.2.2.trans h1.2.2.2.2.2⟩
theorem frR_L {a b : St} (h : frR a b) : frL a b := ⟨h.1, fun k p => h.2.1 k (by omega) (by omega), h.2.2.1, fun i _ => by rw [h.2.1 17 (by decide) (by decide), h.2.1 18 (by decide) (by decide)]; exact ⟨rfl, rfl⟩, by rw [h.2.1 16 (by decide) (by decide)], h.2.2.2⟩
theorem tpM_L {b : Nat → Nat} {Lb : Nat} {τ τ' : St} (h : frL τ τ') (ht : tpM b Lb τ) : tpM b Lb τ' := by
  unfold tpM at *
  rw [h.1 21 (by omega), h.2.1 13 (by omega)]; exact ht
def entM (off : Nat) (τ : St) (L : LawT) : Prop := ∀ l (x : Option (List Int32) × List Int32), L[l]? = some x → τ.2.1 17 (off + l) = nI ((lflM (L.take l)).length + (tst x).length) ∧ τ.2.1 18 (off + l) = nI ((lflM (L.take l)).length + (tst x).length + x.2.length)
theorem lM_app (x : Option (List Int32) × List Int32) : ∀ L : LawT, lflM (L ++ [x]) = lflM L ++ (tst x ++ x.2)
  | [] => by
    show tst x ++ x.2 ++ lflM [] = _
    show tst x ++ x.2 ++ [] = _
    rw [List.append_nil]; rfl
  | y :: L => by
    show tst y ++ y.2 ++ lflM (L ++ [x]) = tst y ++ y.2 ++ lflM L ++ _
    rw [lM_app x L, List.append_assoc (tst y ++ y.2)]
theorem lC_app (x : Option (List Int32) × List Int32) : ∀ L : LawT, lflC (L ++ [x]) = lflC L ++ (tst x ++ x.2) ++ [if x.1.isSome = true then -63 else -59]
  | [] => by
    show tst x ++ x.2 ++ (if x.1.isSome = true then -63 else -59) :: lflC [] = _
    rfl
  | y :: L => by
    show tst y ++ y.2 ++ (if y.1.isSome = true then (-63 : Int32) else -59) :: lflC (L ++ [x]) = tst y ++ y.2 ++ (if y.1.isSome = true then (-63 : Int32) else -59) :: lflC L ++ _ ++ _
    rw [lC_app x L]
    simp only [List.append_assoc, List.cons_append]
theorem lMC : ∀ L : LawT, (lflM L).length ≤ (lflC L).length
  | [] => Nat.le_refl _
  | x :: L => by
    have := lMC L
    show (tst x ++ x.2 ++ lflM L).length ≤ (tst x ++ x.2 ++ (if x.1.isSome = true then (-63 : Int32) else -59) :: lflC L).length
    rw [List.length_append, List.length_append (as := tst x ++ x.2), List.length_cons]; omega
theorem sh_id : ∀ i : Fin 256, vp_nar .short ((nI i.val).toInt16.toInt32) = nI i.val ∧ vp_nar .short (nI i.val) = nI i.val := by decide +kernel
theorem ln_66 {τ : St} {li : Nat} (h : li ≤ 60) : f_M_oneLine_66 τ (nI (61 + li)) = some (upA (upA τ 18 (61 + li) (vp_nar .short ((τ.1 25).toInt16.toInt32))) 16 1 (τ.2.1 16 1 + 1)) := by
  unfold f_M_oneLine_66
  rw [inb_nI (show 61 + li < 122 by omega) (by decide), cond_true, nIt (by omega)]
  rfl
theorem fr_66 {τ : St} {li : Nat} {v v' : Int32} : frL τ (upA (upA τ 18 (61 + li) v) 16 1 v') := by
  refine ⟨fun _ _ => rfl, fun a p => by rw [upA_2, if_neg (by omega), upA_2, if_neg (by omega)], fun i _ => by rw [upA_2, if_neg (by decide), upA_2, if_neg (by decide), upA_2, if_neg (by decide), upA_2, if_neg (by decide)]; exact ⟨rfl, rfl⟩, fun i hi => ?_, ?_, rfl⟩
  · rw [upA_2, if_neg (by decide), upA_2, if_neg (by decide), upA_2, if_neg (by decide), upA_2, if_pos rfl]
    unfold upd
    rw [if_neg (by omega)]
    exact ⟨rfl, rfl⟩
  · rw [upA_2, if_pos rfl, upA_2, if_neg (by decide)]
    rfl
theorem fr_17 {τ : St} {li : Nat} {v : Int32} : frL τ (upA τ 17 (61 + li) v) := by
  refine ⟨fun _ _ => rfl, fun a p => by rw [upA_2, if_neg (by omega)], fun i _ => by rw [upA_2, if_neg (by decide), upA_2, if_neg (by decide)]; exact ⟨rfl, rfl⟩, fun i hi => ?_, ?_, rfl⟩
  · rw [upA_2, if_pos rfl, upA_2, if_neg (by decide)]
    unfold upd
    rw [if_neg (by omega)]
    exact ⟨rfl, rfl⟩
  · rw [upA_2, if_neg (by decide)]
theorem fin_66 {τ : St} {L : LawT} {x : Option (List Int32) × List Int32} (hst : stM (lflM L ++ (tst x ++ x.2)) τ) (hl : (lflM L ++ (tst x ++ x.2)).length < 200) (h17 : τ.2.1 17 (61 + L.length) = nI ((lflM L).length + (tst x).length)) (h16 : τ.2.1 16 1 = nI L.length) (he : entM 61 τ L) : stM (lflM (L ++ [x])) (upA (upA τ 18 (61 + L.length) (vp_nar .short ((τ.1 25).toInt16.toInt32))) 16 1 (τ.2.1 16 1 + 1)) ∧ entM 61 (upA (upA τ 18 (61 + L.length) (vp_nar .short ((τ.1 25).toInt16.toInt32))) 16 1 (τ.2.1 16 1 + 1)) (L ++ [x]) ∧ (upA (upA τ 18 (61 + L.length) (vp_nar .short ((τ.1 25).toInt16.toInt32))) 16 1 (τ.2.1 16 1 + 1)).2.1 16 1 = nI (L.length + 1) := by
  have e25 : vp_nar .short ((τ.1 25).toInt16.toInt32) = nI ((lflM L).length + (tst x).length + x.2.length) := by
    rw [hst.1, (sh_id ⟨_, by omega⟩).1]
    simp only [List.length_append, Nat.add_assoc]
  rw [e25]
  refine ⟨?_, ?_, ?_⟩
  · rw [lM_app]
    refine ⟨hst.1, fun i hi => ?_⟩
    rw [upA_2, if_neg (by decide), upA_2, if_neg (by decide), upA_2, if_neg (by decide), upA_2, if_neg (by decide)]
    exact hst.2 i hi
  · intro l y hy
    rw [upA_2, if_neg (by decide), upA_2, if_neg (by decide), upA_2, if_neg (by decide), upA_2, if_pos rfl]
    unfold upd
    by_cases q : l < L.length
    · rw [List.getElem?_append_left q] at hy
      rw [if_neg (by omega), List.take_append_of_le_length (by omega)]
      exact he l y hy
    · by_cases q2 : l = L.length
      · subst q2
        rw [List.getElem?_append_right (Nat.le_refl _), Nat.sub_self] at hy
        have hxy : x = y := Option.some.inj hy
        subst hxy
        rw [if_pos rfl, List.take_left]
        exact ⟨h17, rfl⟩
      · rw [List.getElem?_eq_none (by rw [List.length_append]; show L.length + 1 ≤ l; omega)] at hy
        cases hy
  · rw [upA_2, if_pos rfl, h16, nI_1]
    rfl
