/-! how much dye a thing gives, by both -/
theorem lflM_app : ∀ (A B : LawT), lflM (A ++ B) = lflM A ++ lflM B
  | [], _ => rfl
  | x :: r, B => by
    show tst x ++ x.2 ++ lflM (r ++ B) = tst x ++ x.2 ++ lflM r ++ lflM B
    rw [lflM_app r B, List.append_assoc]
    simp [List.append_assoc]
theorem mul061 (e : Nat) : (61 : Int32) * 0 + nI e = nI e := by
  show nI 61 * nI 0 + nI e = _
  rw [pk_mul, nI_add]
  congr 1
  omega
theorem take_snoc {L : LawT} {l : Nat} {x : Option (List Int32) × List Int32} (h : L[l]? = some x) : L.take (l + 1) = L.take l ++ [x] := by
  rw [List.take_succ, h]; rfl
theorem text_M {nm : Nat → Int32} {τ : St} {L : LawT} (hM : lawM τ L) (hok : ∀ x ∈ L, okLine x) (hn : ∀ k, k < 6 → τ.2.1 19 k = nm k) : ∀ (k l : Nat) (τ1 : St), l + k = L.length → samP τ τ1 → ∀ fuel, k < fuel → ∃ τ2, samP τ τ2 ∧ f_M_givesText_7 fuel τ1 0 (nI (lflM (L.take l)).length) (nI l) = some (evalLaw nm (L.drop l), τ2) := by
  obtain ⟨m1, m2, m3, m4, m5⟩ := hM
  have i02 : inb (0 : Int32) 2 = true := by decide
  have c0 : (0 : Int32).toNatClampNeg = 0 := rfl
  intro k
  induction k with
  | zero =>
    intro l τ1 hl hs fuel hf
    obtain ⟨f, rfl⟩ : ∃ f, fuel = f + 1 := ⟨fuel - 1, by omega⟩
    obtain rfl : l = L.length := by omega
    unfold f_M_givesText_7
    rw [i02, c0, hs.2.1 16 (by decide), m3, mul061, if_pos (nI_le (Nat.le_refl _) (by omega)), List.drop_length]
    exact ⟨τ1, hs, rfl⟩
  | succ k ih =>
    intro l τ1 hl hs fuel hf
    obtain ⟨f, rfl⟩ : ∃ f, fuel = f + 1 := ⟨fuel - 1, by omega⟩
    have hlt : l < L.length := by omega
    have hx : L[l]? = some L[l] := List.getElem?_eq_getElem hlt
    generalize hxe : L[l] = x at hx
    have hxm : x ∈ L := List.mem_of_getElem? hx
    obtain ⟨o1, o2, o3⟩ := hok x hxm
    obtain ⟨t1, t2⟩ := m5 l x hx
    have hdrop : L.drop l = x :: L.drop (l + 1) := by rw [List.drop_eq_getElem_cons hlt, hxe]
    have hfl : lflM L = lflM (L.take l) ++ (tst x ++ (x.2 ++ lflM (L.drop (l + 1)))) := by
      have : L = L.take l ++ (x :: L.drop (l + 1)) := by rw [← hdrop, List.take_append_drop]
      conv => lhs; rw [this]
      rw [lflM_app]
      show lflM (L.take l) ++ (tst x ++ x.2 ++ lflM (L.drop (l + 1))) = _
      rw [List.append_assoc]
    generalize ha : (lflM (L.take l)).length = a at t1 t2 ⊢
    have hlen : a + (tst x).length + x.2.length ≤ (lflM L).length := by
      rw [hfl, List.length_append, List.length_append, List.length_append, ha]; omega
    have gT : ∀ q, q < (tst x).length → τ.2.1 14 (a + q) = (stepM ((tst x).getD q 0)).1 ∧ τ.2.1 15 (a + q) = (stepM ((tst x).getD q 0)).2 := fun q hq => by
      have := m4 (a + q) (by omega)
      rw [hfl, ← ha, getD_app_r, getD_app_l hq, ha] at this
      exact this
    have gB : ∀ q, q < x.2.length → τ.2.1 14 (a + (tst x).length + q) = (stepM (x.2.getD q 0)).1 ∧ τ.2.1 15 (a + (tst x).length + q) = (stepM (x.2.getD q 0)).2 := fun q hq => by
      have := m4 (a + (tst x).length + q) (by omega)
      rw [hfl, ← ha, Nat.add_assoc, getD_app_r, getD_app_r, getD_app_l hq, ← Nat.add_assoc, ha] at this
      exact this
    have il122 : inb (nI l) 122 = true := inb_nI (by omega) (by decide)
    have cl : (nI l).toNatClampNeg = l := nIt (by omega)
    -- the second E of the line
    have body : ∀ τ3, samP τ τ3 → ∃ τ4, samP τ τ4 ∧ f_M_givesText_47 τ3 0 (nI l) = some ((evalP nm x.2 []).headD 0, τ4) := by
      intro τ3 h3
      obtain ⟨τ4, w1, w2⟩ := worked_M (nm := nm) (τ := τ3) (seg := x.2) (i := a + (tst x).length) (fun q hq => by rw [h3.2.1 14 (by decide), h3.2.1 15 (by decide)]; exact gB q hq) (by omega) (fun k hk => by rw [h3.2.1 19 (by decide)]; exact hn k hk) o2
      refine ⟨τ4, samP_tr h3 w1, ?_⟩
      unfold f_M_givesText_47
      rw [il122, cl, h3.2.1 17 (by decide), h3.2.1 18 (by decide), t1, t2, w2]
      rfl
    unfold f_M_givesText_7
    rw [i02, c0, hs.2.1 16 (by decide), m3, mul061, if_neg (nI_ge hlt (by omega)), il122, cl, hs.2.1 17 (by decide), t1, hdrop]
    simp only [cond_true]
    obtain ⟨xt, xb⟩ := x
    cases xt with
    | none =>
      rw [if_pos (show nI (a + (tst (none, xb)).length) = nI a from rfl)]
      exact body τ1 hs
    | some t =>
      have ot := o1 t rfl
      have htl : 1 ≤ t.length := by
        cases t with
        | nil => simp [dep] at ot
        | cons s r => simp
      have hne : ¬ nI (a + t.length) = nI a := fun q => by
        have := (nI_eq (a := a + t.length) (b := a) (by simp [tst] at hlen; omega) (by omega)).mp q
        omega
      have hlen' : a + t.length + xb.length ≤ (lflM L).length := hlen
      rw [if_neg (show ¬ nI (a + (tst (some t, xb)).length) = nI a from hne)]
      obtain ⟨τ3, w1, w2⟩ := worked_M (nm := nm) (τ := τ1) (seg := t) (i := a) (fun q hq => by rw [hs.2.1 14 (by decide), hs.2.1 15 (by decide)]; exact gT q hq) (by omega) (fun k hk => by rw [hs.2.1 19 (by decide)]; exact hn k hk) ot
      have hs3 := samP_tr hs w1
      rw [show nI (a + (tst (some t, xb)).length) = nI (a + t.length) from rfl, w2]
      simp only [bd2_s]
      show ∃ τ2, samP τ τ2 ∧ (if (evalP nm t []).headD 0 = 0 then _ else _) = some (if (evalP nm t []).headD 0 = 0 then evalLaw nm (L.drop (l + 1)) else (evalP nm xb []).headD 0, τ2)
      by_cases h0 : (evalP nm t []).headD 0 = 0
      · simp only [h0, if_true, hs3.2.1 18 (by decide), t2, nI_1]
        have := ih (l + 1) τ3 (by omega) hs3 f (by omega)
        rw [take_snoc hx, lflM_app, List.length_append, ha] at this
        have e : (lflM [(some t, xb)]).length = t.length + xb.length := by
          show (t ++ xb ++ []).length = _
          rw [List.append_nil, List.length_append]
        rw [e, ← Nat.add_assoc] at this
        exact this
      · simp only [h0, if_false]
        exact body τ3 hs3
/-- the numbers that the law's names tell -/
def nmF (r n h c s b : Int32) : Nat → Int32 := fun k => if k = 0 then r else if k = 1 then n else if k = 2 then h else if k = 3 then c else if k = 4 then s else b
def clip (x : Int32) : Int32 := imax 0 (imin 99 x)
theorem clip_eq (x : Int32) : (if 0 ≤ x then (if x ≤ 99 then x else 99) else (0 : Int32)) = clip x := by
  unfold clip imax imin
  have z0 : (0 : Int32).toInt = 0 := rfl
  have z99 : (99 : Int32).toInt = 99 := rfl
  by_cases h0 : 0 ≤ x
  · rw [if_pos h0]
    by_cases h9 : x ≤ 99
    · rw [if_pos h9]
      by_cases hx : x < 99
      · rw [if_pos hx]
        by_cases hz : (0 : Int32) < x
        · rw [if_pos hz]
        · rw [if_neg hz, ie]; rw [it] at hz; rw [il] at h0; omega
      · rw [if_neg hx, if_pos (by decide), ie]; rw [it] at hx; rw [il] at h9; omega
    · rw [if_neg h9, if_neg (show ¬ x < 99 by rw [it]; rw [il] at h9; omega), if_pos (show (0 : Int32) < 99 by decide)]
  · rw [if_neg h0, if_pos (show x < 99 by rw [it]; rw [il] at h0; omega), if_neg (show ¬ (0 : Int32) < x by rw [it]; rw [il] at h0; omega)]
/-- dye by a law (none: []), as both work it out -/
def dyeS (L : LawT) (v w h c s b : Int32) : Int32 := if L = [] then (if v ≤ w then 0 else (v - w) * h / 3) else clip (evalLaw (nmF v w h c s b) L)
