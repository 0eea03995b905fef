/-! the law's copies in the reference -/
def narOK (s : Int32) : Prop := vp_nar .byte (stepM s).1 = (stepM s).1
theorem isOp_nar {s : Int32} (h : isOpS s = true) : narOK s := by
  unfold isOpS at h
  simp only [Bool.or_eq_true, decide_eq_true_eq] at h
  unfold narOK
  rcases h with ((((((((h | h) | h) | h) | h) | h) | h) | h) | h) | h <;> rw [h] <;> decide
theorem dep_nar : ∀ (S : List Int32) (j k : Nat), dep S j = some k → ∀ s ∈ S, narOK s
  | [], _, _, _, s, hs => by cases hs
  | x :: r, j, k, h, s, hs => by
    have hx : narOK x ∧ ∃ j', dep r j' = some k := by
      rw [dep_c] at h
      by_cases h6 : -6 ≤ x
      · rw [if_pos h6] at h
        refine ⟨?_, ?_⟩
        · unfold narOK stepM
          by_cases h0 : 0 ≤ x
          · rw [if_pos h0]; exact (by decide : vp_nar .byte (1 : Int32) = 1)
          · rw [if_neg h0, if_pos h6]; exact (by decide : vp_nar .byte (2 : Int32) = 2)
        · by_cases hj : j < 60
          · rw [if_pos hj] at h; exact ⟨_, h⟩
          · rw [if_neg hj] at h; cases h
      · rw [if_neg h6] at h
        by_cases hu : x = -33 ∨ x = -126
        · rw [if_pos hu] at h
          refine ⟨by unfold narOK; rcases hu with z | z <;> rw [z] <;> decide, ?_⟩
          by_cases h1 : 1 ≤ j
          · rw [if_pos h1] at h; exact ⟨_, h⟩
          · rw [if_neg h1] at h; cases h
        · rw [if_neg hu] at h
          by_cases h2 : isOpS x = true ∧ 2 ≤ j
          · rw [if_pos h2] at h; exact ⟨isOp_nar h2.1, _, h⟩
          · rw [if_neg h2] at h; cases h
    rcases List.mem_cons.mp hs with z | z
    · rw [z]; exact hx.1
    · obtain ⟨j', hj'⟩ := hx.2
      exact dep_nar r j' k hj' s z
theorem lM_nar : ∀ (L : LawT), (∀ x ∈ L, okLine x) → ∀ s ∈ lflM L, narOK s
  | [], _, s, hs => by cases hs
  | x :: L, h, s, hs => by
    have hx := h x (List.mem_cons_self ..)
    have hs2 : s ∈ tst x ++ x.2 ++ lflM L := hs
    rcases List.mem_append.mp hs2 with z | z
    · rcases List.mem_append.mp z with z | z
      · cases e : x.1 with
        | none =>
          unfold tst at z
          rw [e] at z; cases z
        | some t =>
          unfold tst at z
          rw [e] at z
          exact dep_nar t 0 1 (hx.1 t e) s z
      · exact dep_nar x.2 0 1 hx.2.1 s z
    · exact lM_nar L (fun y hy => h y (List.mem_cons_of_mem _ hy)) s z
theorem getD_mem (S : List Int32) : ∀ i, i < S.length → S.getD i 0 ∈ S := by
  induction S with
  | nil => intro i h; cases h
  | cons a r ih =>
    intro i h
    cases i with
    | zero => exact List.mem_cons_self ..
    | succ i => exact List.mem_cons_of_mem _ (ih i (by rw [List.length_cons] at h; omega))
theorem ent_le : ∀ (L : LawT) (l : Nat) (x : Option (List Int32) × List Int32), L[l]? = some x → (lflM (L.take l)).length + (tst x).length + x.2.length ≤ (lflM L).length
  | [], l, x, h => by cases h
  | y :: L, 0, x, h => by
    have : y = x := Option.some.inj h
    subst this
    show 0 + (tst y).length + y.2.length ≤ (tst y ++ y.2 ++ lflM L).length
    rw [List.length_append, List.length_append]; omega
  | y :: L, l + 1, x, h => by
    have := ent_le L l x h
    show (tst y ++ y.2 ++ lflM (L.take l)).length + _ + _ ≤ (tst y ++ y.2 ++ lflM L).length
    rw [List.length_append, List.length_append (bs := lflM L)]; omega
def frKK (τ τ' : St) : Prop := (∀ k, τ'.1 k = τ.1 k) ∧ (∀ a, a < 14 ∨ 18 < a → τ'.2.1 a = τ.2.1 a) ∧ τ'.2.2 = τ.2.2
theorem frKK_tr {a b c : St} (h1 : frKK a b) (h2 : frKK b c) : frKK a c := ⟨fun k => (h2.1 k).trans (h1.1 k), fun k p => (h2.2.1 k p).trans (h1.2.1 k p), h2.2.2.trans h1.2.2⟩
theorem cp_177 {L : LawT} (hL : L.length ≤ 60) (hlen : (lflM L).length ≤ 121) : ∀ (n i : Nat) (τ : St), L.length - i ≤ n → i ≤ L.length → τ.2.1 16 0 = nI L.length → entM 61 τ L → (∀ l x, l < i → L[l]? = some x → τ.2.1 17 l = nI ((lflM (L.take l)).length + (tst x).length) ∧ τ.2.1 18 l = nI ((lflM (L.take l)).length + (tst x).length + x.2.length)) → ∀ fuel, n < fuel → ∃ τ', f_M_readText_177 fuel τ 0 (nI i) = some (-1, τ') ∧ frKK τ τ' ∧ τ'.2.1 14 = τ.2.1 14 ∧ τ'.2.1 15 = τ.2.1 15 ∧ τ'.2.1 16 = τ.2.1 16 ∧ (∀ l x, L[l]? = some x → τ'.2.1 17 l = nI ((lflM (L.take l)).length + (tst x).length) ∧ τ'.2.1 18 l = nI ((lflM (L.take l)).length + (tst x).length + x.2.length)) := by
  have fin : ∀ (τ : St) (f : Nat), τ.2.1 16 0 = nI L.length → (∀ l x, l < L.length → L[l]? = some x → τ.2.1 17 l = nI ((lflM (L.take l)).length + (tst x).length) ∧ τ.2.1 18 l = nI ((lflM (L.take l)).length + (tst x).length + x.2.length)) → ∃ τ', f_M_readText_177 (f + 1) τ 0 (nI L.length) = some (-1, τ') ∧ frKK τ τ' ∧ τ'.2.1 14 = τ.2.1 14 ∧ τ'.2.1 15 = τ.2.1 15 ∧ τ'.2.1 16 = τ.2.1 16 ∧ (∀ l x, L[l]? = some x → τ'.2.1 17 l = nI ((lflM (L.take l)).length + (tst x).length) ∧ τ'.2.1 18 l = nI ((lflM (L.take l)).length + (tst x).length + x.2.length)) := by
    intro τ f h16 hd
    refine ⟨τ, ?_, ⟨fun _ => rfl, fun _ _ => rfl, rfl⟩, rfl, rfl, rfl, fun l x hx => ?_⟩
    · unfold f_M_readText_177
      rw [show inb 0 2 = true by decide, cond_true, show (0 : Int32).toNatClampNeg = 0 by decide, h16, if_pos (nI_le (Nat.le_refl _) (by omega))]
    · by_cases z : l < L.length
      · exact hd l x z hx
      · rw [List.getElem?_eq_none (by omega)] at hx; cases hx
  intro n
  induction n with
  | zero =>
    intro i τ hn hi h16 he hd fuel hf
    obtain ⟨f, rfl⟩ : ∃ f, fuel = f + 1 := ⟨fuel - 1, by omega⟩
    have e : i = L.length := by omega
    subst e
    exact fin τ f h16 hd
  | succ n ih =>
    intro i τ hn hi h16 he hd fuel hf
    obtain ⟨f, rfl⟩ : ∃ f, fuel = f + 1 := ⟨fuel - 1, by omega⟩
    by_cases q : i = L.length
    · subst q
      exact fin τ f h16 hd
    · have hlt : i < L.length := by omega
      obtain ⟨x, hx⟩ : ∃ x, L[i]? = some x := ⟨L[i], List.getElem?_eq_getElem hlt⟩
      obtain ⟨v1, v2⟩ := he i x hx
      have hle := ent_le L i x hx
      have e1 : (61 : Int32) + nI i = nI (61 + i) := nI_add 61 i
      have e2 : (61 : Int32) * 0 + nI i = nI i := by
        rw [show (61 : Int32) * 0 = nI 0 by decide, nI_add, Nat.zero_add]
      have n1 : vp_nar .short (τ.2.1 17 (61 + i)) = τ.2.1 17 (61 + i) := by
        rw [v1]; exact (sh_id ⟨_, by omega⟩).2
      have n2 : vp_nar .short (τ.2.1 18 (61 + i)) = τ.2.1 18 (61 + i) := by
        rw [v2]; exact (sh_id ⟨_, by omega⟩).2
      have key : f_M_readText_177 (f + 1) τ 0 (nI i) = f_M_readText_177 f (upA (upA τ 17 i (τ.2.1 17 (61 + i))) 18 i (τ.2.1 18 (61 + i))) 0 (nI (i + 1)) := by
        conv => lhs; unfold f_M_readText_177
        rw [show inb 0 2 = true by decide, show (0 : Int32).toNatClampNeg = 0 by decide, h16, if_neg (nI_ge hlt (by omega)), e1, e2, inb_nI (show 61 + i < 122 by omega) (by decide), inb_nI (show i < 122 by omega) (by decide), nIt (show 61 + i < 2 ^ 31 by omega), nIt (show i < 2 ^ 31 by omega), n1, n2, nI_1]
        simp only [cond_true]
      rw [key]
      obtain ⟨τ', g1, g2, g3, g4, g5, g6⟩ := ih (i + 1) (upA (upA τ 17 i (τ.2.1 17 (61 + i))) 18 i (τ.2.1 18 (61 + i))) (by omega) (by omega) (by rw [upA_2, if_neg (by decide), upA_2, if_neg (by decide)]; exact h16) (fun l y hy => by
        have hl : l < L.length := by
          by_cases z : l < L.length
          · exact z
          · rw [List.getElem?_eq_none (by omega)] at hy; cases hy
        rw [upA_2, if_neg (by decide), upA_2, if_pos rfl, upA_2, if_pos rfl, upA_2, if_neg (by decide)]
        unfold upd
        rw [if_neg (by omega), if_neg (by omega)]
        exact he l y hy) (fun l y hl hy => by
        rw [upA_2, if_neg (by decide), upA_2, if_pos rfl, upA_2, if_pos rfl, upA_2, if_neg (by decide)]
        unfold upd
        by_cases z : l = i
        · subst z
          rw [hx] at hy
          cases hy
          rw [if_pos rfl, if_pos rfl]
          exact ⟨v1, v2⟩
        · rw [if_neg z, if_neg z]
          exact hd l y (by omega) hy) f (by omega)
      refine ⟨τ', g1, frKK_tr (b := upA (upA τ 17 i (τ.2.1 17 (61 + i))) 18 i (τ.2.1 18 (61 + i))) ⟨fun _ => rfl, fun a p => by rw [upA_2, if_neg (by omega), upA_2, if_neg (by omega)], rfl⟩ g2, ?_, ?_, ?_, g6⟩
      · rw [g3, upA_2, if_neg (by decide), upA_2, if_neg (by decide)]
      · rw [g4, upA_2, if_neg (by decide), upA_2, if_neg (by decide)]
      · rw [g5, upA_2, if_neg (by decide), upA_2, if_neg (by decide)]
theorem cp_105 {m : List Int32} (hm : m.length ≤ 121) (hn : ∀ s ∈ m, narOK s) : ∀ (n i : Nat) (τ : St), m.length - i ≤ n → i ≤ m.length → stM m τ → (∀ j, j < i → τ.2.1 14 j = (stepM (m.getD j 0)).1 ∧ τ.2.1 15 j = (stepM (m.getD j 0)).2) → ∀ fuel, n < fuel → ∃ τ', f_M_readText_105 fuel τ 0 (nI i) = f_M_readText_177 FU (upA τ' 16 0 (τ'.2.1 16 1)) 0 0 ∧ frKK τ τ' ∧ τ'.2.1 16 = τ.2.1 16 ∧ τ'.2.1 17 = τ.2.1 17 ∧ τ'.2.1 18 = τ.2.1 18 ∧ (∀ j, j < m.length → τ'.2.1 14 j = (stepM (m.getD j 0)).1 ∧ τ'.2.1 15 j = (stepM (m.getD j 0)).2) := by
  have fin : ∀ (τ : St) (f : Nat), stM m τ → f_M_readText_105 (f + 1) τ 0 (nI m.length) = f_M_readText_177 FU (upA τ 16 0 (τ.2.1 16 1)) 0 0 := by
    intro τ f hs
    unfold f_M_readText_105
    rw [hs.1, if_pos (nI_le (Nat.le_refl _) (by omega)), show inb 0 2 = true by decide, cond_true, show (0 : Int32).toNatClampNeg = 0 by decide, show (1 : Int32).toNatClampNeg = 1 by decide]
  intro n
  induction n with
  | zero =>
    intro i τ hi0 hi hs hd fuel hf
    obtain ⟨f, rfl⟩ : ∃ f, fuel = f + 1 := ⟨fuel - 1, by omega⟩
    have e : i = m.length := by omega
    subst e
    exact ⟨τ, fin τ f hs, ⟨fun _ => rfl, fun _ _ => rfl, rfl⟩, rfl, rfl, rfl, hd⟩
  | succ n ih =>
    intro i τ hi0 hi hs hd fuel hf
    obtain ⟨f, rfl⟩ : ∃ f, fuel = f + 1 := ⟨fuel - 1, by omega⟩
    by_cases q : i = m.length
    · subst q
      exact ⟨τ, fin τ f hs, ⟨fun _ => rfl, fun _ _ => rfl, rfl⟩, rfl, rfl, rfl, hd⟩
    · have hlt : i < m.length := by omega
      obtain ⟨v1, v2⟩ := hs.2 i hlt
      have e1 : (130 : Int32) + nI i = nI (130 + i) := nI_add 130 i
      have e2 : (130 : Int32) * 0 + nI i = nI i := by
        rw [show (130 : Int32) * 0 = nI 0 by decide, nI_add, Nat.zero_add]
      have n1 : vp_nar .byte (τ.2.1 14 (130 + i)) = τ.2.1 14 (130 + i) := by
        rw [v1]; exact hn _ (getD_mem m i hlt)
      have key : f_M_readText_105 (f + 1) τ 0 (nI i) = f_M_readText_105 f (upA (upA τ 14 i (τ.2.1 14 (130 + i))) 15 i (τ.2.1 15 (130 + i))) 0 (nI (i + 1)) := by
        conv => lhs; unfold f_M_readText_105
        rw [hs.1, if_neg (nI_ge hlt (by omega)), e1, e2, inb_nI (show 130 + i < 260 by omega) (by decide), inb_nI (show i < 260 by omega) (by decide), nIt (show 130 + i < 2 ^ 31 by omega), nIt (show i < 2 ^ 31 by omega), n1, nI_1]
        simp only [cond_true]
      rw [key]
      obtain ⟨τ', g1, g2, g3, g4, g5, g6⟩ := ih (i + 1) (upA (upA τ 14 i (τ.2.1 14 (130 + i))) 15 i (τ.2.1 15 (130 + i))) (by omega) (by omega) ⟨hs.1, fun l hl => by
        rw [upA_2, if_neg (by decide), upA_2, if_pos rfl, upA_2, if_pos rfl, upA_2, if_neg (by decide)]
        unfold upd
        rw [if_neg (by omega), if_neg (by omega)]
        exact hs.2 l hl⟩ (fun l hl => by
        rw [upA_2, if_neg (by decide), upA_2, if_pos rfl, upA_2, if_pos rfl, upA_2, if_neg (by decide)]
        unfold upd
        by_cases z : l = i
        · subst z
          rw [if_pos rfl, if_pos rfl]
          exact ⟨v1, v2⟩
        · rw [if_neg z, if_neg z]
          exact hd l (by omega)) f (by omega)
      refine ⟨τ', g1, frKK_tr (b := upA (upA τ 14 i (τ.2.1 14 (130 + i))) 15 i (τ.2.1 15 (130 + i))) ⟨fun _ => rfl, fun a p => by rw [upA_2, if_neg (by omega), upA_2, if_neg (by omega)], rfl⟩ g2, ?_, ?_, ?_, g6⟩
      · rw [g3, upA_2, if_neg (by decide), upA_2, if_neg (by decide)]
      · rw [g4, upA_2, if_neg (by decide), upA_2, if_neg (by decide)]
      · rw [g5, upA_2, if_neg (by decide), upA_2, if_neg (by decide)]
