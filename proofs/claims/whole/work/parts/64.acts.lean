/-! acts: by both -/
def Sim (σ0 τ0 : St) (c : Nat) (σ τ : St) : Prop := (∃ rn, rn ≤ c ∧ σ.1 3203 = nI rn ∧ τ.1 56 = nI rn ∧ ∀ i, i < rn → i < 24 → σ.2.1 34 i = τ.2.1 36 i) ∧ (∀ k, k ≠ 3203 → σ.1 k = σ0.1 k) ∧ (∀ a, a ≠ 34 → σ.2.1 a = σ0.2.1 a) ∧ σ.2.2 = σ0.2.2 ∧ (∀ k, k ≠ 56 → τ.1 k = τ0.1 k) ∧ (∀ a, a ≠ 36 → τ.2.1 a = τ0.2.1 a) ∧ τ.2.2 = τ0.2.2
theorem sim_mono {σ0 τ0 σ τ : St} {c c' : Nat} (h : Sim σ0 τ0 c σ τ) (hc : c ≤ c') : Sim σ0 τ0 c' σ τ := by
  obtain ⟨⟨rn, h1, h2⟩, h3⟩ := h
  exact ⟨⟨rn, by omega, h2⟩, h3⟩
theorem sim_note {σ0 τ0 σ τ : St} {c : Nat} (h : Sim σ0 τ0 c σ τ) (hc : c < 900) (v : Int32) : ∃ σ' τ', f_Socks_note σ v = some σ' ∧ f_M_ran τ v = some τ' ∧ Sim σ0 τ0 (c + 1) σ' τ' := by
  obtain ⟨⟨rn, h1, h2, h3, h4⟩, g1, g2, g3, g4, g5, g6⟩ := h
  unfold f_Socks_note f_M_ran
  rw [h2, h3]
  by_cases q : rn < 24
  · have c1 : ¬ (24 : Int32) ≤ nI rn := nI_ge (b := 24) q (by decide)
    rw [if_neg c1, if_neg c1, inb_nI q (by decide), nIt (by omega), nI_1]
    refine ⟨_, _, rfl, rfl, ⟨rn + 1, by omega, rfl, rfl, fun i hi h24 => ?_⟩, fun k hk => ?_, fun a ha => ?_, g3, fun k hk => ?_, fun a ha => ?_, g6⟩
    · rw [upI_2, upI_2, upA_2, upA_2, if_pos rfl, if_pos rfl]
      unfold upd
      by_cases e : i = rn
      · rw [if_pos e, if_pos e]
      · rw [if_neg e, if_neg e]; exact h4 i (by omega) h24
    · rw [upI_1, if_neg hk]; exact g1 k hk
    · rw [upI_2, upA_2, if_neg ha]; exact g2 a ha
    · rw [upI_1, if_neg hk]; exact g4 k hk
    · rw [upI_2, upA_2, if_neg ha]; exact g5 a ha
  · have c1 : (24 : Int32) ≤ nI rn := nI_le (a := 24) (by omega) (by omega)
    rw [if_pos c1, if_pos c1, nI_1]
    refine ⟨_, _, rfl, rfl, ⟨rn + 1, by omega, rfl, rfl, fun i hi h24 => h4 i (by omega) h24⟩, fun k hk => ?_, g2, g3, fun k hk => ?_, g5, g6⟩
    · rw [upI_1, if_neg hk]; exact g1 k hk
    · rw [upI_1, if_neg hk]; exact g4 k hk
theorem bd2_eta (a : Option (Int32 × St)) : (bd2 a fun r σ => some (r, σ)) = a := by
  cases a with
  | none => rfl
  | some q => rfl
/-- what an act finds: the body's kind, on both sides -/
def actB (σ0 τ0 : St) (b k : Nat) : Prop := (∃ bn, b < bn ∧ bn ≤ 50 ∧ σ0.1 3202 = nI bn) ∧ σ0.2.1 33 b = nI k ∧ τ0.2.1 35 b = nI k ∧ b < 50
abbrev RecT : Type := St → Int32 → Int32 → Int32 → Int32 → Int32 → Option (Int32 × St)
theorem own_C {σ0 τ0 σ τ : St} {c b k : Nat} (hA : actB σ0 τ0 b k) (h : Sim σ0 τ0 c σ τ) (rec : RecT) (a x d : Int32) : f_Socks_own rec σ (nI b) a x d = rec σ (nI k) (nI b) a x d := by
  obtain ⟨⟨bn, h1, h2, h3⟩, h4, h5, h6⟩ := hA
  obtain ⟨-, g1, g2, g3, -⟩ := h
  unfold f_Socks_own f_Socks_isBody
  rw [g1 3202 (by decide), h3, within_eq, bind_s, bif_t (zb_b2 _), decide_eq_true ((isT (by omega) _).mpr ⟨b, h1, rfl⟩), b2_t, bind_s, if_neg i10, inb_nI h6 (by decide), cond_true, nIt (by omega), g2 33 (by decide), h4, bd2_eta]
theorem kind_M {σ0 τ0 σ τ : St} {c b k : Nat} (hA : actB σ0 τ0 b k) (h : Sim σ0 τ0 c σ τ) : τ.2.1 35 b = nI k := by
  obtain ⟨-, -, -, -, -, g5, -⟩ := h
  rw [g5 35 (by decide)]; exact hA.2.2.1
theorem from_s (m : Nat) (σ : St) (k B a x d : Int32) : f_Socks_from (m + 1) σ k B a x d = f_Socks_from_F (f_Socks_from m) σ k B a x d := rfl
theorem dep40 {d : Nat} (h : d ≤ 30) : nI d ≤ (40 : Int32) := nI_le (b := 40) (by omega) (by decide)
theorem fr_0_0 (m : Nat) (σ : St) (B x : Int32) {d : Nat} (hd : d ≤ 30) : f_Socks_from (m + 1) σ (nI 0) B 0 x (nI d) = (f_Socks_note σ 1).bind fun σ1 => f_Socks_topmost (f_Socks_from m) σ1 1 B x (nI (d + 1)) := by
  rw [from_s]
  unfold f_Socks_from_F
  rw [show f_Socks_ownerOf (nI 0) 0 = some 0 by decide +kernel, bind_s, if_neg (show ¬ (0 : Int32) = -1 by decide), if_pos (dep40 hd), show inb ((0 : Int32) * 4 + 0) 32 = true by decide +kernel, show tb_OWN ((0 : Int32) * 4 + 0).toNatClampNeg = 1 by decide +kernel, cond_true, nI_1]
  simp only [if_true, bd2_eta]
theorem fr_0_1 (m : Nat) (σ : St) (B x : Int32) {d : Nat} (hd : d ≤ 30) : f_Socks_from (m + 1) σ (nI 0) B 1 x (nI d) = (f_Socks_note σ 10).bind fun σ1 => f_Socks_topmost (f_Socks_from m) σ1 10 B x (nI (d + 1)) := by
  rw [from_s]
  unfold f_Socks_from_F
  rw [show f_Socks_ownerOf (nI 0) 1 = some 0 by decide +kernel, bind_s, if_neg (show ¬ (0 : Int32) = -1 by decide), if_pos (dep40 hd), show inb ((0 : Int32) * 4 + 1) 32 = true by decide +kernel, show tb_OWN ((0 : Int32) * 4 + 1).toNatClampNeg = 10 by decide +kernel, cond_true, nI_1]
  simp only [if_true, bd2_eta]
theorem fr_0_2 (m : Nat) (σ : St) (B x : Int32) {d : Nat} (hd : d ≤ 30) : f_Socks_from (m + 1) σ (nI 0) B 2 x (nI d) = (f_Socks_note σ 11).bind fun σ1 => f_Socks_topmost (f_Socks_from m) σ1 11 B x (nI (d + 1)) := by
  rw [from_s]
  unfold f_Socks_from_F
  rw [show f_Socks_ownerOf (nI 0) 2 = some 0 by decide +kernel, bind_s, if_neg (show ¬ (0 : Int32) = -1 by decide), if_pos (dep40 hd), show inb ((0 : Int32) * 4 + 2) 32 = true by decide +kernel, show tb_OWN ((0 : Int32) * 4 + 2).toNatClampNeg = 11 by decide +kernel, cond_true, nI_1]
  simp only [if_true, bd2_eta]
theorem fr_0_3 (m : Nat) (σ : St) (B x : Int32) {d : Nat} (hd : d ≤ 30) : f_Socks_from (m + 1) σ (nI 0) B 3 x (nI d) = (f_Socks_note σ 2).bind fun σ1 => f_Socks_topmost (f_Socks_from m) σ1 2 B x (nI (d + 1)) := by
  rw [from_s]
  unfold f_Socks_from_F
  rw [show f_Socks_ownerOf (nI 0) 3 = some 0 by decide +kernel, bind_s, if_neg (show ¬ (0 : Int32) = -1 by decide), if_pos (dep40 hd), show inb ((0 : Int32) * 4 + 3) 32 = true by decide +kernel, show tb_OWN ((0 : Int32) * 4 + 3).toNatClampNeg = 2 by decide +kernel, cond_true, nI_1]
  simp only [if_true, bd2_eta]
theorem fr_1_0 (m : Nat) (σ : St) (B x : Int32) {d : Nat} (hd : d ≤ 30) : f_Socks_from (m + 1) σ (nI 1) B 0 x (nI d) = (f_Socks_note σ 20).bind fun σ1 => bd2 (f_Socks_from m σ1 (nI 0) B 0 x (nI (d + 1))) fun r σ2 => f_Socks_lower (f_Socks_from m) σ2 20 B r (nI (d + 1)) := by
  rw [from_s]
  unfold f_Socks_from_F
  rw [show f_Socks_ownerOf (nI 1) 0 = some 1 by decide +kernel, bind_s, if_neg (show ¬ (1 : Int32) = -1 by decide), if_pos (dep40 hd), show inb ((1 : Int32) * 4 + 0) 32 = true by decide +kernel, show tb_OWN ((1 : Int32) * 4 + 0).toNatClampNeg = 20 by decide +kernel, cond_true, nI_1]
  simp only [show ((1 : Int32) = 0) = False from eq_false (by decide), show ((20 : Int32) = 41) = False from eq_false (by decide), if_true, if_false]
  unfold f_Socks_from_75
  simp only [show inb (1 : Int32) 8 = true by decide +kernel, show tb_ABOVE (1 : Int32).toNatClampNeg = nI 0 by decide +kernel, cond_true, nI_1, bd2_eta]
theorem fr_1_1 (m : Nat) (σ : St) (B x : Int32) {d : Nat} (hd : d ≤ 30) : f_Socks_from (m + 1) σ (nI 1) B 1 x (nI d) = (f_Socks_note σ 10).bind fun σ1 => f_Socks_topmost (f_Socks_from m) σ1 10 B x (nI (d + 1)) := by
  rw [from_s]
  unfold f_Socks_from_F
  rw [show f_Socks_ownerOf (nI 1) 1 = some 0 by decide +kernel, bind_s, if_neg (show ¬ (0 : Int32) = -1 by decide), if_pos (dep40 hd), show inb ((0 : Int32) * 4 + 1) 32 = true by decide +kernel, show tb_OWN ((0 : Int32) * 4 + 1).toNatClampNeg = 10 by decide +kernel, cond_true, nI_1]
  simp only [if_true, bd2_eta]
theorem fr_1_2 (m : Nat) (σ : St) (B x : Int32) {d : Nat} (hd : d ≤ 30) : f_Socks_from (m + 1) σ (nI 1) B 2 x (nI d) = (f_Socks_note σ 11).bind fun σ1 => f_Socks_topmost (f_Socks_from m) σ1 11 B x (nI (d + 1)) := by
  rw [from_s]
  unfold f_Socks_from_F
  rw [show f_Socks_ownerOf (nI 1) 2 = some 0 by decide +kernel, bind_s, if_neg (show ¬ (0 : Int32) = -1 by decide), if_pos (dep40 hd), show inb ((0 : Int32) * 4 + 2) 32 = true by decide +kernel, show tb_OWN ((0 : Int32) * 4 + 2).toNatClampNeg = 11 by decide +kernel, cond_true, nI_1]
  simp only [if_true, bd2_eta]
theorem fr_1_3 (m : Nat) (σ : St) (B x : Int32) {d : Nat} (hd : d ≤ 30) : f_Socks_from (m + 1) σ (nI 1) B 3 x (nI d) = (f_Socks_note σ 2).bind fun σ1 => f_Socks_topmost (f_Socks_from m) σ1 2 B x (nI (d + 1)) := by
  rw [from_s]
  unfold f_Socks_from_F
  rw [show f_Socks_ownerOf (nI 1) 3 = some 0 by decide +kernel, bind_s, if_neg (show ¬ (0 : Int32) = -1 by decide), if_pos (dep40 hd), show inb ((0 : Int32) * 4 + 3) 32 = true by decide +kernel, show tb_OWN ((0 : Int32) * 4 + 3).toNatClampNeg = 2 by decide +kernel, cond_true, nI_1]
  simp only [if_true, bd2_eta]
theorem fr_2_0 (m : Nat) (σ : St) (B x : Int32) {d : Nat} (hd : d ≤ 30) : f_Socks_from (m + 1) σ (nI 2) B 0 x (nI d) = (f_Socks_note σ 1).bind fun σ1 => f_Socks_topmost (f_Socks_from m) σ1 1 B x (nI (d + 1)) := by
  rw [from_s]
  unfold f_Socks_from_F
  rw [show f_Socks_ownerOf (nI 2) 0 = some 0 by decide +kernel, bind_s, if_neg (show ¬ (0 : Int32) = -1 by decide), if_pos (dep40 hd), show inb ((0 : Int32) * 4 + 0) 32 = true by decide +kernel, show tb_OWN ((0 : Int32) * 4 + 0).toNatClampNeg = 1 by decide +kernel, cond_true, nI_1]
  simp only [if_true, bd2_eta]
theorem fr_2_1 (m : Nat) (σ : St) (B x : Int32) {d : Nat} (hd : d ≤ 30) : f_Socks_from (m + 1) σ (nI 2) B 1 x (nI d) = (f_Socks_note σ 30).bind fun σ1 => bd2 (f_Socks_from m σ1 (nI 0) B 1 x (nI (d + 1))) fun r σ2 => f_Socks_lower (f_Socks_from m) σ2 30 B r (nI (d + 1)) := by
  rw [from_s]
  unfold f_Socks_from_F
  rw [show f_Socks_ownerOf (nI 2) 1 = some 2 by decide +kernel, bind_s, if_neg (show ¬ (2 : Int32) = -1 by decide), if_pos (dep40 hd), show inb ((2 : Int32) * 4 + 1) 32 = true by decide +kernel, show tb_OWN ((2 : Int32) * 4 + 1).toNatClampNeg = 30 by decide +kernel, cond_true, nI_1]
  simp only [show ((2 : Int32) = 0) = False from eq_false (by decide), show ((30 : Int32) = 41) = False from eq_false (by decide), if_true, if_false]
  unfold f_Socks_from_75
  simp only [show inb (2 : Int32) 8 = true by decide +kernel, show tb_ABOVE (2 : Int32).toNatClampNeg = nI 0 by decide +kernel, cond_true, nI_1, bd2_eta]
theorem fr_2_2 (m : Nat) (σ : St) (B x : Int32) {d : Nat} (hd : d ≤ 30) : f_Socks_from (m + 1) σ (nI 2) B 2 x (nI d) = (f_Socks_note σ 11).bind fun σ1 => f_Socks_topmost (f_Socks_from m) σ1 11 B x (nI (d + 1)) := by
  rw [from_s]
  unfold f_Socks_from_F
  rw [show f_Socks_ownerOf (nI 2) 2 = some 0 by decide +kernel, bind_s, if_neg (show ¬ (0 : Int32) = -1 by decide), if_pos (dep40 hd), show inb ((0 : Int32) * 4 + 2) 32 = true by decide +kernel, show tb_OWN ((0 : Int32) * 4 + 2).toNatClampNeg = 11 by decide +kernel, cond_true, nI_1]
  simp only [if_true, bd2_eta]
theorem fr_2_3 (m : Nat) (σ : St) (B x : Int32) {d : Nat} (hd : d ≤ 30) : f_Socks_from (m + 1) σ (nI 2) B 3 x (nI d) = (f_Socks_note σ 2).bind fun σ1 => f_Socks_topmost (f_Socks_from m) σ1 2 B x (nI (d + 1)) := by
  rw [from_s]
  unfold f_Socks_from_F
  rw [show f_Socks_ownerOf (nI 2) 3 = some 0 by decide +kernel, bind_s, if_neg (show ¬ (0 : Int32) = -1 by decide), if_pos (dep40 hd), show inb ((0 : Int32) * 4 + 3) 32 = true by decide +kernel, show tb_OWN ((0 : Int32) * 4 + 3).toNatClampNeg = 2 by decide +kernel, cond_true, nI_1]
  simp only [if_true, bd2_eta]
theorem fr_3_0 (m : Nat) (σ : St) (B x : Int32) {d : Nat} (hd : d ≤ 30) : f_Socks_from (m + 1) σ (nI 3) B 0 x (nI d) = (f_Socks_note σ 1).bind fun σ1 => f_Socks_topmost (f_Socks_from m) σ1 1 B x (nI (d + 1)) := by
  rw [from_s]
  unfold f_Socks_from_F
  rw [show f_Socks_ownerOf (nI 3) 0 = some 0 by decide +kernel, bind_s, if_neg (show ¬ (0 : Int32) = -1 by decide), if_pos (dep40 hd), show inb ((0 : Int32) * 4 + 0) 32 = true by decide +kernel, show tb_OWN ((0 : Int32) * 4 + 0).toNatClampNeg = 1 by decide +kernel, cond_true, nI_1]
  simp only [if_true, bd2_eta]
theorem fr_3_1 (m : Nat) (σ : St) (B x : Int32) {d : Nat} (hd : d ≤ 30) : f_Socks_from (m + 1) σ (nI 3) B 1 x (nI d) = (f_Socks_note σ 41).bind fun σ1 => bd2 (f_Socks_from m σ1 (nI 2) B 1 (x + 1) (nI (d + 1))) fun r σ2 => f_Socks_lower (f_Socks_from m) σ2 41 B r (nI (d + 1)) := by
  rw [from_s]
  unfold f_Socks_from_F
  rw [show f_Socks_ownerOf (nI 3) 1 = some 3 by decide +kernel, bind_s, if_neg (show ¬ (3 : Int32) = -1 by decide), if_pos (dep40 hd), show inb ((3 : Int32) * 4 + 1) 32 = true by decide +kernel, show tb_OWN ((3 : Int32) * 4 + 1).toNatClampNeg = 41 by decide +kernel, cond_true, nI_1]
  simp only [show ((3 : Int32) = 0) = False from eq_false (by decide), show ((41 : Int32) = 41) = True from eq_true rfl, if_true, if_false]
  unfold f_Socks_from_75
  simp only [show inb (3 : Int32) 8 = true by decide +kernel, show tb_ABOVE (3 : Int32).toNatClampNeg = nI 2 by decide +kernel, cond_true, nI_1, bd2_eta]
theorem fr_3_2 (m : Nat) (σ : St) (B x : Int32) {d : Nat} (hd : d ≤ 30) : f_Socks_from (m + 1) σ (nI 3) B 2 x (nI d) = (f_Socks_note σ 40).bind fun σ1 => bd2 (f_Socks_from m σ1 (nI 2) B 2 x (nI (d + 1))) fun r σ2 => f_Socks_lower (f_Socks_from m) σ2 40 B r (nI (d + 1)) := by
  rw [from_s]
  unfold f_Socks_from_F
  rw [show f_Socks_ownerOf (nI 3) 2 = some 3 by decide +kernel, bind_s, if_neg (show ¬ (3 : Int32) = -1 by decide), if_pos (dep40 hd), show inb ((3 : Int32) * 4 + 2) 32 = true by decide +kernel, show tb_OWN ((3 : Int32) * 4 + 2).toNatClampNeg = 40 by decide +kernel, cond_true, nI_1]
  simp only [show ((3 : Int32) = 0) = False from eq_false (by decide), show ((40 : Int32) = 41) = False from eq_false (by decide), if_true, if_false]
  unfold f_Socks_from_75
  simp only [show inb (3 : Int32) 8 = true by decide +kernel, show tb_ABOVE (3 : Int32).toNatClampNeg = nI 2 by decide +kernel, cond_true, nI_1, bd2_eta]
theorem fr_3_3 (m : Nat) (σ : St) (B x : Int32) {d : Nat} (hd : d ≤ 30) : f_Socks_from (m + 1) σ (nI 3) B 3 x (nI d) = (f_Socks_note σ 2).bind fun σ1 => f_Socks_topmost (f_Socks_from m) σ1 2 B x (nI (d + 1)) := by
  rw [from_s]
  unfold f_Socks_from_F
  rw [show f_Socks_ownerOf (nI 3) 3 = some 0 by decide +kernel, bind_s, if_neg (show ¬ (0 : Int32) = -1 by decide), if_pos (dep40 hd), show inb ((0 : Int32) * 4 + 3) 32 = true by decide +kernel, show tb_OWN ((0 : Int32) * 4 + 3).toNatClampNeg = 2 by decide +kernel, cond_true, nI_1]
  simp only [if_true, bd2_eta]
theorem fr_4_0 (m : Nat) (σ : St) (B x : Int32) {d : Nat} (hd : d ≤ 30) : f_Socks_from (m + 1) σ (nI 4) B 0 x (nI d) = (f_Socks_note σ 20).bind fun σ1 => bd2 (f_Socks_from m σ1 (nI 0) B 0 x (nI (d + 1))) fun r σ2 => f_Socks_lower (f_Socks_from m) σ2 20 B r (nI (d + 1)) := by
  rw [from_s]
  unfold f_Socks_from_F
  rw [show f_Socks_ownerOf (nI 4) 0 = some 1 by decide +kernel, bind_s, if_neg (show ¬ (1 : Int32) = -1 by decide), if_pos (dep40 hd), show inb ((1 : Int32) * 4 + 0) 32 = true by decide +kernel, show tb_OWN ((1 : Int32) * 4 + 0).toNatClampNeg = 20 by decide +kernel, cond_true, nI_1]
  simp only [show ((1 : Int32) = 0) = False from eq_false (by decide), show ((20 : Int32) = 41) = False from eq_false (by decide), if_true, if_false]
  unfold f_Socks_from_75
  simp only [show inb (1 : Int32) 8 = true by decide +kernel, show tb_ABOVE (1 : Int32).toNatClampNeg = nI 0 by decide +kernel, cond_true, nI_1, bd2_eta]
theorem fr_4_1 (m : Nat) (σ : St) (B x : Int32) {d : Nat} (hd : d ≤ 30) : f_Socks_from (m + 1) σ (nI 4) B 1 x (nI d) = (f_Socks_note σ 10).bind fun σ1 => f_Socks_topmost (f_Socks_from m) σ1 10 B x (nI (d + 1)) := by
  rw [from_s]
  unfold f_Socks_from_F
  rw [show f_Socks_ownerOf (nI 4) 1 = some 0 by decide +kernel, bind_s, if_neg (show ¬ (0 : Int32) = -1 by decide), if_pos (dep40 hd), show inb ((0 : Int32) * 4 + 1) 32 = true by decide +kernel, show tb_OWN ((0 : Int32) * 4 + 1).toNatClampNeg = 10 by decide +kernel, cond_true, nI_1]
  simp only [if_true, bd2_eta]
theorem fr_4_2 (m : Nat) (σ : St) (B x : Int32) {d : Nat} (hd : d ≤ 30) : f_Socks_from (m + 1) σ (nI 4) B 2 x (nI d) = (f_Socks_note σ 11).bind fun σ1 => f_Socks_topmost (f_Socks_from m) σ1 11 B x (nI (d + 1)) := by
  rw [from_s]
  unfold f_Socks_from_F
  rw [show f_Socks_ownerOf (nI 4) 2 = some 0 by decide +kernel, bind_s, if_neg (show ¬ (0 : Int32) = -1 by decide), if_pos (dep40 hd), show inb ((0 : Int32) * 4 + 2) 32 = true by decide +kernel, show tb_OWN ((0 : Int32) * 4 + 2).toNatClampNeg = 11 by decide +kernel, cond_true, nI_1]
  simp only [if_true, bd2_eta]
theorem fr_4_3 (m : Nat) (σ : St) (B x : Int32) {d : Nat} (hd : d ≤ 30) : f_Socks_from (m + 1) σ (nI 4) B 3 x (nI d) = (f_Socks_note σ 50).bind fun σ1 => bd2 (f_Socks_from m σ1 (nI 1) B 3 x (nI (d + 1))) fun r σ2 => f_Socks_lower (f_Socks_from m) σ2 50 B r (nI (d + 1)) := by
  rw [from_s]
  unfold f_Socks_from_F
  rw [show f_Socks_ownerOf (nI 4) 3 = some 4 by decide +kernel, bind_s, if_neg (show ¬ (4 : Int32) = -1 by decide), if_pos (dep40 hd), show inb ((4 : Int32) * 4 + 3) 32 = true by decide +kernel, show tb_OWN ((4 : Int32) * 4 + 3).toNatClampNeg = 50 by decide +kernel, cond_true, nI_1]
  simp only [show ((4 : Int32) = 0) = False from eq_false (by decide), show ((50 : Int32) = 41) = False from eq_false (by decide), if_true, if_false]
  unfold f_Socks_from_75
  simp only [show inb (4 : Int32) 8 = true by decide +kernel, show tb_ABOVE (4 : Int32).toNatClampNeg = nI 1 by decide +kernel, cond_true, nI_1, bd2_eta]
theorem fr_5_0 (m : Nat) (σ : St) (B x : Int32) {d : Nat} (hd : d ≤ 30) : f_Socks_from (m + 1) σ (nI 5) B 0 x (nI d) = (f_Socks_note σ 1).bind fun σ1 => f_Socks_topmost (f_Socks_from m) σ1 1 B x (nI (d + 1)) := by
  rw [from_s]
  unfold f_Socks_from_F
  rw [show f_Socks_ownerOf (nI 5) 0 = some 0 by decide +kernel, bind_s, if_neg (show ¬ (0 : Int32) = -1 by decide), if_pos (dep40 hd), show inb ((0 : Int32) * 4 + 0) 32 = true by decide +kernel, show tb_OWN ((0 : Int32) * 4 + 0).toNatClampNeg = 1 by decide +kernel, cond_true, nI_1]
  simp only [if_true, bd2_eta]
theorem fr_5_1 (m : Nat) (σ : St) (B x : Int32) {d : Nat} (hd : d ≤ 30) : f_Socks_from (m + 1) σ (nI 5) B 1 x (nI d) = (f_Socks_note σ 41).bind fun σ1 => bd2 (f_Socks_from m σ1 (nI 2) B 1 (x + 1) (nI (d + 1))) fun r σ2 => f_Socks_lower (f_Socks_from m) σ2 41 B r (nI (d + 1)) := by
  rw [from_s]
  unfold f_Socks_from_F
  rw [show f_Socks_ownerOf (nI 5) 1 = some 3 by decide +kernel, bind_s, if_neg (show ¬ (3 : Int32) = -1 by decide), if_pos (dep40 hd), show inb ((3 : Int32) * 4 + 1) 32 = true by decide +kernel, show tb_OWN ((3 : Int32) * 4 + 1).toNatClampNeg = 41 by decide +kernel, cond_true, nI_1]
  simp only [show ((3 : Int32) = 0) = False from eq_false (by decide), show ((41 : Int32) = 41) = True from eq_true rfl, if_true, if_false]
  unfold f_Socks_from_75
  simp only [show inb (3 : Int32) 8 = true by decide +kernel, show tb_ABOVE (3 : Int32).toNatClampNeg = nI 2 by decide +kernel, cond_true, nI_1, bd2_eta]
theorem fr_5_2 (m : Nat) (σ : St) (B x : Int32) {d : Nat} (hd : d ≤ 30) : f_Socks_from (m + 1) σ (nI 5) B 2 x (nI d) = (f_Socks_note σ 60).bind fun σ1 => bd2 (f_Socks_from m σ1 (nI 3) B 2 x (nI (d + 1))) fun r σ2 => f_Socks_lower (f_Socks_from m) σ2 60 B r (nI (d + 1)) := by
  rw [from_s]
  unfold f_Socks_from_F
  rw [show f_Socks_ownerOf (nI 5) 2 = some 5 by decide +kernel, bind_s, if_neg (show ¬ (5 : Int32) = -1 by decide), if_pos (dep40 hd), show inb ((5 : Int32) * 4 + 2) 32 = true by decide +kernel, show tb_OWN ((5 : Int32) * 4 + 2).toNatClampNeg = 60 by decide +kernel, cond_true, nI_1]
  simp only [show ((5 : Int32) = 0) = False from eq_false (by decide), show ((60 : Int32) = 41) = False from eq_false (by decide), if_true, if_false]
  unfold f_Socks_from_75
  simp only [show inb (5 : Int32) 8 = true by decide +kernel, show tb_ABOVE (5 : Int32).toNatClampNeg = nI 3 by decide +kernel, cond_true, nI_1, bd2_eta]
theorem fr_5_3 (m : Nat) (σ : St) (B x : Int32) {d : Nat} (hd : d ≤ 30) : f_Socks_from (m + 1) σ (nI 5) B 3 x (nI d) = (f_Socks_note σ 61).bind fun σ1 => bd2 (f_Socks_from m σ1 (nI 3) B 3 x (nI (d + 1))) fun r σ2 => f_Socks_lower (f_Socks_from m) σ2 61 B r (nI (d + 1)) := by
  rw [from_s]
  unfold f_Socks_from_F
  rw [show f_Socks_ownerOf (nI 5) 3 = some 5 by decide +kernel, bind_s, if_neg (show ¬ (5 : Int32) = -1 by decide), if_pos (dep40 hd), show inb ((5 : Int32) * 4 + 3) 32 = true by decide +kernel, show tb_OWN ((5 : Int32) * 4 + 3).toNatClampNeg = 61 by decide +kernel, cond_true, nI_1]
  simp only [show ((5 : Int32) = 0) = False from eq_false (by decide), show ((61 : Int32) = 41) = False from eq_false (by decide), if_true, if_false]
  unfold f_Socks_from_75
  simp only [show inb (5 : Int32) 8 = true by decide +kernel, show tb_ABOVE (5 : Int32).toNatClampNeg = nI 3 by decide +kernel, cond_true, nI_1, bd2_eta]
theorem fr_6_0 (m : Nat) (σ : St) (B x : Int32) {d : Nat} (hd : d ≤ 30) : f_Socks_from (m + 1) σ (nI 6) B 0 x (nI d) = (f_Socks_note σ 70).bind fun σ1 => bd2 (f_Socks_from m σ1 (nI 0) B 0 x (nI (d + 1))) fun r σ2 => f_Socks_lower (f_Socks_from m) σ2 70 B r (nI (d + 1)) := by
  rw [from_s]
  unfold f_Socks_from_F
  rw [show f_Socks_ownerOf (nI 6) 0 = some 6 by decide +kernel, bind_s, if_neg (show ¬ (6 : Int32) = -1 by decide), if_pos (dep40 hd), show inb ((6 : Int32) * 4 + 0) 32 = true by decide +kernel, show tb_OWN ((6 : Int32) * 4 + 0).toNatClampNeg = 70 by decide +kernel, cond_true, nI_1]
  simp only [show ((6 : Int32) = 0) = False from eq_false (by decide), show ((70 : Int32) = 41) = False from eq_false (by decide), if_true, if_false]
  unfold f_Socks_from_75
  simp only [show inb (6 : Int32) 8 = true by decide +kernel, show tb_ABOVE (6 : Int32).toNatClampNeg = nI 0 by decide +kernel, cond_true, nI_1, bd2_eta]
theorem fr_6_1 (m : Nat) (σ : St) (B x : Int32) {d : Nat} (hd : d ≤ 30) : f_Socks_from (m + 1) σ (nI 6) B 1 x (nI d) = (f_Socks_note σ 10).bind fun σ1 => f_Socks_topmost (f_Socks_from m) σ1 10 B x (nI (d + 1)) := by
  rw [from_s]
  unfold f_Socks_from_F
  rw [show f_Socks_ownerOf (nI 6) 1 = some 0 by decide +kernel, bind_s, if_neg (show ¬ (0 : Int32) = -1 by decide), if_pos (dep40 hd), show inb ((0 : Int32) * 4 + 1) 32 = true by decide +kernel, show tb_OWN ((0 : Int32) * 4 + 1).toNatClampNeg = 10 by decide +kernel, cond_true, nI_1]
  simp only [if_true, bd2_eta]
theorem fr_6_2 (m : Nat) (σ : St) (B x : Int32) {d : Nat} (hd : d ≤ 30) : f_Socks_from (m + 1) σ (nI 6) B 2 x (nI d) = (f_Socks_note σ 11).bind fun σ1 => f_Socks_topmost (f_Socks_from m) σ1 11 B x (nI (d + 1)) := by
  rw [from_s]
  unfold f_Socks_from_F
  rw [show f_Socks_ownerOf (nI 6) 2 = some 0 by decide +kernel, bind_s, if_neg (show ¬ (0 : Int32) = -1 by decide), if_pos (dep40 hd), show inb ((0 : Int32) * 4 + 2) 32 = true by decide +kernel, show tb_OWN ((0 : Int32) * 4 + 2).toNatClampNeg = 11 by decide +kernel, cond_true, nI_1]
  simp only [if_true, bd2_eta]
theorem fr_6_3 (m : Nat) (σ : St) (B x : Int32) {d : Nat} (hd : d ≤ 30) : f_Socks_from (m + 1) σ (nI 6) B 3 x (nI d) = (f_Socks_note σ 2).bind fun σ1 => f_Socks_topmost (f_Socks_from m) σ1 2 B x (nI (d + 1)) := by
  rw [from_s]
  unfold f_Socks_from_F
  rw [show f_Socks_ownerOf (nI 6) 3 = some 0 by decide +kernel, bind_s, if_neg (show ¬ (0 : Int32) = -1 by decide), if_pos (dep40 hd), show inb ((0 : Int32) * 4 + 3) 32 = true by decide +kernel, show tb_OWN ((0 : Int32) * 4 + 3).toNatClampNeg = 2 by decide +kernel, cond_true, nI_1]
  simp only [if_true, bd2_eta]
theorem fr_7_0 (m : Nat) (σ : St) (B x : Int32) {d : Nat} (hd : d ≤ 30) : f_Socks_from (m + 1) σ (nI 7) B 0 x (nI d) = (f_Socks_note σ 81).bind fun σ1 => bd2 (f_Socks_from m σ1 (nI 6) B 0 x (nI (d + 1))) fun r σ2 => f_Socks_lower (f_Socks_from m) σ2 81 B r (nI (d + 1)) := by
  rw [from_s]
  unfold f_Socks_from_F
  rw [show f_Socks_ownerOf (nI 7) 0 = some 7 by decide +kernel, bind_s, if_neg (show ¬ (7 : Int32) = -1 by decide), if_pos (dep40 hd), show inb ((7 : Int32) * 4 + 0) 32 = true by decide +kernel, show tb_OWN ((7 : Int32) * 4 + 0).toNatClampNeg = 81 by decide +kernel, cond_true, nI_1]
  simp only [show ((7 : Int32) = 0) = False from eq_false (by decide), show ((81 : Int32) = 41) = False from eq_false (by decide), if_true, if_false]
  unfold f_Socks_from_75
  simp only [show inb (7 : Int32) 8 = true by decide +kernel, show tb_ABOVE (7 : Int32).toNatClampNeg = nI 6 by decide +kernel, cond_true, nI_1, bd2_eta]
theorem fr_7_1 (m : Nat) (σ : St) (B x : Int32) {d : Nat} (hd : d ≤ 30) : f_Socks_from (m + 1) σ (nI 7) B 1 x (nI d) = (f_Socks_note σ 80).bind fun σ1 => bd2 (f_Socks_from m σ1 (nI 6) B 1 x (nI (d + 1))) fun r σ2 => f_Socks_lower (f_Socks_from m) σ2 80 B r (nI (d + 1)) := by
  rw [from_s]
  unfold f_Socks_from_F
  rw [show f_Socks_ownerOf (nI 7) 1 = some 7 by decide +kernel, bind_s, if_neg (show ¬ (7 : Int32) = -1 by decide), if_pos (dep40 hd), show inb ((7 : Int32) * 4 + 1) 32 = true by decide +kernel, show tb_OWN ((7 : Int32) * 4 + 1).toNatClampNeg = 80 by decide +kernel, cond_true, nI_1]
  simp only [show ((7 : Int32) = 0) = False from eq_false (by decide), show ((80 : Int32) = 41) = False from eq_false (by decide), if_true, if_false]
  unfold f_Socks_from_75
  simp only [show inb (7 : Int32) 8 = true by decide +kernel, show tb_ABOVE (7 : Int32).toNatClampNeg = nI 6 by decide +kernel, cond_true, nI_1, bd2_eta]
theorem fr_7_2 (m : Nat) (σ : St) (B x : Int32) {d : Nat} (hd : d ≤ 30) : f_Socks_from (m + 1) σ (nI 7) B 2 x (nI d) = (f_Socks_note σ 11).bind fun σ1 => f_Socks_topmost (f_Socks_from m) σ1 11 B x (nI (d + 1)) := by
  rw [from_s]
  unfold f_Socks_from_F
  rw [show f_Socks_ownerOf (nI 7) 2 = some 0 by decide +kernel, bind_s, if_neg (show ¬ (0 : Int32) = -1 by decide), if_pos (dep40 hd), show inb ((0 : Int32) * 4 + 2) 32 = true by decide +kernel, show tb_OWN ((0 : Int32) * 4 + 2).toNatClampNeg = 11 by decide +kernel, cond_true, nI_1]
  simp only [if_true, bd2_eta]
theorem fr_7_3 (m : Nat) (σ : St) (B x : Int32) {d : Nat} (hd : d ≤ 30) : f_Socks_from (m + 1) σ (nI 7) B 3 x (nI d) = (f_Socks_note σ 2).bind fun σ1 => f_Socks_topmost (f_Socks_from m) σ1 2 B x (nI (d + 1)) := by
  rw [from_s]
  unfold f_Socks_from_F
  rw [show f_Socks_ownerOf (nI 7) 3 = some 0 by decide +kernel, bind_s, if_neg (show ¬ (0 : Int32) = -1 by decide), if_pos (dep40 hd), show inb ((0 : Int32) * 4 + 3) 32 = true by decide +kernel, show tb_OWN ((0 : Int32) * 4 + 3).toNatClampNeg = 2 by decide +kernel, cond_true, nI_1]
  simp only [if_true, bd2_eta]
theorem top_1 (rec : RecT) (σ : St) (B x d : Int32) : f_Socks_topmost rec σ 1 B x d = some (x + B, σ) := by
  unfold f_Socks_topmost
  rw [if_pos rfl]
theorem top_2 (rec : RecT) (σ : St) (B x d : Int32) : f_Socks_topmost rec σ 2 B x d = bd2 (f_Socks_own rec σ B 1 x d) fun r1 σ1 => bd2 (f_Socks_own rec σ1 B 2 1 d) fun r2 σ2 => some (r1 - r2, σ2) := by
  unfold f_Socks_topmost
  rw [if_neg (show ¬ (2 : Int32) = 1 by decide), if_pos rfl]
theorem top_10 (rec : RecT) (σ : St) (B x d : Int32) : f_Socks_topmost rec σ 10 B x d = bd2 (f_Socks_own rec σ B 0 x d) fun r1 σ1 => some (r1 * 2, σ1) := by
  unfold f_Socks_topmost
  rw [if_neg (show ¬ (10 : Int32) = 1 by decide), if_neg (show ¬ (10 : Int32) = 2 by decide), if_pos rfl]
theorem top_11 (rec : RecT) (σ : St) (B x d : Int32) : f_Socks_topmost rec σ 11 B x d = some (x ^^^ B, σ) := by
  unfold f_Socks_topmost
  rw [if_neg (show ¬ (11 : Int32) = 1 by decide), if_neg (show ¬ (11 : Int32) = 2 by decide), if_neg (show ¬ (11 : Int32) = 10 by decide), if_pos rfl]
theorem low_20 (rec : RecT) (σ : St) (B r d : Int32) : f_Socks_lower rec σ 20 B r d = some (r + 3, σ) := by
  unfold f_Socks_lower
  rw [if_pos rfl]
theorem low_30 (rec : RecT) (σ : St) (B r d : Int32) : f_Socks_lower rec σ 30 B r d = some (-r, σ) := by
  unfold f_Socks_lower
  rw [if_neg (show ¬ (30 : Int32) = 20 by decide), if_pos rfl]
theorem low_40 (rec : RecT) (σ : St) (B r d : Int32) : f_Socks_lower rec σ 40 B r d = some (r * 3, σ) := by
  unfold f_Socks_lower
  rw [if_neg (show ¬ (40 : Int32) = 20 by decide), if_neg (show ¬ (40 : Int32) = 30 by decide), if_pos rfl]
theorem low_50 (rec : RecT) (σ : St) (B r d : Int32) : f_Socks_lower rec σ 50 B r d = some (r ^^^ 5, σ) := by
  unfold f_Socks_lower
  rw [if_neg (show ¬ (50 : Int32) = 20 by decide), if_neg (show ¬ (50 : Int32) = 30 by decide), if_neg (show ¬ (50 : Int32) = 40 by decide), if_pos rfl]
theorem low_60 (rec : RecT) (σ : St) (B r d : Int32) : f_Socks_lower rec σ 60 B r d = bd2 (f_Socks_own rec σ B 0 2 d) fun r1 σ1 => some (r - r1, σ1) := by
  unfold f_Socks_lower
  rw [if_neg (show ¬ (60 : Int32) = 20 by decide), if_neg (show ¬ (60 : Int32) = 30 by decide), if_neg (show ¬ (60 : Int32) = 40 by decide), if_neg (show ¬ (60 : Int32) = 50 by decide), if_pos rfl]
theorem low_61 (rec : RecT) (σ : St) (B r d : Int32) : f_Socks_lower rec σ 61 B r d = some (r + 1, σ) := by
  unfold f_Socks_lower
  rw [if_neg (show ¬ (61 : Int32) = 20 by decide), if_neg (show ¬ (61 : Int32) = 30 by decide), if_neg (show ¬ (61 : Int32) = 40 by decide), if_neg (show ¬ (61 : Int32) = 50 by decide), if_neg (show ¬ (61 : Int32) = 60 by decide), if_pos rfl]
theorem low_70 (rec : RecT) (σ : St) (B r d : Int32) : f_Socks_lower rec σ 70 B r d = some (r * 2, σ) := by
  unfold f_Socks_lower
  rw [if_neg (show ¬ (70 : Int32) = 20 by decide), if_neg (show ¬ (70 : Int32) = 30 by decide), if_neg (show ¬ (70 : Int32) = 40 by decide), if_neg (show ¬ (70 : Int32) = 50 by decide), if_neg (show ¬ (70 : Int32) = 60 by decide), if_neg (show ¬ (70 : Int32) = 61 by decide), if_pos rfl]
theorem low_80 (rec : RecT) (σ : St) (B r d : Int32) : f_Socks_lower rec σ 80 B r d = bd2 (f_Socks_own rec σ B 2 2 d) fun r1 σ1 => some (r + r1, σ1) := by
  unfold f_Socks_lower
  rw [if_neg (show ¬ (80 : Int32) = 20 by decide), if_neg (show ¬ (80 : Int32) = 30 by decide), if_neg (show ¬ (80 : Int32) = 40 by decide), if_neg (show ¬ (80 : Int32) = 50 by decide), if_neg (show ¬ (80 : Int32) = 60 by decide), if_neg (show ¬ (80 : Int32) = 61 by decide), if_neg (show ¬ (80 : Int32) = 70 by decide), if_pos rfl]
theorem low_81 (rec : RecT) (σ : St) (B r d : Int32) : f_Socks_lower rec σ 81 B r d = some (r - 1, σ) := by
  unfold f_Socks_lower
  rw [if_neg (show ¬ (81 : Int32) = 20 by decide), if_neg (show ¬ (81 : Int32) = 30 by decide), if_neg (show ¬ (81 : Int32) = 40 by decide), if_neg (show ¬ (81 : Int32) = 50 by decide), if_neg (show ¬ (81 : Int32) = 60 by decide), if_neg (show ¬ (81 : Int32) = 61 by decide), if_neg (show ¬ (81 : Int32) = 70 by decide), if_neg (show ¬ (81 : Int32) = 80 by decide), if_pos rfl]
theorem low_41 (rec : RecT) (σ : St) (B r d : Int32) : f_Socks_lower rec σ 41 B r d = some (r, σ) := by
  unfold f_Socks_lower
  rw [if_neg (show ¬ (41 : Int32) = 20 by decide), if_neg (show ¬ (41 : Int32) = 30 by decide), if_neg (show ¬ (41 : Int32) = 40 by decide), if_neg (show ¬ (41 : Int32) = 50 by decide), if_neg (show ¬ (41 : Int32) = 60 by decide), if_neg (show ¬ (41 : Int32) = 61 by decide), if_neg (show ¬ (41 : Int32) = 70 by decide), if_neg (show ¬ (41 : Int32) = 80 by decide), if_neg (show ¬ (41 : Int32) = 81 by decide)]
theorem kq_0_2 : (nI 0 = (2 : Int32)) = False := eq_false (by decide)
theorem kq_0_3 : (nI 0 = (3 : Int32)) = False := eq_false (by decide)
theorem kq_0_4 : (nI 0 = (4 : Int32)) = False := eq_false (by decide)
theorem kq_0_5 : (nI 0 = (5 : Int32)) = False := eq_false (by decide)
theorem kq_0_6 : (nI 0 = (6 : Int32)) = False := eq_false (by decide)
theorem kq_0_7 : (nI 0 = (7 : Int32)) = False := eq_false (by decide)
theorem un_0_1 : f_M_isUnder (nI 0) 1 = some 0 := by decide +kernel
theorem un_0_3 : f_M_isUnder (nI 0) 3 = some 0 := by decide +kernel
theorem kq_1_2 : (nI 1 = (2 : Int32)) = False := eq_false (by decide)
theorem kq_1_3 : (nI 1 = (3 : Int32)) = False := eq_false (by decide)
theorem kq_1_4 : (nI 1 = (4 : Int32)) = False := eq_false (by decide)
theorem kq_1_5 : (nI 1 = (5 : Int32)) = False := eq_false (by decide)
theorem kq_1_6 : (nI 1 = (6 : Int32)) = False := eq_false (by decide)
theorem kq_1_7 : (nI 1 = (7 : Int32)) = False := eq_false (by decide)
theorem un_1_1 : f_M_isUnder (nI 1) 1 = some 1 := by decide +kernel
theorem un_1_3 : f_M_isUnder (nI 1) 3 = some 0 := by decide +kernel
theorem kq_2_2 : (nI 2 = (2 : Int32)) = True := eq_true rfl
theorem kq_2_3 : (nI 2 = (3 : Int32)) = False := eq_false (by decide)
theorem kq_2_4 : (nI 2 = (4 : Int32)) = False := eq_false (by decide)
theorem kq_2_5 : (nI 2 = (5 : Int32)) = False := eq_false (by decide)
theorem kq_2_6 : (nI 2 = (6 : Int32)) = False := eq_false (by decide)
theorem kq_2_7 : (nI 2 = (7 : Int32)) = False := eq_false (by decide)
theorem un_2_1 : f_M_isUnder (nI 2) 1 = some 0 := by decide +kernel
theorem un_2_3 : f_M_isUnder (nI 2) 3 = some 0 := by decide +kernel
theorem kq_3_2 : (nI 3 = (2 : Int32)) = False := eq_false (by decide)
theorem kq_3_3 : (nI 3 = (3 : Int32)) = True := eq_true rfl
theorem kq_3_4 : (nI 3 = (4 : Int32)) = False := eq_false (by decide)
theorem kq_3_5 : (nI 3 = (5 : Int32)) = False := eq_false (by decide)
theorem kq_3_6 : (nI 3 = (6 : Int32)) = False := eq_false (by decide)
theorem kq_3_7 : (nI 3 = (7 : Int32)) = False := eq_false (by decide)
theorem un_3_1 : f_M_isUnder (nI 3) 1 = some 0 := by decide +kernel
theorem un_3_3 : f_M_isUnder (nI 3) 3 = some 1 := by decide +kernel
theorem kq_4_2 : (nI 4 = (2 : Int32)) = False := eq_false (by decide)
theorem kq_4_3 : (nI 4 = (3 : Int32)) = False := eq_false (by decide)
theorem kq_4_4 : (nI 4 = (4 : Int32)) = True := eq_true rfl
theorem kq_4_5 : (nI 4 = (5 : Int32)) = False := eq_false (by decide)
theorem kq_4_6 : (nI 4 = (6 : Int32)) = False := eq_false (by decide)
theorem kq_4_7 : (nI 4 = (7 : Int32)) = False := eq_false (by decide)
theorem un_4_1 : f_M_isUnder (nI 4) 1 = some 1 := by decide +kernel
theorem un_4_3 : f_M_isUnder (nI 4) 3 = some 0 := by decide +kernel
theorem kq_5_2 : (nI 5 = (2 : Int32)) = False := eq_false (by decide)
theorem kq_5_3 : (nI 5 = (3 : Int32)) = False := eq_false (by decide)
theorem kq_5_4 : (nI 5 = (4 : Int32)) = False := eq_false (by decide)
theorem kq_5_5 : (nI 5 = (5 : Int32)) = True := eq_true rfl
theorem kq_5_6 : (nI 5 = (6 : Int32)) = False := eq_false (by decide)
theorem kq_5_7 : (nI 5 = (7 : Int32)) = False := eq_false (by decide)
theorem un_5_1 : f_M_isUnder (nI 5) 1 = some 0 := by decide +kernel
theorem un_5_3 : f_M_isUnder (nI 5) 3 = some 1 := by decide +kernel
theorem kq_6_2 : (nI 6 = (2 : Int32)) = False := eq_false (by decide)
theorem kq_6_3 : (nI 6 = (3 : Int32)) = False := eq_false (by decide)
theorem kq_6_4 : (nI 6 = (4 : Int32)) = False := eq_false (by decide)
theorem kq_6_5 : (nI 6 = (5 : Int32)) = False := eq_false (by decide)
theorem kq_6_6 : (nI 6 = (6 : Int32)) = True := eq_true rfl
theorem kq_6_7 : (nI 6 = (7 : Int32)) = False := eq_false (by decide)
theorem un_6_1 : f_M_isUnder (nI 6) 1 = some 0 := by decide +kernel
theorem un_6_3 : f_M_isUnder (nI 6) 3 = some 0 := by decide +kernel
theorem kq_7_2 : (nI 7 = (2 : Int32)) = False := eq_false (by decide)
theorem kq_7_3 : (nI 7 = (3 : Int32)) = False := eq_false (by decide)
theorem kq_7_4 : (nI 7 = (4 : Int32)) = False := eq_false (by decide)
theorem kq_7_5 : (nI 7 = (5 : Int32)) = False := eq_false (by decide)
theorem kq_7_6 : (nI 7 = (6 : Int32)) = False := eq_false (by decide)
theorem kq_7_7 : (nI 7 = (7 : Int32)) = True := eq_true rfl
theorem un_7_1 : f_M_isUnder (nI 7) 1 = some 0 := by decide +kernel
theorem un_7_3 : f_M_isUnder (nI 7) 3 = some 0 := by decide +kernel
theorem J_runs {σ0 τ0 σ τ : St} {c b k : Nat} (hk : k < 8) (hA : actB σ0 τ0 b k) (h : Sim σ0 τ0 c σ τ) (hc : c < 890) (m : Nat) (x : Int32) {d : Nat} (hd : d ≤ 26) : ∃ r σ' τ', f_Socks_from (m + 1 + 1 + 1 + 1) σ (nI k) (nI b) 0 x (nI d) = some (r, σ') ∧ f_M_running τ (nI b) x = some (r, τ') ∧ Sim σ0 τ0 (c + 3) σ' τ' := by
  match k, hk, hA with
  | 0, _, hA =>
    have hm := kind_M hA h
    obtain ⟨σ1, τ1, a1, b1, s1⟩ := sim_note h (by omega) 1
    refine ⟨(x + nI b), σ1, τ1, ?_, ?_, sim_mono s1 (by omega)⟩
    · rw [fr_0_0 _ _ _ _ (by omega), a1, bind_s, top_1]
    · unfold f_M_running
      simp only [inb_nI hA.2.2.2 (show 50 < 2 ^ 31 by decide), nIt (show b < 2 ^ 31 by have := hA.2.2.2; omega), cond_true, bind_s, bd2_s, i10, if_true, if_false, eq_self, hm, kq_0_2, kq_0_3, kq_0_4, kq_0_5, kq_0_6, kq_0_7, un_0_1, un_0_3, f_M_clothRuns, f_M_plainRuns, b1]
  | 1, _, hA =>
    have hm := kind_M hA h
    obtain ⟨σ1, τ1, a1, b1, s1⟩ := sim_note h (by omega) 20
    obtain ⟨σ2, τ2, a2, b2, s2⟩ := sim_note s1 (by omega) 1
    refine ⟨((x + nI b) + 3), σ2, τ2, ?_, ?_, sim_mono s2 (by omega)⟩
    · rw [fr_1_0 _ _ _ _ (by omega), a1, bind_s, fr_0_0 _ _ _ _ (by omega), a2, bind_s, top_1, bd2_s, low_20]
    · unfold f_M_running
      simp only [inb_nI hA.2.2.2 (show 50 < 2 ^ 31 by decide), nIt (show b < 2 ^ 31 by have := hA.2.2.2; omega), cond_true, bind_s, bd2_s, i10, if_true, if_false, eq_self, hm, kq_1_2, kq_1_3, kq_1_4, kq_1_5, kq_1_6, kq_1_7, un_1_1, un_1_3, f_M_clothRuns, f_M_plainRuns, b1, b2]
  | 2, _, hA =>
    have hm := kind_M hA h
    obtain ⟨σ1, τ1, a1, b1, s1⟩ := sim_note h (by omega) 1
    refine ⟨(x + nI b), σ1, τ1, ?_, ?_, sim_mono s1 (by omega)⟩
    · rw [fr_2_0 _ _ _ _ (by omega), a1, bind_s, top_1]
    · unfold f_M_running
      simp only [inb_nI hA.2.2.2 (show 50 < 2 ^ 31 by decide), nIt (show b < 2 ^ 31 by have := hA.2.2.2; omega), cond_true, bind_s, bd2_s, i10, if_true, if_false, eq_self, hm, kq_2_2, kq_2_3, kq_2_4, kq_2_5, kq_2_6, kq_2_7, un_2_1, un_2_3, f_M_clothRuns, f_M_plainRuns, b1]
  | 3, _, hA =>
    have hm := kind_M hA h
    obtain ⟨σ1, τ1, a1, b1, s1⟩ := sim_note h (by omega) 1
    refine ⟨(x + nI b), σ1, τ1, ?_, ?_, sim_mono s1 (by omega)⟩
    · rw [fr_3_0 _ _ _ _ (by omega), a1, bind_s, top_1]
    · unfold f_M_running
      simp only [inb_nI hA.2.2.2 (show 50 < 2 ^ 31 by decide), nIt (show b < 2 ^ 31 by have := hA.2.2.2; omega), cond_true, bind_s, bd2_s, i10, if_true, if_false, eq_self, hm, kq_3_2, kq_3_3, kq_3_4, kq_3_5, kq_3_6, kq_3_7, un_3_1, un_3_3, f_M_clothRuns, f_M_plainRuns, b1]
  | 4, _, hA =>
    have hm := kind_M hA h
    obtain ⟨σ1, τ1, a1, b1, s1⟩ := sim_note h (by omega) 20
    obtain ⟨σ2, τ2, a2, b2, s2⟩ := sim_note s1 (by omega) 1
    refine ⟨((x + nI b) + 3), σ2, τ2, ?_, ?_, sim_mono s2 (by omega)⟩
    · rw [fr_4_0 _ _ _ _ (by omega), a1, bind_s, fr_0_0 _ _ _ _ (by omega), a2, bind_s, top_1, bd2_s, low_20]
    · unfold f_M_running
      simp only [inb_nI hA.2.2.2 (show 50 < 2 ^ 31 by decide), nIt (show b < 2 ^ 31 by have := hA.2.2.2; omega), cond_true, bind_s, bd2_s, i10, if_true, if_false, eq_self, hm, kq_4_2, kq_4_3, kq_4_4, kq_4_5, kq_4_6, kq_4_7, un_4_1, un_4_3, f_M_clothRuns, f_M_plainRuns, b1, b2]
  | 5, _, hA =>
    have hm := kind_M hA h
    obtain ⟨σ1, τ1, a1, b1, s1⟩ := sim_note h (by omega) 1
    refine ⟨(x + nI b), σ1, τ1, ?_, ?_, sim_mono s1 (by omega)⟩
    · rw [fr_5_0 _ _ _ _ (by omega), a1, bind_s, top_1]
    · unfold f_M_running
      simp only [inb_nI hA.2.2.2 (show 50 < 2 ^ 31 by decide), nIt (show b < 2 ^ 31 by have := hA.2.2.2; omega), cond_true, bind_s, bd2_s, i10, if_true, if_false, eq_self, hm, kq_5_2, kq_5_3, kq_5_4, kq_5_5, kq_5_6, kq_5_7, un_5_1, un_5_3, f_M_clothRuns, f_M_plainRuns, b1]
  | 6, _, hA =>
    have hm := kind_M hA h
    obtain ⟨σ1, τ1, a1, b1, s1⟩ := sim_note h (by omega) 70
    obtain ⟨σ2, τ2, a2, b2, s2⟩ := sim_note s1 (by omega) 1
    refine ⟨((x + nI b) * 2), σ2, τ2, ?_, ?_, sim_mono s2 (by omega)⟩
    · rw [fr_6_0 _ _ _ _ (by omega), a1, bind_s, fr_0_0 _ _ _ _ (by omega), a2, bind_s, top_1, bd2_s, low_70]
    · unfold f_M_running
      simp only [inb_nI hA.2.2.2 (show 50 < 2 ^ 31 by decide), nIt (show b < 2 ^ 31 by have := hA.2.2.2; omega), cond_true, bind_s, bd2_s, i10, if_true, if_false, eq_self, hm, kq_6_2, kq_6_3, kq_6_4, kq_6_5, kq_6_6, kq_6_7, un_6_1, un_6_3, f_M_clothRuns, f_M_plainRuns, b1, b2]
  | 7, _, hA =>
    have hm := kind_M hA h
    obtain ⟨σ1, τ1, a1, b1, s1⟩ := sim_note h (by omega) 81
    obtain ⟨σ2, τ2, a2, b2, s2⟩ := sim_note s1 (by omega) 70
    obtain ⟨σ3, τ3, a3, b3, s3⟩ := sim_note s2 (by omega) 1
    refine ⟨(((x + nI b) * 2) - 1), σ3, τ3, ?_, ?_, sim_mono s3 (by omega)⟩
    · rw [fr_7_0 _ _ _ _ (by omega), a1, bind_s, fr_6_0 _ _ _ _ (by omega), a2, bind_s, fr_0_0 _ _ _ _ (by omega), a3, bind_s, top_1, bd2_s, low_70, bd2_s, low_81]
    · unfold f_M_running
      simp only [inb_nI hA.2.2.2 (show 50 < 2 ^ 31 by decide), nIt (show b < 2 ^ 31 by have := hA.2.2.2; omega), cond_true, bind_s, bd2_s, i10, if_true, if_false, eq_self, hm, kq_7_2, kq_7_3, kq_7_4, kq_7_5, kq_7_6, kq_7_7, un_7_1, un_7_3, f_M_clothRuns, f_M_plainRuns, b1, b2, b3]
theorem J_dries {σ0 τ0 σ τ : St} {c b k : Nat} (hk : k < 8) (hA : actB σ0 τ0 b k) (h : Sim σ0 τ0 c σ τ) (hc : c < 880) (m : Nat) (x : Int32) {d : Nat} (hd : d ≤ 24) : ∃ r σ' τ', f_Socks_from (m + 1 + 1 + 1 + 1 + 1 + 1 + 1) σ (nI k) (nI b) 2 x (nI d) = some (r, σ') ∧ f_M_drying τ (nI b) x = some (r, τ') ∧ Sim σ0 τ0 (c + 6) σ' τ' := by
  match k, hk, hA with
  | 0, _, hA =>
    have hm := kind_M hA h
    obtain ⟨σ1, τ1, a1, b1, s1⟩ := sim_note h (by omega) 11
    refine ⟨(x ^^^ nI b), σ1, τ1, ?_, ?_, sim_mono s1 (by omega)⟩
    · rw [fr_0_2 _ _ _ _ (by omega), a1, bind_s, top_11]
    · unfold f_M_drying
      simp only [inb_nI hA.2.2.2 (show 50 < 2 ^ 31 by decide), nIt (show b < 2 ^ 31 by have := hA.2.2.2; omega), cond_true, bind_s, bd2_s, i10, if_true, if_false, eq_self, hm, kq_0_2, kq_0_3, kq_0_4, kq_0_5, kq_0_6, kq_0_7, un_0_1, un_0_3, f_M_jeansDries, f_M_plainDries, b1]
  | 1, _, hA =>
    have hm := kind_M hA h
    obtain ⟨σ1, τ1, a1, b1, s1⟩ := sim_note h (by omega) 11
    refine ⟨(x ^^^ nI b), σ1, τ1, ?_, ?_, sim_mono s1 (by omega)⟩
    · rw [fr_1_2 _ _ _ _ (by omega), a1, bind_s, top_11]
    · unfold f_M_drying
      simp only [inb_nI hA.2.2.2 (show 50 < 2 ^ 31 by decide), nIt (show b < 2 ^ 31 by have := hA.2.2.2; omega), cond_true, bind_s, bd2_s, i10, if_true, if_false, eq_self, hm, kq_1_2, kq_1_3, kq_1_4, kq_1_5, kq_1_6, kq_1_7, un_1_1, un_1_3, f_M_jeansDries, f_M_plainDries, b1]
  | 2, _, hA =>
    have hm := kind_M hA h
    obtain ⟨σ1, τ1, a1, b1, s1⟩ := sim_note h (by omega) 11
    refine ⟨(x ^^^ nI b), σ1, τ1, ?_, ?_, sim_mono s1 (by omega)⟩
    · rw [fr_2_2 _ _ _ _ (by omega), a1, bind_s, top_11]
    · unfold f_M_drying
      simp only [inb_nI hA.2.2.2 (show 50 < 2 ^ 31 by decide), nIt (show b < 2 ^ 31 by have := hA.2.2.2; omega), cond_true, bind_s, bd2_s, i10, if_true, if_false, eq_self, hm, kq_2_2, kq_2_3, kq_2_4, kq_2_5, kq_2_6, kq_2_7, un_2_1, un_2_3, f_M_jeansDries, f_M_plainDries, b1]
  | 3, _, hA =>
    have hm := kind_M hA h
    obtain ⟨σ1, τ1, a1, b1, s1⟩ := sim_note h (by omega) 40
    obtain ⟨σ2, τ2, a2, b2, s2⟩ := sim_note s1 (by omega) 11
    refine ⟨((x ^^^ nI b) * 3), σ2, τ2, ?_, ?_, sim_mono s2 (by omega)⟩
    · rw [fr_3_2 _ _ _ _ (by omega), a1, bind_s, fr_2_2 _ _ _ _ (by omega), a2, bind_s, top_11, bd2_s, low_40]
    · unfold f_M_drying
      simp only [inb_nI hA.2.2.2 (show 50 < 2 ^ 31 by decide), nIt (show b < 2 ^ 31 by have := hA.2.2.2; omega), cond_true, bind_s, bd2_s, i10, if_true, if_false, eq_self, hm, kq_3_2, kq_3_3, kq_3_4, kq_3_5, kq_3_6, kq_3_7, un_3_1, un_3_3, f_M_jeansDries, f_M_plainDries, b1, b2]
  | 4, _, hA =>
    have hm := kind_M hA h
    obtain ⟨σ1, τ1, a1, b1, s1⟩ := sim_note h (by omega) 11
    refine ⟨(x ^^^ nI b), σ1, τ1, ?_, ?_, sim_mono s1 (by omega)⟩
    · rw [fr_4_2 _ _ _ _ (by omega), a1, bind_s, top_11]
    · unfold f_M_drying
      simp only [inb_nI hA.2.2.2 (show 50 < 2 ^ 31 by decide), nIt (show b < 2 ^ 31 by have := hA.2.2.2; omega), cond_true, bind_s, bd2_s, i10, if_true, if_false, eq_self, hm, kq_4_2, kq_4_3, kq_4_4, kq_4_5, kq_4_6, kq_4_7, un_4_1, un_4_3, f_M_jeansDries, f_M_plainDries, b1]
  | 5, _, hA =>
    have hm := kind_M hA h
    obtain ⟨σ1, τ1, a1, b1, s1⟩ := sim_note h (by omega) 60
    obtain ⟨σ2, τ2, a2, b2, s2⟩ := sim_note s1 (by omega) 40
    obtain ⟨σ3, τ3, a3, b3, s3⟩ := sim_note s2 (by omega) 11
    obtain ⟨r9, σ9, τ9, a9, b9, s9⟩ := J_runs (k := 5) (by decide) hA s3 (by omega) (m + 1 + 1) 2 (d := d + 1) (by omega)
    refine ⟨(((x ^^^ nI b) * 3) - r9), σ9, τ9, ?_, ?_, sim_mono s9 (by omega)⟩
    · rw [fr_5_2 _ _ _ _ (by omega), a1, bind_s, fr_3_2 _ _ _ _ (by omega), a2, bind_s, fr_2_2 _ _ _ _ (by omega), a3, bind_s, top_11, bd2_s, low_40, bd2_s, low_60, own_C hA s3, a9, bd2_s]
    · unfold f_M_drying
      simp only [inb_nI hA.2.2.2 (show 50 < 2 ^ 31 by decide), nIt (show b < 2 ^ 31 by have := hA.2.2.2; omega), cond_true, bind_s, bd2_s, i10, if_true, if_false, eq_self, hm, kq_5_2, kq_5_3, kq_5_4, kq_5_5, kq_5_6, kq_5_7, un_5_1, un_5_3, f_M_jeansDries, f_M_plainDries, b1, b2, b3, b9]
  | 6, _, hA =>
    have hm := kind_M hA h
    obtain ⟨σ1, τ1, a1, b1, s1⟩ := sim_note h (by omega) 11
    refine ⟨(x ^^^ nI b), σ1, τ1, ?_, ?_, sim_mono s1 (by omega)⟩
    · rw [fr_6_2 _ _ _ _ (by omega), a1, bind_s, top_11]
    · unfold f_M_drying
      simp only [inb_nI hA.2.2.2 (show 50 < 2 ^ 31 by decide), nIt (show b < 2 ^ 31 by have := hA.2.2.2; omega), cond_true, bind_s, bd2_s, i10, if_true, if_false, eq_self, hm, kq_6_2, kq_6_3, kq_6_4, kq_6_5, kq_6_6, kq_6_7, un_6_1, un_6_3, f_M_jeansDries, f_M_plainDries, b1]
  | 7, _, hA =>
    have hm := kind_M hA h
    obtain ⟨σ1, τ1, a1, b1, s1⟩ := sim_note h (by omega) 11
    refine ⟨(x ^^^ nI b), σ1, τ1, ?_, ?_, sim_mono s1 (by omega)⟩
    · rw [fr_7_2 _ _ _ _ (by omega), a1, bind_s, top_11]
    · unfold f_M_drying
      simp only [inb_nI hA.2.2.2 (show 50 < 2 ^ 31 by decide), nIt (show b < 2 ^ 31 by have := hA.2.2.2; omega), cond_true, bind_s, bd2_s, i10, if_true, if_false, eq_self, hm, kq_7_2, kq_7_3, kq_7_4, kq_7_5, kq_7_6, kq_7_7, un_7_1, un_7_3, f_M_jeansDries, f_M_plainDries, b1]
theorem J_tints {σ0 τ0 σ τ : St} {c b k : Nat} (hk : k < 8) (hA : actB σ0 τ0 b k) (h : Sim σ0 τ0 c σ τ) (hc : c < 860) (m : Nat) (x : Int32) {d : Nat} (hd : d ≤ 20) : ∃ r σ' τ', f_Socks_from (m + 1 + 1 + 1 + 1 + 1 + 1 + 1 + 1 + 1 + 1 + 1 + 1) σ (nI k) (nI b) 1 x (nI d) = some (r, σ') ∧ f_M_tinting τ (nI b) x = some (r, τ') ∧ Sim σ0 τ0 (c + 12) σ' τ' := by
  match k, hk, hA with
  | 0, _, hA =>
    have hm := kind_M hA h
    obtain ⟨σ1, τ1, a1, b1, s1⟩ := sim_note h (by omega) 10
    obtain ⟨r8, σ8, τ8, a8, b8, s8⟩ := J_runs (k := 0) (by decide) hA s1 (by omega) (m + 1 + 1 + 1 + 1 + 1 + 1 + 1) x (d := d + 1) (by omega)
    refine ⟨(r8 * 2), σ8, τ8, ?_, ?_, sim_mono s8 (by omega)⟩
    · rw [fr_0_1 _ _ _ _ (by omega), a1, bind_s, top_10, own_C hA s1, a8, bd2_s]
    · unfold f_M_tinting
      simp only [inb_nI hA.2.2.2 (show 50 < 2 ^ 31 by decide), nIt (show b < 2 ^ 31 by have := hA.2.2.2; omega), cond_true, bind_s, bd2_s, i10, if_true, if_false, eq_self, hm, kq_0_2, kq_0_3, kq_0_4, kq_0_5, kq_0_6, kq_0_7, un_0_1, un_0_3, f_M_woolTints, f_M_plainTints, b1, b8]
  | 1, _, hA =>
    have hm := kind_M hA h
    obtain ⟨σ1, τ1, a1, b1, s1⟩ := sim_note h (by omega) 10
    obtain ⟨r8, σ8, τ8, a8, b8, s8⟩ := J_runs (k := 1) (by decide) hA s1 (by omega) (m + 1 + 1 + 1 + 1 + 1 + 1 + 1) x (d := d + 1) (by omega)
    refine ⟨(r8 * 2), σ8, τ8, ?_, ?_, sim_mono s8 (by omega)⟩
    · rw [fr_1_1 _ _ _ _ (by omega), a1, bind_s, top_10, own_C hA s1, a8, bd2_s]
    · unfold f_M_tinting
      simp only [inb_nI hA.2.2.2 (show 50 < 2 ^ 31 by decide), nIt (show b < 2 ^ 31 by have := hA.2.2.2; omega), cond_true, bind_s, bd2_s, i10, if_true, if_false, eq_self, hm, kq_1_2, kq_1_3, kq_1_4, kq_1_5, kq_1_6, kq_1_7, un_1_1, un_1_3, f_M_woolTints, f_M_plainTints, b1, b8]
  | 2, _, hA =>
    have hm := kind_M hA h
    obtain ⟨σ1, τ1, a1, b1, s1⟩ := sim_note h (by omega) 30
    obtain ⟨σ2, τ2, a2, b2, s2⟩ := sim_note s1 (by omega) 10
    obtain ⟨r8, σ8, τ8, a8, b8, s8⟩ := J_runs (k := 2) (by decide) hA s2 (by omega) (m + 1 + 1 + 1 + 1 + 1 + 1) x (d := d + 1 + 1) (by omega)
    refine ⟨(-(r8 * 2)), σ8, τ8, ?_, ?_, sim_mono s8 (by omega)⟩
    · rw [fr_2_1 _ _ _ _ (by omega), a1, bind_s, fr_0_1 _ _ _ _ (by omega), a2, bind_s, top_10, own_C hA s2, a8, bd2_s, bd2_s, low_30]
    · unfold f_M_tinting
      simp only [inb_nI hA.2.2.2 (show 50 < 2 ^ 31 by decide), nIt (show b < 2 ^ 31 by have := hA.2.2.2; omega), cond_true, bind_s, bd2_s, i10, if_true, if_false, eq_self, hm, kq_2_2, kq_2_3, kq_2_4, kq_2_5, kq_2_6, kq_2_7, un_2_1, un_2_3, f_M_woolTints, f_M_plainTints, b1, b2, b8]
  | 3, _, hA =>
    have hm := kind_M hA h
    obtain ⟨σ1, τ1, a1, b1, s1⟩ := sim_note h (by omega) 41
    obtain ⟨σ2, τ2, a2, b2, s2⟩ := sim_note s1 (by omega) 30
    obtain ⟨σ3, τ3, a3, b3, s3⟩ := sim_note s2 (by omega) 10
    obtain ⟨r8, σ8, τ8, a8, b8, s8⟩ := J_runs (k := 3) (by decide) hA s3 (by omega) (m + 1 + 1 + 1 + 1 + 1) (x + 1) (d := d + 1 + 1 + 1) (by omega)
    refine ⟨(-(r8 * 2)), σ8, τ8, ?_, ?_, sim_mono s8 (by omega)⟩
    · rw [fr_3_1 _ _ _ _ (by omega), a1, bind_s, fr_2_1 _ _ _ _ (by omega), a2, bind_s, fr_0_1 _ _ _ _ (by omega), a3, bind_s, top_10, own_C hA s3, a8, bd2_s, bd2_s, low_30, bd2_s, low_41]
    · unfold f_M_tinting
      simp only [inb_nI hA.2.2.2 (show 50 < 2 ^ 31 by decide), nIt (show b < 2 ^ 31 by have := hA.2.2.2; omega), cond_true, bind_s, bd2_s, i10, if_true, if_false, eq_self, hm, kq_3_2, kq_3_3, kq_3_4, kq_3_5, kq_3_6, kq_3_7, un_3_1, un_3_3, f_M_woolTints, f_M_plainTints, b1, b2, b3, b8]
  | 4, _, hA =>
    have hm := kind_M hA h
    obtain ⟨σ1, τ1, a1, b1, s1⟩ := sim_note h (by omega) 10
    obtain ⟨r8, σ8, τ8, a8, b8, s8⟩ := J_runs (k := 4) (by decide) hA s1 (by omega) (m + 1 + 1 + 1 + 1 + 1 + 1 + 1) x (d := d + 1) (by omega)
    refine ⟨(r8 * 2), σ8, τ8, ?_, ?_, sim_mono s8 (by omega)⟩
    · rw [fr_4_1 _ _ _ _ (by omega), a1, bind_s, top_10, own_C hA s1, a8, bd2_s]
    · unfold f_M_tinting
      simp only [inb_nI hA.2.2.2 (show 50 < 2 ^ 31 by decide), nIt (show b < 2 ^ 31 by have := hA.2.2.2; omega), cond_true, bind_s, bd2_s, i10, if_true, if_false, eq_self, hm, kq_4_2, kq_4_3, kq_4_4, kq_4_5, kq_4_6, kq_4_7, un_4_1, un_4_3, f_M_woolTints, f_M_plainTints, b1, b8]
  | 5, _, hA =>
    have hm := kind_M hA h
    obtain ⟨σ1, τ1, a1, b1, s1⟩ := sim_note h (by omega) 41
    obtain ⟨σ2, τ2, a2, b2, s2⟩ := sim_note s1 (by omega) 30
    obtain ⟨σ3, τ3, a3, b3, s3⟩ := sim_note s2 (by omega) 10
    obtain ⟨r8, σ8, τ8, a8, b8, s8⟩ := J_runs (k := 5) (by decide) hA s3 (by omega) (m + 1 + 1 + 1 + 1 + 1) (x + 1) (d := d + 1 + 1 + 1) (by omega)
    refine ⟨(-(r8 * 2)), σ8, τ8, ?_, ?_, sim_mono s8 (by omega)⟩
    · rw [fr_5_1 _ _ _ _ (by omega), a1, bind_s, fr_2_1 _ _ _ _ (by omega), a2, bind_s, fr_0_1 _ _ _ _ (by omega), a3, bind_s, top_10, own_C hA s3, a8, bd2_s, bd2_s, low_30, bd2_s, low_41]
    · unfold f_M_tinting
      simp only [inb_nI hA.2.2.2 (show 50 < 2 ^ 31 by decide), nIt (show b < 2 ^ 31 by have := hA.2.2.2; omega), cond_true, bind_s, bd2_s, i10, if_true, if_false, eq_self, hm, kq_5_2, kq_5_3, kq_5_4, kq_5_5, kq_5_6, kq_5_7, un_5_1, un_5_3, f_M_woolTints, f_M_plainTints, b1, b2, b3, b8]
  | 6, _, hA =>
    have hm := kind_M hA h
    obtain ⟨σ1, τ1, a1, b1, s1⟩ := sim_note h (by omega) 10
    obtain ⟨r8, σ8, τ8, a8, b8, s8⟩ := J_runs (k := 6) (by decide) hA s1 (by omega) (m + 1 + 1 + 1 + 1 + 1 + 1 + 1) x (d := d + 1) (by omega)
    refine ⟨(r8 * 2), σ8, τ8, ?_, ?_, sim_mono s8 (by omega)⟩
    · rw [fr_6_1 _ _ _ _ (by omega), a1, bind_s, top_10, own_C hA s1, a8, bd2_s]
    · unfold f_M_tinting
      simp only [inb_nI hA.2.2.2 (show 50 < 2 ^ 31 by decide), nIt (show b < 2 ^ 31 by have := hA.2.2.2; omega), cond_true, bind_s, bd2_s, i10, if_true, if_false, eq_self, hm, kq_6_2, kq_6_3, kq_6_4, kq_6_5, kq_6_6, kq_6_7, un_6_1, un_6_3, f_M_woolTints, f_M_plainTints, b1, b8]
  | 7, _, hA =>
    have hm := kind_M hA h
    obtain ⟨σ1, τ1, a1, b1, s1⟩ := sim_note h (by omega) 80
    obtain ⟨σ2, τ2, a2, b2, s2⟩ := sim_note s1 (by omega) 10
    obtain ⟨r8, σ8, τ8, a8, b8, s8⟩ := J_runs (k := 7) (by decide) hA s2 (by omega) (m + 1 + 1 + 1 + 1 + 1 + 1) x (d := d + 1 + 1) (by omega)
    obtain ⟨r9, σ9, τ9, a9, b9, s9⟩ := J_dries (k := 7) (by decide) hA s8 (by omega) (m + 1 + 1 + 1 + 1) 2 (d := d + 1) (by omega)
    refine ⟨((r8 * 2) + r9), σ9, τ9, ?_, ?_, sim_mono s9 (by omega)⟩
    · rw [fr_7_1 _ _ _ _ (by omega), a1, bind_s, fr_6_1 _ _ _ _ (by omega), a2, bind_s, top_10, own_C hA s2, a8, bd2_s, bd2_s, low_80, own_C hA s8, a9, bd2_s]
    · unfold f_M_tinting
      simp only [inb_nI hA.2.2.2 (show 50 < 2 ^ 31 by decide), nIt (show b < 2 ^ 31 by have := hA.2.2.2; omega), cond_true, bind_s, bd2_s, i10, if_true, if_false, eq_self, hm, kq_7_2, kq_7_3, kq_7_4, kq_7_5, kq_7_6, kq_7_7, un_7_1, un_7_3, f_M_woolTints, f_M_plainTints, b1, b2, b8, b9]
theorem J_tells {σ0 τ0 σ τ : St} {c b k : Nat} (hk : k < 8) (hA : actB σ0 τ0 b k) (h : Sim σ0 τ0 c σ τ) (hc : c < 800) (m : Nat) (x : Int32) {d : Nat} (hd : d ≤ 10) : ∃ r σ' τ', f_Socks_from (m + 1 + 1 + 1 + 1 + 1 + 1 + 1 + 1 + 1 + 1 + 1 + 1 + 1 + 1 + 1) σ (nI k) (nI b) 3 x (nI d) = some (r, σ') ∧ f_M_telling τ (nI b) x = some (r, τ') ∧ Sim σ0 τ0 (c + 24) σ' τ' := by
  match k, hk, hA with
  | 0, _, hA =>
    have hm := kind_M hA h
    obtain ⟨σ1, τ1, a1, b1, s1⟩ := sim_note h (by omega) 2
    obtain ⟨r8, σ8, τ8, a8, b8, s8⟩ := J_tints (k := 0) (by decide) hA s1 (by omega) (m + 1 + 1) x (d := d + 1) (by omega)
    obtain ⟨r9, σ9, τ9, a9, b9, s9⟩ := J_dries (k := 0) (by decide) hA s8 (by omega) (m + 1 + 1 + 1 + 1 + 1 + 1 + 1) 1 (d := d + 1) (by omega)
    refine ⟨(r8 - r9), σ9, τ9, ?_, ?_, sim_mono s9 (by omega)⟩
    · rw [fr_0_3 _ _ _ _ (by omega), a1, bind_s, top_2, own_C hA s1, a8, bd2_s, own_C hA s8, a9, bd2_s]
    · unfold f_M_telling
      simp only [inb_nI hA.2.2.2 (show 50 < 2 ^ 31 by decide), nIt (show b < 2 ^ 31 by have := hA.2.2.2; omega), cond_true, bind_s, bd2_s, i10, if_true, if_false, eq_self, hm, kq_0_2, kq_0_3, kq_0_4, kq_0_5, kq_0_6, kq_0_7, un_0_1, un_0_3, f_M_plainTells, b1, b8, b9]
  | 1, _, hA =>
    have hm := kind_M hA h
    obtain ⟨σ1, τ1, a1, b1, s1⟩ := sim_note h (by omega) 2
    obtain ⟨r8, σ8, τ8, a8, b8, s8⟩ := J_tints (k := 1) (by decide) hA s1 (by omega) (m + 1 + 1) x (d := d + 1) (by omega)
    obtain ⟨r9, σ9, τ9, a9, b9, s9⟩ := J_dries (k := 1) (by decide) hA s8 (by omega) (m + 1 + 1 + 1 + 1 + 1 + 1 + 1) 1 (d := d + 1) (by omega)
    refine ⟨(r8 - r9), σ9, τ9, ?_, ?_, sim_mono s9 (by omega)⟩
    · rw [fr_1_3 _ _ _ _ (by omega), a1, bind_s, top_2, own_C hA s1, a8, bd2_s, own_C hA s8, a9, bd2_s]
    · unfold f_M_telling
      simp only [inb_nI hA.2.2.2 (show 50 < 2 ^ 31 by decide), nIt (show b < 2 ^ 31 by have := hA.2.2.2; omega), cond_true, bind_s, bd2_s, i10, if_true, if_false, eq_self, hm, kq_1_2, kq_1_3, kq_1_4, kq_1_5, kq_1_6, kq_1_7, un_1_1, un_1_3, f_M_plainTells, b1, b8, b9]
  | 2, _, hA =>
    have hm := kind_M hA h
    obtain ⟨σ1, τ1, a1, b1, s1⟩ := sim_note h (by omega) 2
    obtain ⟨r8, σ8, τ8, a8, b8, s8⟩ := J_tints (k := 2) (by decide) hA s1 (by omega) (m + 1 + 1) x (d := d + 1) (by omega)
    obtain ⟨r9, σ9, τ9, a9, b9, s9⟩ := J_dries (k := 2) (by decide) hA s8 (by omega) (m + 1 + 1 + 1 + 1 + 1 + 1 + 1) 1 (d := d + 1) (by omega)
    refine ⟨(r8 - r9), σ9, τ9, ?_, ?_, sim_mono s9 (by omega)⟩
    · rw [fr_2_3 _ _ _ _ (by omega), a1, bind_s, top_2, own_C hA s1, a8, bd2_s, own_C hA s8, a9, bd2_s]
    · unfold f_M_telling
      simp only [inb_nI hA.2.2.2 (show 50 < 2 ^ 31 by decide), nIt (show b < 2 ^ 31 by have := hA.2.2.2; omega), cond_true, bind_s, bd2_s, i10, if_true, if_false, eq_self, hm, kq_2_2, kq_2_3, kq_2_4, kq_2_5, kq_2_6, kq_2_7, un_2_1, un_2_3, f_M_plainTells, b1, b8, b9]
  | 3, _, hA =>
    have hm := kind_M hA h
    obtain ⟨σ1, τ1, a1, b1, s1⟩ := sim_note h (by omega) 2
    obtain ⟨r8, σ8, τ8, a8, b8, s8⟩ := J_tints (k := 3) (by decide) hA s1 (by omega) (m + 1 + 1) x (d := d + 1) (by omega)
    obtain ⟨r9, σ9, τ9, a9, b9, s9⟩ := J_dries (k := 3) (by decide) hA s8 (by omega) (m + 1 + 1 + 1 + 1 + 1 + 1 + 1) 1 (d := d + 1) (by omega)
    refine ⟨(r8 - r9), σ9, τ9, ?_, ?_, sim_mono s9 (by omega)⟩
    · rw [fr_3_3 _ _ _ _ (by omega), a1, bind_s, top_2, own_C hA s1, a8, bd2_s, own_C hA s8, a9, bd2_s]
    · unfold f_M_telling
      simp only [inb_nI hA.2.2.2 (show 50 < 2 ^ 31 by decide), nIt (show b < 2 ^ 31 by have := hA.2.2.2; omega), cond_true, bind_s, bd2_s, i10, if_true, if_false, eq_self, hm, kq_3_2, kq_3_3, kq_3_4, kq_3_5, kq_3_6, kq_3_7, un_3_1, un_3_3, f_M_plainTells, b1, b8, b9]
  | 4, _, hA =>
    have hm := kind_M hA h
    obtain ⟨σ1, τ1, a1, b1, s1⟩ := sim_note h (by omega) 50
    obtain ⟨σ2, τ2, a2, b2, s2⟩ := sim_note s1 (by omega) 2
    obtain ⟨r8, σ8, τ8, a8, b8, s8⟩ := J_tints (k := 4) (by decide) hA s2 (by omega) (m + 1) x (d := d + 1 + 1) (by omega)
    obtain ⟨r9, σ9, τ9, a9, b9, s9⟩ := J_dries (k := 4) (by decide) hA s8 (by omega) (m + 1 + 1 + 1 + 1 + 1 + 1) 1 (d := d + 1 + 1) (by omega)
    refine ⟨((r8 - r9) ^^^ 5), σ9, τ9, ?_, ?_, sim_mono s9 (by omega)⟩
    · rw [fr_4_3 _ _ _ _ (by omega), a1, bind_s, fr_1_3 _ _ _ _ (by omega), a2, bind_s, top_2, own_C hA s2, a8, bd2_s, own_C hA s8, a9, bd2_s, bd2_s, low_50]
    · unfold f_M_telling
      simp only [inb_nI hA.2.2.2 (show 50 < 2 ^ 31 by decide), nIt (show b < 2 ^ 31 by have := hA.2.2.2; omega), cond_true, bind_s, bd2_s, i10, if_true, if_false, eq_self, hm, kq_4_2, kq_4_3, kq_4_4, kq_4_5, kq_4_6, kq_4_7, un_4_1, un_4_3, f_M_plainTells, b1, b2, b8, b9]
  | 5, _, hA =>
    have hm := kind_M hA h
    obtain ⟨σ1, τ1, a1, b1, s1⟩ := sim_note h (by omega) 61
    obtain ⟨σ2, τ2, a2, b2, s2⟩ := sim_note s1 (by omega) 2
    obtain ⟨r8, σ8, τ8, a8, b8, s8⟩ := J_tints (k := 5) (by decide) hA s2 (by omega) (m + 1) x (d := d + 1 + 1) (by omega)
    obtain ⟨r9, σ9, τ9, a9, b9, s9⟩ := J_dries (k := 5) (by decide) hA s8 (by omega) (m + 1 + 1 + 1 + 1 + 1 + 1) 1 (d := d + 1 + 1) (by omega)
    refine ⟨((r8 - r9) + 1), σ9, τ9, ?_, ?_, sim_mono s9 (by omega)⟩
    · rw [fr_5_3 _ _ _ _ (by omega), a1, bind_s, fr_3_3 _ _ _ _ (by omega), a2, bind_s, top_2, own_C hA s2, a8, bd2_s, own_C hA s8, a9, bd2_s, bd2_s, low_61]
    · unfold f_M_telling
      simp only [inb_nI hA.2.2.2 (show 50 < 2 ^ 31 by decide), nIt (show b < 2 ^ 31 by have := hA.2.2.2; omega), cond_true, bind_s, bd2_s, i10, if_true, if_false, eq_self, hm, kq_5_2, kq_5_3, kq_5_4, kq_5_5, kq_5_6, kq_5_7, un_5_1, un_5_3, f_M_plainTells, b1, b2, b8, b9]
  | 6, _, hA =>
    have hm := kind_M hA h
    obtain ⟨σ1, τ1, a1, b1, s1⟩ := sim_note h (by omega) 2
    obtain ⟨r8, σ8, τ8, a8, b8, s8⟩ := J_tints (k := 6) (by decide) hA s1 (by omega) (m + 1 + 1) x (d := d + 1) (by omega)
    obtain ⟨r9, σ9, τ9, a9, b9, s9⟩ := J_dries (k := 6) (by decide) hA s8 (by omega) (m + 1 + 1 + 1 + 1 + 1 + 1 + 1) 1 (d := d + 1) (by omega)
    refine ⟨(r8 - r9), σ9, τ9, ?_, ?_, sim_mono s9 (by omega)⟩
    · rw [fr_6_3 _ _ _ _ (by omega), a1, bind_s, top_2, own_C hA s1, a8, bd2_s, own_C hA s8, a9, bd2_s]
    · unfold f_M_telling
      simp only [inb_nI hA.2.2.2 (show 50 < 2 ^ 31 by decide), nIt (show b < 2 ^ 31 by have := hA.2.2.2; omega), cond_true, bind_s, bd2_s, i10, if_true, if_false, eq_self, hm, kq_6_2, kq_6_3, kq_6_4, kq_6_5, kq_6_6, kq_6_7, un_6_1, un_6_3, f_M_plainTells, b1, b8, b9]
  | 7, _, hA =>
    have hm := kind_M hA h
    obtain ⟨σ1, τ1, a1, b1, s1⟩ := sim_note h (by omega) 2
    obtain ⟨r8, σ8, τ8, a8, b8, s8⟩ := J_tints (k := 7) (by decide) hA s1 (by omega) (m + 1 + 1) x (d := d + 1) (by omega)
    obtain ⟨r9, σ9, τ9, a9, b9, s9⟩ := J_dries (k := 7) (by decide) hA s8 (by omega) (m + 1 + 1 + 1 + 1 + 1 + 1 + 1) 1 (d := d + 1) (by omega)
    refine ⟨(r8 - r9), σ9, τ9, ?_, ?_, sim_mono s9 (by omega)⟩
    · rw [fr_7_3 _ _ _ _ (by omega), a1, bind_s, top_2, own_C hA s1, a8, bd2_s, own_C hA s8, a9, bd2_s]
    · unfold f_M_telling
      simp only [inb_nI hA.2.2.2 (show 50 < 2 ^ 31 by decide), nIt (show b < 2 ^ 31 by have := hA.2.2.2; omega), cond_true, bind_s, bd2_s, i10, if_true, if_false, eq_self, hm, kq_7_2, kq_7_3, kq_7_4, kq_7_5, kq_7_6, kq_7_7, un_7_1, un_7_3, f_M_plainTells, b1, b8, b9]
theorem e_act {σ τ : St} (h : Rel σ τ) (x y z : Int32) : ∃ r σ' τ', f_Top_act σ x y z = some (r, σ') ∧ f_M_act τ x y z = some (r, τ') ∧ Rel σ' τ' := by
  obtain ⟨n, bn, h1, h2, h3, h4, h5, h6, h7, h8⟩ := id h
  obtain ⟨hb, g1, g2, g3, rn, hrn, g4, g5, g6⟩ := h7
  have sim0 : Sim (upI σ 3203 0) (upI τ 56 0) 0 (upI σ 3203 0) (upI τ 56 0) := ⟨⟨0, Nat.le_refl _, rfl, rfl, fun i hi => absurd hi (Nat.not_lt_zero i)⟩, fun _ _ => rfl, fun _ _ => rfl, rfl, fun _ _ => rfl, fun _ _ => rfl, rfl⟩
  have back : ∀ σ' τ' c, c < 900 → Sim (upI σ 3203 0) (upI τ 56 0) c σ' τ' → Rel σ' τ' := by
    intro σ' τ' c hc ⟨⟨rn', q1, q2, q3, q4⟩, k1, k2, k3, k4, k5, k6⟩
    have i : ∀ k, k ≠ 3203 → σ'.1 k = σ.1 k := fun k hk => by rw [k1 k hk, upI_1, if_neg hk]
    have ti : ∀ k, k ≠ 56 → τ'.1 k = τ.1 k := fun k hk => by rw [k4 k hk, upI_1, if_neg hk]
    have a : ∀ b, b ≠ 34 → σ'.2.1 b = σ.2.1 b := fun b hb => by rw [k2 b hb]; rfl
    have ta : ∀ b, b ≠ 36 → τ'.2.1 b = τ.2.1 b := fun b hb => by rw [k5 b hb]; rfl
    have l : σ'.2.2 = σ.2.2 := k3
    have tl : τ'.2.2 = τ.2.2 := k6
    refine ⟨n, bn, relT_c h1 (i 103 (by decide)) (a 2 (by decide)) (ti 1 (by decide)) ⟨ta 1 (by decide), ta 2 (by decide), ta 3 (by decide), ta 4 (by decide), ta 5 (by decide), ta 6 (by decide), ta 7 (by decide), ta 8 (by decide), ti 10 (by decide), ti 11 (by decide), ti 12 (by decide), ti 13 (by decide)⟩,
      relG_c h2 (a 3 (by decide)) (a 4 (by decide)) (ta 28 (by decide)) (ta 29 (by decide)),
      relCh_c h3 (i 503 (by decide)) (i 504 (by decide)) (a 6 (by decide)) (a 7 (by decide)) (a 8 (by decide)) (ti 14 (by decide)) (ti 15 (by decide)) (ta 9 (by decide)) (ta 10 (by decide)) (ta 11 (by decide)) (ta 12 (by decide)),
      relTp_c h4 (i 3503 (by decide)) (a 36 (by decide)) (ti 21 (by decide)) (ta 13 (by decide)),
      relL_c h5 (i 2103 (by decide)) (a 22 (by decide)) (ti 33 (by decide)) (ta 14 (by decide)) (ta 15 (by decide)) (ta 16 (by decide)) (ta 17 (by decide)) (ta 18 (by decide)),
      relD_c h6 (i 906 (by decide)) (a 10 (by decide)) (a 11 (by decide)) (a 12 (by decide)) (a 13 (by decide)) (a 14 (by decide)) (ti 48 (by decide)) (ti 49 (by decide)) (ta 29 (by decide)) (ta 30 (by decide)) (ta 31 (by decide)) (ta 32 (by decide)) (ta 33 (by decide)) (ta 34 (by decide)),
      ⟨hb, by rw [i 3202 (by decide)]; exact g1, by rw [ti 54 (by decide)]; exact g2, by rw [a 33 (by decide), ta 35 (by decide)]; exact g3, rn', by omega, q2, q3, q4⟩, fun j hj => ?_⟩
    rw [i (4201 + 200 * j) (by omega), i (4202 + 200 * j) (by omega), i (4203 + 200 * j) (by omega), l, tl, ta 37 (by decide), ta 38 (by decide)]
    exact h8 j hj
  have e0 : (upI σ 3203 0).1 3202 = nI bn := by rw [upI_1, if_neg (show ¬ (3202 : Nat) = 3203 by decide)]; exact g1
  have t0 : (upI τ 56 0).1 54 = nI bn := by rw [upI_1, if_neg (show ¬ (54 : Nat) = 56 by decide)]; exact g2
  unfold f_Top_act f_Socks_begin f_M_act f_M_isBody f_Socks_own f_Socks_isBody
  rw [within_eq, e0, t0, within_eq, in_eq, in_eq]
  simp only [bind_s, bif_t (zb_b2 _), bd2_eta]
  by_cases hx : (0 : Int32) ≤ x ∧ x ≤ nI bn - 1
  · obtain ⟨b, hb2, rfl⟩ := (isT (by omega) x).mp hx
    rw [decide_eq_true hx]
    by_cases hy : (0 : Int32) ≤ y ∧ y ≤ 3
    · obtain ⟨a, ha, rfl⟩ := (isT (n := 4) (by decide) y).mp hy
      obtain ⟨u1, k, hk, u2⟩ := g3 b hb2
      have hA : actB (upI σ 3203 0) (upI τ 56 0) b k := ⟨⟨bn, hb2, hb, e0⟩, by rw [upI_2, u1, u2], by rw [upI_2, u2], by omega⟩
      have ek : (upI σ 3203 0).2.1 33 b = nI k := hA.2.1
      rw [decide_eq_true hy]
      simp only [b2_t, i10, if_false, inb_nI (show b < 50 by omega) (by decide), cond_true, nIt (show b < 2 ^ 31 by omega), ek]
      match a, ha with
      | 0, _ =>
        obtain ⟨r, σ', τ', q1, q2, q3⟩ := J_runs hk hA sim0 (by decide) 16 z (d := 0) (by decide)
        rw [if_pos (show nI 0 = 0 from rfl), show f_Socks_from 20 (upI σ 3203 0) (nI k) (nI b) (nI 0) z 0 = some (r, σ') from q1, q2]
        exact ⟨_, _, _, rfl, rfl, back σ' τ' _ (by decide) q3⟩
      | 1, _ =>
        obtain ⟨r, σ', τ', q1, q2, q3⟩ := J_tints hk hA sim0 (by decide) 8 z (d := 0) (by decide)
        rw [if_neg (show ¬ nI 1 = 0 from i10), if_pos (show nI 1 = 1 from rfl), show f_Socks_from 20 (upI σ 3203 0) (nI k) (nI b) (nI 1) z 0 = some (r, σ') from q1, q2]
        exact ⟨_, _, _, rfl, rfl, back σ' τ' _ (by decide) q3⟩
      | 2, _ =>
        obtain ⟨r, σ', τ', q1, q2, q3⟩ := J_dries hk hA sim0 (by decide) 13 z (d := 0) (by decide)
        rw [if_neg (show ¬ nI 2 = 0 by decide), if_neg (show ¬ nI 2 = 1 by decide), if_pos (show nI 2 = 2 from rfl), show f_Socks_from 20 (upI σ 3203 0) (nI k) (nI b) (nI 2) z 0 = some (r, σ') from q1, q2]
        exact ⟨_, _, _, rfl, rfl, back σ' τ' _ (by decide) q3⟩
      | 3, _ =>
        obtain ⟨r, σ', τ', q1, q2, q3⟩ := J_tells hk hA sim0 (by decide) 5 z (d := 0) (by decide)
        rw [if_neg (show ¬ nI 3 = 0 by decide), if_neg (show ¬ nI 3 = 1 by decide), if_neg (show ¬ nI 3 = 2 by decide), show f_Socks_from 20 (upI σ 3203 0) (nI k) (nI b) (nI 3) z 0 = some (r, σ') from q1, q2]
        exact ⟨_, _, _, rfl, rfl, back σ' τ' _ (by decide) q3⟩
    · rw [decide_eq_false hy]
      exact ⟨_, _, _, rfl, rfl, back _ _ 0 (by decide) sim0⟩
  · rw [decide_eq_false hx]
    by_cases hy : (0 : Int32) ≤ y ∧ y ≤ 3
    · rw [decide_eq_true hy]
      exact ⟨_, _, _, rfl, rfl, back _ _ 0 (by decide) sim0⟩
    · rw [decide_eq_false hy]
      exact ⟨_, _, _, rfl, rfl, back _ _ 0 (by decide) sim0⟩
