/-! the first states of both sides, and that they are alike -/
def sC0 : St := (fun k => cond (Nat.beq k 906) (-1) (cond (Nat.beq k 3903) 3 (cond (Nat.beq k 4201 || (Nat.beq k 4401 || (Nat.beq k 4601 || (Nat.beq k 4801 || (Nat.beq k 5001 || Nat.beq k 5201))))) (-2) (cond (Nat.beq k 4202 || (Nat.beq k 4402 || (Nat.beq k 4602 || (Nat.beq k 4802 || (Nat.beq k 5002 || Nat.beq k 5202))))) (-1) 0))), fun a => cond (Nat.beq a 2) (va_cpy tb_FIRST (fun _ => 0) 8 80 4) (fun _ => 0), fun _ _ => 0)
def sM0 : St := (fun k => cond (Nat.beq k 10) 15 (cond (Nat.beq k 11) 6 (cond (Nat.beq k 12) 3 (cond (Nat.beq k 13) 20 0))), fun a => cond (Nat.beq a 37) (upd (upd (upd (upd (upd (upd (fun _ => 0) 0 (-1)) 1 (-1)) 2 (-1)) 3 (-1)) 4 (-1)) 5 (-1)) (fun _ => 0), fun _ _ => 0)
theorem rel_0 : Rel sC0 sM0 := by
  refine ⟨0, 0, ⟨by decide, by decide +kernel, by decide +kernel, fun t k h => absurd h (Nat.not_lt_zero t), fun k hk => ?_⟩, ⟨fun t h => absurd h (Nat.not_lt_zero t), fun t _ _ => ⟨rfl, rfl⟩⟩, ⟨0, 0, by decide, by decide +kernel, by decide +kernel, by decide +kernel, by decide +kernel, fun i h => absurd h (Nat.not_lt_zero i)⟩, ⟨0, by decide, by decide +kernel, by decide +kernel, fun i h => absurd h (Nat.not_lt_zero i)⟩, ⟨[], fun x h => (by cases h), ⟨by decide, by decide +kernel, fun i h => absurd h (Nat.not_lt_zero i)⟩, Or.inl ⟨rfl, by decide +kernel⟩⟩, ⟨fun k _ => rfl, by decide +kernel, Or.inl ⟨by decide +kernel, by decide +kernel⟩⟩, ⟨by decide, by decide +kernel, by decide +kernel, fun i h => absurd h (Nat.not_lt_zero i), 0, by decide, by decide +kernel, by decide +kernel, fun i h => absurd h (Nat.not_lt_zero i)⟩, fun j hj => ?_⟩
  · unfold okV
    rcases (show k = 0 ∨ k = 1 ∨ k = 2 ∨ k = 3 by omega) with rfl | rfl | rfl | rfl <;> decide +kernel
  · refine Or.inl ?_
    rcases (show j = 0 ∨ j = 1 ∨ j = 2 ∨ j = 3 ∨ j = 4 ∨ j = 5 by omega) with rfl | rfl | rfl | rfl | rfl | rfl <;> decide +kernel
/-! a world's addresses alone -/
theorem da_same {A : Nat → Prop} {ws ws' : va_W} (hD : va_D A ws) (hf : ws'.map Prod.fst = ws.map Prod.fst) : va_D A ws' := by
  have key : ∀ (i : Nat) (p : Nat × va_E), ws'[i]? = some p → ∃ e, ws[i]? = some (p.1, e) := by
    intro i p hp
    have h1 : (ws'.map Prod.fst)[i]? = some p.1 := by rw [List.getElem?_map, hp]; rfl
    rw [hf, List.getElem?_map] at h1
    cases hw : ws[i]? with
    | none => rw [hw] at h1; cases h1
    | some x =>
      rw [hw] at h1
      obtain ⟨x1, x2⟩ := x
      have : x1 = p.1 := Option.some.inj h1
      exact ⟨x2, by rw [this]⟩
  refine ⟨fun i j p q hp hq he => ?_, fun k q hq => ?_⟩
  · obtain ⟨e1, h1⟩ := key i p hp
    obtain ⟨e2, h2⟩ := key j q hq
    exact hD.1 i j _ _ h1 h2 he
  · obtain ⟨e1, h1⟩ := key k q hq
    exact hD.2 k (q.1, e1) h1
theorem da_fst {A : Nat → Prop} {w1 w2 : va_W} (hD : va_D A (w1 ++ w2)) {B : Nat → Prop} (hB : ∀ q, q ∈ w1.map Prod.fst → B q) : va_D B w1 := by
  have lt : ∀ (i : Nat) (p : Nat × va_E), w1[i]? = some p → (w1 ++ w2)[i]? = some p := fun i p h => by
    rw [List.getElem?_append_left (List.getElem?_eq_some_iff.mp h).1]; exact h
  exact ⟨fun i j p q hp hq he => hD.1 i j p q (lt i p hp) (lt j q hq) he, fun k q hq => hB _ (List.mem_map_of_mem (List.mem_of_getElem? hq))⟩
theorem da_snd {A : Nat → Prop} {w1 w2 : va_W} (hD : va_D A (w1 ++ w2)) {B : Nat → Prop} (hB : ∀ q, q ∈ w2.map Prod.fst → B q) : va_D B w2 := by
  have rt : ∀ (i : Nat) (p : Nat × va_E), w2[i]? = some p → (w1 ++ w2)[w1.length + i]? = some p := fun i p h => by
    rw [List.getElem?_append_right (by omega), Nat.add_sub_cancel_left]; exact h
  refine ⟨fun i j p q hp hq he => ?_, fun k q hq => hB _ (List.mem_map_of_mem (List.mem_of_getElem? hq))⟩
  have := hD.1 _ _ p q (rt i p hp) (rt j q hq) he
  omega
theorem da_at {A : Nat → Prop} {w : va_W} (hD : va_D A w) {q : Nat} (h : q ∈ w.map Prod.fst) : A q := by
  obtain ⟨p, hp, rfl⟩ := List.mem_map.mp h
  obtain ⟨k, hk⟩ := List.mem_iff_getElem?.mp hp
  exact hD.2 k p hk
theorem da_apart {A : Nat → Prop} {w1 w2 : va_W} (hD : va_D A (w1 ++ w2)) {q : Nat} (h1 : q ∈ w1.map Prod.fst) (h2 : q ∈ w2.map Prod.fst) : False := by
  obtain ⟨p1, hp1, rfl⟩ := List.mem_map.mp h1
  obtain ⟨p2, hp2, he⟩ := List.mem_map.mp h2
  obtain ⟨i, hi⟩ := List.mem_iff_getElem?.mp hp1
  obtain ⟨j, hj⟩ := List.mem_iff_getElem?.mp hp2
  have hil := (List.getElem?_eq_some_iff.mp hi).1
  have e := hD.1 i (w1.length + j) p1 p2 (by rw [List.getElem?_append_left hil]; exact hi) (by rw [List.getElem?_append_right (by omega), Nat.add_sub_cancel_left]; exact hj) he.symm
  omega
/-! the world that comes is both sides' world -/
def adC (u : Nat → Nat) (q0 : Nat) : Nat → Nat := fun k => ([q0, u 1, u 2, u 3, u 4, u 34, u 35, u 36, u 37, u 28, u 29, u 30, u 31, u 32, u 33, u 15, u 16, u 17, u 18, u 19, u 20, u 9, u 10, u 11, u 12, u 21, u 22, u 23, u 24, u 25, u 26, u 27, u 38, u 39, u 40, u 5, u 6, u 7, u 8, u 13, u 14, u 41, u 42, u 43, u 44, u 45, u 46, u 47, u 48, u 49, u 50, u 51, u 52, u 53] : List Nat).getD k 0
def adM (w : Nat → Nat) (q1 : Nat) : Nat → Nat := fun k => match k with
  | 0 => q1
  | k + 1 => w k
def pmL : List Nat := [0, 1, 2, 3, 4, 34, 35, 36, 37, 28, 29, 30, 31, 32, 33, 15, 16, 17, 18, 19, 20, 9, 10, 11, 12, 21, 22, 23, 24, 25, 26, 27, 38, 39, 40, 5, 6, 7, 8, 13, 14, 41, 42, 43, 44, 45, 46, 47, 48, 49, 50, 51, 52, 53, 54, 55, 56, 57, 58, 59, 60, 61, 62, 63, 64, 65, 66, 67, 68, 69, 70, 71, 72, 73, 74, 75, 76, 77, 78, 79, 80, 81, 82, 83, 84, 85, 86, 87, 88, 89, 90, 91, 92, 93, 94]
abbrev gC0 (G : va_G) (c : Nat → ClassId) (u : Nat → Nat) (q0 : Nat) (A : Nat → Prop) (tt : Nat → Nat) : Gx := (G, adC u q0, c, A, tt)
theorem arrV_cg {cI : ClassId} {N : Nat} {f g : Nat → Value} (h : ∀ j, j < N → f j = g j) : arrV cI N f = arrV cI N g := by
  unfold arrV
  rw [show (fun j : Fin N => f j.val) = (fun j : Fin N => g j.val) from funext fun j => h j.1 j.2]
section FIRSTW
variable {G : va_G} {c : Nat → ClassId} {q0 q1 : Nat} {u w tt : Nat → Nat} {A B : Nat → Prop} {H : Heap}
def shE (c : Nat → ClassId) (u : Nat → Nat) (q0 : Nat) : Nat × va_E := (u 41, .inl (c 5, 6, .inr (.inr (.inr (.inr (fun i => some (adC u q0 (42 + 2 * i))))))))
set_option maxRecDepth 100000 in
set_option maxHeartbeats 4000000 in
theorem fw_sh (hP : va_P G classes (BB_Top c q0 u ++ BB_M c q1 w) H) : va_at G classes (shE c u q0) H := by
  have h := hP 41 _ rfl
  have h1 : H[u 41]? = some (vp_cell (c 5) _) := h
  show H[u 41]? = some (vp_cell (c 5) _)
  rw [h1, vp_cell_q, vp_cell_q]
  congr 1
set_option maxRecDepth 100000 in
set_option maxHeartbeats 4000000 in
theorem fw_P (hD : va_D A (BB_Top c q0 u ++ BB_M c q1 w)) (hP : va_P G classes (BB_Top c q0 u ++ BB_M c q1 w) H) : va_P G classes (WdC (gC0 G c u q0 B tt) sC0 ++ WdM (hx (gC0 G c u q0 B tt) (adM w q1) B) sM0) H :=
  (hP.set hD (p := 41) (a := u 41) (e := (shE c u q0).2) rfl (fw_sh hP) (fun _ _ => rfl)).sub pmL rfl
set_option maxRecDepth 100000 in
set_option maxHeartbeats 4000000 in
theorem fw_D (hD : va_D A (BB_Top c q0 u ++ BB_M c q1 w)) : va_D A (WdC (gC0 G c u q0 B tt) sC0 ++ WdM (hx (gC0 G c u q0 B tt) (adM w q1) B) sM0) :=
  (hD.set (p := 41) (a := u 41) (e := (shE c u q0).2) rfl).sub pmL (by decide +kernel) rfl
theorem fc_f {g g' : Gx} {σ σ' : St} (h : g.2.1 = g'.2.1) : (WdC g σ).map Prod.fst = (WdC g' σ').map Prod.fst := by
  have e : ∀ (g : Gx) (σ : St), (WdC g σ).map Prod.fst = ([0, 1, 2, 3, 4, 5, 6, 7, 8, 9, 10, 11, 12, 13, 14, 15, 16, 17, 18, 19, 20, 21, 22, 23, 24, 25, 26, 27, 28, 29, 30, 31, 32, 33, 34, 35, 36, 37, 38, 39, 40, 41, 42, 43, 44, 45, 46, 47, 48, 49, 50, 51, 52, 53] : List Nat).map g.2.1 := fun _ _ => rfl
  rw [e, e, h]
theorem fm_f {g g' : Gx} {σ σ' : St} (h : g.2.1 = g'.2.1) : (WdM g σ).map Prod.fst = (WdM g' σ').map Prod.fst := by
  have e : ∀ (g : Gx) (σ : St), (WdM g σ).map Prod.fst = ([0, 1, 2, 3, 4, 5, 6, 7, 8, 9, 10, 11, 12, 13, 14, 15, 16, 17, 18, 19, 20, 21, 22, 23, 24, 25, 26, 27, 28, 29, 30, 31, 32, 33, 34, 35, 36, 37, 38, 39, 40] : List Nat).map g.2.1 := fun _ _ => rfl
  rw [e, e, h]
end FIRSTW
