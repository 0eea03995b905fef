/-! THE CLAIM OUT OF ONE WALK OF THE LAW'S BODY. Your part is whole_start (and what it stands on); all else here is the same for every law, but numbers. -/
def R_law : String := "WithTheRedsLaw"
def lw_P (b : Addr) (xs : List Int32) (args : Array Value) (s : State) : Prop := args = #[.ref b] ∧ s.IntsAt b xs ∧ xs.length ≤ 3072 ∧ (Jvm.Cond.and given_1 narrow_1).before args s = true
def lw_Q (_ : Array Value) (s : State) (o : Outcome) (t : State) : Prop := o = .returned (some (.int 1)) ∧ Framed s o t [] 600000 7302250
def lw_Z (below : List Frame) (a : Array Value) (s : State) : State → Prop := fun t => ∃ o, t.status = .running ∧ Ended t below o ∧ lw_Q a s o t
/-- the law's own end, with 1 on the stack, nothing written that was there before, its room as the claim has it -/
theorem lw_ret {p : Program} {l : Launch} {e : Env} {s : State} {m : MethodId} {below : List Frame} {meth : Method} {c : Code} {b : Nat} (hx : p.tables.exec = Jvm.exec) (hb : c.code = code) (hr : meth.sig.returnType = ret) (hlocks : meth.locks = false) {pc : Nat} {H : Heap} {ls : Array Slot} (hdg : decode code pc = .ok (.ireturn, 1)) : W p l e room_1 s m #[Value.ref b] below meth c H [] 600000 7302250 (lw_Z below #[Value.ref b] s) (F0 m pc ls [.int 1]) := by
  intro T hT X
  obtain ⟨fs, hret, hrun, hended, hW, hframe⟩ := X.leave (v := some (.int 1)) (hlocks := hlocks) (fun h => by rw [hr] at h; cases h)
  have hmeth' : T.vm.method? m = some meth := X.method'
  refine ⟨T.setFrames fs, ?_, .returned (some (.int 1)), hrun, hended, rfl, ⟨_, rfl⟩, hW, hframe⟩
  jvm_step X.here [X.here.top, hx, hb, hdg, hmeth', hr, ret, narrow_b1]
  (try refine ⟨rfl, ?_⟩); (try refine ⟨rfl, ?_⟩)
  first | (intro acts; rw [hret _ acts rfl rfl rfl]) | rw [hret _ _ rfl rfl rfl]
  exact Steps.refl _
/-- what holds at the law's entry: the machine, the code, the tables' words (any of lw_tbl by 'hts w (by decide +kernel)'), the script of L ints xs at the cell b, what the Statement gives of the start (any of its parts by flat_of_before) -/
def lw_At (p : Program) (s : State) (m : MethodId) (meth : Method) (c : Code) (b L : Nat) (xs : Nat → Int32) : Prop :=
  p.tables.exec = Jvm.exec ∧ c.code = code ∧ meth.sig.returnType = ret ∧ c.maxLocals = 4 ∧ s.vm.findClass R_law = some m.cls ∧ (∀ w ∈ lw_tbl, w.before #[Value.ref b] s = true) ∧ va_X b L xs s s.heap ∧ b < s.heap.size ∧ meth.locks = false ∧ (Jvm.Cond.and given_1 narrow_1).before #[Value.ref b] s = true
theorem cwi_Top : CwI "WithTheRedsLaw" 9 y_iTop b_iTop 2 0 := ⟨tt_c1 1 rfl rfl, tt_c1 26 rfl rfl, by decide +kernel, by decide, tt_c1 25 rfl rfl, rfl⟩
theorem cwi_M : CwI "WithTheRedsLaw" 12 y_iM b_iM 1 0 := ⟨tt_c1 14 rfl rfl, tt_c5 219 rfl rfl, by decide +kernel, by decide, tt_c5 218 rfl rfl, rfl⟩
abbrev EL (p : Program) (l : Launch) (e : Env) (s : State) (m : MethodId) (b : Nat) (below : List Frame) (meth : Method) (c : Code) : Ev := (p, l, e, room_1, s, m, #[Value.ref b], below, meth, c, lw_Z below #[Value.ref b] s, 0, 0)
section START
variable {p : Program} {l : Launch} {e : Env} {s : State} {m : MethodId} {below : List Frame} {meth : Method} {cd : Code} {b L : Nat} {xs : Nat → Int32}
/-- from the loop's head on, in the world that both constructors leave -/
theorem st_loop (hL : L ≤ 3072) (C0 : lw_At p s m meth cd b L xs) {G : va_G} {c : Nat → ClassId} {tt u w : Nat → Nat} {q0 q1 : Nat} (B : BL (EL p l e s m b below meth cd) 4 (G, tysC c, fun q => s.heap.size ≤ q) code "WithTheRedsLaw" 2048 600000 7302250) (hg : gxC (G, adC u q0, c, (fun q => s.heap.size ≤ q), tt) s s.heap) (hD : va_D (fun q => s.heap.size ≤ q) (BB_Top c q0 u ++ BB_M c q1 w)) : V (EN (EL p l e s m b below meth cd) 95 3657) classes 4 (wN (G, tysC c, fun q => s.heap.size ≤ q) (BB_Top c q0 u ++ BB_M c q1 w)) sg0 18 [(0, .ref b), (1, .ref q0), (2, .ref q1), (3, .int (nI 0))] [] := by
  obtain ⟨hxe, hb, hr, hml, hown, hts, hX, hbl, hlocks, hgv⟩ := id C0
  have hD1 := fw_D (G := G) (B := fun _ => False) (tt := tt) hD
  obtain ⟨AC, hAC⟩ : ∃ AC : Nat → Prop, AC = fun q => q ∈ (WdC (gC0 G c u q0 (fun _ => False) tt) sC0).map Prod.fst := ⟨_, rfl⟩
  obtain ⟨AM, hAM⟩ : ∃ AM : Nat → Prop, AM = fun q => q ∈ (WdM (hx (gC0 G c u q0 (fun _ => False) tt) (adM w q1) (fun _ => False)) sM0).map Prod.fst := ⟨_, rfl⟩
  have fC : ∀ σ : St, (WdC (gC0 G c u q0 AC tt) σ).map Prod.fst = (WdC (gC0 G c u q0 (fun _ => False) tt) sC0).map Prod.fst := fun σ => fc_f rfl
  have fM : ∀ τ : St, (WdM (hx (gC0 G c u q0 AC tt) (adM w q1) AM) τ).map Prod.fst = (WdM (hx (gC0 G c u q0 (fun _ => False) tt) (adM w q1) (fun _ => False)) sM0).map Prod.fst := fun τ => fm_f rfl
  have dA : ∀ σ τ : St, va_D (fun q => s.heap.size ≤ q) (WdC (gC0 G c u q0 AC tt) σ ++ WdM (hx (gC0 G c u q0 AC tt) (adM w q1) AM) τ) := fun σ τ => da_same hD1 (by rw [List.map_append, List.map_append, fC σ, fM τ])
  have dC : ∀ σ : St, va_D AC (WdC (gC0 G c u q0 AC tt) σ) := fun σ => da_fst (dA σ sM0) (fun q h => by rw [hAC]; rw [fC σ] at h; exact h)
  have dM : ∀ τ : St, va_D AM (WdM (hx (gC0 G c u q0 AC tt) (adM w q1) AM) τ) := fun τ => da_snd (dA sC0 τ) (fun q h => by rw [hAM]; rw [fM τ] at h; exact h)
  have nC : ∀ q, AC q → s.heap.size ≤ q := fun q h => by
    rw [hAC] at h
    exact da_at hD1 (by rw [List.map_append]; exact List.mem_append_left _ h)
  have nM : ∀ q, AM q → s.heap.size ≤ q := fun q h => by
    rw [hAM] at h
    exact da_at hD1 (by rw [List.map_append]; exact List.mem_append_right _ h)
  have nCM : ∀ q, AC q → ¬ AM q := fun q h1 h2 => by
    rw [hAC] at h1
    rw [hAM] at h2
    exact da_apart hD1 h1 h2
  have K : LB (EN (EL p l e s m b below meth cd) 95 3657) 4 (fun q => s.heap.size ≤ q) (gC0 G c u q0 AC tt) (adM w q1) AM code "WithTheRedsLaw" 2048 := by
    refine ⟨fun τ => ⟨B.1, B.2.1, B.2.2.1, B.2.2.2.1, B.2.2.2.2.1, B.2.2.2.2.2.1, trivial, ⟨fun σ => dA σ τ, fun _ _ _ _ _ _ _ _ => trivial, fun _ _ _ _ _ => trivial⟩, B.2.2.2.2.2.2.2.1, B.2.2.2.2.2.2.2.2.1, Nat.le_of_ble_eq_true rfl, Nat.le_of_ble_eq_true rfl⟩, ⟨dC, fun s1 U H locs h1 h2 h3 h4 => gx_warm h1 h2 h4, fun U gf mk av h => gx_call gf mk av h⟩, ⟨dM, fun _ _ _ _ _ _ _ _ => trivial, fun _ _ _ _ _ => trivial⟩, gx_narrow hg nC, nC, nM, nCM, fun q h => h⟩
  have fin : ∀ (i : Nat) (σ τ : St), Rel σ τ → V (EN (EL p l e s m b below meth cd) 95 3657) classes 4 (wL (fun q => s.heap.size ≤ q) (gC0 G c u q0 AC tt) (adM w q1) AM τ) σ 1807 (LV (gC0 G c u q0 AC tt) (adM w q1) b i) [] := by
    intro i σ τ _
    refine V_iconst (v := 1) (n := 1) (K.1 τ) (by decide +kernel) (by decide) ?_
    intro H locs ls hP hS hl
    exact va_forget hS.2.2 (W.widen (Nat.le_of_ble_eq_true rfl) (Nat.le_of_ble_eq_true rfl) (lw_ret hxe hb hr hlocks (by decide +kernel)))
  have key : V (EN (EL p l e s m b below meth cd) 95 3657) classes 4 (wL (fun q => s.heap.size ≤ q) (gC0 G c u q0 AC tt) (adM w q1) AM sM0) sC0 18 (LV (gC0 G c u q0 AC tt) (adM w q1) b 0) [] := ll_loop K hX hbl hL fin (L + 1) 0 sC0 sM0 (by omega) (Nat.zero_le _) rel_0
  intro H locs ls hP hS hl
  exact key H locs ls (fw_P hD hP) hS hl
set_option maxRecDepth 100000 in
set_option maxHeartbeats 4000000 in
theorem st_walk (hL : L ≤ 3072) (C0 : lw_At p s m meth cd b L xs) {G : va_G} {c : Nat → ClassId} {tt : Nat → Nat} {t : Nat} (B : BL (EL p l e s m b below meth cd) 4 (G, tysC c, fun q => s.heap.size ≤ q) code "WithTheRedsLaw" 2048 600000 7302250) (hg : ∀ ad : Nat → Nat, gxC (G, ad, c, (fun q => s.heap.size ≤ q), tt) s s.heap) (hT : XT t (fun q => s.heap.size ≤ q) s s.heap) : V (EN (EL p l e s m b below meth cd) 0 0) classes 4 (wN (G, tysC c, fun q => s.heap.size ≤ q) []) sg0 0 [(0, .ref b)] [] := by
  have hD : va_D (fun q => s.heap.size ≤ q) [] := ⟨fun i j p q h => (by cases h), fun k q h => (by cases h)⟩
  refine G_new (C := "WithTheReds") (T := F_Top) (N := 11) (ci := 11) (fs := [.null, .null, .null, .null, .null, .null, .null, .null, .null, .null, .null]) B hD i_Top t_Top t_Top_ok (tt_c1 22 rfl rfl) (tt_c1 23 rfl rfl) (tt_c1 1 rfl rfl) rfl (fun j hj => by rcases (show j = 0 ∨ j = 1 ∨ j = 2 ∨ j = 3 ∨ j = 4 ∨ j = 5 ∨ j = 6 ∨ j = 7 ∨ j = 8 ∨ j = 9 ∨ j = 10 by omega) with rfl | rfl | rfl | rfl | rfl | rfl | rfl | rfl | rfl | rfl | rfl <;> rfl) (Nat.le_of_ble_eq_true rfl) (Nat.le_of_ble_eq_true rfl) (by decide +kernel) (fun q0 hD => ?_)
  have hD : va_D (fun q => s.heap.size ≤ q) (B0_Top q0) := hD
  show V (EN (EL p l e s m b below meth cd) 1 11) classes 4 (wN (G, tysC c, fun q => s.heap.size ≤ q) (B0_Top q0)) sg0 3 _ _
  refine V_dup (B.cx hD (Nat.le_of_ble_eq_true rfl) (Nat.le_of_ble_eq_true rfl)) (by decide +kernel) rfl ?_
  refine G_callI (b := b_iTop) (y := y_iTop) (maxL := 2) (dd := 2) (mc' := 53) (ms' := 1686) (wc := B0_Top q0) (wr := []) (Bf := BB_Top c q0) (X := XT t) B hD [] k_Top (by decide) cwi_Top (tt_c1 24 rfl rfl) [0] [] rfl rfl rfl (by decide) (by decide) (by decide) (fun U H locs hS hF hU hW => xt_warm hT hS hF hW) (fun A U g mk a h => xt_call g mk a h) rfl (Nat.le_of_ble_eq_true rfl) rfl (Nat.le_of_ble_eq_true rfl) (Nat.le_of_ble_eq_true rfl) (by decide +kernel) (fun u hD => ?_)
  have hD : va_D (fun q => s.heap.size ≤ q) (BB_Top c q0 u) := hD
  show V (EN (EL p l e s m b below meth cd) 54 1697) classes 4 (wN (G, tysC c, fun q => s.heap.size ≤ q) (BB_Top c q0 u)) sg0 7 _ _
  refine V_astore_n (j := 1) (lv' := [(1, .ref q0), (0, .ref b)]) (B.cx hD (Nat.le_of_ble_eq_true rfl) (Nat.le_of_ble_eq_true rfl)) (by decide +kernel) (by decide) rfl ?_
  refine G_new (C := "WithTheRedsModel") (T := F_M) (N := 62) (ci := 12) (fs := [.int 0, .int 0, .null, .null, .null, .null, .null, .null, .null, .null, .int 0, .int 0, .int 0, .int 0, .int 0, .int 0, .null, .null, .null, .null, .null, .int 0, .int 0, .int 0, .int 0, .int 0, .null, .null, .null, .null, .null, .null, .null, .int 0, .null, .null, .null, .int 0, .int 0, .null, .null, .null, .int 0, .null, .int 0, .null, .null, .null, .int 0, .int 0, .null, .null, .null, .null, .int 0, .null, .int 0, .null, .null, .null, .null, .null]) B hD i_M t_M t_M_ok (tt_c5 215 rfl rfl) (tt_c5 216 rfl rfl) (tt_c1 14 rfl rfl) rfl (fun j hj => by rcases (show j = 0 ∨ j = 1 ∨ j = 2 ∨ j = 3 ∨ j = 4 ∨ j = 5 ∨ j = 6 ∨ j = 7 ∨ j = 8 ∨ j = 9 ∨ j = 10 ∨ j = 11 ∨ j = 12 ∨ j = 13 ∨ j = 14 ∨ j = 15 ∨ j = 16 ∨ j = 17 ∨ j = 18 ∨ j = 19 ∨ j = 20 ∨ j = 21 ∨ j = 22 ∨ j = 23 ∨ j = 24 ∨ j = 25 ∨ j = 26 ∨ j = 27 ∨ j = 28 ∨ j = 29 ∨ j = 30 ∨ j = 31 ∨ j = 32 ∨ j = 33 ∨ j = 34 ∨ j = 35 ∨ j = 36 ∨ j = 37 ∨ j = 38 ∨ j = 39 ∨ j = 40 ∨ j = 41 ∨ j = 42 ∨ j = 43 ∨ j = 44 ∨ j = 45 ∨ j = 46 ∨ j = 47 ∨ j = 48 ∨ j = 49 ∨ j = 50 ∨ j = 51 ∨ j = 52 ∨ j = 53 ∨ j = 54 ∨ j = 55 ∨ j = 56 ∨ j = 57 ∨ j = 58 ∨ j = 59 ∨ j = 60 ∨ j = 61 by omega) with rfl | rfl | rfl | rfl | rfl | rfl | rfl | rfl | rfl | rfl | rfl | rfl | rfl | rfl | rfl | rfl | rfl | rfl | rfl | rfl | rfl | rfl | rfl | rfl | rfl | rfl | rfl | rfl | rfl | rfl | rfl | rfl | rfl | rfl | rfl | rfl | rfl | rfl | rfl | rfl | rfl | rfl | rfl | rfl | rfl | rfl | rfl | rfl | rfl | rfl | rfl | rfl | rfl | rfl | rfl | rfl | rfl | rfl | rfl | rfl | rfl | rfl <;> rfl) (Nat.le_of_ble_eq_true rfl) (Nat.le_of_ble_eq_true rfl) (by decide +kernel) (fun q1 hD => ?_)
  have hD : va_D (fun q => s.heap.size ≤ q) (BB_Top c q0 u ++ B0_M q1) := hD
  show V (EN (EL p l e s m b below meth cd) 55 1759) classes 4 (wN (G, tysC c, fun q => s.heap.size ≤ q) (BB_Top c q0 u ++ B0_M q1)) sg0 11 _ _
  refine V_dup (B.cx hD (Nat.le_of_ble_eq_true rfl) (Nat.le_of_ble_eq_true rfl)) (by decide +kernel) rfl ?_
  refine G_callI (b := b_iM) (y := y_iM) (maxL := 1) (dd := 1) (mc' := 40) (ms' := 1898) (wc := B0_M q1) (wr := BB_Top c q0 u) (Bf := BB_M c q1) (X := fun _ _ _ => True) B hD [] k_M (by decide) cwi_M (tt_c5 217 rfl rfl) [54] [0, 1, 2, 3, 4, 5, 6, 7, 8, 9, 10, 11, 12, 13, 14, 15, 16, 17, 18, 19, 20, 21, 22, 23, 24, 25, 26, 27, 28, 29, 30, 31, 32, 33, 34, 35, 36, 37, 38, 39, 40, 41, 42, 43, 44, 45, 46, 47, 48, 49, 50, 51, 52, 53] rfl rfl rfl (by decide) (by decide +kernel) (by decide +kernel) (fun U H locs hS hF hU hW => trivial) (fun A U g mk a h => trivial) rfl (Nat.le_of_ble_eq_true rfl) rfl (Nat.le_of_ble_eq_true rfl) (Nat.le_of_ble_eq_true rfl) (by decide +kernel) (fun w hD => ?_)
  have hD : va_D (fun q => s.heap.size ≤ q) (BB_Top c q0 u ++ BB_M c q1 w) := hD
  show V (EN (EL p l e s m b below meth cd) 95 3657) classes 4 (wN (G, tysC c, fun q => s.heap.size ≤ q) (BB_Top c q0 u ++ BB_M c q1 w)) sg0 15 _ _
  refine V_astore_n (j := 2) (lv' := [(2, .ref q1), (1, .ref q0), (0, .ref b)]) (B.cx hD (Nat.le_of_ble_eq_true rfl) (Nat.le_of_ble_eq_true rfl)) (by decide +kernel) (by decide) rfl ?_
  refine V_iconst (v := nI 0) (n := 0) (B.cx hD (Nat.le_of_ble_eq_true rfl) (Nat.le_of_ble_eq_true rfl)) (by decide +kernel) (by decide) ?_
  refine V_istore_n (j := 3) (lv' := [(3, .int (nI 0)), (2, .ref q1), (1, .ref q0), (0, .ref b)]) (B.cx hD (Nat.le_of_ble_eq_true rfl) (Nat.le_of_ble_eq_true rfl)) (by decide +kernel) (by decide) rfl ?_
  refine V.sub [3, 2, 1, 0] rfl ?_
  exact st_loop hL C0 B (hg (adC u q0)) hD
end START
/-- from the entry -/
theorem whole_start {p : Program} {e : Env} {s : State} {m : MethodId} {below : List Frame} {meth : Method} {c : Code} (l : Launch) (hflags : l.flags = flags0) {b L : Nat} {xs : Nat → Int32} (hL : L ≤ 3072) (C0 : lw_At p s m meth c b L xs) : W p l e room_1 s m #[Value.ref b] below meth c s.heap [] 0 0 (lw_Z below #[Value.ref b] s) (entryFrame m ([Value.ref b] : List Value).toArray 4) := by
  obtain ⟨hx, hb, hr, hml, hown, hts, hX, hbl, hlocks, hgv⟩ := id C0
  have htt : ∀ w ∈ TT, w.before #[Value.ref b] s = true := fun w h => hts w (tt_sub h)
  obtain ⟨G, hG⟩ := pq_cls hts
  obtain ⟨cc, hc⟩ := pq_tys hts
  obtain ⟨tt, hg⟩ := pq_gx hts hgv
  obtain ⟨t, ht1, ht2⟩ := pq_FIRST hts hgv
  have hT := pq_XT hts ht1 ht2
  have B : BL (EL p l e s m b below meth c) 4 (G, tysC cc, fun q => s.heap.size ≤ q) code "WithTheRedsLaw" 2048 600000 7302250 := ⟨hx, hb, hml, hown, htt, ⟨hG, hc⟩, fun q h => h, Nat.le_of_ble_eq_true rfl, Nat.le_of_ble_eq_true rfl, Nat.le_of_ble_eq_true rfl, Nat.le_of_ble_eq_true rfl⟩
  have hl := lv_entry ([.ref b]) (n := 4) (Nat.le_of_ble_eq_true rfl)
  rw [lg_entry_eq]
  exact st_walk hL C0 B (fun ad => hg G ad cc) hT s.heap [] _ (fun k q h => (by cases h)) va_S.rf hl
