/-! constructors: a world that grows, row by row -/
abbrev EN (E : Ev) (ce sl : Nat) : Ev := (E.1, E.2.1, E.2.2.1, E.2.2.2.1, E.2.2.2.2.1, E.2.2.2.2.2.1, E.2.2.2.2.2.2.1, E.2.2.2.2.2.2.2.1, E.2.2.2.2.2.2.2.2.1, E.2.2.2.2.2.2.2.2.2.1, E.2.2.2.2.2.2.2.2.2.2.1, ce, sl)
abbrev Nx : Type := va_G × List (ClassId × FieldType) × (Nat → Prop)
abbrev wN (z : Nx) (ws : va_W) : Wx := (fun _ => ws, z.1, z.2.1, z.2.2, fun _ _ => True)
def sg0 : St := (fun _ => 0, fun _ _ => 0, fun _ _ => 0)
def rmN (d mc ms : Nat) : Room := { frames := d, cells := mc, slots := ms, locals := 40 * d }
def BN (E : Ev) (nL : Nat) (z : Nx) (cc : ByteArray) (own : String) (d mc ms : Nat) : Prop :=
  E.1.tables.exec = Jvm.exec ∧ E.2.2.2.2.2.2.2.2.2.1.code = cc ∧ E.2.2.2.2.2.2.2.2.2.1.maxLocals = nL ∧ E.2.2.2.2.1.vm.findClass own = some E.2.2.2.2.2.1.cls ∧
  (∀ x ∈ TT, x.before E.2.2.2.2.2.2.1 E.2.2.2.2.1 = true) ∧ va_K z.1 classes z.2.1 E.2.2.2.2.1 ∧ (∀ q, E.2.2.2.2.1.heap.size ≤ q → z.2.2 q) ∧ (d ≤ E.2.2.2.1.frames ∧ 40 * d ≤ E.2.2.2.1.locals ∧ mc ≤ E.2.2.2.1.cells ∧ ms ≤ E.2.2.2.1.slots) ∧ E.2.2.2.2.2.2.2.2.1.name = "<init>"
section CTR
variable {E : Ev} {nL d dd mc ms ce sl : Nat} {z : Nx} {ws : va_W} {pc : Nat} {lv lv' : List (Nat × Value)} {st st0 : List Value} {cc b : ByteArray} {own : String}
theorem BN.cx (B : BN E nL z cc own d mc ms) (hD : va_D z.2.2 ws) (h1 : ce ≤ mc) (h2 : sl ≤ ms) : Cx (EN E ce sl) classes nL (wN z ws) cc own d :=
  ⟨B.1, B.2.1, B.2.2.1, B.2.2.2.1, B.2.2.2.2.1, B.2.2.2.2.2.1, trivial, ⟨fun _ => hD, fun _ _ _ _ _ _ _ _ => trivial, fun _ _ _ _ _ => trivial⟩, B.2.2.2.2.2.2.2.1.1, B.2.2.2.2.2.2.2.1.2.1, Nat.le_trans h1 B.2.2.2.2.2.2.2.1.2.2.1, Nat.le_trans h2 B.2.2.2.2.2.2.2.1.2.2.2⟩
theorem N_obj {idx a : Nat} (B : BN E nL z cc own d mc ms) (hd : 1 ≤ d) (hl : Cond.methodLink own idx objectInit ∈ TT) (hi : Cond.instanceMethod objectInit ∈ TT) (hc : Cond.code objectInit ⟨#[0xb1]⟩ 1 none ∈ TT) (hcat : (st.map fun v => v.category).sum + 12 ≤ 40) (hdg : decode cc pc = .ok (.invokespecial idx, 3)) (kk : V (EN E ce sl) classes nL (wN z ws) sg0 (pc + 3) lv st) : V (EN E ce sl) classes nL (wN z ws) sg0 pc lv (.ref a :: st) := by
  intro H locs ls hP hS hl2
  have hr := B.2.2.2.2.2.2.2.1
  refine W.objInit B.1 B.2.1 B.2.2.2.1 (B.2.2.2.2.1 _ hl) (B.2.2.2.2.1 _ hi) (B.2.2.2.2.1 _ hc) rfl (by rw [B.2.2.1]; exact hl2.1) rfl hdg (by show 1 ≤ E.2.2.2.1.frames; omega) (by show 2 * 0 + (st.map fun v => v.category).sum + 12 ≤ E.2.2.2.1.locals; omega) ?_
  exact W.eq (g2 := F0 _ (pc + 3) ls st) rfl (kk H locs ls hP hS hl2)
theorem N_newa {c : ClassId} {ty : FieldType} {atype : ArrayType} (B : BN E nL z cc own d mc ms) (hD : va_D z.2.2 ws) (k : Nat) (hk : z.2.1[k]? = some (c, ty)) (hty : newarray.typeOf atype = ty) (hra : ∀ (c1 c2 : ClassId) (U : State), va_RA U c1 ty → va_RA U c2 ty → c1 = c2) (harr : Cond.arrayClass (newarray.typeOf atype) ∈ TT) {n : Int32} {N' : Nat} {a0 : vp_A} (ha : ∀ cA : ClassId, vp_cell cA a0 = arrV cA N' (fun _ => defaultValue ty)) (hn : ¬ n < 0) (hN : n.toNatClampNeg = N') (hby : N' * componentBytes ty ≤ 536870912) (hce : ce + 1 ≤ mc) (hsl : sl + N' ≤ ms) (hdg : decode cc pc = .ok (.newarray atype, 2))
    (kk : ∀ q, va_D z.2.2 (ws ++ [(q, .inl (c, a0))]) → V (EN E (ce + 1) (sl + N')) classes nL (wN z (ws ++ [(q, .inl (c, a0))])) sg0 (pc + 2) lv (.ref q :: st)) : V (EN E ce sl) classes nL (wN z ws) sg0 pc lv (.int n :: st) := by
  intro H locs ls hP hS hl2
  have hr := B.2.2.2.2.2.2.2.1
  have hK := B.2.2.2.2.2.1
  refine va_newa B.1 B.2.1 (B.2.2.2.2.1 _ harr) hty hK hP hD hS B.2.2.2.2.2.2.1 ha hn hN hby (Nat.le_trans hce hr.2.2.1) (Nat.le_trans hsl hr.2.2.2) hdg (fun q cA H1 hK1 hP1 hD1 hS1 => ?_)
  have e : cA = c := hra _ _ _ (hK1.2 z.2.1.length (cA, ty) (by rw [List.getElem?_append_right (Nat.le_refl _), Nat.sub_self]; rfl)).2 (hK.2 k (c, ty) hk).2
  subst e
  exact kk q hD1 H1 locs ls hP1 hS1 hl2
theorem N_new {C : String} {T : u_T} {N ci index : Nat} {fs : List Value} (B : BN E nL z cc own d mc ms) (hD : va_D z.2.2 ws) (hin : ∀ x ∈ u_ws C T N, x ∈ TT) (ty : Nat → FieldType) (hty : ∀ k, k < N → parseFieldDescriptor (T k).2.2.1 = some (ty k)) (hcl : Cond.classLink own index C ∈ TT) (hinst : Cond.instantiable C N ∈ TT) (hini : Cond.initialized C ∈ TT) (hc : classes[ci]? = some (C, T, N)) (hfs : ∀ j, j < N → defaultValue (ty j) = vp_V fs j) (hce : ce + 1 ≤ mc) (hsl : sl + N ≤ ms) (hdg : decode cc pc = .ok (.new index, 3))
    (kk : ∀ q, va_D z.2.2 (ws ++ [(q, .inr (ci, fs))]) → V (EN E (ce + 1) (sl + N)) classes nL (wN z (ws ++ [(q, .inr (ci, fs))])) sg0 (pc + 3) lv (.ref q :: st)) : V (EN E ce sl) classes nL (wN z ws) sg0 pc lv st := by
  intro H locs ls hP hS hl2
  have hr := B.2.2.2.2.2.2.2.1
  exact va_new B.1 B.2.1 B.2.2.2.2.1 hin ty hty B.2.2.2.1 (B.2.2.2.2.1 _ hcl) (B.2.2.2.2.1 _ hinst) (B.2.2.2.2.1 _ hini) B.2.2.2.2.2.1 hP hD hS B.2.2.2.2.2.2.1 hc hfs (Nat.le_trans hce hr.2.2.1) (Nat.le_trans hsl hr.2.2.2) hdg (fun q H1 hP1 hD1 hS1 => kk q hD1 H1 locs ls hP1 hS1 hl2)
theorem N_putF {a ci index N : Nat} {fs : List Value} {Cn : String} {T : u_T} {v : Value} {ty : FieldType} {ws' : va_W} (B : BN E nL z cc own d mc ms) (hD : va_D z.2.2 ws) (q0 k : Nat) (ty0 : Nat → FieldType) (hty : ∀ k, k < N → parseFieldDescriptor (T k).2.2.1 = some (ty0 k)) (hnm : ∀ a, a < N → ∀ b, b < N → a ≠ b → (T a).2.1 ≠ (T b).2.1) (he : ws[q0]? = some (a, .inr (ci, fs))) (hc : classes[ci]? = some (Cn, T, N)) (hk : k < N) (hin : ∀ x ∈ u_ws Cn T N, x ∈ TT) (hlink : Cond.fieldLink own index (T k).1 (T k).2.1 (T k).2.2.1 ∈ TT) (hfin : (T k).2.2.2 = true) (hdecl : (T k).1 = own) (hd : ty0 k = ty) (hn : narrow ty v = v) (hfit : fits ty v = true) (hl2 : k < fs.length) (hset : ws.set q0 (a, .inr (ci, fs.set k v)) = ws') (hdg : decode cc pc = .ok (.putfield index, 3)) (kk : va_D z.2.2 ws' → V (EN E ce sl) classes nL (wN z ws') sg0 (pc + 3) lv st) : V (EN E ce sl) classes nL (wN z ws) sg0 pc lv (v :: .ref a :: st) :=
  fun H locs ls hP hS hl => va_putF B.1 B.2.1 B.2.2.2.2.1 hin ty0 hty hnm B.2.2.2.1 B.2.2.2.2.2.1 hP hD hS q0 he hc k hk (B.2.2.2.2.1 _ hlink) (fun _ h9 => h9) hfin B.2.2.2.2.2.2.2.2 hdecl (by rw [hty k hk, hd]) hn hfit hl2 hdg (fun H1 locs1 hP1 hD1 hS1 => by subst hset; exact kk hD1 H1 locs1 ls hP1 hS1 hl)
theorem N_put {a ci index N : Nat} {fs : List Value} {Cn : String} {T : u_T} {v : Value} {ty : FieldType} {ws' : va_W} (B : BN E nL z cc own d mc ms) (hD : va_D z.2.2 ws) (q0 k : Nat) (ty0 : Nat → FieldType) (hty : ∀ k, k < N → parseFieldDescriptor (T k).2.2.1 = some (ty0 k)) (hnm : ∀ a, a < N → ∀ b, b < N → a ≠ b → (T a).2.1 ≠ (T b).2.1) (he : ws[q0]? = some (a, .inr (ci, fs))) (hc : classes[ci]? = some (Cn, T, N)) (hk : k < N) (hin : ∀ x ∈ u_ws Cn T N, x ∈ TT) (hlink : Cond.fieldLink own index (T k).1 (T k).2.1 (T k).2.2.1 ∈ TT) (hfin : (T k).2.2.2 = false) (hd : ty0 k = ty) (hn : narrow ty v = v) (hfit : fits ty v = true) (hl2 : k < fs.length) (hset : ws.set q0 (a, .inr (ci, fs.set k v)) = ws') (hdg : decode cc pc = .ok (.putfield index, 3)) (kk : va_D z.2.2 ws' → V (EN E ce sl) classes nL (wN z ws') sg0 (pc + 3) lv st) : V (EN E ce sl) classes nL (wN z ws) sg0 pc lv (v :: .ref a :: st) :=
  fun H locs ls hP hS hl => va_put B.1 B.2.1 B.2.2.2.2.1 hin ty0 hty hnm B.2.2.2.1 B.2.2.2.2.2.1 hP hD hS q0 he hc k hk (B.2.2.2.2.1 _ hlink) (fun _ h9 => h9) hfin (by rw [hty k hk, hd]) hn hfit hl2 hdg (fun H1 locs1 hP1 hD1 hS1 => by subst hset; exact kk hD1 H1 locs1 ls hP1 hS1 hl)
theorem N_iast {a n : Nat} {cA : ClassId} {f : Nat → Int32} {i v : Int32} {ws' : va_W} (B : BN E nL z cc own d mc ms) (hD : va_D z.2.2 ws) (q0 t0 : Nat) (ha : ws[q0]? = some (a, .inl (cA, n, .inl f))) (ht : z.2.1[t0]? = some (cA, .int)) (hi : inb i n = true) (hset : ws.set q0 (a, .inl (cA, n, .inl (upd f i.toNatClampNeg v))) = ws') (hdg : decode cc pc = .ok (.iastore, 1)) (kk : va_D z.2.2 ws' → V (EN E ce sl) classes nL (wN z ws') sg0 (pc + 1) lv st) : V (EN E ce sl) classes nL (wN z ws) sg0 pc lv (.int v :: .int i :: .ref a :: st) :=
  fun H locs ls hP hS hl => va_iast B.1 B.2.1 B.2.2.2.2.2.1 hP hD hS q0 t0 ha ht (inb_in hi) hdg (fun H1 locs1 hP1 hD1 hS1 => by subst hset; exact kk hD1 H1 locs1 ls hP1 hS1 hl)
/-- what a constructor does: of its object, out of what holds of the start, its world -/
def CtN (l : Launch) (y : MethodName) (b : ByteArray) (maxL d mc ms : Nat) (G : va_G) (tys : List (ClassId × FieldType)) (av : List Value) (wc : va_W) (Bf : (Nat → Nat) → va_W) (X : (Nat → Prop) → State → Heap → Prop) : Prop :=
  ∀ sz : Nat, Met l y (Cond.code y b maxL none :: TT) (rmN d mc ms) (va_Pc av (fun U => U.heap.size = sz ∧ va_P G classes wc U.heap ∧ va_K G classes tys U ∧ va_D (fun _ => True) wc ∧ X (va_A wc sz) U U.heap)) (va_Qv (fun _ : Nat → Nat => True) (fun u t => va_P G classes (Bf u) t.heap ∧ va_D (va_A wc sz) (Bf u)) (va_A wc sz)) mc ms (va_A wc sz)
theorem MetN {l : Launch} {y : MethodName} {maxL : Nat} {G : va_G} {tys : List (ClassId × FieldType)} {av : List Value} {wc : va_W} {Bf : (Nat → Nat) → va_W} {X : (Nat → Prop) → State → Heap → Prop} (hy : plainName y.cls = true) (hy2 : y.name = "<init>") (hn : (lg_sl av).length ≤ maxL)
    (body : ∀ (E : Ev) (A : Nat → Prop), E.2.1 = l → BN E maxL (G, tys, A) b y.cls d mc ms → va_D A wc → X A E.2.2.2.2.1 E.2.2.2.2.1.heap → (∀ (u : Nat → Nat) (pc : Nat) (lv : List (Nat × Value)), va_D A (Bf u) → decode b pc = .ok (.return_, 1) → V (EN E mc ms) classes maxL (wN (G, tys, A) (Bf u)) sg0 pc lv []) → V (EN E 0 0) classes maxL (wN (G, tys, A) wc) sg0 0 (lv_args 0 av) []) : CtN l y b maxL d mc ms G tys av wc Bf X := by
  intro sz
  refine Met.ofW (cc := b) (maxL := maxL) (ret := none) hy rfl ?_
  intro p e s m args below meth c s₁ B hml hv
  obtain ⟨rfl, hsz, hP, hK, hD0, hX⟩ := hv
  have hx := B.exec
  have hb := B.bytes
  have hr := B.returns
  have hts := atoms_spec (ws := Cond.code y b maxL (none) :: TT) B.pre
  have hown : s.vm.findClass y.cls = some m.cls := findClass_of_methodNamed B.named
  have hin : meth.name = "<init>" := (name_of_methodNamed B.named B.method).1.trans hy2
  have hlocks := B.notSynchronized
  subst hsz
  have hD := hD0.self (sz := s.heap.size)
  rw [lg_entry_eq]
  have hl := lv_entry av (n := maxL) hn
  refine body (p, l, e, (headSpec (Cond.code y b maxL (none) :: TT) (rmN d mc ms)).room, s, m, av.toArray, below, meth, c, MQ below (va_Qv (fun _ : Nat → Nat => True) (fun u t => va_P G classes (Bf u) t.heap ∧ va_D (va_A wc s.heap.size) (Bf u)) (va_A wc s.heap.size)) av.toArray s mc ms (va_A wc s.heap.size), 0, 0) (va_A wc s.heap.size) rfl ⟨hx, hb, hml, hown, fun x h => hts x (List.mem_cons_of_mem _ h), hK, fun q h => Or.inr h, ⟨Nat.le_refl _, Nat.le_refl _, Nat.le_refl _, Nat.le_refl _⟩, hin⟩ hD hX ?_ s.heap [] _ hP va_S.rf hl
  intro u pc lv hD1 hdg H locs ls hP1 hS hl1
  exact W.vret hx hb hr (fun t ht hW => ⟨⟨u, rfl, trivial, by rw [ht]; exact hP1, hD1⟩, hS.F ht⟩) hS.2.2 hdg
end CTR
