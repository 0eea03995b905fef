/-! arrays of objects in a world that grows -/
section CTQ
variable {E : Ev} {nL d mc ms ce sl : Nat} {z : Nx} {ws : va_W} {pc : Nat} {lv : List (Nat × Value)} {st : List Value} {cc : ByteArray} {own : String}
theorem N_newq {c : ClassId} {C : String} {index : Nat} (B : BN E nL z cc own d mc ms) (hD : va_D z.2.2 ws) (k : Nat) (hk : z.2.1[k]? = some (c, .object C)) (hcl : Cond.classLink own index C ∈ TT) (hover : va_AO C E.2.2.2.2.1) {n : Int32} {N' : Nat} (hn : ¬ n < 0) (hN : n.toNatClampNeg = N') (hby : N' * 4 ≤ 536870912) (hce : ce + 1 ≤ mc) (hsl : sl + N' ≤ ms) (hdg : decode cc pc = .ok (.anewarray index, 3))
    (kk : ∀ q, va_D z.2.2 (ws ++ [(q, .inl (c, N', .inr (.inr (.inr (.inr (fun _ => none))))))]) → V (EN E (ce + 1) (sl + N')) classes nL (wN z (ws ++ [(q, .inl (c, N', .inr (.inr (.inr (.inr (fun _ => none))))))])) sg0 (pc + 3) lv (.ref q :: st)) : V (EN E ce sl) classes nL (wN z ws) sg0 pc lv (.int n :: st) := by
  intro H locs ls hP hS hl2
  have hr := B.2.2.2.2.2.2.2.1
  have hK := B.2.2.2.2.2.1
  refine va_newq B.1 B.2.1 B.2.2.2.1 (B.2.2.2.2.1 _ hcl) hover hK hP hD hS B.2.2.2.2.2.2.1 hn hN hby (Nat.le_trans hce hr.2.2.1) (Nat.le_trans hsl hr.2.2.2) hdg (fun q cA H1 hK1 hP1 hD1 hS1 => ?_)
  have e : cA = c := by
    obtain ⟨_, _, _, _, _, h1⟩ := (hK1.2 z.2.1.length (cA, .object C) (by rw [List.getElem?_append_right (Nat.le_refl _), Nat.sub_self]; rfl)).2
    obtain ⟨_, _, _, _, _, h2⟩ := (hK.2 k (c, .object C) hk).2
    exact Option.some.inj (h1.symm.trans h2)
  subst e
  exact kk q hD1 H1 locs ls hP1 hS1 hl2
theorem N_aast {a n v : Nat} {cA : ClassId} {r : vw_C} {vs : List Value} {f : Nat → Option Nat} {i : Int32} {ws' : va_W} (B : BN E nL z cc own d mc ms) (hD : va_D z.2.2 ws) (q0 t0 qk ci : Nat) (ha : ws[q0]? = some (a, .inl (cA, n, .inr (.inr (.inr (.inr f)))))) (ht : z.2.1[t0]? = some (cA, .object r.1)) (hv : ws[qk]? = some (v, .inr (ci, vs))) (hc : classes[ci]? = some r) (hi : inb i n = true) (hset : ws.set q0 (a, .inl (cA, n, .inr (.inr (.inr (.inr (va_up f i.toNatClampNeg (some v))))))) = ws') (hdg : decode cc pc = .ok (.aastore, 1)) (kk : va_D z.2.2 ws' → V (EN E ce sl) classes nL (wN z ws') sg0 (pc + 1) lv st) : V (EN E ce sl) classes nL (wN z ws) sg0 pc lv (.ref v :: .int i :: .ref a :: st) :=
  fun H locs ls hP hS hl => va_astq B.1 B.2.1 B.2.2.2.2.2.1 hP hD hS q0 t0 qk ci ha ht hv hc (inb_in hi) hdg (fun H1 locs1 hP1 hD1 hS1 => by subst hset; exact kk hD1 H1 locs1 ls hP1 hS1 hl)
end CTQ
