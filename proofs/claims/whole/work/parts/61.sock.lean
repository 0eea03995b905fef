/-! sock, drawn -/
/-- the same things, but with another DYE of one -/
def eV (e : Ew) (t v : Nat) : Ew := (e.1, fun u k => if u = t ∧ k = 1 then v else e.2.1 u k, e.2.2.1, e.2.2.2.1, e.2.2.2.2)
theorem eV_B {e : Ew} {t v : Nat} (hB : ewB e) (hv : v ≤ 9) : ewB (eV e t v) := by
  obtain ⟨b1, b2', b3, b4⟩ := hB
  refine ⟨b1, fun u k hu hk => ?_, b3, b4⟩
  show loN k ≤ (if u = t ∧ k = 1 then v else e.2.1 u k) ∧ (if u = t ∧ k = 1 then v else e.2.1 u k) ≤ hiN k
  by_cases q : u = t ∧ k = 1
  · rw [if_pos q, q.2]
    exact ⟨Nat.zero_le _, hv⟩
  · rw [if_neg q]; exact b2' u k hu hk
theorem eV_M {e : Ew} {τ : St} {t v : Nat} (hM : ewM e τ) : ewM (eV e t v) (upA τ 2 t (nI v)) := by
  obtain ⟨c1, c2, c3, c4, c5⟩ := hM
  refine ⟨c1, fun u k hu hk => ?_, c3, c4, c5⟩
  show (upA τ 2 t (nI v)).2.1 (k + 1) u = nI (if u = t ∧ k = 1 then v else e.2.1 u k)
  rw [upA_2]
  by_cases q1 : k = 1
  · subst q1
    rw [if_pos rfl]
    by_cases q : u = t
    · subst q; rw [if_pos ⟨rfl, rfl⟩]; simp [upd]
    · rw [if_neg (fun z => q z.1)]
      simp only [upd, if_neg q]
      exact c2 u 1 hu (by decide)
  · rw [if_neg (by omega), if_neg (fun z => q1 z.2)]
    exact c2 u k hu hk
theorem eV_g (e : Ew) (t v h : Nat) : gN (eV e t v) h t = dN e t v (e.2.1 t 2) h := by
  show (dyeS e.2.2.2.2 (nI (if t = t ∧ 1 = 1 then v else _)) (nI (if t = t ∧ 2 = 1 then v else e.2.1 t 2)) _ (nI (if t = t ∧ 0 = 1 then v else e.2.1 t 0)) (nI (if t = t ∧ 4 = 1 then v else e.2.1 t 4)) (nI (if t = t ∧ 3 = 1 then v else e.2.1 t 3))).toNatClampNeg = _
  rw [if_pos ⟨rfl, rfl⟩, if_neg (by omega), if_neg (by omega), if_neg (by omega), if_neg (by omega)]
  rfl
theorem eV_g2 {e : Ew} {t u : Nat} (v h : Nat) (hu : ¬ u = t) : gN (eV e t v) h u = gN e h u := by
  show (dyeS e.2.2.2.2 (nI (if u = t ∧ 1 = 1 then v else e.2.1 u 1)) (nI (if u = t ∧ 2 = 1 then v else e.2.1 u 2)) _ (nI (if u = t ∧ 0 = 1 then v else e.2.1 u 0)) (nI (if u = t ∧ 4 = 1 then v else e.2.1 u 4)) (nI (if u = t ∧ 3 = 1 then v else e.2.1 u 3))).toNatClampNeg = _
  rw [if_neg (fun z => hu z.1), if_neg (fun z => hu z.1), if_neg (fun z => hu z.1), if_neg (fun z => hu z.1), if_neg (fun z => hu z.1)]
  rfl
theorem eV_0 (e : Ew) (t v u : Nat) : (eV e t v).2.1 u 0 = e.2.1 u 0 := by
  show (if u = t ∧ 0 = 1 then v else e.2.1 u 0) = _
  rw [if_neg (by omega)]
/-- only the DYE of one differs -/
def kD (t : Nat) (τ τ' : St) : Prop := kM (upA τ' 2 t (τ.2.1 2 t)) = kM τ
theorem kM_up2 {a c : St} {t : Nat} {x : Int32} (h : kM a = kM c) : kM (upA a 2 t x) = kM (upA c 2 t x) := by
  refine kM_of (fun k hk => kM_i h k hk) (fun b hb => ?_) (fun b hb => ?_)
  · rw [upA_2, upA_2, kM_a h 2 rfl]
    by_cases q : b = 2
    · rw [if_pos q, if_pos q]
    · rw [if_neg q, if_neg q]; exact kM_a h b hb
  · have := congrArg (fun q : St => q.2.2 b) h
    simp only [kM, show (b == 40) = false from beq_eq_false_iff_ne.mpr hb, cond_false] at this
    exact this
theorem up2_up2 (τ : St) (t : Nat) (x y : Int32) : upA (upA τ 2 t x) 2 t y = upA τ 2 t y := by
  unfold upA
  refine Prod.ext rfl (Prod.ext ?_ rfl)
  funext b
  show va_up (va_up τ.2.1 2 (upd (τ.2.1 2) t x)) 2 (upd (va_up τ.2.1 2 (upd (τ.2.1 2) t x) 2) t y) b = va_up τ.2.1 2 (upd (τ.2.1 2) t y) b
  by_cases q : b = 2
  · subst q
    simp only [va_up, if_true]
    funext i
    unfold upd
    by_cases q2 : i = t
    · simp [q2]
    · simp [q2]
  · simp [va_up, q]
theorem up2_id (τ : St) (t : Nat) : upA τ 2 t (τ.2.1 2 t) = τ := by
  unfold upA
  refine Prod.ext rfl (Prod.ext ?_ rfl)
  funext b
  show va_up τ.2.1 2 (upd (τ.2.1 2) t (τ.2.1 2 t)) b = τ.2.1 b
  by_cases q : b = 2
  · subst q
    simp only [va_up, if_true]
    funext i
    unfold upd
    by_cases q2 : i = t
    · simp [q2]
    · simp [q2]
  · simp [va_up, q]
theorem suppose_C {e : Ew} {σ : St} (hB : ewB e) (hC : ewC e σ) {t v h : Nat} (ht : t < e.1) (hv : v ≤ 9) (hh : h ≤ 9) (h3 : σ.1 3903 = nI h) (hg : ∀ u, u < e.1 → ¬ u = t → σ.2.1 40 u = nI (gN e h u)) : ∃ σ', f_Tub_suppose σ (nI t) (nI v) = some σ' ∧ kC σ' = kC σ ∧ σ'.1 3903 = nI h ∧ ∀ u, u < e.1 → σ'.2.1 40 u = nI (gN (eV e t v) h u) := by
  have hn := hB.1
  have hw := (hB.2.1 t 2 ht (by decide)).2
  have e2 : hiN 2 = 99 := rfl
  obtain ⟨σ1, d1, d2⟩ := dyeIf_C hB hC (t := t) (v := v) (w := e.2.1 t 2) (h := h) ht hv (by omega) hh
  refine ⟨upA σ1 40 t (nI (dN e t v (e.2.1 t 2) h)), ?_, by rw [kC_upA (by rfl), samD_kC d2], by rw [upA_1, d2.1 3903 (by decide)]; exact h3, fun u hu => ?_⟩
  · unfold f_Tub_suppose f_Basket_isThing
    have q2 : f_Basket_told σ (nI t) 2 = _ := told_e hB hC (k := 2) ht (by decide)
    rw [hC.1, within_eq, bind_s, bif_t (zb_b2 _), decide_eq_true ((isT (by omega) _).mpr ⟨t, ht, rfl⟩), b2_t, bind_s, if_neg i10, q2, bind_s, h3, d1, bd2_s, in_t (by omega), ct_t (by omega)]
    rfl
  · rw [upA_2, if_pos rfl]
    by_cases q : u = t
    · subst q; rw [eV_g]; simp [upd]
    · simp only [upd, if_neg q]
      rw [d2.2.1 40 (by decide) (by decide), hg u hu q, eV_g2 v h q]
theorem e_sock {σ τ : St} (h : Rel σ τ) (x y z u : Int32) : ∃ r σ' τ', f_Top_sock σ x y z u = some (r, σ') ∧ f_M_sock τ x y z u = some (r, τ') ∧ Rel σ' τ' := by
  obtain ⟨e, hB, hC, hM⟩ := rel_ew h
  obtain ⟨bn, hbn, h8⟩ := rel_sh h
  have hn := hB.1
  unfold f_Top_sock f_M_sock
  rcases row_2 hbn h8 x (s := 1) (by decide) with ⟨r1, r2⟩ | ⟨r, z0, zm, zn, r1, r2, r3⟩ | ⟨j, Ln, v, hj, hL, rfl, r1, r2, r3, rc, rm⟩
  · have r1' : f_Top_rowRefusal σ x 1 = _ := r1
    rw [r1', r2]; exact ⟨_, _, _, rfl, rfl, h⟩
  · have r1' : f_Top_rowRefusal σ x 1 = _ := r1
    have r3' : f_M_rowFault τ x 1 = _ := r3
    rw [r1', r2]
    simp only [bind_s, zm, i10, if_false]
    rcases isSet_2 hB hC hM y with ⟨g1, g2⟩ | ⟨b, hb, rfl, g1, g2⟩
    · rw [g1, g2]; exact ⟨_, _, _, rfl, rfl, h⟩
    · rw [g1, g2]
      simp only [bind_s, i10, if_false]
      rcases isHeat_2 z with ⟨k1, k2⟩ | ⟨w, w3, w9, rfl, k1, k2⟩
      · rw [k1, k2]; exact ⟨_, _, _, rfl, rfl, h⟩
      · rw [k1, k2]
        simp only [bind_s, i10, if_false]
        rcases of_2 hB hM hb u with ⟨j1, j2⟩ | ⟨t, ht, rfl, j1, j2⟩
        · rw [j1, j2]; exact ⟨_, _, _, rfl, rfl, h⟩
        · rw [j1, j2, bt_M hn hb ht, r3']
          simp only [bind_s, i10, if_false]
          by_cases q : bt b t = true
          · rw [b2_nt q]
            simp only [i10, z0, zn, if_false, bind_s]
            exact ⟨_, _, _, rfl, rfl, h⟩
          · rw [b2_nf (bt_f q)]
            exact ⟨_, _, _, rfl, rfl, h⟩
  · have r1' : f_Top_rowRefusal σ (nI j) 1 = _ := r1
    have r3' : f_M_rowFault τ (nI j) 1 = _ := r3
    rw [r1', r2]
    simp only [bind_s, i10, if_false, show ¬ (0 : Int32) = -1 by decide]
    rcases isSet_2 hB hC hM y with ⟨g1, g2⟩ | ⟨b, hb, rfl, g1, g2⟩
    · rw [g1, g2]; exact ⟨_, _, _, rfl, rfl, h⟩
    · rw [g1, g2]
      simp only [bind_s, i10, if_false]
      rcases isHeat_2 z with ⟨k1, k2⟩ | ⟨w, w3, w9, rfl, k1, k2⟩
      · rw [k1, k2]; exact ⟨_, _, _, rfl, rfl, h⟩
      · rw [k1, k2]
        simp only [bind_s, i10, if_false]
        rcases of_2 hB hM hb u with ⟨j1, j2⟩ | ⟨t, ht, rfl, j1, j2⟩
        · rw [j1, j2]; exact ⟨_, _, _, rfl, rfl, h⟩
        · rw [j1, j2, bt_M hn hb ht, r3']
          simp only [bind_s, i10, if_false]
          by_cases q : bt b t = true
          · rw [b2_nt q]
            obtain ⟨σ1, w1, wk, wh, wg⟩ := warm_C hB hC w9
            simp only [i10, if_false, if_true, bind_s, show (0 : Int32) ≤ 0 by decide, w1, in_t (show t < 10 by omega), ct_t (show t < 10 by omega), cond_true]
            -- behind the answer the reference's loop only lays the dye back
            have tail : ∀ (τ2 : St) (m : Nat) (r : Int32), (0 : Int32) ≤ r → ∀ s : Int32, f_M_sock_74 (m + 1) τ2 (nI j) (nI b) (nI w) (nI t) (τ.2.1 2 t) r s = some (r, upA τ2 2 t (τ.2.1 2 t)) := by
              intro τ2 m r hr s
              unfold f_M_sock_74
              rw [in_t (by omega), ct_t (by omega), if_pos hr]
              by_cases s9 : (9 : Int32) < s
              · rw [if_pos s9]; rfl
              · rw [if_neg s9]; rfl
            have main := loopF (n := 10) (P := fun k fuel => ∀ σ2 τ2, kC σ2 = kC σ → kD t τ τ2 → σ2.1 3903 = nI w → (∀ v, v < e.1 → ¬ v = t → σ2.2.1 40 v = nI (gN e w v)) → ∃ r σ' τ', f_Top_sock_59 (fuel + 1) σ2 (nI j) (nI b) (nI t) (nI k) = some (r, σ') ∧ f_M_sock_74 (fuel + 1) τ2 (nI j) (nI b) (nI w) (nI t) (τ.2.1 2 t) (-2) (nI k) = some (r, τ') ∧ kC σ' = kC σ ∧ kM τ' = kM τ) (fun f σ2 τ2 a1 a2 a3 a4 => by
                unfold f_Top_sock_59 f_M_sock_74
                rw [in_t (t := t) (by omega), ct_t (t := t) (by omega)]
                exact ⟨_, _, _, rfl, rfl, a1, a2⟩) (fun k f hk ih σ2 τ2 a1 a2 a3 a4 => by
                have hC2 := ewC_k a1 hC
                have hB' := eV_B (t := t) (v := k) hB (by omega)
                obtain ⟨σ3, s1, s2, s3, s4⟩ := suppose_C hB hC2 (t := t) (v := k) ht (by omega) w9 a3 a4
                obtain ⟨σ4, f1, f2, f3⟩ := fill_V hB (ewC_k s2 hC2) (gv := gN (eV e t k) w) (h := w) s4 s3 (fun v hv => gN_le hB' w9 hv) hb (off := 0) (by omega)
                have f1' : f_Tub_fill σ3 (nI b) 0 = some σ4 := f1
                have kk : kC σ4 = kC σ := f2.trans (s2.trans a1)
                -- the reference's things with the dye told
                have hq : kM (upA τ2 2 t (nI k)) = kM (upA τ 2 t (nI k)) := by
                  have := kM_up2 (t := t) (x := nI k) a2
                  rw [up2_up2] at this
                  exact this
                have hM2 : ewM (eV e t k) (upA τ2 2 t (nI k)) := ewM_k hq (eV_M hM)
                have rm2 : rwM j Ln v (upA τ2 2 t (nI k)) := rwM_k hq rm
                obtain ⟨r, τ3, u1, u2, u3, u4⟩ := unlike_2 hB hB' rfl (eV_0 e t k) f3.1 hM2 w9 f3.2.1 hb hb (off := 0) (by omega) f3.2.2.2.2 rfl hj hL (rwC_k kk rc) rm2
                have u2' : f_M_wrongPink (upA τ2 2 t (nI k)) (nI j) (nI b) (nI b) (nI w) 0 = _ := u2
                have k3 : kD t τ τ3 := by
                  unfold kD
                  rw [kM_up2 (u3.trans hq), up2_up2, up2_id]
                unfold f_Top_sock_59 f_M_sock_74
                have c3 : ¬ (9 : Int32) < nI k := nI_nlt (a := 9) (by omega) (by decide)
                rw [if_neg c3, if_neg c3, s1, bind_s, f1', bind_s, inb_nI hj (by decide), cond_true, nIt (show j < 2 ^ 31 by omega), u1, bind_s, if_neg (show ¬ (0 : Int32) ≤ -2 by decide), in_t (by omega), ct_t (by omega), cond_true, u2', bd2_s, nI_1]
                rcases u4 with rfl | ⟨s, hs, rfl⟩
                · rw [if_pos rfl, if_neg (by decide), tail τ3 f (nI k) (nI_pos' (by omega))]
                  exact ⟨_, _, _, rfl, rfl, kk, k3⟩
                · rw [if_neg (m2_ne (by omega)), if_pos (nI_pos' (by omega))]
                  exact ih σ4 τ3 kk k3 f3.2.2.1 (fun v hv hvt => by rw [f3.2.1 v hv, eV_g2 k w hvt]))
              0 (Nat.zero_le _) 999 (by decide) σ1 τ wk (by unfold kD; rw [up2_id]) wh (fun v hv _ => wg v hv)
            obtain ⟨r, σ', τ', z1, z2, z3, z4⟩ := main
            exact ⟨r, σ', τ', z1, z2, rel_k h z3 z4⟩
          · rw [b2_nf (bt_f q)]
            exact ⟨_, _, _, rfl, rfl, h⟩
