/-! the constructors, laid by ctor.py -/
def tysC (c : Nat → ClassId) : List (ClassId × FieldType) := [(c 0, .int), (c 1, .boolean), (c 2, .byte), (c 3, .short), (c 4, .long), (c 5, .object "WithTheReds$Shelf")]
abbrev b_iBasket : ByteArray := prog_2_method_1_code
def y_iBasket : MethodName := ⟨"WithTheReds$Basket", "<init>", "()V"⟩
def BB_Basket (c : Nat → ClassId) (h0 : Nat) (u : Nat → Nat) : va_W := [(h0, .inr (0, [.ref (u 0), .ref (u 1), .ref (u 2), .int 0])), (u 0, .inl (c 0, 84, .inl (va_cpy tb_FIRST (fun _ => 0) 8 80 4))), (u 1, .inl (c 0, 10, .inl (fun _ => 0))), (u 2, .inl (c 1, 10, .inl (fun _ => 0)))]
def B0_Basket (h0 : Nat) : va_W := [(h0, .inr (0, [.null, .null, .null, .int 0]))]
set_option maxRecDepth 100000 in
set_option maxHeartbeats 4000000 in
theorem k_Basket {l : Launch} {G : va_G} {c : Nat → ClassId} {h0 t : Nat} : CtN l y_iBasket b_iBasket 1 1 3 104 G (tysC c) [.ref h0] (B0_Basket h0) (BB_Basket c h0) (XF t) :=
  MetN (by decide +kernel) rfl (Nat.le_of_ble_eq_true rfl) (fun E A hE B hD hX hR => by
    refine V_aload_n (B.cx hD (by decide) (by decide)) 0 (j := 0) (by decide +kernel) rfl ?_
    refine N_obj B (by decide) (tt_c1 35 rfl rfl) (tt_c1 28 rfl rfl) (tt_c1 29 rfl rfl) (Nat.le_of_ble_eq_true rfl) (by decide +kernel) ?_
    refine V_aload_n (B.cx hD (by decide) (by decide)) 0 (j := 0) (by decide +kernel) rfl ?_
    refine V_bipush (v := 84) (n := 84) (B.cx hD (by decide) (by decide)) (by decide +kernel) (by decide) ?_
    refine N_newa (atype := .int) (ty := .int) (N' := 84) (a0 := (84, .inl (fun _ => 0))) B hD 0 rfl rfl (fun c1 c2 U h1 h2 => Option.some.inj (h1.symm.trans h2)) (tt_c1 64 rfl rfl) (fun cA => rfl) (by decide) (by decide) (by decide) (by decide) (by decide) (by decide +kernel) (fun q0 hD => ?_)
    refine N_putF (ci := 0) (N := 4) (T := F_Basket) (Cn := "WithTheReds$Basket") B hD 0 0 t_Basket t_Basket_ok n_Basket rfl rfl (by decide) i_Basket (tt_c1 41 rfl rfl) rfl rfl rfl rfl rfl (Nat.le_of_ble_eq_true rfl) rfl (by decide +kernel) (fun hD => ?_)
    refine V_aload_n (B.cx hD (by decide) (by decide)) 0 (j := 0) (by decide +kernel) rfl ?_
    refine V_bipush (v := 10) (n := 10) (B.cx hD (by decide) (by decide)) (by decide +kernel) (by decide) ?_
    refine N_newa (atype := .int) (ty := .int) (N' := 10) (a0 := (10, .inl (fun _ => 0))) B hD 0 rfl rfl (fun c1 c2 U h1 h2 => Option.some.inj (h1.symm.trans h2)) (tt_c1 64 rfl rfl) (fun cA => rfl) (by decide) (by decide) (by decide) (by decide) (by decide) (by decide +kernel) (fun q1 hD => ?_)
    refine N_putF (ci := 0) (N := 4) (T := F_Basket) (Cn := "WithTheReds$Basket") B hD 0 1 t_Basket t_Basket_ok n_Basket rfl rfl (by decide) i_Basket (tt_c1 42 rfl rfl) rfl rfl rfl rfl rfl (Nat.le_of_ble_eq_true rfl) rfl (by decide +kernel) (fun hD => ?_)
    refine V_aload_n (B.cx hD (by decide) (by decide)) 0 (j := 0) (by decide +kernel) rfl ?_
    refine V_bipush (v := 10) (n := 10) (B.cx hD (by decide) (by decide)) (by decide +kernel) (by decide) ?_
    refine N_newa (atype := .boolean) (ty := .boolean) (N' := 10) (a0 := (10, .inl (fun _ => 0))) B hD 1 rfl rfl (fun c1 c2 U h1 h2 => Option.some.inj (h1.symm.trans h2)) (tt_c1 65 rfl rfl) (fun cA => rfl) (by decide) (by decide) (by decide) (by decide) (by decide) (by decide +kernel) (fun q2 hD => ?_)
    refine N_putF (ci := 0) (N := 4) (T := F_Basket) (Cn := "WithTheReds$Basket") B hD 0 2 t_Basket t_Basket_ok n_Basket rfl rfl (by decide) i_Basket (tt_c1 45 rfl rfl) rfl rfl rfl rfl rfl (Nat.le_of_ble_eq_true rfl) rfl (by decide +kernel) (fun hD => ?_)
    refine N_gsF B hX (tt_c1 36 rfl rfl) (by decide +kernel) ?_
    refine V_bipush (v := 8) (n := 8) (B.cx hD (by decide) (by decide)) (by decide +kernel) (by decide) ?_
    refine V_aload_n (B.cx hD (by decide) (by decide)) 0 (j := 0) (by decide +kernel) rfl ?_
    refine V_get (B.cx hD (by decide) (by decide)) 0 0 (ci := 0) (N := 4) (T := F_Basket) (Cn := "WithTheReds$Basket") rfl rfl (by decide) i_Basket (tt_c1 41 rfl rfl) rfl (by decide +kernel) ?_
    refine V_bipush (v := 80) (n := 80) (B.cx hD (by decide) (by decide)) (by decide +kernel) (by decide) ?_
    refine V_iconst (v := 4) (n := 4) (B.cx hD (by decide) (by decide)) (by decide +kernel) (by decide) ?_
    refine N_cpT B hD hX 1 0 rfl rfl (by decide) (by decide) (by decide) (by decide) (Nat.le_of_ble_eq_true rfl) (tt_c1 38 rfl rfl) rfl (by decide +kernel) (fun hD => ?_)
    exact hR (fun k => ([q0, q1, q2] : List Nat).getD k 0) _ _ hD (by decide +kernel))
abbrev b_iTape : ByteArray := prog_11_method_1_code
def y_iTape : MethodName := ⟨"WithTheReds$Tape", "<init>", "()V"⟩
def BB_Tape (c : Nat → ClassId) (h0 : Nat) (u : Nat → Nat) : va_W := [(h0, .inr (9, [.ref (u 0), .ref (u 1), .ref (u 2), .int 0, .int 0, .int 0, .int 0, .int 0, .int 0, .int 0, .int 0])), (u 0, .inl (c 0, 120, .inl (fun _ => 0))), (u 1, .inl (c 0, 121, .inl (fun _ => 0))), (u 2, .inl (c 0, 120, .inl (fun _ => 0)))]
def B0_Tape (h0 : Nat) : va_W := [(h0, .inr (9, [.null, .null, .null, .int 0, .int 0, .int 0, .int 0, .int 0, .int 0, .int 0, .int 0]))]
set_option maxRecDepth 100000 in
set_option maxHeartbeats 4000000 in
theorem k_Tape {l : Launch} {G : va_G} {c : Nat → ClassId} {h0 : Nat} : CtN l y_iTape b_iTape 1 1 3 361 G (tysC c) [.ref h0] (B0_Tape h0) (BB_Tape c h0) (fun _ _ _ => True) :=
  MetN (by decide +kernel) rfl (Nat.le_of_ble_eq_true rfl) (fun E A hE B hD hX hR => by
    refine V_aload_n (B.cx hD (by decide) (by decide)) 0 (j := 0) (by decide +kernel) rfl ?_
    refine N_obj B (by decide) (tt_c1 71 rfl rfl) (tt_c1 28 rfl rfl) (tt_c1 29 rfl rfl) (Nat.le_of_ble_eq_true rfl) (by decide +kernel) ?_
    refine V_aload_n (B.cx hD (by decide) (by decide)) 0 (j := 0) (by decide +kernel) rfl ?_
    refine V_bipush (v := 120) (n := 120) (B.cx hD (by decide) (by decide)) (by decide +kernel) (by decide) ?_
    refine N_newa (atype := .int) (ty := .int) (N' := 120) (a0 := (120, .inl (fun _ => 0))) B hD 0 rfl rfl (fun c1 c2 U h1 h2 => Option.some.inj (h1.symm.trans h2)) (tt_c1 64 rfl rfl) (fun cA => rfl) (by decide) (by decide) (by decide) (by decide) (by decide) (by decide +kernel) (fun q0 hD => ?_)
    refine N_putF (ci := 9) (N := 11) (T := F_Tape) (Cn := "WithTheReds$Tape") B hD 0 0 t_Tape t_Tape_ok n_Tape rfl rfl (by decide) i_Tape (tt_c1 72 rfl rfl) rfl rfl rfl rfl rfl (Nat.le_of_ble_eq_true rfl) rfl (by decide +kernel) (fun hD => ?_)
    refine V_aload_n (B.cx hD (by decide) (by decide)) 0 (j := 0) (by decide +kernel) rfl ?_
    refine V_bipush (v := 121) (n := 121) (B.cx hD (by decide) (by decide)) (by decide +kernel) (by decide) ?_
    refine N_newa (atype := .int) (ty := .int) (N' := 121) (a0 := (121, .inl (fun _ => 0))) B hD 0 rfl rfl (fun c1 c2 U h1 h2 => Option.some.inj (h1.symm.trans h2)) (tt_c1 64 rfl rfl) (fun cA => rfl) (by decide) (by decide) (by decide) (by decide) (by decide) (by decide +kernel) (fun q1 hD => ?_)
    refine N_putF (ci := 9) (N := 11) (T := F_Tape) (Cn := "WithTheReds$Tape") B hD 0 1 t_Tape t_Tape_ok n_Tape rfl rfl (by decide) i_Tape (tt_c1 73 rfl rfl) rfl rfl rfl rfl rfl (Nat.le_of_ble_eq_true rfl) rfl (by decide +kernel) (fun hD => ?_)
    refine V_aload_n (B.cx hD (by decide) (by decide)) 0 (j := 0) (by decide +kernel) rfl ?_
    refine V_bipush (v := 120) (n := 120) (B.cx hD (by decide) (by decide)) (by decide +kernel) (by decide) ?_
    refine N_newa (atype := .int) (ty := .int) (N' := 120) (a0 := (120, .inl (fun _ => 0))) B hD 0 rfl rfl (fun c1 c2 U h1 h2 => Option.some.inj (h1.symm.trans h2)) (tt_c1 64 rfl rfl) (fun cA => rfl) (by decide) (by decide) (by decide) (by decide) (by decide) (by decide +kernel) (fun q2 hD => ?_)
    refine N_putF (ci := 9) (N := 11) (T := F_Tape) (Cn := "WithTheReds$Tape") B hD 0 2 t_Tape t_Tape_ok n_Tape rfl rfl (by decide) i_Tape (tt_c1 75 rfl rfl) rfl rfl rfl rfl rfl (Nat.le_of_ble_eq_true rfl) rfl (by decide +kernel) (fun hD => ?_)
    exact hR (fun k => ([q0, q1, q2] : List Nat).getD k 0) _ _ hD (by decide +kernel))
abbrev b_iLaw : ByteArray := prog_6_method_1_code
def y_iLaw : MethodName := ⟨"WithTheReds$Law", "<init>", "()V"⟩
def BB_Law (c : Nat → ClassId) (h0 : Nat) (u : Nat → Nat) : va_W := [(h0, .inr (4, [.ref (u 0), .ref (u 1), .ref (u 2), .int 0, .int 0])), (u 0, .inl (c 0, 121, .inl (fun _ => 0))), (u 1, .inl (c 0, 64, .inl (fun _ => 0))), (u 2, .inl (c 0, 6, .inl (fun _ => 0)))]
def B0_Law (h0 : Nat) : va_W := [(h0, .inr (4, [.null, .null, .null, .int 0, .int 0]))]
set_option maxRecDepth 100000 in
set_option maxHeartbeats 4000000 in
theorem k_Law {l : Launch} {G : va_G} {c : Nat → ClassId} {h0 : Nat} : CtN l y_iLaw b_iLaw 1 1 3 191 G (tysC c) [.ref h0] (B0_Law h0) (BB_Law c h0) (fun _ _ _ => True) :=
  MetN (by decide +kernel) rfl (Nat.le_of_ble_eq_true rfl) (fun E A hE B hD hX hR => by
    refine V_aload_n (B.cx hD (by decide) (by decide)) 0 (j := 0) (by decide +kernel) rfl ?_
    refine N_obj B (by decide) (tt_c1 114 rfl rfl) (tt_c1 28 rfl rfl) (tt_c1 29 rfl rfl) (Nat.le_of_ble_eq_true rfl) (by decide +kernel) ?_
    refine V_aload_n (B.cx hD (by decide) (by decide)) 0 (j := 0) (by decide +kernel) rfl ?_
    refine V_bipush (v := 121) (n := 121) (B.cx hD (by decide) (by decide)) (by decide +kernel) (by decide) ?_
    refine N_newa (atype := .int) (ty := .int) (N' := 121) (a0 := (121, .inl (fun _ => 0))) B hD 0 rfl rfl (fun c1 c2 U h1 h2 => Option.some.inj (h1.symm.trans h2)) (tt_c1 64 rfl rfl) (fun cA => rfl) (by decide) (by decide) (by decide) (by decide) (by decide) (by decide +kernel) (fun q0 hD => ?_)
    refine N_putF (ci := 4) (N := 5) (T := F_Law) (Cn := "WithTheReds$Law") B hD 0 0 t_Law t_Law_ok n_Law rfl rfl (by decide) i_Law (tt_c1 115 rfl rfl) rfl rfl rfl rfl rfl (Nat.le_of_ble_eq_true rfl) rfl (by decide +kernel) (fun hD => ?_)
    refine V_aload_n (B.cx hD (by decide) (by decide)) 0 (j := 0) (by decide +kernel) rfl ?_
    refine V_bipush (v := 64) (n := 64) (B.cx hD (by decide) (by decide)) (by decide +kernel) (by decide) ?_
    refine N_newa (atype := .int) (ty := .int) (N' := 64) (a0 := (64, .inl (fun _ => 0))) B hD 0 rfl rfl (fun c1 c2 U h1 h2 => Option.some.inj (h1.symm.trans h2)) (tt_c1 64 rfl rfl) (fun cA => rfl) (by decide) (by decide) (by decide) (by decide) (by decide) (by decide +kernel) (fun q1 hD => ?_)
    refine N_putF (ci := 4) (N := 5) (T := F_Law) (Cn := "WithTheReds$Law") B hD 0 1 t_Law t_Law_ok n_Law rfl rfl (by decide) i_Law (tt_c1 116 rfl rfl) rfl rfl rfl rfl rfl (Nat.le_of_ble_eq_true rfl) rfl (by decide +kernel) (fun hD => ?_)
    refine V_aload_n (B.cx hD (by decide) (by decide)) 0 (j := 0) (by decide +kernel) rfl ?_
    refine V_bipush (v := 6) (n := 6) (B.cx hD (by decide) (by decide)) (by decide +kernel) (by decide) ?_
    refine N_newa (atype := .int) (ty := .int) (N' := 6) (a0 := (6, .inl (fun _ => 0))) B hD 0 rfl rfl (fun c1 c2 U h1 h2 => Option.some.inj (h1.symm.trans h2)) (tt_c1 64 rfl rfl) (fun cA => rfl) (by decide) (by decide) (by decide) (by decide) (by decide) (by decide +kernel) (fun q2 hD => ?_)
    refine N_putF (ci := 4) (N := 5) (T := F_Law) (Cn := "WithTheReds$Law") B hD 0 2 t_Law t_Law_ok n_Law rfl rfl (by decide) i_Law (tt_c1 117 rfl rfl) rfl rfl rfl rfl rfl (Nat.le_of_ble_eq_true rfl) rfl (by decide +kernel) (fun hD => ?_)
    exact hR (fun k => ([q0, q1, q2] : List Nat).getD k 0) _ _ hD (by decide +kernel))
abbrev b_iTub : ByteArray := prog_12_method_1_code
def y_iTub : MethodName := ⟨"WithTheReds$Tub", "<init>", "(LWithTheReds$Basket;LWithTheReds$Law;)V"⟩
def BB_Tub (c : Nat → ClassId) (h0 : Nat) (r1 : Nat) (r2 : Nat) (u : Nat → Nat) : va_W := [(h0, .inr (10, [.ref r1, .ref r2, .ref (u 0), .int 3, .int 0, .int 0])), (u 0, .inl (c 0, 10, .inl (fun _ => 0)))]
def B0_Tub (h0 : Nat) : va_W := [(h0, .inr (10, [.null, .null, .null, .int 0, .int 0, .int 0]))]
set_option maxRecDepth 100000 in
set_option maxHeartbeats 4000000 in
theorem k_Tub {l : Launch} {G : va_G} {c : Nat → ClassId} {h0 r1 r2 : Nat} : CtN l y_iTub b_iTub 3 1 1 10 G (tysC c) [.ref h0, .ref r1, .ref r2] (B0_Tub h0) (BB_Tub c h0 r1 r2) (fun _ _ _ => True) :=
  MetN (by decide +kernel) rfl (Nat.le_of_ble_eq_true rfl) (fun E A hE B hD hX hR => by
    refine V_aload_n (B.cx hD (by decide) (by decide)) 0 (j := 0) (by decide +kernel) rfl ?_
    refine N_obj B (by decide) (tt_c1 136 rfl rfl) (tt_c1 28 rfl rfl) (tt_c1 29 rfl rfl) (Nat.le_of_ble_eq_true rfl) (by decide +kernel) ?_
    refine V_aload_n (B.cx hD (by decide) (by decide)) 0 (j := 0) (by decide +kernel) rfl ?_
    refine V_bipush (v := 10) (n := 10) (B.cx hD (by decide) (by decide)) (by decide +kernel) (by decide) ?_
    refine N_newa (atype := .int) (ty := .int) (N' := 10) (a0 := (10, .inl (fun _ => 0))) B hD 0 rfl rfl (fun c1 c2 U h1 h2 => Option.some.inj (h1.symm.trans h2)) (tt_c1 64 rfl rfl) (fun cA => rfl) (by decide) (by decide) (by decide) (by decide) (by decide) (by decide +kernel) (fun q0 hD => ?_)
    refine N_putF (ci := 10) (N := 6) (T := F_Tub) (Cn := "WithTheReds$Tub") B hD 0 2 t_Tub t_Tub_ok n_Tub rfl rfl (by decide) i_Tub (tt_c1 139 rfl rfl) rfl rfl rfl rfl rfl (Nat.le_of_ble_eq_true rfl) rfl (by decide +kernel) (fun hD => ?_)
    refine V_aload_n (B.cx hD (by decide) (by decide)) 0 (j := 0) (by decide +kernel) rfl ?_
    refine V_iconst (v := 3) (n := 3) (B.cx hD (by decide) (by decide)) (by decide +kernel) (by decide) ?_
    refine N_put (ci := 10) (N := 6) (T := F_Tub) (Cn := "WithTheReds$Tub") B hD 0 3 t_Tub t_Tub_ok n_Tub rfl rfl (by decide) i_Tub (tt_c1 140 rfl rfl) rfl rfl rfl rfl (Nat.le_of_ble_eq_true rfl) rfl (by decide +kernel) (fun hD => ?_)
    refine V_aload_n (B.cx hD (by decide) (by decide)) 0 (j := 0) (by decide +kernel) rfl ?_
    refine V_aload_n (B.cx hD (by decide) (by decide)) 1 (j := 1) (by decide +kernel) rfl ?_
    refine N_putF (ci := 10) (N := 6) (T := F_Tub) (Cn := "WithTheReds$Tub") B hD 0 0 t_Tub t_Tub_ok n_Tub rfl rfl (by decide) i_Tub (tt_c1 137 rfl rfl) rfl rfl rfl rfl rfl (Nat.le_of_ble_eq_true rfl) rfl (by decide +kernel) (fun hD => ?_)
    refine V_aload_n (B.cx hD (by decide) (by decide)) 0 (j := 0) (by decide +kernel) rfl ?_
    refine V_aload_n (B.cx hD (by decide) (by decide)) 2 (j := 2) (by decide +kernel) rfl ?_
    refine N_putF (ci := 10) (N := 6) (T := F_Tub) (Cn := "WithTheReds$Tub") B hD 0 1 t_Tub t_Tub_ok n_Tub rfl rfl (by decide) i_Tub (tt_c1 138 rfl rfl) rfl rfl rfl rfl rfl (Nat.le_of_ble_eq_true rfl) rfl (by decide +kernel) (fun hD => ?_)
    exact hR (fun k => ([q0] : List Nat).getD k 0) _ _ hD (by decide +kernel))
abbrev b_iHeaps : ByteArray := prog_5_method_1_code
def y_iHeaps : MethodName := ⟨"WithTheReds$Heaps", "<init>", "(LWithTheReds$Tub;)V"⟩
def BB_Heaps (c : Nat → ClassId) (h0 : Nat) (r1 : Nat) (u : Nat → Nat) : va_W := [(h0, .inr (3, [.ref r1, .ref (u 0), .ref (u 1), .ref (u 2), .ref (u 3), .ref (u 4), .int 0, .int 0, .int 0])), (u 0, .inl (c 0, 8, .inl (fun _ => 0))), (u 1, .inl (c 0, 256, .inl (fun _ => 0))), (u 2, .inl (c 0, 8, .inl (fun _ => 0))), (u 3, .inl (c 0, 8, .inl (fun _ => 0))), (u 4, .inl (c 0, 8, .inl (fun _ => 0)))]
def B0_Heaps (h0 : Nat) : va_W := [(h0, .inr (3, [.null, .null, .null, .null, .null, .null, .int 0, .int 0, .int 0]))]
set_option maxRecDepth 100000 in
set_option maxHeartbeats 4000000 in
theorem k_Heaps {l : Launch} {G : va_G} {c : Nat → ClassId} {h0 r1 : Nat} : CtN l y_iHeaps b_iHeaps 2 1 5 288 G (tysC c) [.ref h0, .ref r1] (B0_Heaps h0) (BB_Heaps c h0 r1) (fun _ _ _ => True) :=
  MetN (by decide +kernel) rfl (Nat.le_of_ble_eq_true rfl) (fun E A hE B hD hX hR => by
    refine V_aload_n (B.cx hD (by decide) (by decide)) 0 (j := 0) (by decide +kernel) rfl ?_
    refine N_obj B (by decide) (tt_c1 163 rfl rfl) (tt_c1 28 rfl rfl) (tt_c1 29 rfl rfl) (Nat.le_of_ble_eq_true rfl) (by decide +kernel) ?_
    refine V_aload_n (B.cx hD (by decide) (by decide)) 0 (j := 0) (by decide +kernel) rfl ?_
    refine V_bipush (v := 8) (n := 8) (B.cx hD (by decide) (by decide)) (by decide +kernel) (by decide) ?_
    refine N_newa (atype := .int) (ty := .int) (N' := 8) (a0 := (8, .inl (fun _ => 0))) B hD 0 rfl rfl (fun c1 c2 U h1 h2 => Option.some.inj (h1.symm.trans h2)) (tt_c1 64 rfl rfl) (fun cA => rfl) (by decide) (by decide) (by decide) (by decide) (by decide) (by decide +kernel) (fun q0 hD => ?_)
    refine N_putF (ci := 3) (N := 9) (T := F_Heaps) (Cn := "WithTheReds$Heaps") B hD 0 1 t_Heaps t_Heaps_ok n_Heaps rfl rfl (by decide) i_Heaps (tt_c1 165 rfl rfl) rfl rfl rfl rfl rfl (Nat.le_of_ble_eq_true rfl) rfl (by decide +kernel) (fun hD => ?_)
    refine V_aload_n (B.cx hD (by decide) (by decide)) 0 (j := 0) (by decide +kernel) rfl ?_
    refine V_sipush (v := 256) (n := 256) (B.cx hD (by decide) (by decide)) (by decide +kernel) (by decide) ?_
    refine N_newa (atype := .int) (ty := .int) (N' := 256) (a0 := (256, .inl (fun _ => 0))) B hD 0 rfl rfl (fun c1 c2 U h1 h2 => Option.some.inj (h1.symm.trans h2)) (tt_c1 64 rfl rfl) (fun cA => rfl) (by decide) (by decide) (by decide) (by decide) (by decide) (by decide +kernel) (fun q1 hD => ?_)
    refine N_putF (ci := 3) (N := 9) (T := F_Heaps) (Cn := "WithTheReds$Heaps") B hD 0 2 t_Heaps t_Heaps_ok n_Heaps rfl rfl (by decide) i_Heaps (tt_c1 166 rfl rfl) rfl rfl rfl rfl rfl (Nat.le_of_ble_eq_true rfl) rfl (by decide +kernel) (fun hD => ?_)
    refine V_aload_n (B.cx hD (by decide) (by decide)) 0 (j := 0) (by decide +kernel) rfl ?_
    refine V_bipush (v := 8) (n := 8) (B.cx hD (by decide) (by decide)) (by decide +kernel) (by decide) ?_
    refine N_newa (atype := .int) (ty := .int) (N' := 8) (a0 := (8, .inl (fun _ => 0))) B hD 0 rfl rfl (fun c1 c2 U h1 h2 => Option.some.inj (h1.symm.trans h2)) (tt_c1 64 rfl rfl) (fun cA => rfl) (by decide) (by decide) (by decide) (by decide) (by decide) (by decide +kernel) (fun q2 hD => ?_)
    refine N_putF (ci := 3) (N := 9) (T := F_Heaps) (Cn := "WithTheReds$Heaps") B hD 0 3 t_Heaps t_Heaps_ok n_Heaps rfl rfl (by decide) i_Heaps (tt_c1 167 rfl rfl) rfl rfl rfl rfl rfl (Nat.le_of_ble_eq_true rfl) rfl (by decide +kernel) (fun hD => ?_)
    refine V_aload_n (B.cx hD (by decide) (by decide)) 0 (j := 0) (by decide +kernel) rfl ?_
    refine V_bipush (v := 8) (n := 8) (B.cx hD (by decide) (by decide)) (by decide +kernel) (by decide) ?_
    refine N_newa (atype := .int) (ty := .int) (N' := 8) (a0 := (8, .inl (fun _ => 0))) B hD 0 rfl rfl (fun c1 c2 U h1 h2 => Option.some.inj (h1.symm.trans h2)) (tt_c1 64 rfl rfl) (fun cA => rfl) (by decide) (by decide) (by decide) (by decide) (by decide) (by decide +kernel) (fun q3 hD => ?_)
    refine N_putF (ci := 3) (N := 9) (T := F_Heaps) (Cn := "WithTheReds$Heaps") B hD 0 4 t_Heaps t_Heaps_ok n_Heaps rfl rfl (by decide) i_Heaps (tt_c1 168 rfl rfl) rfl rfl rfl rfl rfl (Nat.le_of_ble_eq_true rfl) rfl (by decide +kernel) (fun hD => ?_)
    refine V_aload_n (B.cx hD (by decide) (by decide)) 0 (j := 0) (by decide +kernel) rfl ?_
    refine V_bipush (v := 8) (n := 8) (B.cx hD (by decide) (by decide)) (by decide +kernel) (by decide) ?_
    refine N_newa (atype := .int) (ty := .int) (N' := 8) (a0 := (8, .inl (fun _ => 0))) B hD 0 rfl rfl (fun c1 c2 U h1 h2 => Option.some.inj (h1.symm.trans h2)) (tt_c1 64 rfl rfl) (fun cA => rfl) (by decide) (by decide) (by decide) (by decide) (by decide) (by decide +kernel) (fun q4 hD => ?_)
    refine N_putF (ci := 3) (N := 9) (T := F_Heaps) (Cn := "WithTheReds$Heaps") B hD 0 5 t_Heaps t_Heaps_ok n_Heaps rfl rfl (by decide) i_Heaps (tt_c1 169 rfl rfl) rfl rfl rfl rfl rfl (Nat.le_of_ble_eq_true rfl) rfl (by decide +kernel) (fun hD => ?_)
    refine V_aload_n (B.cx hD (by decide) (by decide)) 0 (j := 0) (by decide +kernel) rfl ?_
    refine V_aload_n (B.cx hD (by decide) (by decide)) 1 (j := 1) (by decide +kernel) rfl ?_
    refine N_putF (ci := 3) (N := 9) (T := F_Heaps) (Cn := "WithTheReds$Heaps") B hD 0 0 t_Heaps t_Heaps_ok n_Heaps rfl rfl (by decide) i_Heaps (tt_c1 164 rfl rfl) rfl rfl rfl rfl rfl (Nat.le_of_ble_eq_true rfl) rfl (by decide +kernel) (fun hD => ?_)
    exact hR (fun k => ([q0, q1, q2, q3, q4] : List Nat).getD k 0) _ _ hD (by decide +kernel))
abbrev b_iPlan : ByteArray := prog_7_method_1_code
def y_iPlan : MethodName := ⟨"WithTheReds$Plan", "<init>", "(LWithTheReds$Basket;)V"⟩
def BB_Plan (c : Nat → ClassId) (h0 : Nat) (r1 : Nat) (u : Nat → Nat) : va_W := [(h0, .inr (5, [.ref r1, .ref (u 0)])), (u 0, .inl (c 0, 10, .inl (fun _ => 0)))]
def B0_Plan (h0 : Nat) : va_W := [(h0, .inr (5, [.null, .null]))]
set_option maxRecDepth 100000 in
set_option maxHeartbeats 4000000 in
theorem k_Plan {l : Launch} {G : va_G} {c : Nat → ClassId} {h0 r1 : Nat} : CtN l y_iPlan b_iPlan 2 1 1 10 G (tysC c) [.ref h0, .ref r1] (B0_Plan h0) (BB_Plan c h0 r1) (fun _ _ _ => True) :=
  MetN (by decide +kernel) rfl (Nat.le_of_ble_eq_true rfl) (fun E A hE B hD hX hR => by
    refine V_aload_n (B.cx hD (by decide) (by decide)) 0 (j := 0) (by decide +kernel) rfl ?_
    refine N_obj B (by decide) (tt_c1 198 rfl rfl) (tt_c1 28 rfl rfl) (tt_c1 29 rfl rfl) (Nat.le_of_ble_eq_true rfl) (by decide +kernel) ?_
    refine V_aload_n (B.cx hD (by decide) (by decide)) 0 (j := 0) (by decide +kernel) rfl ?_
    refine V_bipush (v := 10) (n := 10) (B.cx hD (by decide) (by decide)) (by decide +kernel) (by decide) ?_
    refine N_newa (atype := .int) (ty := .int) (N' := 10) (a0 := (10, .inl (fun _ => 0))) B hD 0 rfl rfl (fun c1 c2 U h1 h2 => Option.some.inj (h1.symm.trans h2)) (tt_c1 64 rfl rfl) (fun cA => rfl) (by decide) (by decide) (by decide) (by decide) (by decide) (by decide +kernel) (fun q0 hD => ?_)
    refine N_putF (ci := 5) (N := 2) (T := F_Plan) (Cn := "WithTheReds$Plan") B hD 0 1 t_Plan t_Plan_ok n_Plan rfl rfl (by decide) i_Plan (tt_c1 200 rfl rfl) rfl rfl rfl rfl rfl (Nat.le_of_ble_eq_true rfl) rfl (by decide +kernel) (fun hD => ?_)
    refine V_aload_n (B.cx hD (by decide) (by decide)) 0 (j := 0) (by decide +kernel) rfl ?_
    refine V_aload_n (B.cx hD (by decide) (by decide)) 1 (j := 1) (by decide +kernel) rfl ?_
    refine N_putF (ci := 5) (N := 2) (T := F_Plan) (Cn := "WithTheReds$Plan") B hD 0 0 t_Plan t_Plan_ok n_Plan rfl rfl (by decide) i_Plan (tt_c1 199 rfl rfl) rfl rfl rfl rfl rfl (Nat.le_of_ble_eq_true rfl) rfl (by decide +kernel) (fun hD => ?_)
    exact hR (fun k => ([q0] : List Nat).getD k 0) _ _ hD (by decide +kernel))
abbrev b_iRope : ByteArray := prog_8_method_1_code
def y_iRope : MethodName := ⟨"WithTheReds$Rope", "<init>", "(LWithTheReds$Basket;)V"⟩
def BB_Rope (c : Nat → ClassId) (h0 : Nat) (r1 : Nat) (u : Nat → Nat) : va_W := [(h0, .inr (6, [.ref r1, .ref (u 0), .ref (u 1), .ref (u 2), .ref (u 3), .int 0, .int 0])), (u 0, .inl (c 0, 10, .inl (fun _ => 0))), (u 1, .inl (c 0, 10, .inl (fun _ => 0))), (u 2, .inl (c 0, 10, .inl (fun _ => 0))), (u 3, .inl (c 0, 10, .inl (fun _ => 0)))]
def B0_Rope (h0 : Nat) : va_W := [(h0, .inr (6, [.null, .null, .null, .null, .null, .int 0, .int 0]))]
set_option maxRecDepth 100000 in
set_option maxHeartbeats 4000000 in
theorem k_Rope {l : Launch} {G : va_G} {c : Nat → ClassId} {h0 r1 : Nat} : CtN l y_iRope b_iRope 2 1 4 40 G (tysC c) [.ref h0, .ref r1] (B0_Rope h0) (BB_Rope c h0 r1) (fun _ _ _ => True) :=
  MetN (by decide +kernel) rfl (Nat.le_of_ble_eq_true rfl) (fun E A hE B hD hX hR => by
    refine V_aload_n (B.cx hD (by decide) (by decide)) 0 (j := 0) (by decide +kernel) rfl ?_
    refine N_obj B (by decide) (tt_c1 211 rfl rfl) (tt_c1 28 rfl rfl) (tt_c1 29 rfl rfl) (Nat.le_of_ble_eq_true rfl) (by decide +kernel) ?_
    refine V_aload_n (B.cx hD (by decide) (by decide)) 0 (j := 0) (by decide +kernel) rfl ?_
    refine V_bipush (v := 10) (n := 10) (B.cx hD (by decide) (by decide)) (by decide +kernel) (by decide) ?_
    refine N_newa (atype := .int) (ty := .int) (N' := 10) (a0 := (10, .inl (fun _ => 0))) B hD 0 rfl rfl (fun c1 c2 U h1 h2 => Option.some.inj (h1.symm.trans h2)) (tt_c1 64 rfl rfl) (fun cA => rfl) (by decide) (by decide) (by decide) (by decide) (by decide) (by decide +kernel) (fun q0 hD => ?_)
    refine N_putF (ci := 6) (N := 7) (T := F_Rope) (Cn := "WithTheReds$Rope") B hD 0 1 t_Rope t_Rope_ok n_Rope rfl rfl (by decide) i_Rope (tt_c1 213 rfl rfl) rfl rfl rfl rfl rfl (Nat.le_of_ble_eq_true rfl) rfl (by decide +kernel) (fun hD => ?_)
    refine V_aload_n (B.cx hD (by decide) (by decide)) 0 (j := 0) (by decide +kernel) rfl ?_
    refine V_bipush (v := 10) (n := 10) (B.cx hD (by decide) (by decide)) (by decide +kernel) (by decide) ?_
    refine N_newa (atype := .int) (ty := .int) (N' := 10) (a0 := (10, .inl (fun _ => 0))) B hD 0 rfl rfl (fun c1 c2 U h1 h2 => Option.some.inj (h1.symm.trans h2)) (tt_c1 64 rfl rfl) (fun cA => rfl) (by decide) (by decide) (by decide) (by decide) (by decide) (by decide +kernel) (fun q1 hD => ?_)
    refine N_putF (ci := 6) (N := 7) (T := F_Rope) (Cn := "WithTheReds$Rope") B hD 0 2 t_Rope t_Rope_ok n_Rope rfl rfl (by decide) i_Rope (tt_c1 214 rfl rfl) rfl rfl rfl rfl rfl (Nat.le_of_ble_eq_true rfl) rfl (by decide +kernel) (fun hD => ?_)
    refine V_aload_n (B.cx hD (by decide) (by decide)) 0 (j := 0) (by decide +kernel) rfl ?_
    refine V_bipush (v := 10) (n := 10) (B.cx hD (by decide) (by decide)) (by decide +kernel) (by decide) ?_
    refine N_newa (atype := .int) (ty := .int) (N' := 10) (a0 := (10, .inl (fun _ => 0))) B hD 0 rfl rfl (fun c1 c2 U h1 h2 => Option.some.inj (h1.symm.trans h2)) (tt_c1 64 rfl rfl) (fun cA => rfl) (by decide) (by decide) (by decide) (by decide) (by decide) (by decide +kernel) (fun q2 hD => ?_)
    refine N_putF (ci := 6) (N := 7) (T := F_Rope) (Cn := "WithTheReds$Rope") B hD 0 3 t_Rope t_Rope_ok n_Rope rfl rfl (by decide) i_Rope (tt_c1 216 rfl rfl) rfl rfl rfl rfl rfl (Nat.le_of_ble_eq_true rfl) rfl (by decide +kernel) (fun hD => ?_)
    refine V_aload_n (B.cx hD (by decide) (by decide)) 0 (j := 0) (by decide +kernel) rfl ?_
    refine V_bipush (v := 10) (n := 10) (B.cx hD (by decide) (by decide)) (by decide +kernel) (by decide) ?_
    refine N_newa (atype := .int) (ty := .int) (N' := 10) (a0 := (10, .inl (fun _ => 0))) B hD 0 rfl rfl (fun c1 c2 U h1 h2 => Option.some.inj (h1.symm.trans h2)) (tt_c1 64 rfl rfl) (fun cA => rfl) (by decide) (by decide) (by decide) (by decide) (by decide) (by decide +kernel) (fun q3 hD => ?_)
    refine N_putF (ci := 6) (N := 7) (T := F_Rope) (Cn := "WithTheReds$Rope") B hD 0 4 t_Rope t_Rope_ok n_Rope rfl rfl (by decide) i_Rope (tt_c1 218 rfl rfl) rfl rfl rfl rfl rfl (Nat.le_of_ble_eq_true rfl) rfl (by decide +kernel) (fun hD => ?_)
    refine V_aload_n (B.cx hD (by decide) (by decide)) 0 (j := 0) (by decide +kernel) rfl ?_
    refine V_aload_n (B.cx hD (by decide) (by decide)) 1 (j := 1) (by decide +kernel) rfl ?_
    refine N_putF (ci := 6) (N := 7) (T := F_Rope) (Cn := "WithTheReds$Rope") B hD 0 0 t_Rope t_Rope_ok n_Rope rfl rfl (by decide) i_Rope (tt_c1 212 rfl rfl) rfl rfl rfl rfl rfl (Nat.le_of_ble_eq_true rfl) rfl (by decide +kernel) (fun hD => ?_)
    exact hR (fun k => ([q0, q1, q2, q3] : List Nat).getD k 0) _ _ hD (by decide +kernel))
abbrev b_iDeeds : ByteArray := prog_4_method_1_code
def y_iDeeds : MethodName := ⟨"WithTheReds$Deeds", "<init>", "(LWithTheReds$Basket;)V"⟩
def BB_Deeds (c : Nat → ClassId) (h0 : Nat) (r1 : Nat) (u : Nat → Nat) : va_W := [(h0, .inr (2, [.ref r1, .ref (u 0), .ref (u 1), .ref (u 2), .ref (u 3), .ref (u 4), .int (-1)])), (u 0, .inl (c 0, 4, .inl (fun _ => 0))), (u 1, .inl (c 0, 4, .inl (fun _ => 0))), (u 2, .inl (c 0, 10, .inl (fun _ => 0))), (u 3, .inl (c 0, 10, .inl (fun _ => 0))), (u 4, .inl (c 1, 10, .inl (fun _ => 0)))]
def B0_Deeds (h0 : Nat) : va_W := [(h0, .inr (2, [.null, .null, .null, .null, .null, .null, .int 0]))]
set_option maxRecDepth 100000 in
set_option maxHeartbeats 4000000 in
theorem k_Deeds {l : Launch} {G : va_G} {c : Nat → ClassId} {h0 r1 : Nat} : CtN l y_iDeeds b_iDeeds 2 1 5 38 G (tysC c) [.ref h0, .ref r1] (B0_Deeds h0) (BB_Deeds c h0 r1) (fun _ _ _ => True) :=
  MetN (by decide +kernel) rfl (Nat.le_of_ble_eq_true rfl) (fun E A hE B hD hX hR => by
    refine V_aload_n (B.cx hD (by decide) (by decide)) 0 (j := 0) (by decide +kernel) rfl ?_
    refine N_obj B (by decide) (tt_c2 4 rfl rfl) (tt_c1 28 rfl rfl) (tt_c1 29 rfl rfl) (Nat.le_of_ble_eq_true rfl) (by decide +kernel) ?_
    refine V_aload_n (B.cx hD (by decide) (by decide)) 0 (j := 0) (by decide +kernel) rfl ?_
    refine V_iconst (v := 4) (n := 4) (B.cx hD (by decide) (by decide)) (by decide +kernel) (by decide) ?_
    refine N_newa (atype := .int) (ty := .int) (N' := 4) (a0 := (4, .inl (fun _ => 0))) B hD 0 rfl rfl (fun c1 c2 U h1 h2 => Option.some.inj (h1.symm.trans h2)) (tt_c1 64 rfl rfl) (fun cA => rfl) (by decide) (by decide) (by decide) (by decide) (by decide) (by decide +kernel) (fun q0 hD => ?_)
    refine N_putF (ci := 2) (N := 7) (T := F_Deeds) (Cn := "WithTheReds$Deeds") B hD 0 1 t_Deeds t_Deeds_ok n_Deeds rfl rfl (by decide) i_Deeds (tt_c2 6 rfl rfl) rfl rfl rfl rfl rfl (Nat.le_of_ble_eq_true rfl) rfl (by decide +kernel) (fun hD => ?_)
    refine V_aload_n (B.cx hD (by decide) (by decide)) 0 (j := 0) (by decide +kernel) rfl ?_
    refine V_iconst (v := 4) (n := 4) (B.cx hD (by decide) (by decide)) (by decide +kernel) (by decide) ?_
    refine N_newa (atype := .int) (ty := .int) (N' := 4) (a0 := (4, .inl (fun _ => 0))) B hD 0 rfl rfl (fun c1 c2 U h1 h2 => Option.some.inj (h1.symm.trans h2)) (tt_c1 64 rfl rfl) (fun cA => rfl) (by decide) (by decide) (by decide) (by decide) (by decide) (by decide +kernel) (fun q1 hD => ?_)
    refine N_putF (ci := 2) (N := 7) (T := F_Deeds) (Cn := "WithTheReds$Deeds") B hD 0 2 t_Deeds t_Deeds_ok n_Deeds rfl rfl (by decide) i_Deeds (tt_c2 8 rfl rfl) rfl rfl rfl rfl rfl (Nat.le_of_ble_eq_true rfl) rfl (by decide +kernel) (fun hD => ?_)
    refine V_aload_n (B.cx hD (by decide) (by decide)) 0 (j := 0) (by decide +kernel) rfl ?_
    refine V_bipush (v := 10) (n := 10) (B.cx hD (by decide) (by decide)) (by decide +kernel) (by decide) ?_
    refine N_newa (atype := .int) (ty := .int) (N' := 10) (a0 := (10, .inl (fun _ => 0))) B hD 0 rfl rfl (fun c1 c2 U h1 h2 => Option.some.inj (h1.symm.trans h2)) (tt_c1 64 rfl rfl) (fun cA => rfl) (by decide) (by decide) (by decide) (by decide) (by decide) (by decide +kernel) (fun q2 hD => ?_)
    refine N_putF (ci := 2) (N := 7) (T := F_Deeds) (Cn := "WithTheReds$Deeds") B hD 0 3 t_Deeds t_Deeds_ok n_Deeds rfl rfl (by decide) i_Deeds (tt_c2 9 rfl rfl) rfl rfl rfl rfl rfl (Nat.le_of_ble_eq_true rfl) rfl (by decide +kernel) (fun hD => ?_)
    refine V_aload_n (B.cx hD (by decide) (by decide)) 0 (j := 0) (by decide +kernel) rfl ?_
    refine V_bipush (v := 10) (n := 10) (B.cx hD (by decide) (by decide)) (by decide +kernel) (by decide) ?_
    refine N_newa (atype := .int) (ty := .int) (N' := 10) (a0 := (10, .inl (fun _ => 0))) B hD 0 rfl rfl (fun c1 c2 U h1 h2 => Option.some.inj (h1.symm.trans h2)) (tt_c1 64 rfl rfl) (fun cA => rfl) (by decide) (by decide) (by decide) (by decide) (by decide) (by decide +kernel) (fun q3 hD => ?_)
    refine N_putF (ci := 2) (N := 7) (T := F_Deeds) (Cn := "WithTheReds$Deeds") B hD 0 4 t_Deeds t_Deeds_ok n_Deeds rfl rfl (by decide) i_Deeds (tt_c2 10 rfl rfl) rfl rfl rfl rfl rfl (Nat.le_of_ble_eq_true rfl) rfl (by decide +kernel) (fun hD => ?_)
    refine V_aload_n (B.cx hD (by decide) (by decide)) 0 (j := 0) (by decide +kernel) rfl ?_
    refine V_bipush (v := 10) (n := 10) (B.cx hD (by decide) (by decide)) (by decide +kernel) (by decide) ?_
    refine N_newa (atype := .boolean) (ty := .boolean) (N' := 10) (a0 := (10, .inl (fun _ => 0))) B hD 1 rfl rfl (fun c1 c2 U h1 h2 => Option.some.inj (h1.symm.trans h2)) (tt_c1 65 rfl rfl) (fun cA => rfl) (by decide) (by decide) (by decide) (by decide) (by decide) (by decide +kernel) (fun q4 hD => ?_)
    refine N_putF (ci := 2) (N := 7) (T := F_Deeds) (Cn := "WithTheReds$Deeds") B hD 0 5 t_Deeds t_Deeds_ok n_Deeds rfl rfl (by decide) i_Deeds (tt_c2 11 rfl rfl) rfl rfl rfl rfl rfl (Nat.le_of_ble_eq_true rfl) rfl (by decide +kernel) (fun hD => ?_)
    refine V_aload_n (B.cx hD (by decide) (by decide)) 0 (j := 0) (by decide +kernel) rfl ?_
    refine V_iconst (v := (-1)) (n := (-1)) (B.cx hD (by decide) (by decide)) (by decide +kernel) (by decide) ?_
    refine N_put (ci := 2) (N := 7) (T := F_Deeds) (Cn := "WithTheReds$Deeds") B hD 0 6 t_Deeds t_Deeds_ok n_Deeds rfl rfl (by decide) i_Deeds (tt_c2 12 rfl rfl) rfl rfl rfl rfl (Nat.le_of_ble_eq_true rfl) rfl (by decide +kernel) (fun hD => ?_)
    refine V_aload_n (B.cx hD (by decide) (by decide)) 0 (j := 0) (by decide +kernel) rfl ?_
    refine V_aload_n (B.cx hD (by decide) (by decide)) 1 (j := 1) (by decide +kernel) rfl ?_
    refine N_putF (ci := 2) (N := 7) (T := F_Deeds) (Cn := "WithTheReds$Deeds") B hD 0 0 t_Deeds t_Deeds_ok n_Deeds rfl rfl (by decide) i_Deeds (tt_c2 5 rfl rfl) rfl rfl rfl rfl rfl (Nat.le_of_ble_eq_true rfl) rfl (by decide +kernel) (fun hD => ?_)
    exact hR (fun k => ([q0, q1, q2, q3, q4] : List Nat).getD k 0) _ _ hD (by decide +kernel))
abbrev b_iChanges : ByteArray := prog_3_method_1_code
def y_iChanges : MethodName := ⟨"WithTheReds$Changes", "<init>", "()V"⟩
def BB_Changes (c : Nat → ClassId) (h0 : Nat) (u : Nat → Nat) : va_W := [(h0, .inr (1, [.ref (u 0), .ref (u 1), .ref (u 2), .int 0, .int 0])), (u 0, .inl (c 0, 40, .inl (fun _ => 0))), (u 1, .inl (c 0, 40, .inl (fun _ => 0))), (u 2, .inl (c 0, 40, .inl (fun _ => 0)))]
def B0_Changes (h0 : Nat) : va_W := [(h0, .inr (1, [.null, .null, .null, .int 0, .int 0]))]
set_option maxRecDepth 100000 in
set_option maxHeartbeats 4000000 in
theorem k_Changes {l : Launch} {G : va_G} {c : Nat → ClassId} {h0 : Nat} : CtN l y_iChanges b_iChanges 1 1 3 120 G (tysC c) [.ref h0] (B0_Changes h0) (BB_Changes c h0) (fun _ _ _ => True) :=
  MetN (by decide +kernel) rfl (Nat.le_of_ble_eq_true rfl) (fun E A hE B hD hX hR => by
    refine V_aload_n (B.cx hD (by decide) (by decide)) 0 (j := 0) (by decide +kernel) rfl ?_
    refine N_obj B (by decide) (tt_c2 33 rfl rfl) (tt_c1 28 rfl rfl) (tt_c1 29 rfl rfl) (Nat.le_of_ble_eq_true rfl) (by decide +kernel) ?_
    refine V_aload_n (B.cx hD (by decide) (by decide)) 0 (j := 0) (by decide +kernel) rfl ?_
    refine V_bipush (v := 40) (n := 40) (B.cx hD (by decide) (by decide)) (by decide +kernel) (by decide) ?_
    refine N_newa (atype := .int) (ty := .int) (N' := 40) (a0 := (40, .inl (fun _ => 0))) B hD 0 rfl rfl (fun c1 c2 U h1 h2 => Option.some.inj (h1.symm.trans h2)) (tt_c1 64 rfl rfl) (fun cA => rfl) (by decide) (by decide) (by decide) (by decide) (by decide) (by decide +kernel) (fun q0 hD => ?_)
    refine N_putF (ci := 1) (N := 5) (T := F_Changes) (Cn := "WithTheReds$Changes") B hD 0 0 t_Changes t_Changes_ok n_Changes rfl rfl (by decide) i_Changes (tt_c2 34 rfl rfl) rfl rfl rfl rfl rfl (Nat.le_of_ble_eq_true rfl) rfl (by decide +kernel) (fun hD => ?_)
    refine V_aload_n (B.cx hD (by decide) (by decide)) 0 (j := 0) (by decide +kernel) rfl ?_
    refine V_bipush (v := 40) (n := 40) (B.cx hD (by decide) (by decide)) (by decide +kernel) (by decide) ?_
    refine N_newa (atype := .int) (ty := .int) (N' := 40) (a0 := (40, .inl (fun _ => 0))) B hD 0 rfl rfl (fun c1 c2 U h1 h2 => Option.some.inj (h1.symm.trans h2)) (tt_c1 64 rfl rfl) (fun cA => rfl) (by decide) (by decide) (by decide) (by decide) (by decide) (by decide +kernel) (fun q1 hD => ?_)
    refine N_putF (ci := 1) (N := 5) (T := F_Changes) (Cn := "WithTheReds$Changes") B hD 0 1 t_Changes t_Changes_ok n_Changes rfl rfl (by decide) i_Changes (tt_c2 35 rfl rfl) rfl rfl rfl rfl rfl (Nat.le_of_ble_eq_true rfl) rfl (by decide +kernel) (fun hD => ?_)
    refine V_aload_n (B.cx hD (by decide) (by decide)) 0 (j := 0) (by decide +kernel) rfl ?_
    refine V_bipush (v := 40) (n := 40) (B.cx hD (by decide) (by decide)) (by decide +kernel) (by decide) ?_
    refine N_newa (atype := .int) (ty := .int) (N' := 40) (a0 := (40, .inl (fun _ => 0))) B hD 0 rfl rfl (fun c1 c2 U h1 h2 => Option.some.inj (h1.symm.trans h2)) (tt_c1 64 rfl rfl) (fun cA => rfl) (by decide) (by decide) (by decide) (by decide) (by decide) (by decide +kernel) (fun q2 hD => ?_)
    refine N_putF (ci := 1) (N := 5) (T := F_Changes) (Cn := "WithTheReds$Changes") B hD 0 2 t_Changes t_Changes_ok n_Changes rfl rfl (by decide) i_Changes (tt_c2 36 rfl rfl) rfl rfl rfl rfl rfl (Nat.le_of_ble_eq_true rfl) rfl (by decide +kernel) (fun hD => ?_)
    exact hR (fun k => ([q0, q1, q2] : List Nat).getD k 0) _ _ hD (by decide +kernel))
abbrev b_iSocks : ByteArray := prog_10_method_1_code
def y_iSocks : MethodName := ⟨"WithTheReds$Socks", "<init>", "()V"⟩
def BB_Socks (c : Nat → ClassId) (h0 : Nat) (u : Nat → Nat) : va_W := [(h0, .inr (8, [.ref (u 0), .ref (u 1), .int 0, .int 0])), (u 0, .inl (c 0, 50, .inl (fun _ => 0))), (u 1, .inl (c 0, 24, .inl (fun _ => 0)))]
def B0_Socks (h0 : Nat) : va_W := [(h0, .inr (8, [.null, .null, .int 0, .int 0]))]
set_option maxRecDepth 100000 in
set_option maxHeartbeats 4000000 in
theorem k_Socks {l : Launch} {G : va_G} {c : Nat → ClassId} {h0 : Nat} : CtN l y_iSocks b_iSocks 1 1 2 74 G (tysC c) [.ref h0] (B0_Socks h0) (BB_Socks c h0) (fun _ _ _ => True) :=
  MetN (by decide +kernel) rfl (Nat.le_of_ble_eq_true rfl) (fun E A hE B hD hX hR => by
    refine V_aload_n (B.cx hD (by decide) (by decide)) 0 (j := 0) (by decide +kernel) rfl ?_
    refine N_obj B (by decide) (tt_c2 57 rfl rfl) (tt_c1 28 rfl rfl) (tt_c1 29 rfl rfl) (Nat.le_of_ble_eq_true rfl) (by decide +kernel) ?_
    refine V_aload_n (B.cx hD (by decide) (by decide)) 0 (j := 0) (by decide +kernel) rfl ?_
    refine V_bipush (v := 50) (n := 50) (B.cx hD (by decide) (by decide)) (by decide +kernel) (by decide) ?_
    refine N_newa (atype := .int) (ty := .int) (N' := 50) (a0 := (50, .inl (fun _ => 0))) B hD 0 rfl rfl (fun c1 c2 U h1 h2 => Option.some.inj (h1.symm.trans h2)) (tt_c1 64 rfl rfl) (fun cA => rfl) (by decide) (by decide) (by decide) (by decide) (by decide) (by decide +kernel) (fun q0 hD => ?_)
    refine N_putF (ci := 8) (N := 4) (T := F_Socks) (Cn := "WithTheReds$Socks") B hD 0 0 t_Socks t_Socks_ok n_Socks rfl rfl (by decide) i_Socks (tt_c2 58 rfl rfl) rfl rfl rfl rfl rfl (Nat.le_of_ble_eq_true rfl) rfl (by decide +kernel) (fun hD => ?_)
    refine V_aload_n (B.cx hD (by decide) (by decide)) 0 (j := 0) (by decide +kernel) rfl ?_
    refine V_bipush (v := 24) (n := 24) (B.cx hD (by decide) (by decide)) (by decide +kernel) (by decide) ?_
    refine N_newa (atype := .int) (ty := .int) (N' := 24) (a0 := (24, .inl (fun _ => 0))) B hD 0 rfl rfl (fun c1 c2 U h1 h2 => Option.some.inj (h1.symm.trans h2)) (tt_c1 64 rfl rfl) (fun cA => rfl) (by decide) (by decide) (by decide) (by decide) (by decide) (by decide +kernel) (fun q1 hD => ?_)
    refine N_putF (ci := 8) (N := 4) (T := F_Socks) (Cn := "WithTheReds$Socks") B hD 0 1 t_Socks t_Socks_ok n_Socks rfl rfl (by decide) i_Socks (tt_c2 60 rfl rfl) rfl rfl rfl rfl rfl (Nat.le_of_ble_eq_true rfl) rfl (by decide +kernel) (fun hD => ?_)
    exact hR (fun k => ([q0, q1] : List Nat).getD k 0) _ _ hD (by decide +kernel))
abbrev b_iShelf : ByteArray := prog_9_method_1_code
def y_iShelf : MethodName := ⟨"WithTheReds$Shelf", "<init>", "()V"⟩
def BB_Shelf (c : Nat → ClassId) (h0 : Nat) (u : Nat → Nat) : va_W := [(h0, .inr (7, [.ref (u 0), .int (-2), .int (-1), .int 0])), (u 0, .inl (c 4, 60, .inr (.inl (fun _ => 0))))]
def B0_Shelf (h0 : Nat) : va_W := [(h0, .inr (7, [.null, .int 0, .int 0, .int 0]))]
set_option maxRecDepth 100000 in
set_option maxHeartbeats 4000000 in
theorem k_Shelf {l : Launch} {G : va_G} {c : Nat → ClassId} {h0 : Nat} : CtN l y_iShelf b_iShelf 1 1 1 60 G (tysC c) [.ref h0] (B0_Shelf h0) (BB_Shelf c h0) (fun _ _ _ => True) :=
  MetN (by decide +kernel) rfl (Nat.le_of_ble_eq_true rfl) (fun E A hE B hD hX hR => by
    refine V_aload_n (B.cx hD (by decide) (by decide)) 0 (j := 0) (by decide +kernel) rfl ?_
    refine N_obj B (by decide) (tt_c2 81 rfl rfl) (tt_c1 28 rfl rfl) (tt_c1 29 rfl rfl) (Nat.le_of_ble_eq_true rfl) (by decide +kernel) ?_
    refine V_aload_n (B.cx hD (by decide) (by decide)) 0 (j := 0) (by decide +kernel) rfl ?_
    refine V_bipush (v := 60) (n := 60) (B.cx hD (by decide) (by decide)) (by decide +kernel) (by decide) ?_
    refine N_newa (atype := .long) (ty := .long) (N' := 60) (a0 := (60, .inr (.inl (fun _ => 0)))) B hD 4 rfl rfl (fun c1 c2 U h1 h2 => Option.some.inj (h1.symm.trans h2)) (tt_c2 99 rfl rfl) (fun cA => rfl) (by decide) (by decide) (by decide) (by decide) (by decide) (by decide +kernel) (fun q0 hD => ?_)
    refine N_putF (ci := 7) (N := 4) (T := F_Shelf) (Cn := "WithTheReds$Shelf") B hD 0 0 t_Shelf t_Shelf_ok n_Shelf rfl rfl (by decide) i_Shelf (tt_c2 82 rfl rfl) rfl rfl rfl rfl rfl (Nat.le_of_ble_eq_true rfl) rfl (by decide +kernel) (fun hD => ?_)
    refine V_aload_n (B.cx hD (by decide) (by decide)) 0 (j := 0) (by decide +kernel) rfl ?_
    refine V_bipush (v := (-2)) (n := (-2)) (B.cx hD (by decide) (by decide)) (by decide +kernel) (by decide) ?_
    refine N_put (ci := 7) (N := 4) (T := F_Shelf) (Cn := "WithTheReds$Shelf") B hD 0 1 t_Shelf t_Shelf_ok n_Shelf rfl rfl (by decide) i_Shelf (tt_c2 85 rfl rfl) rfl rfl rfl rfl (Nat.le_of_ble_eq_true rfl) rfl (by decide +kernel) (fun hD => ?_)
    refine V_aload_n (B.cx hD (by decide) (by decide)) 0 (j := 0) (by decide +kernel) rfl ?_
    refine V_iconst (v := (-1)) (n := (-1)) (B.cx hD (by decide) (by decide)) (by decide +kernel) (by decide) ?_
    refine N_put (ci := 7) (N := 4) (T := F_Shelf) (Cn := "WithTheReds$Shelf") B hD 0 2 t_Shelf t_Shelf_ok n_Shelf rfl rfl (by decide) i_Shelf (tt_c2 87 rfl rfl) rfl rfl rfl rfl (Nat.le_of_ble_eq_true rfl) rfl (by decide +kernel) (fun hD => ?_)
    exact hR (fun k => ([q0] : List Nat).getD k 0) _ _ hD (by decide +kernel))
