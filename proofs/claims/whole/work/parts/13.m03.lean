-- TideRakes$Script.<init>
def Scri_init (F : Nat) (l0 : Int) (h : Hp) : Option (Int × Hp) :=
  vc h l0 106 <|
  na h 0 8 fun v1 h2 =>
  pf h2 l0 106 0 v1 fun h3 =>
  na h3 0 8 fun v4 h5 =>
  pf h5 l0 106 1 v4 fun h6 =>
  na h6 0 8 fun v7 h8 =>
  pf h8 l0 106 2 v7 fun h9 =>
  na h9 0 8 fun v10 h11 =>
  pf h11 l0 106 3 v10 fun h12 =>
  na h12 0 3 fun v13 h14 =>
  pf h14 l0 106 5 v13 fun h15 =>
  na h15 0 3 fun v16 h17 =>
  pf h17 l0 106 6 v16 fun h18 =>
  na h18 0 3 fun v19 h20 =>
  pf h20 l0 106 7 v19 fun h21 =>
  no h21 100 5 fun v22 h23 =>
  iv h23 v22 100 (Laws_init F v22 h23) fun r24 h25 =>
  pf h25 l0 106 14 v22 fun h26 =>
  some (0, h26)

theorem dc_Scri_init_0 : ∀ q ∈ ([(0, .aload_n 0, 1), (1, .invokespecial 3, 3), (4, .aload_n 0, 1), (5, .bipush 8, 2), (7, .newarray .int, 2), (9, .putfield 9, 3), (12, .aload_n 0, 1), (13, .bipush 8, 2), (15, .newarray .int, 2), (17, .putfield 15, 3), (20, .aload_n 0, 1), (21, .bipush 8, 2), (23, .newarray .int, 2), (25, .putfield 18, 3), (28, .aload_n 0, 1), (29, .bipush 8, 2), (31, .newarray .int, 2), (33, .putfield 21, 3), (36, .aload_n 0, 1), (37, .iconst 3, 1), (38, .newarray .int, 2), (40, .putfield 24, 3), (43, .aload_n 0, 1), (44, .iconst 3, 1), (45, .newarray .int, 2), (47, .putfield 27, 3), (50, .aload_n 0, 1), (51, .iconst 3, 1), (52, .newarray .int, 2), (54, .putfield 30, 3), (57, .aload_n 0, 1), (58, .new 33, 3), (61, .dup, 1), (62, .invokespecial 35, 3), (65, .putfield 36, 3), (68, .return_, 1)] : List (Nat × Instr × Nat)), decode cX6_init q.1 = .ok (q.2.1, q.2.2) := by decide +kernel
abbrev X_Scri_init : MX := (cX6_init, RX6, "<init>", 1, none, 2, 40)
theorem v_Scri_init (F : Nat) (l0 : Int) (h : Hp) : V X_Scri_init 0 [(0, 2, l0)] [] h (Scri_init F l0 h) := by
  unfold Scri_init
  refine V_aload_n (pc := 0) (DCa dc_Scri_init_0 0 rfl) rfl 0 rfl ?_
  refine Q_objinit (pc := 1) (DCa dc_Scri_init_0 1 rfl) (tb1 42 rfl rfl) oi_i oi_c ⟨Nat.le_of_ble_eq_true rfl, Nat.le_of_ble_eq_true rfl⟩ ?_
  refine V_aload_n (pc := 4) (DCa dc_Scri_init_0 2 rfl) rfl 0 rfl ?_
  refine V_bipush (pc := 5) (DCa dc_Scri_init_0 3 rfl) (by decide) ?_
  refine Q_newa (pc := 7) (DCa dc_Scri_init_0 4 rfl) nas_0 (fun v1 h2 => ?_)
  refine Q_putf (k := 0) (pc := 9) (DCa dc_Scri_init_0 5 rfl) cls_6 (Nat.le_of_ble_eq_true rfl) fl_6_9 rfl rfl rfl (Or.inr ⟨rfl, rfl, rfl⟩) (Or.inr ⟨Or.inr ⟨_, rfl⟩, rfl⟩) (fun h3 => ?_)
  refine V_aload_n (pc := 12) (DCa dc_Scri_init_0 6 rfl) rfl 0 rfl ?_
  refine V_bipush (pc := 13) (DCa dc_Scri_init_0 7 rfl) (by decide) ?_
  refine Q_newa (pc := 15) (DCa dc_Scri_init_0 8 rfl) nas_0 (fun v4 h5 => ?_)
  refine Q_putf (k := 1) (pc := 17) (DCa dc_Scri_init_0 9 rfl) cls_6 (Nat.le_of_ble_eq_true rfl) fl_6_15 rfl rfl rfl (Or.inr ⟨rfl, rfl, rfl⟩) (Or.inr ⟨Or.inr ⟨_, rfl⟩, rfl⟩) (fun h6 => ?_)
  refine V_aload_n (pc := 20) (DCa dc_Scri_init_0 10 rfl) rfl 0 rfl ?_
  refine V_bipush (pc := 21) (DCa dc_Scri_init_0 11 rfl) (by decide) ?_
  refine Q_newa (pc := 23) (DCa dc_Scri_init_0 12 rfl) nas_0 (fun v7 h8 => ?_)
  refine Q_putf (k := 2) (pc := 25) (DCa dc_Scri_init_0 13 rfl) cls_6 (Nat.le_of_ble_eq_true rfl) fl_6_18 rfl rfl rfl (Or.inr ⟨rfl, rfl, rfl⟩) (Or.inr ⟨Or.inr ⟨_, rfl⟩, rfl⟩) (fun h9 => ?_)
  refine V_aload_n (pc := 28) (DCa dc_Scri_init_0 14 rfl) rfl 0 rfl ?_
  refine V_bipush (pc := 29) (DCa dc_Scri_init_0 15 rfl) (by decide) ?_
  refine Q_newa (pc := 31) (DCa dc_Scri_init_0 16 rfl) nas_0 (fun v10 h11 => ?_)
  refine Q_putf (k := 3) (pc := 33) (DCa dc_Scri_init_0 17 rfl) cls_6 (Nat.le_of_ble_eq_true rfl) fl_6_21 rfl rfl rfl (Or.inr ⟨rfl, rfl, rfl⟩) (Or.inr ⟨Or.inr ⟨_, rfl⟩, rfl⟩) (fun h12 => ?_)
  refine V_aload_n (pc := 36) (DCa dc_Scri_init_0 18 rfl) rfl 0 rfl ?_
  refine V_iconst (pc := 37) (DCa dc_Scri_init_0 19 rfl) (by decide) ?_
  refine Q_newa (pc := 38) (DCa dc_Scri_init_0 20 rfl) nas_0 (fun v13 h14 => ?_)
  refine Q_putf (k := 5) (pc := 40) (DCa dc_Scri_init_0 21 rfl) cls_6 (Nat.le_of_ble_eq_true rfl) fl_6_24 rfl rfl rfl (Or.inr ⟨rfl, rfl, rfl⟩) (Or.inr ⟨Or.inr ⟨_, rfl⟩, rfl⟩) (fun h15 => ?_)
  refine V_aload_n (pc := 43) (DCa dc_Scri_init_0 22 rfl) rfl 0 rfl ?_
  refine V_iconst (pc := 44) (DCa dc_Scri_init_0 23 rfl) (by decide) ?_
  refine Q_newa (pc := 45) (DCa dc_Scri_init_0 24 rfl) nas_0 (fun v16 h17 => ?_)
  refine Q_putf (k := 6) (pc := 47) (DCa dc_Scri_init_0 25 rfl) cls_6 (Nat.le_of_ble_eq_true rfl) fl_6_27 rfl rfl rfl (Or.inr ⟨rfl, rfl, rfl⟩) (Or.inr ⟨Or.inr ⟨_, rfl⟩, rfl⟩) (fun h18 => ?_)
  refine V_aload_n (pc := 50) (DCa dc_Scri_init_0 26 rfl) rfl 0 rfl ?_
  refine V_iconst (pc := 51) (DCa dc_Scri_init_0 27 rfl) (by decide) ?_
  refine Q_newa (pc := 52) (DCa dc_Scri_init_0 28 rfl) nas_0 (fun v19 h20 => ?_)
  refine Q_putf (k := 7) (pc := 54) (DCa dc_Scri_init_0 29 rfl) cls_6 (Nat.le_of_ble_eq_true rfl) fl_6_30 rfl rfl rfl (Or.inr ⟨rfl, rfl, rfl⟩) (Or.inr ⟨Or.inr ⟨_, rfl⟩, rfl⟩) (fun h21 => ?_)
  refine V_aload_n (pc := 57) (DCa dc_Scri_init_0 30 rfl) rfl 0 rfl ?_
  refine Q_new (pc := 58) (DCa dc_Scri_init_0 31 rfl) cls_0 (tb1 43 rfl rfl) rfl rfl (fun v22 h23 => ?_)
  refine V_dup (pc := 61) (DCa dc_Scri_init_0 32 rfl) rfl ?_
  refine Q_calliN (ci := 0) (host := "TideRakes") (st := [(2, v22), (2, l0)]) (pc := 62) (DCa dc_Scri_init_0 33 rfl) (sp_Laws_init F _ _) ce_Laws_init (by decide +kernel) rfl rfl ⟨Nat.le_of_ble_eq_true rfl, Nat.le_of_ble_eq_true rfl⟩ rfl (Nat.le_of_ble_eq_true rfl) (fun r24 h25 => ?_)
  refine Q_putf (k := 14) (pc := 65) (DCa dc_Scri_init_0 34 rfl) cls_6 (Nat.le_of_ble_eq_true rfl) fl_6_36 rfl rfl rfl (Or.inr ⟨rfl, rfl, rfl⟩) (Or.inr ⟨Or.inl ⟨_, rfl⟩, rfl⟩) (fun h26 => ?_)
  exact V_return (pc := 68) (DCa dc_Scri_init_0 35 rfl) rfl
theorem sp_Scri_init (F : Nat) (l0 : Int) (h : Hp) : Sp yX6_init cX6_init 1 none 2 40 [(2, l0)] h (Scri_init F l0 h) := Sp_of (by decide +kernel) rfl rfl (Nat.le_of_ble_eq_true rfl) (v_Scri_init F l0 h)

-- TideRakes$Script.clear
def Scri_clear (F : Nat) (l0 : Int) (h : Hp) : Option (Int × Hp) :=
  pf h l0 106 4 0 fun h1 =>
  pf h1 l0 106 8 0 fun h2 =>
  pf h2 l0 106 9 1 fun h3 =>
  pf h3 l0 106 10 600 fun h4 =>
  pf h4 l0 106 11 0 fun h5 =>
  pf h5 l0 106 12 0 fun h6 =>
  pf h6 l0 106 13 0 fun h7 =>
  gf h7 l0 106 14 fun v8 =>
  iv h7 v8 100 (Laws_clear F v8 h7) fun r9 h10 =>
  some (0, h10)

theorem dc_Scri_clear_0 : ∀ q ∈ ([(0, .aload_n 0, 1), (1, .iconst 0, 1), (2, .putfield 40, 3), (5, .aload_n 0, 1), (6, .iconst 0, 1), (7, .putfield 44, 3), (10, .aload_n 0, 1), (11, .iconst 1, 1), (12, .putfield 47, 3), (15, .aload_n 0, 1), (16, .sipush 600, 3), (19, .putfield 50, 3), (22, .aload_n 0, 1), (23, .iconst 0, 1), (24, .putfield 53, 3), (27, .aload_n 0, 1), (28, .iconst 0, 1), (29, .putfield 56, 3), (32, .aload_n 0, 1), (33, .iconst 0, 1), (34, .putfield 59, 3), (37, .aload_n 0, 1), (38, .getfield 36, 3), (41, .invokevirtual 62, 3), (44, .return_, 1)] : List (Nat × Instr × Nat)), decode cX6_clear q.1 = .ok (q.2.1, q.2.2) := by decide +kernel
abbrev X_Scri_clear : MX := (cX6_clear, RX6, "clear", 1, none, 4, 85)
theorem v_Scri_clear (F : Nat) (l0 : Int) (h : Hp) : V X_Scri_clear 0 [(0, 2, l0)] [] h (Scri_clear F l0 h) := by
  unfold Scri_clear
  refine V_aload_n (pc := 0) (DCa dc_Scri_clear_0 0 rfl) rfl 0 rfl ?_
  refine V_iconst (pc := 1) (DCa dc_Scri_clear_0 1 rfl) (by decide) ?_
  refine Q_putf (k := 4) (pc := 2) (DCa dc_Scri_clear_0 2 rfl) cls_6 (Nat.le_of_ble_eq_true rfl) fl_6_40 rfl rfl rfl (Or.inl rfl) (Or.inl ⟨rfl, rfl⟩) (fun h1 => ?_)
  refine V_aload_n (pc := 5) (DCa dc_Scri_clear_0 3 rfl) rfl 0 rfl ?_
  refine V_iconst (pc := 6) (DCa dc_Scri_clear_0 4 rfl) (by decide) ?_
  refine Q_putf (k := 8) (pc := 7) (DCa dc_Scri_clear_0 5 rfl) cls_6 (Nat.le_of_ble_eq_true rfl) fl_6_44 rfl rfl rfl (Or.inl rfl) (Or.inl ⟨rfl, rfl⟩) (fun h2 => ?_)
  refine V_aload_n (pc := 10) (DCa dc_Scri_clear_0 6 rfl) rfl 0 rfl ?_
  refine V_iconst (pc := 11) (DCa dc_Scri_clear_0 7 rfl) (by decide) ?_
  refine Q_putf (k := 9) (pc := 12) (DCa dc_Scri_clear_0 8 rfl) cls_6 (Nat.le_of_ble_eq_true rfl) fl_6_47 rfl rfl rfl (Or.inl rfl) (Or.inl ⟨rfl, rfl⟩) (fun h3 => ?_)
  refine V_aload_n (pc := 15) (DCa dc_Scri_clear_0 9 rfl) rfl 0 rfl ?_
  refine V_sipush (pc := 16) (DCa dc_Scri_clear_0 10 rfl) (by decide) ?_
  refine Q_putf (k := 10) (pc := 19) (DCa dc_Scri_clear_0 11 rfl) cls_6 (Nat.le_of_ble_eq_true rfl) fl_6_50 rfl rfl rfl (Or.inl rfl) (Or.inl ⟨rfl, rfl⟩) (fun h4 => ?_)
  refine V_aload_n (pc := 22) (DCa dc_Scri_clear_0 12 rfl) rfl 0 rfl ?_
  refine V_iconst (pc := 23) (DCa dc_Scri_clear_0 13 rfl) (by decide) ?_
  refine Q_putf (k := 11) (pc := 24) (DCa dc_Scri_clear_0 14 rfl) cls_6 (Nat.le_of_ble_eq_true rfl) fl_6_53 rfl rfl rfl (Or.inl rfl) (Or.inl ⟨rfl, rfl⟩) (fun h5 => ?_)
  refine V_aload_n (pc := 27) (DCa dc_Scri_clear_0 15 rfl) rfl 0 rfl ?_
  refine V_iconst (pc := 28) (DCa dc_Scri_clear_0 16 rfl) (by decide) ?_
  refine Q_putf (k := 12) (pc := 29) (DCa dc_Scri_clear_0 17 rfl) cls_6 (Nat.le_of_ble_eq_true rfl) fl_6_56 rfl rfl rfl (Or.inl rfl) (Or.inl ⟨rfl, rfl⟩) (fun h6 => ?_)
  refine V_aload_n (pc := 32) (DCa dc_Scri_clear_0 18 rfl) rfl 0 rfl ?_
  refine V_iconst (pc := 33) (DCa dc_Scri_clear_0 19 rfl) (by decide) ?_
  refine Q_putf (k := 13) (pc := 34) (DCa dc_Scri_clear_0 20 rfl) cls_6 (Nat.le_of_ble_eq_true rfl) fl_6_59 rfl rfl rfl (Or.inl rfl) (Or.inl ⟨rfl, rfl⟩) (fun h7 => ?_)
  refine V_aload_n (pc := 37) (DCa dc_Scri_clear_0 21 rfl) rfl 0 rfl ?_
  refine Q_getf (k := 14) (pc := 38) (DCa dc_Scri_clear_0 22 rfl) cls_6 (Nat.le_of_ble_eq_true rfl) fl_6_36 rfl rfl rfl (fun v8 => ?_)
  refine Q_callv (ci := 0) (st := []) (pc := 41) (DCa dc_Scri_clear_0 23 rfl) (sp_Laws_clear F _ _) ce_Laws_clear ml_6_62 rfl rfl ⟨Nat.le_of_ble_eq_true rfl, Nat.le_of_ble_eq_true rfl⟩ rfl (Nat.le_of_ble_eq_true rfl) (fun r9 h10 => ?_)
  exact V_return (pc := 44) (DCa dc_Scri_clear_0 24 rfl) rfl
theorem sp_Scri_clear (F : Nat) (l0 : Int) (h : Hp) : Sp yX6_clear cX6_clear 1 none 4 85 [(2, l0)] h (Scri_clear F l0 h) := Sp_of (by decide +kernel) rfl rfl (Nat.le_of_ble_eq_true rfl) (v_Scri_clear F l0 h)

-- TideRakes$Script.farFromPeg
def Scri_farFromPeg (F : Nat) (l0 l1 : Int) (h : Hp) : Option (Int × Hp) :=
  gf h l0 106 0 fun v1 =>
  al h v1 0 l1 fun v2 =>
  gf h l0 106 1 fun v3 =>
  al h v3 0 l1 fun v4 =>
  gf h l0 106 11 fun v5 =>
  gf h l0 106 12 fun v6 =>
  cl (Tide_far F v2 v4 v5 v6 h) fun r7 h8 =>
  some (r7, h8)

theorem dc_Scri_farFromPeg_0 : ∀ q ∈ ([(0, .aload_n 0, 1), (1, .getfield 9, 3), (4, .iload_n 1, 1), (5, .iaload, 1), (6, .aload_n 0, 1), (7, .getfield 15, 3), (10, .iload_n 1, 1), (11, .iaload, 1), (12, .aload_n 0, 1), (13, .getfield 53, 3), (16, .aload_n 0, 1), (17, .getfield 56, 3), (20, .invokestatic 65, 3), (23, .ireturn, 1)] : List (Nat × Instr × Nat)), decode cX6_farFromPeg q.1 = .ok (q.2.1, q.2.2) := by decide +kernel
abbrev X_Scri_farFromPeg : MX := (cX6_farFromPeg, RX6, "farFromPeg", 2, (some (.int)), 2, 43)
theorem v_Scri_farFromPeg (F : Nat) (l0 l1 : Int) (h : Hp) : V X_Scri_farFromPeg 0 [(0, 2, l0), (1, 0, l1)] [] h (Scri_farFromPeg F l0 l1 h) := by
  unfold Scri_farFromPeg
  refine V_aload_n (pc := 0) (DCa dc_Scri_farFromPeg_0 0 rfl) rfl 0 rfl ?_
  refine Q_getf (k := 0) (pc := 1) (DCa dc_Scri_farFromPeg_0 1 rfl) cls_6 (Nat.le_of_ble_eq_true rfl) fl_6_9 rfl rfl rfl (fun v1 => ?_)
  refine V_iload_n (pc := 4) (DCa dc_Scri_farFromPeg_0 2 rfl) rfl 1 rfl ?_
  refine Q_iaload (pc := 5) (DCa dc_Scri_farFromPeg_0 3 rfl) (fun v2 => ?_)
  refine V_aload_n (pc := 6) (DCa dc_Scri_farFromPeg_0 4 rfl) rfl 0 rfl ?_
  refine Q_getf (k := 1) (pc := 7) (DCa dc_Scri_farFromPeg_0 5 rfl) cls_6 (Nat.le_of_ble_eq_true rfl) fl_6_15 rfl rfl rfl (fun v3 => ?_)
  refine V_iload_n (pc := 10) (DCa dc_Scri_farFromPeg_0 6 rfl) rfl 1 rfl ?_
  refine Q_iaload (pc := 11) (DCa dc_Scri_farFromPeg_0 7 rfl) (fun v4 => ?_)
  refine V_aload_n (pc := 12) (DCa dc_Scri_farFromPeg_0 8 rfl) rfl 0 rfl ?_
  refine Q_getf (k := 11) (pc := 13) (DCa dc_Scri_farFromPeg_0 9 rfl) cls_6 (Nat.le_of_ble_eq_true rfl) fl_6_53 rfl rfl rfl (fun v5 => ?_)
  refine V_aload_n (pc := 16) (DCa dc_Scri_farFromPeg_0 10 rfl) rfl 0 rfl ?_
  refine Q_getf (k := 12) (pc := 17) (DCa dc_Scri_farFromPeg_0 11 rfl) cls_6 (Nat.le_of_ble_eq_true rfl) fl_6_56 rfl rfl rfl (fun v6 => ?_)
  refine Q_callsN (st := []) (host := "TideRakes") (pc := 20) (DCa dc_Scri_farFromPeg_0 12 rfl) (sp_Tide_far F _ _ _ _ _) ce_Tide_far (by decide +kernel) rfl ⟨Nat.le_of_ble_eq_true rfl, Nat.le_of_ble_eq_true rfl⟩ rfl (Nat.le_of_ble_eq_true rfl) (fun r7 h8 => ?_)
  exact V_ireturn (pc := 23) (DCa dc_Scri_farFromPeg_0 13 rfl) rfl
theorem sp_Scri_farFromPeg (F : Nat) (l0 l1 : Int) (h : Hp) : Sp yX6_farFromPeg cX6_farFromPeg 2 (some (.int)) 2 43 [(2, l0), (0, l1)] h (Scri_farFromPeg F l0 l1 h) := Sp_of (by decide +kernel) rfl rfl (Nat.le_of_ble_eq_true rfl) (v_Scri_farFromPeg F l0 l1 h)

-- TideRakes$Script.farBetween
def Scri_farBetween (F : Nat) (l0 l1 l2 : Int) (h : Hp) : Option (Int × Hp) :=
  gf h l0 106 0 fun v1 =>
  al h v1 0 l1 fun v2 =>
  gf h l0 106 1 fun v3 =>
  al h v3 0 l1 fun v4 =>
  gf h l0 106 0 fun v5 =>
  al h v5 0 l2 fun v6 =>
  gf h l0 106 1 fun v7 =>
  al h v7 0 l2 fun v8 =>
  cl (Tide_far F v2 v4 v6 v8 h) fun r9 h10 =>
  some (r9, h10)

theorem dc_Scri_farBetween_0 : ∀ q ∈ ([(0, .aload_n 0, 1), (1, .getfield 9, 3), (4, .iload_n 1, 1), (5, .iaload, 1), (6, .aload_n 0, 1), (7, .getfield 15, 3), (10, .iload_n 1, 1), (11, .iaload, 1), (12, .aload_n 0, 1), (13, .getfield 9, 3), (16, .iload_n 2, 1), (17, .iaload, 1), (18, .aload_n 0, 1), (19, .getfield 15, 3), (22, .iload_n 2, 1), (23, .iaload, 1), (24, .invokestatic 65, 3), (27, .ireturn, 1)] : List (Nat × Instr × Nat)), decode cX6_farBetween q.1 = .ok (q.2.1, q.2.2) := by decide +kernel
abbrev X_Scri_farBetween : MX := (cX6_farBetween, RX6, "farBetween", 3, (some (.int)), 2, 43)
theorem v_Scri_farBetween (F : Nat) (l0 l1 l2 : Int) (h : Hp) : V X_Scri_farBetween 0 [(0, 2, l0), (1, 0, l1), (2, 0, l2)] [] h (Scri_farBetween F l0 l1 l2 h) := by
  unfold Scri_farBetween
  refine V_aload_n (pc := 0) (DCa dc_Scri_farBetween_0 0 rfl) rfl 0 rfl ?_
  refine Q_getf (k := 0) (pc := 1) (DCa dc_Scri_farBetween_0 1 rfl) cls_6 (Nat.le_of_ble_eq_true rfl) fl_6_9 rfl rfl rfl (fun v1 => ?_)
  refine V_iload_n (pc := 4) (DCa dc_Scri_farBetween_0 2 rfl) rfl 1 rfl ?_
  refine Q_iaload (pc := 5) (DCa dc_Scri_farBetween_0 3 rfl) (fun v2 => ?_)
  refine V_aload_n (pc := 6) (DCa dc_Scri_farBetween_0 4 rfl) rfl 0 rfl ?_
  refine Q_getf (k := 1) (pc := 7) (DCa dc_Scri_farBetween_0 5 rfl) cls_6 (Nat.le_of_ble_eq_true rfl) fl_6_15 rfl rfl rfl (fun v3 => ?_)
  refine V_iload_n (pc := 10) (DCa dc_Scri_farBetween_0 6 rfl) rfl 1 rfl ?_
  refine Q_iaload (pc := 11) (DCa dc_Scri_farBetween_0 7 rfl) (fun v4 => ?_)
  refine V_aload_n (pc := 12) (DCa dc_Scri_farBetween_0 8 rfl) rfl 0 rfl ?_
  refine Q_getf (k := 0) (pc := 13) (DCa dc_Scri_farBetween_0 9 rfl) cls_6 (Nat.le_of_ble_eq_true rfl) fl_6_9 rfl rfl rfl (fun v5 => ?_)
  refine V_iload_n (pc := 16) (DCa dc_Scri_farBetween_0 10 rfl) rfl 2 rfl ?_
  refine Q_iaload (pc := 17) (DCa dc_Scri_farBetween_0 11 rfl) (fun v6 => ?_)
  refine V_aload_n (pc := 18) (DCa dc_Scri_farBetween_0 12 rfl) rfl 0 rfl ?_
  refine Q_getf (k := 1) (pc := 19) (DCa dc_Scri_farBetween_0 13 rfl) cls_6 (Nat.le_of_ble_eq_true rfl) fl_6_15 rfl rfl rfl (fun v7 => ?_)
  refine V_iload_n (pc := 22) (DCa dc_Scri_farBetween_0 14 rfl) rfl 2 rfl ?_
  refine Q_iaload (pc := 23) (DCa dc_Scri_farBetween_0 15 rfl) (fun v8 => ?_)
  refine Q_callsN (st := []) (host := "TideRakes") (pc := 24) (DCa dc_Scri_farBetween_0 16 rfl) (sp_Tide_far F _ _ _ _ _) ce_Tide_far (by decide +kernel) rfl ⟨Nat.le_of_ble_eq_true rfl, Nat.le_of_ble_eq_true rfl⟩ rfl (Nat.le_of_ble_eq_true rfl) (fun r9 h10 => ?_)
  exact V_ireturn (pc := 27) (DCa dc_Scri_farBetween_0 17 rfl) rfl
theorem sp_Scri_farBetween (F : Nat) (l0 l1 l2 : Int) (h : Hp) : Sp yX6_farBetween cX6_farBetween 3 (some (.int)) 2 43 [(2, l0), (0, l1), (0, l2)] h (Scri_farBetween F l0 l1 l2 h) := Sp_of (by decide +kernel) rfl rfl (Nat.le_of_ble_eq_true rfl) (v_Scri_farBetween F l0 l1 l2 h)

-- TideRakes$Shore.<init>
def Shor_init_L69s (F : Nat)  (R69 : Int → Int → Hp → Option (Int × Hp)) (l0 l1 : Int) (h : Hp) : Option (Int × Hp) :=
  if l1 < 8 then
    (gf h l0 107 3 fun v24 =>
    no h 105 6 fun v25 h26 =>
    iv h26 v25 105 (Sand_init F v25 h26) fun r27 h28 =>
    ar h28 v24 5 l1 v25 105 fun h29 =>
    R69 l0 (w32 (l1 + 1)) h29)
  else
    (some (0, h))
def Shor_init_L69 (F : Nat)  : Nat → Int → Int → Hp → Option (Int × Hp)
  | 0 => fun _ _ _ => none
  | n + 1 => Shor_init_L69s F  (Shor_init_L69 F  n)
def Shor_init (F : Nat) (l0 : Int) (h : Hp) : Option (Int × Hp) :=
  vc h l0 107 <|
  no h 106 15 fun v1 h2 =>
  iv h2 v1 106 (Scri_init F v1 h2) fun r3 h4 =>
  pf h4 l0 107 0 v1 fun h5 =>
  na h5 0 600 fun v6 h7 =>
  pf h7 l0 107 1 v6 fun h8 =>
  na h8 0 600 fun v9 h10 =>
  pf h10 l0 107 2 v9 fun h11 =>
  na h11 5 8 fun v12 h13 =>
  pf h13 l0 107 3 v12 fun h14 =>
  na h14 0 256 fun v15 h16 =>
  pf h16 l0 107 4 v15 fun h17 =>
  na h17 0 8 fun v18 h19 =>
  pf h19 l0 107 5 v18 fun h20 =>
  na h20 0 8 fun v21 h22 =>
  pf h22 l0 107 6 v21 fun h23 =>
  Shor_init_L69 F F l0 0 h23

theorem dc_Shor_init_0 : ∀ q ∈ ([(0, .aload_n 0, 1), (1, .invokespecial 3, 3), (4, .aload_n 0, 1), (5, .new 9, 3), (8, .dup, 1), (9, .invokespecial 11, 3), (12, .putfield 12, 3), (15, .aload_n 0, 1), (16, .sipush 600, 3), (19, .newarray .int, 2), (21, .putfield 18, 3), (24, .aload_n 0, 1), (25, .sipush 600, 3), (28, .newarray .int, 2), (30, .putfield 22, 3), (33, .aload_n 0, 1), (34, .bipush 8, 2), (36, .anewarray 25, 3), (39, .putfield 27, 3), (42, .aload_n 0, 1), (43, .sipush 256, 3), (46, .newarray .int, 2), (48, .putfield 31, 3), (51, .aload_n 0, 1), (52, .bipush 8, 2), (54, .newarray .int, 2), (56, .putfield 34, 3), (59, .aload_n 0, 1), (60, .bipush 8, 2), (62, .newarray .int, 2), (64, .putfield 37, 3), (67, .iconst 0, 1), (68, .istore_n 1, 1), (69, .iload_n 1, 1), (70, .bipush 8, 2), (72, .if_icmp .ge 22, 3), (75, .aload_n 0, 1), (76, .getfield 27, 3), (79, .iload_n 1, 1), (80, .new 25, 3), (83, .dup, 1), (84, .invokespecial 40, 3), (87, .aastore, 1), (88, .iinc 1 1, 3), (91, .goto (-22), 3), (94, .return_, 1)] : List (Nat × Instr × Nat)), decode cX7_init q.1 = .ok (q.2.1, q.2.2) := by decide +kernel
abbrev X_Shor_init : MX := (cX7_init, RX7, "<init>", 2, none, 3, 60)
theorem v_Shor_init_L69s (F : Nat)  (R69 : Int → Int → Hp → Option (Int × Hp)) (hR69 : ∀ (l0 l1 : Int) (h : Hp), V X_Shor_init 69 [(0, 2, l0), (1, 0, l1)] [] h (R69 l0 l1 h)) (l0 l1 : Int) (h : Hp) : V X_Shor_init 69 [(0, 2, l0), (1, 0, l1)] [] h (Shor_init_L69s F  R69 l0 l1 h) := by
  unfold Shor_init_L69s
  refine V_iload_n (pc := 69) (DCa dc_Shor_init_0 33 rfl) rfl 1 rfl ?_
  refine V_bipush (pc := 70) (DCa dc_Shor_init_0 34 rfl) (by decide) ?_
  refine V_icmp_ge (tgt := 94) (pc := 72) (DCa dc_Shor_init_0 35 rfl) (by decide) (fun _ => ?_) (fun _ => ?_)
  · refine V_aload_n (pc := 75) (DCa dc_Shor_init_0 36 rfl) rfl 0 rfl ?_
    refine Q_getf (k := 3) (pc := 76) (DCa dc_Shor_init_0 37 rfl) cls_7 (Nat.le_of_ble_eq_true rfl) fl_7_27 rfl rfl rfl (fun v24 => ?_)
    refine V_iload_n (pc := 79) (DCa dc_Shor_init_0 38 rfl) rfl 1 rfl ?_
    refine Q_new (pc := 80) (DCa dc_Shor_init_0 39 rfl) cls_5 (tb2 17 rfl rfl) rfl rfl (fun v25 h26 => ?_)
    refine V_dup (pc := 83) (DCa dc_Shor_init_0 40 rfl) rfl ?_
    refine Q_calliN (ci := 5) (host := "TideRakes") (st := [(2, v25), (0, l1), (2, v24)]) (pc := 84) (DCa dc_Shor_init_0 41 rfl) (sp_Sand_init F _ _) ce_Sand_init (by decide +kernel) rfl rfl ⟨Nat.le_of_ble_eq_true rfl, Nat.le_of_ble_eq_true rfl⟩ rfl (Nat.le_of_ble_eq_true rfl) (fun r27 h28 => ?_)
    refine Q_aastore (pc := 87) (DCa dc_Shor_init_0 42 rfl) (by decide) rfl cls_5 rfl rfl (fun h29 => ?_)
    refine V_iinc (ls' := [(0, 2, l0), (1, 0, w32 (l1 + 1))]) (pc := 88) (DCa dc_Shor_init_0 43 rfl) (Nat.le_of_ble_eq_true rfl) (by decide) 1 rfl rfl ?_
    refine V_goto (tgt := 69) (pc := 91) (DCa dc_Shor_init_0 44 rfl) (by decide) ?_
    exact hR69 _ _ _
  · exact V_return (pc := 94) (DCa dc_Shor_init_0 45 rfl) rfl
theorem v_Shor_init_L69 (F : Nat)  (n : Nat) : ∀ (l0 l1 : Int) (h : Hp), V X_Shor_init 69 [(0, 2, l0), (1, 0, l1)] [] h (Shor_init_L69 F  n l0 l1 h) := by
  induction n with
  | zero => intros; exact V_none
  | succ n ih => exact fun l0 l1 h => v_Shor_init_L69s F  _ ih l0 l1 h
theorem v_Shor_init (F : Nat) (l0 : Int) (h : Hp) : V X_Shor_init 0 [(0, 2, l0)] [] h (Shor_init F l0 h) := by
  unfold Shor_init
  refine V_aload_n (pc := 0) (DCa dc_Shor_init_0 0 rfl) rfl 0 rfl ?_
  refine Q_objinit (pc := 1) (DCa dc_Shor_init_0 1 rfl) (tb2 14 rfl rfl) oi_i oi_c ⟨Nat.le_of_ble_eq_true rfl, Nat.le_of_ble_eq_true rfl⟩ ?_
  refine V_aload_n (pc := 4) (DCa dc_Shor_init_0 2 rfl) rfl 0 rfl ?_
  refine Q_new (pc := 5) (DCa dc_Shor_init_0 3 rfl) cls_6 (tb2 15 rfl rfl) rfl rfl (fun v1 h2 => ?_)
  refine V_dup (pc := 8) (DCa dc_Shor_init_0 4 rfl) rfl ?_
  refine Q_calliN (ci := 6) (host := "TideRakes") (st := [(2, v1), (2, l0)]) (pc := 9) (DCa dc_Shor_init_0 5 rfl) (sp_Scri_init F _ _) ce_Scri_init (by decide +kernel) rfl rfl ⟨Nat.le_of_ble_eq_true rfl, Nat.le_of_ble_eq_true rfl⟩ rfl (Nat.le_of_ble_eq_true rfl) (fun r3 h4 => ?_)
  refine Q_putf (k := 0) (pc := 12) (DCa dc_Shor_init_0 6 rfl) cls_7 (Nat.le_of_ble_eq_true rfl) fl_7_12 rfl rfl rfl (Or.inl rfl) (Or.inr ⟨Or.inl ⟨_, rfl⟩, rfl⟩) (fun h5 => ?_)
  refine V_aload_n (pc := 15) (DCa dc_Shor_init_0 7 rfl) rfl 0 rfl ?_
  refine V_sipush (pc := 16) (DCa dc_Shor_init_0 8 rfl) (by decide) ?_
  refine Q_newa (pc := 19) (DCa dc_Shor_init_0 9 rfl) nas_0 (fun v6 h7 => ?_)
  refine Q_putf (k := 1) (pc := 21) (DCa dc_Shor_init_0 10 rfl) cls_7 (Nat.le_of_ble_eq_true rfl) fl_7_18 rfl rfl rfl (Or.inr ⟨rfl, rfl, rfl⟩) (Or.inr ⟨Or.inr ⟨_, rfl⟩, rfl⟩) (fun h8 => ?_)
  refine V_aload_n (pc := 24) (DCa dc_Shor_init_0 11 rfl) rfl 0 rfl ?_
  refine V_sipush (pc := 25) (DCa dc_Shor_init_0 12 rfl) (by decide) ?_
  refine Q_newa (pc := 28) (DCa dc_Shor_init_0 13 rfl) nas_0 (fun v9 h10 => ?_)
  refine Q_putf (k := 2) (pc := 30) (DCa dc_Shor_init_0 14 rfl) cls_7 (Nat.le_of_ble_eq_true rfl) fl_7_22 rfl rfl rfl (Or.inr ⟨rfl, rfl, rfl⟩) (Or.inr ⟨Or.inr ⟨_, rfl⟩, rfl⟩) (fun h11 => ?_)
  refine V_aload_n (pc := 33) (DCa dc_Shor_init_0 15 rfl) rfl 0 rfl ?_
  refine V_bipush (pc := 34) (DCa dc_Shor_init_0 16 rfl) (by decide) ?_
  refine Q_anewa (C := RX5) (pc := 36) (DCa dc_Shor_init_0 17 rfl) (by decide) rfl rfl (tb2 17 rfl rfl) (by decide +kernel) (fun v12 h13 => ?_)
  refine Q_putf (k := 3) (pc := 39) (DCa dc_Shor_init_0 18 rfl) cls_7 (Nat.le_of_ble_eq_true rfl) fl_7_27 rfl rfl rfl (Or.inr ⟨rfl, rfl, rfl⟩) (Or.inr ⟨Or.inr ⟨_, rfl⟩, rfl⟩) (fun h14 => ?_)
  refine V_aload_n (pc := 42) (DCa dc_Shor_init_0 19 rfl) rfl 0 rfl ?_
  refine V_sipush (pc := 43) (DCa dc_Shor_init_0 20 rfl) (by decide) ?_
  refine Q_newa (pc := 46) (DCa dc_Shor_init_0 21 rfl) nas_0 (fun v15 h16 => ?_)
  refine Q_putf (k := 4) (pc := 48) (DCa dc_Shor_init_0 22 rfl) cls_7 (Nat.le_of_ble_eq_true rfl) fl_7_31 rfl rfl rfl (Or.inr ⟨rfl, rfl, rfl⟩) (Or.inr ⟨Or.inr ⟨_, rfl⟩, rfl⟩) (fun h17 => ?_)
  refine V_aload_n (pc := 51) (DCa dc_Shor_init_0 23 rfl) rfl 0 rfl ?_
  refine V_bipush (pc := 52) (DCa dc_Shor_init_0 24 rfl) (by decide) ?_
  refine Q_newa (pc := 54) (DCa dc_Shor_init_0 25 rfl) nas_0 (fun v18 h19 => ?_)
  refine Q_putf (k := 5) (pc := 56) (DCa dc_Shor_init_0 26 rfl) cls_7 (Nat.le_of_ble_eq_true rfl) fl_7_34 rfl rfl rfl (Or.inr ⟨rfl, rfl, rfl⟩) (Or.inr ⟨Or.inr ⟨_, rfl⟩, rfl⟩) (fun h20 => ?_)
  refine V_aload_n (pc := 59) (DCa dc_Shor_init_0 27 rfl) rfl 0 rfl ?_
  refine V_bipush (pc := 60) (DCa dc_Shor_init_0 28 rfl) (by decide) ?_
  refine Q_newa (pc := 62) (DCa dc_Shor_init_0 29 rfl) nas_0 (fun v21 h22 => ?_)
  refine Q_putf (k := 6) (pc := 64) (DCa dc_Shor_init_0 30 rfl) cls_7 (Nat.le_of_ble_eq_true rfl) fl_7_37 rfl rfl rfl (Or.inr ⟨rfl, rfl, rfl⟩) (Or.inr ⟨Or.inr ⟨_, rfl⟩, rfl⟩) (fun h23 => ?_)
  refine V_iconst (pc := 67) (DCa dc_Shor_init_0 31 rfl) (by decide) ?_
  refine V_istore_n (ls' := [(0, 2, l0), (1, 0, 0)]) (pc := 68) (DCa dc_Shor_init_0 32 rfl) rfl (Nat.le_of_ble_eq_true rfl) rfl ?_
  exact v_Shor_init_L69 F F _ _ _
theorem sp_Shor_init (F : Nat) (l0 : Int) (h : Hp) : Sp yX7_init cX7_init 2 none 3 60 [(2, l0)] h (Shor_init F l0 h) := Sp_of (by decide +kernel) rfl rfl (Nat.le_of_ble_eq_true rfl) (v_Shor_init F l0 h)

-- TideRakes$Shore.leastError
def Shor_leastError_B28 (F : Nat) (R4 : Int → Int → Int → Int → Hp → Option (Int × Hp)) (l0 l1 l2 l3 s0 : Int) (h : Hp) : Option (Int × Hp) :=
  if s0 = 0 then
    (R4 l0 l1 l2 (w32 (l3 + 1)) h)
  else
    (if l2 < 0 then
      (R4 l0 l1 l3 (w32 (l3 + 1)) h)
    else
      (gf h l0 107 5 fun v3 =>
      al h v3 0 l3 fun v4 =>
      gf h l0 107 5 fun v5 =>
      al h v5 0 l2 fun v6 =>
      if v4 < v6 then
        (R4 l0 l1 l3 (w32 (l3 + 1)) h)
      else
        (R4 l0 l1 l2 (w32 (l3 + 1)) h)))
def Shor_leastError_L4s (F : Nat)  (R4 : Int → Int → Int → Int → Hp → Option (Int × Hp)) (l0 l1 l2 l3 : Int) (h : Hp) : Option (Int × Hp) :=
  gf h l0 107 0 fun v1 =>
  gf h v1 106 4 fun v2 =>
  if l3 < v2 then
    (if (iand (ishr l1 l3) 1) = 0 then
      (Shor_leastError_B28 F R4 l0 l1 l2 l3 1 h)
    else
      (Shor_leastError_B28 F R4 l0 l1 l2 l3 0 h))
  else
    (some (l2, h))
def Shor_leastError_L4 (F : Nat)  : Nat → Int → Int → Int → Int → Hp → Option (Int × Hp)
  | 0 => fun _ _ _ _ _ => none
  | n + 1 => Shor_leastError_L4s F  (Shor_leastError_L4 F  n)
def Shor_leastError (F : Nat) (l0 l1 : Int) (h : Hp) : Option (Int × Hp) :=
  Shor_leastError_L4 F F l0 l1 (-1) 0 h

theorem dc_Shor_leastError_0 : ∀ q ∈ ([(0, .iconst (-1), 1), (1, .istore_n 2, 1), (2, .iconst 0, 1), (3, .istore_n 3, 1), (4, .iload_n 3, 1), (5, .aload_n 0, 1), (6, .getfield 12, 3), (9, .getfield 52, 3), (12, .if_icmp .ge 50, 3), (15, .iload_n 1, 1), (16, .iload_n 3, 1), (17, .ishr, 1), (18, .iconst 1, 1), (19, .iand, 1), (20, .ifCond .ne 7, 3), (23, .iconst 1, 1), (24, .goto 4, 3), (27, .iconst 0, 1), (28, .istore 4, 2), (30, .iload 4, 2), (32, .ifCond .eq 24, 3), (35, .iload_n 2, 1), (36, .ifCond .lt 18, 3), (39, .aload_n 0, 1), (40, .getfield 34, 3), (43, .iload_n 3, 1), (44, .iaload, 1), (45, .aload_n 0, 1), (46, .getfield 34, 3), (49, .iload_n 2, 1), (50, .iaload, 1), (51, .if_icmp .ge 5, 3), (54, .iload_n 3, 1), (55, .istore_n 2, 1), (56, .iinc 3 1, 3), (59, .goto (-55), 3), (62, .iload_n 2, 1), (63, .ireturn, 1)] : List (Nat × Instr × Nat)), decode cX7_leastError q.1 = .ok (q.2.1, q.2.2) := by decide +kernel
abbrev X_Shor_leastError : MX := (cX7_leastError, RX7, "leastError", 5, (some (.int)), 1, 20)
theorem v_Shor_leastError_B28 (F : Nat) (R4 : Int → Int → Int → Int → Hp → Option (Int × Hp)) (hR4 : ∀ (l0 l1 l2 l3 : Int) (h : Hp), V X_Shor_leastError 4 [(0, 2, l0), (1, 0, l1), (2, 0, l2), (3, 0, l3)] [] h (R4 l0 l1 l2 l3 h)) (l0 l1 l2 l3 s0 : Int) (h : Hp) : V X_Shor_leastError 28 [(0, 2, l0), (1, 0, l1), (2, 0, l2), (3, 0, l3)] [(0, s0)] h (Shor_leastError_B28 F R4 l0 l1 l2 l3 s0 h) := by
  unfold Shor_leastError_B28
  refine V_istore (ls' := [(0, 2, l0), (1, 0, l1), (2, 0, l2), (3, 0, l3), (4, 0, s0)]) (pc := 28) (DCa dc_Shor_leastError_0 18 rfl) (Nat.le_of_ble_eq_true rfl) rfl ?_
  refine V_iload (pc := 30) (DCa dc_Shor_leastError_0 19 rfl) 4 rfl ?_
  refine V_if_eq (tgt := 56) (pc := 32) (DCa dc_Shor_leastError_0 20 rfl) (by decide) (fun _ => ?_) (fun _ => ?_)
  · refine V_iinc (ls' := [(0, 2, l0), (1, 0, l1), (2, 0, l2), (3, 0, w32 (l3 + 1)), (4, 0, s0)]) (pc := 56) (DCa dc_Shor_leastError_0 34 rfl) (Nat.le_of_ble_eq_true rfl) (by decide) 3 rfl rfl ?_
    refine V_goto (tgt := 4) (pc := 59) (DCa dc_Shor_leastError_0 35 rfl) (by decide) ?_
    refine V_pick [0, 1, 2, 3] rfl ?_
    exact hR4 _ _ _ _ _
  · refine V_iload_n (pc := 35) (DCa dc_Shor_leastError_0 21 rfl) rfl 2 rfl ?_
    refine V_if_lt (tgt := 54) (pc := 36) (DCa dc_Shor_leastError_0 22 rfl) (by decide) (fun _ => ?_) (fun _ => ?_)
    · refine V_iload_n (pc := 54) (DCa dc_Shor_leastError_0 32 rfl) rfl 3 rfl ?_
      refine V_istore_n (ls' := [(0, 2, l0), (1, 0, l1), (2, 0, l3), (3, 0, l3), (4, 0, s0)]) (pc := 55) (DCa dc_Shor_leastError_0 33 rfl) rfl (Nat.le_of_ble_eq_true rfl) rfl ?_
      refine V_iinc (ls' := [(0, 2, l0), (1, 0, l1), (2, 0, l3), (3, 0, w32 (l3 + 1)), (4, 0, s0)]) (pc := 56) (DCa dc_Shor_leastError_0 34 rfl) (Nat.le_of_ble_eq_true rfl) (by decide) 3 rfl rfl ?_
      refine V_goto (tgt := 4) (pc := 59) (DCa dc_Shor_leastError_0 35 rfl) (by decide) ?_
      refine V_pick [0, 1, 2, 3] rfl ?_
      exact hR4 _ _ _ _ _
    · refine V_aload_n (pc := 39) (DCa dc_Shor_leastError_0 23 rfl) rfl 0 rfl ?_
      refine Q_getf (k := 5) (pc := 40) (DCa dc_Shor_leastError_0 24 rfl) cls_7 (Nat.le_of_ble_eq_true rfl) fl_7_34 rfl rfl rfl (fun v3 => ?_)
      refine V_iload_n (pc := 43) (DCa dc_Shor_leastError_0 25 rfl) rfl 3 rfl ?_
      refine Q_iaload (pc := 44) (DCa dc_Shor_leastError_0 26 rfl) (fun v4 => ?_)
      refine V_aload_n (pc := 45) (DCa dc_Shor_leastError_0 27 rfl) rfl 0 rfl ?_
      refine Q_getf (k := 5) (pc := 46) (DCa dc_Shor_leastError_0 28 rfl) cls_7 (Nat.le_of_ble_eq_true rfl) fl_7_34 rfl rfl rfl (fun v5 => ?_)
      refine V_iload_n (pc := 49) (DCa dc_Shor_leastError_0 29 rfl) rfl 2 rfl ?_
      refine Q_iaload (pc := 50) (DCa dc_Shor_leastError_0 30 rfl) (fun v6 => ?_)
      refine V_icmp_ge (tgt := 56) (pc := 51) (DCa dc_Shor_leastError_0 31 rfl) (by decide) (fun _ => ?_) (fun _ => ?_)
      · refine V_iload_n (pc := 54) (DCa dc_Shor_leastError_0 32 rfl) rfl 3 rfl ?_
        refine V_istore_n (ls' := [(0, 2, l0), (1, 0, l1), (2, 0, l3), (3, 0, l3), (4, 0, s0)]) (pc := 55) (DCa dc_Shor_leastError_0 33 rfl) rfl (Nat.le_of_ble_eq_true rfl) rfl ?_
        refine V_iinc (ls' := [(0, 2, l0), (1, 0, l1), (2, 0, l3), (3, 0, w32 (l3 + 1)), (4, 0, s0)]) (pc := 56) (DCa dc_Shor_leastError_0 34 rfl) (Nat.le_of_ble_eq_true rfl) (by decide) 3 rfl rfl ?_
        refine V_goto (tgt := 4) (pc := 59) (DCa dc_Shor_leastError_0 35 rfl) (by decide) ?_
        refine V_pick [0, 1, 2, 3] rfl ?_
        exact hR4 _ _ _ _ _
      · refine V_iinc (ls' := [(0, 2, l0), (1, 0, l1), (2, 0, l2), (3, 0, w32 (l3 + 1)), (4, 0, s0)]) (pc := 56) (DCa dc_Shor_leastError_0 34 rfl) (Nat.le_of_ble_eq_true rfl) (by decide) 3 rfl rfl ?_
        refine V_goto (tgt := 4) (pc := 59) (DCa dc_Shor_leastError_0 35 rfl) (by decide) ?_
        refine V_pick [0, 1, 2, 3] rfl ?_
        exact hR4 _ _ _ _ _
theorem v_Shor_leastError_L4s (F : Nat)  (R4 : Int → Int → Int → Int → Hp → Option (Int × Hp)) (hR4 : ∀ (l0 l1 l2 l3 : Int) (h : Hp), V X_Shor_leastError 4 [(0, 2, l0), (1, 0, l1), (2, 0, l2), (3, 0, l3)] [] h (R4 l0 l1 l2 l3 h)) (l0 l1 l2 l3 : Int) (h : Hp) : V X_Shor_leastError 4 [(0, 2, l0), (1, 0, l1), (2, 0, l2), (3, 0, l3)] [] h (Shor_leastError_L4s F  R4 l0 l1 l2 l3 h) := by
  unfold Shor_leastError_L4s
  refine V_iload_n (pc := 4) (DCa dc_Shor_leastError_0 4 rfl) rfl 3 rfl ?_
  refine V_aload_n (pc := 5) (DCa dc_Shor_leastError_0 5 rfl) rfl 0 rfl ?_
  refine Q_getf (k := 0) (pc := 6) (DCa dc_Shor_leastError_0 6 rfl) cls_7 (Nat.le_of_ble_eq_true rfl) fl_7_12 rfl rfl rfl (fun v1 => ?_)
  refine Q_getf (k := 4) (pc := 9) (DCa dc_Shor_leastError_0 7 rfl) cls_6 (Nat.le_of_ble_eq_true rfl) fl_7_52 rfl rfl rfl (fun v2 => ?_)
  refine V_icmp_ge (tgt := 62) (pc := 12) (DCa dc_Shor_leastError_0 8 rfl) (by decide) (fun _ => ?_) (fun _ => ?_)
  · refine V_iload_n (pc := 15) (DCa dc_Shor_leastError_0 9 rfl) rfl 1 rfl ?_
    refine V_iload_n (pc := 16) (DCa dc_Shor_leastError_0 10 rfl) rfl 3 rfl ?_
    refine V_ishr (pc := 17) (DCa dc_Shor_leastError_0 11 rfl) ?_
    refine V_iconst (pc := 18) (DCa dc_Shor_leastError_0 12 rfl) (by decide) ?_
    refine V_iand (pc := 19) (DCa dc_Shor_leastError_0 13 rfl) ?_
    refine V_if_ne (tgt := 27) (pc := 20) (DCa dc_Shor_leastError_0 14 rfl) (by decide) (fun _ => ?_) (fun _ => ?_)
    · refine V_iconst (pc := 23) (DCa dc_Shor_leastError_0 15 rfl) (by decide) ?_
      refine V_goto (tgt := 28) (pc := 24) (DCa dc_Shor_leastError_0 16 rfl) (by decide) ?_
      exact v_Shor_leastError_B28 F R4 hR4 _ _ _ _ _ _
    · refine V_iconst (pc := 27) (DCa dc_Shor_leastError_0 17 rfl) (by decide) ?_
      exact v_Shor_leastError_B28 F R4 hR4 _ _ _ _ _ _
  · refine V_iload_n (pc := 62) (DCa dc_Shor_leastError_0 36 rfl) rfl 2 rfl ?_
    exact V_ireturn (pc := 63) (DCa dc_Shor_leastError_0 37 rfl) rfl
theorem v_Shor_leastError_L4 (F : Nat)  (n : Nat) : ∀ (l0 l1 l2 l3 : Int) (h : Hp), V X_Shor_leastError 4 [(0, 2, l0), (1, 0, l1), (2, 0, l2), (3, 0, l3)] [] h (Shor_leastError_L4 F  n l0 l1 l2 l3 h) := by
  induction n with
  | zero => intros; exact V_none
  | succ n ih => exact fun l0 l1 l2 l3 h => v_Shor_leastError_L4s F  _ ih l0 l1 l2 l3 h
theorem v_Shor_leastError (F : Nat) (l0 l1 : Int) (h : Hp) : V X_Shor_leastError 0 [(0, 2, l0), (1, 0, l1)] [] h (Shor_leastError F l0 l1 h) := by
  unfold Shor_leastError
  refine V_iconst (pc := 0) (DCa dc_Shor_leastError_0 0 rfl) (by decide) ?_
  refine V_istore_n (ls' := [(0, 2, l0), (1, 0, l1), (2, 0, (-1))]) (pc := 1) (DCa dc_Shor_leastError_0 1 rfl) rfl (Nat.le_of_ble_eq_true rfl) rfl ?_
  refine V_iconst (pc := 2) (DCa dc_Shor_leastError_0 2 rfl) (by decide) ?_
  refine V_istore_n (ls' := [(0, 2, l0), (1, 0, l1), (2, 0, (-1)), (3, 0, 0)]) (pc := 3) (DCa dc_Shor_leastError_0 3 rfl) rfl (Nat.le_of_ble_eq_true rfl) rfl ?_
  exact v_Shor_leastError_L4 F F _ _ _ _ _
theorem sp_Shor_leastError (F : Nat) (l0 l1 : Int) (h : Hp) : Sp yX7_leastError cX7_leastError 5 (some (.int)) 1 20 [(2, l0), (0, l1)] h (Shor_leastError F l0 l1 h) := Sp_of (by decide +kernel) rfl rfl (Nat.le_of_ble_eq_true rfl) (v_Shor_leastError F l0 l1 h)

-- TideRakes$Shore.measureFrom
def Shor_measureFrom_B102 (F : Nat) (R2 : Int → Int → Int → Int → Hp → Option (Int × Hp)) (l0 l1 l2 l3 l5 : Int) (h : Hp) : Option (Int × Hp) :=
  gf h l0 107 5 fun v19 =>
  as h v19 0 l3 l5 fun h20 =>
  gf h20 l0 107 6 fun v21 =>
  as h20 v21 0 l3 l1 fun h22 =>
  R2 l0 l1 l2 (w32 (l3 + 1)) h22
def Shor_measureFrom_B84 (F : Nat) (R2 : Int → Int → Int → Int → Hp → Option (Int × Hp)) (l0 l1 l2 l3 l5 s0 : Int) (h : Hp) : Option (Int × Hp) :=
  gf h l0 107 5 fun v17 =>
  al h v17 0 l3 fun v18 =>
  if l5 < v18 then
    (Shor_measureFrom_B102 F R2 l0 l1 l2 l3 l5 h)
  else
    (if s0 = 0 then
      (R2 l0 l1 l2 (w32 (l3 + 1)) h)
    else
      (Shor_measureFrom_B102 F R2 l0 l1 l2 l3 l5 h))
def Shor_measureFrom_L2s (F : Nat)  (R2 : Int → Int → Int → Int → Hp → Option (Int × Hp)) (l0 l1 l2 l3 : Int) (h : Hp) : Option (Int × Hp) :=
  gf h l0 107 0 fun v1 =>
  gf h v1 106 4 fun v2 =>
  if l3 < v2 then
    (if (iand (ishr l2 l3) 1) = 0 then
      (gf h l0 107 5 fun v3 =>
      al h v3 0 l1 fun v4 =>
      gf h l0 107 0 fun v5 =>
      gf h v5 106 14 fun v6 =>
      gf h l0 107 0 fun v7 =>
      iv h v7 106 (Scri_farBetween F v7 l1 l3 h) fun r8 h9 =>
      iv h9 v6 100 (Laws_slip F v6 r8 v4 h9) fun r10 h11 =>
      lt (w32 (v4 + r10)) fun x12 =>
      gf h11 l0 107 5 fun v13 =>
      al h11 v13 0 l3 fun v14 =>
      if x12 = v14 then
        (gf h11 l0 107 6 fun v15 =>
        al h11 v15 0 l3 fun v16 =>
        if l1 < v16 then
          (Shor_measureFrom_B84 F R2 l0 l1 l2 l3 x12 1 h11)
        else
          (Shor_measureFrom_B84 F R2 l0 l1 l2 l3 x12 0 h11))
      else
        (Shor_measureFrom_B84 F R2 l0 l1 l2 l3 x12 0 h11))
    else
      (R2 l0 l1 l2 (w32 (l3 + 1)) h))
  else
    (some (0, h))
def Shor_measureFrom_L2 (F : Nat)  : Nat → Int → Int → Int → Int → Hp → Option (Int × Hp)
  | 0 => fun _ _ _ _ _ => none
  | n + 1 => Shor_measureFrom_L2s F  (Shor_measureFrom_L2 F  n)
def Shor_measureFrom (F : Nat) (l0 l1 l2 : Int) (h : Hp) : Option (Int × Hp) :=
  Shor_measureFrom_L2 F F l0 l1 l2 0 h

theorem dc_Shor_measureFrom_0 : ∀ q ∈ ([(0, .iconst 0, 1), (1, .istore_n 3, 1), (2, .iload_n 3, 1), (3, .aload_n 0, 1), (4, .getfield 12, 3), (7, .getfield 52, 3), (10, .if_icmp .ge 113, 3), (13, .iload_n 2, 1), (14, .iload_n 3, 1), (15, .ishr, 1), (16, .iconst 1, 1), (17, .iand, 1), (18, .ifCond .eq 6, 3), (21, .goto 96, 3), (24, .aload_n 0, 1), (25, .getfield 34, 3), (28, .iload_n 1, 1), (29, .iaload, 1), (30, .istore 4, 2), (32, .iload 4, 2), (34, .aload_n 0, 1), (35, .getfield 12, 3), (38, .getfield 41, 3), (41, .aload_n 0, 1), (42, .getfield 12, 3), (45, .iload_n 1, 1), (46, .iload_n 3, 1), (47, .invokevirtual 119, 3), (50, .iload 4, 2), (52, .invokevirtual 109, 3), (55, .iadd, 1), (56, .istore 5, 2), (58, .iload 5, 2), (60, .aload_n 0, 1), (61, .getfield 34, 3), (64, .iload_n 3, 1), (65, .iaload, 1), (66, .if_icmp .ne 17, 3), (69, .iload_n 1, 1), (70, .aload_n 0, 1), (71, .getfield 37, 3), (74, .iload_n 3, 1), (75, .iaload, 1), (76, .if_icmp .ge 7, 3), (79, .iconst 1, 1), (80, .goto 4, 3), (83, .iconst 0, 1), (84, .istore 6, 2), (86, .iload 5, 2), (88, .aload_n 0, 1)] : List (Nat × Instr × Nat)), decode cX7_measureFrom q.1 = .ok (q.2.1, q.2.2) := by decide +kernel
theorem dc_Shor_measureFrom_1 : ∀ q ∈ ([(89, .getfield 34, 3), (92, .iload_n 3, 1), (93, .iaload, 1), (94, .if_icmp .lt 8, 3), (97, .iload 6, 2), (99, .ifCond .eq 18, 3), (102, .aload_n 0, 1), (103, .getfield 34, 3), (106, .iload_n 3, 1), (107, .iload 5, 2), (109, .iastore, 1), (110, .aload_n 0, 1), (111, .getfield 37, 3), (114, .iload_n 3, 1), (115, .iload_n 1, 1), (116, .iastore, 1), (117, .iinc 3 1, 3), (120, .goto (-118), 3), (123, .return_, 1)] : List (Nat × Instr × Nat)), decode cX7_measureFrom q.1 = .ok (q.2.1, q.2.2) := by decide +kernel
abbrev X_Shor_measureFrom : MX := (cX7_measureFrom, RX7, "measureFrom", 7, none, 4, 92)
theorem v_Shor_measureFrom_B102 (F : Nat) (R2 : Int → Int → Int → Int → Hp → Option (Int × Hp)) (hR2 : ∀ (l0 l1 l2 l3 : Int) (h : Hp), V X_Shor_measureFrom 2 [(0, 2, l0), (1, 0, l1), (2, 0, l2), (3, 0, l3)] [] h (R2 l0 l1 l2 l3 h)) (l0 l1 l2 l3 l5 : Int) (h : Hp) : V X_Shor_measureFrom 102 [(0, 2, l0), (1, 0, l1), (2, 0, l2), (3, 0, l3), (5, 0, l5)] [] h (Shor_measureFrom_B102 F R2 l0 l1 l2 l3 l5 h) := by
  unfold Shor_measureFrom_B102
  refine V_aload_n (pc := 102) (DCa dc_Shor_measureFrom_1 6 rfl) rfl 0 rfl ?_
  refine Q_getf (k := 5) (pc := 103) (DCa dc_Shor_measureFrom_1 7 rfl) cls_7 (Nat.le_of_ble_eq_true rfl) fl_7_34 rfl rfl rfl (fun v19 => ?_)
  refine V_iload_n (pc := 106) (DCa dc_Shor_measureFrom_1 8 rfl) rfl 3 rfl ?_
  refine V_iload (pc := 107) (DCa dc_Shor_measureFrom_1 9 rfl) 4 rfl ?_
  refine Q_iastore (pc := 109) (DCa dc_Shor_measureFrom_1 10 rfl) (fun h20 => ?_)
  refine V_aload_n (pc := 110) (DCa dc_Shor_measureFrom_1 11 rfl) rfl 0 rfl ?_
  refine Q_getf (k := 6) (pc := 111) (DCa dc_Shor_measureFrom_1 12 rfl) cls_7 (Nat.le_of_ble_eq_true rfl) fl_7_37 rfl rfl rfl (fun v21 => ?_)
  refine V_iload_n (pc := 114) (DCa dc_Shor_measureFrom_1 13 rfl) rfl 3 rfl ?_
  refine V_iload_n (pc := 115) (DCa dc_Shor_measureFrom_1 14 rfl) rfl 1 rfl ?_
  refine Q_iastore (pc := 116) (DCa dc_Shor_measureFrom_1 15 rfl) (fun h22 => ?_)
  refine V_iinc (ls' := [(0, 2, l0), (1, 0, l1), (2, 0, l2), (3, 0, w32 (l3 + 1)), (5, 0, l5)]) (pc := 117) (DCa dc_Shor_measureFrom_1 16 rfl) (Nat.le_of_ble_eq_true rfl) (by decide) 3 rfl rfl ?_
  refine V_goto (tgt := 2) (pc := 120) (DCa dc_Shor_measureFrom_1 17 rfl) (by decide) ?_
  refine V_pick [0, 1, 2, 3] rfl ?_
  exact hR2 _ _ _ _ _
theorem v_Shor_measureFrom_B84 (F : Nat) (R2 : Int → Int → Int → Int → Hp → Option (Int × Hp)) (hR2 : ∀ (l0 l1 l2 l3 : Int) (h : Hp), V X_Shor_measureFrom 2 [(0, 2, l0), (1, 0, l1), (2, 0, l2), (3, 0, l3)] [] h (R2 l0 l1 l2 l3 h)) (l0 l1 l2 l3 l5 s0 : Int) (h : Hp) : V X_Shor_measureFrom 84 [(0, 2, l0), (1, 0, l1), (2, 0, l2), (3, 0, l3), (5, 0, l5)] [(0, s0)] h (Shor_measureFrom_B84 F R2 l0 l1 l2 l3 l5 s0 h) := by
  unfold Shor_measureFrom_B84
  refine V_istore (ls' := [(0, 2, l0), (1, 0, l1), (2, 0, l2), (3, 0, l3), (5, 0, l5), (6, 0, s0)]) (pc := 84) (DCa dc_Shor_measureFrom_0 47 rfl) (Nat.le_of_ble_eq_true rfl) rfl ?_
  refine V_iload (pc := 86) (DCa dc_Shor_measureFrom_0 48 rfl) 4 rfl ?_
  refine V_aload_n (pc := 88) (DCa dc_Shor_measureFrom_0 49 rfl) rfl 0 rfl ?_
  refine Q_getf (k := 5) (pc := 89) (DCa dc_Shor_measureFrom_1 0 rfl) cls_7 (Nat.le_of_ble_eq_true rfl) fl_7_34 rfl rfl rfl (fun v17 => ?_)
  refine V_iload_n (pc := 92) (DCa dc_Shor_measureFrom_1 1 rfl) rfl 3 rfl ?_
  refine Q_iaload (pc := 93) (DCa dc_Shor_measureFrom_1 2 rfl) (fun v18 => ?_)
  refine V_icmp_lt (tgt := 102) (pc := 94) (DCa dc_Shor_measureFrom_1 3 rfl) (by decide) (fun _ => ?_) (fun _ => ?_)
  · refine V_pick [0, 1, 2, 3, 4] rfl ?_
    exact v_Shor_measureFrom_B102 F R2 hR2 _ _ _ _ _ _
  · refine V_iload (pc := 97) (DCa dc_Shor_measureFrom_1 4 rfl) 5 rfl ?_
    refine V_if_eq (tgt := 117) (pc := 99) (DCa dc_Shor_measureFrom_1 5 rfl) (by decide) (fun _ => ?_) (fun _ => ?_)
    · refine V_iinc (ls' := [(0, 2, l0), (1, 0, l1), (2, 0, l2), (3, 0, w32 (l3 + 1)), (5, 0, l5), (6, 0, s0)]) (pc := 117) (DCa dc_Shor_measureFrom_1 16 rfl) (Nat.le_of_ble_eq_true rfl) (by decide) 3 rfl rfl ?_
      refine V_goto (tgt := 2) (pc := 120) (DCa dc_Shor_measureFrom_1 17 rfl) (by decide) ?_
      refine V_pick [0, 1, 2, 3] rfl ?_
      exact hR2 _ _ _ _ _
    · refine V_pick [0, 1, 2, 3, 4] rfl ?_
      exact v_Shor_measureFrom_B102 F R2 hR2 _ _ _ _ _ _
theorem v_Shor_measureFrom_L2s (F : Nat)  (R2 : Int → Int → Int → Int → Hp → Option (Int × Hp)) (hR2 : ∀ (l0 l1 l2 l3 : Int) (h : Hp), V X_Shor_measureFrom 2 [(0, 2, l0), (1, 0, l1), (2, 0, l2), (3, 0, l3)] [] h (R2 l0 l1 l2 l3 h)) (l0 l1 l2 l3 : Int) (h : Hp) : V X_Shor_measureFrom 2 [(0, 2, l0), (1, 0, l1), (2, 0, l2), (3, 0, l3)] [] h (Shor_measureFrom_L2s F  R2 l0 l1 l2 l3 h) := by
  unfold Shor_measureFrom_L2s
  refine V_iload_n (pc := 2) (DCa dc_Shor_measureFrom_0 2 rfl) rfl 3 rfl ?_
  refine V_aload_n (pc := 3) (DCa dc_Shor_measureFrom_0 3 rfl) rfl 0 rfl ?_
  refine Q_getf (k := 0) (pc := 4) (DCa dc_Shor_measureFrom_0 4 rfl) cls_7 (Nat.le_of_ble_eq_true rfl) fl_7_12 rfl rfl rfl (fun v1 => ?_)
  refine Q_getf (k := 4) (pc := 7) (DCa dc_Shor_measureFrom_0 5 rfl) cls_6 (Nat.le_of_ble_eq_true rfl) fl_7_52 rfl rfl rfl (fun v2 => ?_)
  refine V_icmp_ge (tgt := 123) (pc := 10) (DCa dc_Shor_measureFrom_0 6 rfl) (by decide) (fun _ => ?_) (fun _ => ?_)
  · refine V_iload_n (pc := 13) (DCa dc_Shor_measureFrom_0 7 rfl) rfl 2 rfl ?_
    refine V_iload_n (pc := 14) (DCa dc_Shor_measureFrom_0 8 rfl) rfl 3 rfl ?_
    refine V_ishr (pc := 15) (DCa dc_Shor_measureFrom_0 9 rfl) ?_
    refine V_iconst (pc := 16) (DCa dc_Shor_measureFrom_0 10 rfl) (by decide) ?_
    refine V_iand (pc := 17) (DCa dc_Shor_measureFrom_0 11 rfl) ?_
    refine V_if_eq (tgt := 24) (pc := 18) (DCa dc_Shor_measureFrom_0 12 rfl) (by decide) (fun _ => ?_) (fun _ => ?_)
    · refine V_aload_n (pc := 24) (DCa dc_Shor_measureFrom_0 14 rfl) rfl 0 rfl ?_
      refine Q_getf (k := 5) (pc := 25) (DCa dc_Shor_measureFrom_0 15 rfl) cls_7 (Nat.le_of_ble_eq_true rfl) fl_7_34 rfl rfl rfl (fun v3 => ?_)
      refine V_iload_n (pc := 28) (DCa dc_Shor_measureFrom_0 16 rfl) rfl 1 rfl ?_
      refine Q_iaload (pc := 29) (DCa dc_Shor_measureFrom_0 17 rfl) (fun v4 => ?_)
      refine V_istore (ls' := [(0, 2, l0), (1, 0, l1), (2, 0, l2), (3, 0, l3), (4, 0, v4)]) (pc := 30) (DCa dc_Shor_measureFrom_0 18 rfl) (Nat.le_of_ble_eq_true rfl) rfl ?_
      refine V_iload (pc := 32) (DCa dc_Shor_measureFrom_0 19 rfl) 4 rfl ?_
      refine V_aload_n (pc := 34) (DCa dc_Shor_measureFrom_0 20 rfl) rfl 0 rfl ?_
      refine Q_getf (k := 0) (pc := 35) (DCa dc_Shor_measureFrom_0 21 rfl) cls_7 (Nat.le_of_ble_eq_true rfl) fl_7_12 rfl rfl rfl (fun v5 => ?_)
      refine Q_getf (k := 14) (pc := 38) (DCa dc_Shor_measureFrom_0 22 rfl) cls_6 (Nat.le_of_ble_eq_true rfl) fl_7_41 rfl rfl rfl (fun v6 => ?_)
      refine V_aload_n (pc := 41) (DCa dc_Shor_measureFrom_0 23 rfl) rfl 0 rfl ?_
      refine Q_getf (k := 0) (pc := 42) (DCa dc_Shor_measureFrom_0 24 rfl) cls_7 (Nat.le_of_ble_eq_true rfl) fl_7_12 rfl rfl rfl (fun v7 => ?_)
      refine V_iload_n (pc := 45) (DCa dc_Shor_measureFrom_0 25 rfl) rfl 1 rfl ?_
      refine V_iload_n (pc := 46) (DCa dc_Shor_measureFrom_0 26 rfl) rfl 3 rfl ?_
      refine Q_callv (ci := 6) (st := [(2, v6), (0, v4)]) (pc := 47) (DCa dc_Shor_measureFrom_0 27 rfl) (sp_Scri_farBetween F _ _ _ _) ce_Scri_farBetween ml_7_119 rfl rfl ⟨Nat.le_of_ble_eq_true rfl, Nat.le_of_ble_eq_true rfl⟩ rfl (Nat.le_of_ble_eq_true rfl) (fun r8 h9 => ?_)
      refine V_iload (pc := 50) (DCa dc_Shor_measureFrom_0 28 rfl) 4 rfl ?_
      refine Q_callv (ci := 0) (st := [(0, v4)]) (pc := 52) (DCa dc_Shor_measureFrom_0 29 rfl) (sp_Laws_slip F _ _ _ _) ce_Laws_slip ml_7_109 rfl rfl ⟨Nat.le_of_ble_eq_true rfl, Nat.le_of_ble_eq_true rfl⟩ rfl (Nat.le_of_ble_eq_true rfl) (fun r10 h11 => ?_)
      refine V_iadd (pc := 55) (DCa dc_Shor_measureFrom_0 30 rfl) ?_
      refine Q_lt (fun x12 => ?_)
      refine V_istore (ls' := [(0, 2, l0), (1, 0, l1), (2, 0, l2), (3, 0, l3), (4, 0, v4), (5, 0, x12)]) (pc := 56) (DCa dc_Shor_measureFrom_0 31 rfl) (Nat.le_of_ble_eq_true rfl) rfl ?_
      refine V_iload (pc := 58) (DCa dc_Shor_measureFrom_0 32 rfl) 5 rfl ?_
      refine V_aload_n (pc := 60) (DCa dc_Shor_measureFrom_0 33 rfl) rfl 0 rfl ?_
      refine Q_getf (k := 5) (pc := 61) (DCa dc_Shor_measureFrom_0 34 rfl) cls_7 (Nat.le_of_ble_eq_true rfl) fl_7_34 rfl rfl rfl (fun v13 => ?_)
      refine V_iload_n (pc := 64) (DCa dc_Shor_measureFrom_0 35 rfl) rfl 3 rfl ?_
      refine Q_iaload (pc := 65) (DCa dc_Shor_measureFrom_0 36 rfl) (fun v14 => ?_)
      refine V_icmp_ne (tgt := 83) (pc := 66) (DCa dc_Shor_measureFrom_0 37 rfl) (by decide) (fun _ => ?_) (fun _ => ?_)
      · refine V_iload_n (pc := 69) (DCa dc_Shor_measureFrom_0 38 rfl) rfl 1 rfl ?_
        refine V_aload_n (pc := 70) (DCa dc_Shor_measureFrom_0 39 rfl) rfl 0 rfl ?_
        refine Q_getf (k := 6) (pc := 71) (DCa dc_Shor_measureFrom_0 40 rfl) cls_7 (Nat.le_of_ble_eq_true rfl) fl_7_37 rfl rfl rfl (fun v15 => ?_)
        refine V_iload_n (pc := 74) (DCa dc_Shor_measureFrom_0 41 rfl) rfl 3 rfl ?_
        refine Q_iaload (pc := 75) (DCa dc_Shor_measureFrom_0 42 rfl) (fun v16 => ?_)
        refine V_icmp_ge (tgt := 83) (pc := 76) (DCa dc_Shor_measureFrom_0 43 rfl) (by decide) (fun _ => ?_) (fun _ => ?_)
        · refine V_iconst (pc := 79) (DCa dc_Shor_measureFrom_0 44 rfl) (by decide) ?_
          refine V_goto (tgt := 84) (pc := 80) (DCa dc_Shor_measureFrom_0 45 rfl) (by decide) ?_
          refine V_pick [0, 1, 2, 3, 5] rfl ?_
          exact v_Shor_measureFrom_B84 F R2 hR2 _ _ _ _ _ _ _
        · refine V_iconst (pc := 83) (DCa dc_Shor_measureFrom_0 46 rfl) (by decide) ?_
          refine V_pick [0, 1, 2, 3, 5] rfl ?_
          exact v_Shor_measureFrom_B84 F R2 hR2 _ _ _ _ _ _ _
      · refine V_iconst (pc := 83) (DCa dc_Shor_measureFrom_0 46 rfl) (by decide) ?_
        refine V_pick [0, 1, 2, 3, 5] rfl ?_
        exact v_Shor_measureFrom_B84 F R2 hR2 _ _ _ _ _ _ _
    · refine V_goto (tgt := 117) (pc := 21) (DCa dc_Shor_measureFrom_0 13 rfl) (by decide) ?_
      refine V_iinc (ls' := [(0, 2, l0), (1, 0, l1), (2, 0, l2), (3, 0, w32 (l3 + 1))]) (pc := 117) (DCa dc_Shor_measureFrom_1 16 rfl) (Nat.le_of_ble_eq_true rfl) (by decide) 3 rfl rfl ?_
      refine V_goto (tgt := 2) (pc := 120) (DCa dc_Shor_measureFrom_1 17 rfl) (by decide) ?_
      exact hR2 _ _ _ _ _
  · exact V_return (pc := 123) (DCa dc_Shor_measureFrom_1 18 rfl) rfl
theorem v_Shor_measureFrom_L2 (F : Nat)  (n : Nat) : ∀ (l0 l1 l2 l3 : Int) (h : Hp), V X_Shor_measureFrom 2 [(0, 2, l0), (1, 0, l1), (2, 0, l2), (3, 0, l3)] [] h (Shor_measureFrom_L2 F  n l0 l1 l2 l3 h) := by
  induction n with
  | zero => intros; exact V_none
  | succ n ih => exact fun l0 l1 l2 l3 h => v_Shor_measureFrom_L2s F  _ ih l0 l1 l2 l3 h
theorem v_Shor_measureFrom (F : Nat) (l0 l1 l2 : Int) (h : Hp) : V X_Shor_measureFrom 0 [(0, 2, l0), (1, 0, l1), (2, 0, l2)] [] h (Shor_measureFrom F l0 l1 l2 h) := by
  unfold Shor_measureFrom
  refine V_iconst (pc := 0) (DCa dc_Shor_measureFrom_0 0 rfl) (by decide) ?_
  refine V_istore_n (ls' := [(0, 2, l0), (1, 0, l1), (2, 0, l2), (3, 0, 0)]) (pc := 1) (DCa dc_Shor_measureFrom_0 1 rfl) rfl (Nat.le_of_ble_eq_true rfl) rfl ?_
  exact v_Shor_measureFrom_L2 F F _ _ _ _ _
theorem sp_Shor_measureFrom (F : Nat) (l0 l1 l2 : Int) (h : Hp) : Sp yX7_measureFrom cX7_measureFrom 7 none 4 92 [(2, l0), (0, l1), (0, l2)] h (Shor_measureFrom F l0 l1 l2 h) := Sp_of (by decide +kernel) rfl rfl (Nat.le_of_ble_eq_true rfl) (v_Shor_measureFrom F l0 l1 l2 h)

-- TideRakes$Shore.settleErrors
def Shor_settleErrors_L56s (F : Nat)  (R56 : Int → Int → Int → Hp → Option (Int × Hp)) (l0 l1 l2 : Int) (h : Hp) : Option (Int × Hp) :=
  gf h l0 107 0 fun v14 =>
  gf h v14 106 4 fun v15 =>
  if l2 < v15 then
    (iv h l0 107 (Shor_leastError F l0 l1 h) fun r16 h17 =>
    if r16 < 0 then
      (R56 l0 l1 (w32 (l2 + 1)) h17)
    else
      (lt (ior l1 (ishl 1 r16)) fun x18 =>
      iv h17 l0 107 (Shor_measureFrom F l0 r16 x18 h17) fun r19 h20 =>
      R56 l0 x18 (w32 (l2 + 1)) h20))
  else
    (some (0, h))
def Shor_settleErrors_L56 (F : Nat)  : Nat → Int → Int → Int → Hp → Option (Int × Hp)
  | 0 => fun _ _ _ _ => none
  | n + 1 => Shor_settleErrors_L56s F  (Shor_settleErrors_L56 F  n)
def Shor_settleErrors_L4s (F : Nat)  (R4 : Int → Int → Int → Hp → Option (Int × Hp)) (l0 l1 l2 : Int) (h : Hp) : Option (Int × Hp) :=
  gf h l0 107 0 fun v1 =>
  gf h v1 106 4 fun v2 =>
  if l2 < v2 then
    (gf h l0 107 5 fun v3 =>
    gf h l0 107 0 fun v4 =>
    gf h v4 106 14 fun v5 =>
    gf h l0 107 0 fun v6 =>
    iv h v6 106 (Scri_farFromPeg F v6 l2 h) fun r7 h8 =>
    iv h8 v5 100 (Laws_slip F v5 r7 0 h8) fun r9 h10 =>
    as h10 v3 0 l2 r9 fun h11 =>
    gf h11 l0 107 6 fun v12 =>
    as h11 v12 0 l2 (-2) fun h13 =>
    R4 l0 l1 (w32 (l2 + 1)) h13)
  else
    (Shor_settleErrors_L56 F F l0 l1 0 h)
def Shor_settleErrors_L4 (F : Nat)  : Nat → Int → Int → Int → Hp → Option (Int × Hp)
  | 0 => fun _ _ _ _ => none
  | n + 1 => Shor_settleErrors_L4s F  (Shor_settleErrors_L4 F  n)
def Shor_settleErrors (F : Nat) (l0 : Int) (h : Hp) : Option (Int × Hp) :=
  Shor_settleErrors_L4 F F l0 0 0 h

theorem dc_Shor_settleErrors_0 : ∀ q ∈ ([(0, .iconst 0, 1), (1, .istore_n 1, 1), (2, .iconst 0, 1), (3, .istore_n 2, 1), (4, .iload_n 2, 1), (5, .aload_n 0, 1), (6, .getfield 12, 3), (9, .getfield 52, 3), (12, .if_icmp .ge 42, 3), (15, .aload_n 0, 1), (16, .getfield 34, 3), (19, .iload_n 2, 1), (20, .aload_n 0, 1), (21, .getfield 12, 3), (24, .getfield 41, 3), (27, .aload_n 0, 1), (28, .getfield 12, 3), (31, .iload_n 2, 1), (32, .invokevirtual 106, 3), (35, .iconst 0, 1), (36, .invokevirtual 109, 3), (39, .iastore, 1), (40, .aload_n 0, 1), (41, .getfield 37, 3), (44, .iload_n 2, 1), (45, .bipush (-2), 2), (47, .iastore, 1), (48, .iinc 2 1, 3), (51, .goto (-47), 3), (54, .iconst 0, 1), (55, .istore_n 2, 1), (56, .iload_n 2, 1), (57, .aload_n 0, 1), (58, .getfield 12, 3), (61, .getfield 52, 3), (64, .if_icmp .ge 31, 3), (67, .aload_n 0, 1), (68, .iload_n 1, 1), (69, .invokevirtual 112, 3), (72, .istore_n 3, 1), (73, .iload_n 3, 1), (74, .ifCond .lt 15, 3), (77, .iload_n 1, 1), (78, .iconst 1, 1), (79, .iload_n 3, 1), (80, .ishl, 1), (81, .ior, 1), (82, .istore_n 1, 1), (83, .aload_n 0, 1), (84, .iload_n 3, 1)] : List (Nat × Instr × Nat)), decode cX7_settleErrors q.1 = .ok (q.2.1, q.2.2) := by decide +kernel
theorem dc_Shor_settleErrors_1 : ∀ q ∈ ([(85, .iload_n 1, 1), (86, .invokevirtual 115, 3), (89, .iinc 2 1, 3), (92, .goto (-36), 3), (95, .return_, 1)] : List (Nat × Instr × Nat)), decode cX7_settleErrors q.1 = .ok (q.2.1, q.2.2) := by decide +kernel
abbrev X_Shor_settleErrors : MX := (cX7_settleErrors, RX7, "settleErrors", 4, none, 5, 118)
theorem v_Shor_settleErrors_L56s (F : Nat)  (R56 : Int → Int → Int → Hp → Option (Int × Hp)) (hR56 : ∀ (l0 l1 l2 : Int) (h : Hp), V X_Shor_settleErrors 56 [(0, 2, l0), (1, 0, l1), (2, 0, l2)] [] h (R56 l0 l1 l2 h)) (l0 l1 l2 : Int) (h : Hp) : V X_Shor_settleErrors 56 [(0, 2, l0), (1, 0, l1), (2, 0, l2)] [] h (Shor_settleErrors_L56s F  R56 l0 l1 l2 h) := by
  unfold Shor_settleErrors_L56s
  refine V_iload_n (pc := 56) (DCa dc_Shor_settleErrors_0 31 rfl) rfl 2 rfl ?_
  refine V_aload_n (pc := 57) (DCa dc_Shor_settleErrors_0 32 rfl) rfl 0 rfl ?_
  refine Q_getf (k := 0) (pc := 58) (DCa dc_Shor_settleErrors_0 33 rfl) cls_7 (Nat.le_of_ble_eq_true rfl) fl_7_12 rfl rfl rfl (fun v14 => ?_)
  refine Q_getf (k := 4) (pc := 61) (DCa dc_Shor_settleErrors_0 34 rfl) cls_6 (Nat.le_of_ble_eq_true rfl) fl_7_52 rfl rfl rfl (fun v15 => ?_)
  refine V_icmp_ge (tgt := 95) (pc := 64) (DCa dc_Shor_settleErrors_0 35 rfl) (by decide) (fun _ => ?_) (fun _ => ?_)
  · refine V_aload_n (pc := 67) (DCa dc_Shor_settleErrors_0 36 rfl) rfl 0 rfl ?_
    refine V_iload_n (pc := 68) (DCa dc_Shor_settleErrors_0 37 rfl) rfl 1 rfl ?_
    refine Q_callv (ci := 7) (st := []) (pc := 69) (DCa dc_Shor_settleErrors_0 38 rfl) (sp_Shor_leastError F _ _ _) ce_Shor_leastError ml_7_112 rfl rfl ⟨Nat.le_of_ble_eq_true rfl, Nat.le_of_ble_eq_true rfl⟩ rfl (Nat.le_of_ble_eq_true rfl) (fun r16 h17 => ?_)
    refine V_istore_n (ls' := [(0, 2, l0), (1, 0, l1), (2, 0, l2), (3, 0, r16)]) (pc := 72) (DCa dc_Shor_settleErrors_0 39 rfl) rfl (Nat.le_of_ble_eq_true rfl) rfl ?_
    refine V_iload_n (pc := 73) (DCa dc_Shor_settleErrors_0 40 rfl) rfl 3 rfl ?_
    refine V_if_lt (tgt := 89) (pc := 74) (DCa dc_Shor_settleErrors_0 41 rfl) (by decide) (fun _ => ?_) (fun _ => ?_)
    · refine V_iinc (ls' := [(0, 2, l0), (1, 0, l1), (2, 0, w32 (l2 + 1)), (3, 0, r16)]) (pc := 89) (DCa dc_Shor_settleErrors_1 2 rfl) (Nat.le_of_ble_eq_true rfl) (by decide) 2 rfl rfl ?_
      refine V_goto (tgt := 56) (pc := 92) (DCa dc_Shor_settleErrors_1 3 rfl) (by decide) ?_
      refine V_pick [0, 1, 2] rfl ?_
      exact hR56 _ _ _ _
    · refine V_iload_n (pc := 77) (DCa dc_Shor_settleErrors_0 42 rfl) rfl 1 rfl ?_
      refine V_iconst (pc := 78) (DCa dc_Shor_settleErrors_0 43 rfl) (by decide) ?_
      refine V_iload_n (pc := 79) (DCa dc_Shor_settleErrors_0 44 rfl) rfl 3 rfl ?_
      refine V_ishl (pc := 80) (DCa dc_Shor_settleErrors_0 45 rfl) ?_
      refine V_ior (pc := 81) (DCa dc_Shor_settleErrors_0 46 rfl) ?_
      refine Q_lt (fun x18 => ?_)
      refine V_istore_n (ls' := [(0, 2, l0), (1, 0, x18), (2, 0, l2), (3, 0, r16)]) (pc := 82) (DCa dc_Shor_settleErrors_0 47 rfl) rfl (Nat.le_of_ble_eq_true rfl) rfl ?_
      refine V_aload_n (pc := 83) (DCa dc_Shor_settleErrors_0 48 rfl) rfl 0 rfl ?_
      refine V_iload_n (pc := 84) (DCa dc_Shor_settleErrors_0 49 rfl) rfl 3 rfl ?_
      refine V_iload_n (pc := 85) (DCa dc_Shor_settleErrors_1 0 rfl) rfl 1 rfl ?_
      refine Q_callv (ci := 7) (st := []) (pc := 86) (DCa dc_Shor_settleErrors_1 1 rfl) (sp_Shor_measureFrom F _ _ _ _) ce_Shor_measureFrom ml_7_115 rfl rfl ⟨Nat.le_of_ble_eq_true rfl, Nat.le_of_ble_eq_true rfl⟩ rfl (Nat.le_of_ble_eq_true rfl) (fun r19 h20 => ?_)
      refine V_iinc (ls' := [(0, 2, l0), (1, 0, x18), (2, 0, w32 (l2 + 1)), (3, 0, r16)]) (pc := 89) (DCa dc_Shor_settleErrors_1 2 rfl) (Nat.le_of_ble_eq_true rfl) (by decide) 2 rfl rfl ?_
      refine V_goto (tgt := 56) (pc := 92) (DCa dc_Shor_settleErrors_1 3 rfl) (by decide) ?_
      refine V_pick [0, 1, 2] rfl ?_
      exact hR56 _ _ _ _
  · exact V_return (pc := 95) (DCa dc_Shor_settleErrors_1 4 rfl) rfl
theorem v_Shor_settleErrors_L56 (F : Nat)  (n : Nat) : ∀ (l0 l1 l2 : Int) (h : Hp), V X_Shor_settleErrors 56 [(0, 2, l0), (1, 0, l1), (2, 0, l2)] [] h (Shor_settleErrors_L56 F  n l0 l1 l2 h) := by
  induction n with
  | zero => intros; exact V_none
  | succ n ih => exact fun l0 l1 l2 h => v_Shor_settleErrors_L56s F  _ ih l0 l1 l2 h
theorem v_Shor_settleErrors_L4s (F : Nat)  (R4 : Int → Int → Int → Hp → Option (Int × Hp)) (hR4 : ∀ (l0 l1 l2 : Int) (h : Hp), V X_Shor_settleErrors 4 [(0, 2, l0), (1, 0, l1), (2, 0, l2)] [] h (R4 l0 l1 l2 h)) (l0 l1 l2 : Int) (h : Hp) : V X_Shor_settleErrors 4 [(0, 2, l0), (1, 0, l1), (2, 0, l2)] [] h (Shor_settleErrors_L4s F  R4 l0 l1 l2 h) := by
  unfold Shor_settleErrors_L4s
  refine V_iload_n (pc := 4) (DCa dc_Shor_settleErrors_0 4 rfl) rfl 2 rfl ?_
  refine V_aload_n (pc := 5) (DCa dc_Shor_settleErrors_0 5 rfl) rfl 0 rfl ?_
  refine Q_getf (k := 0) (pc := 6) (DCa dc_Shor_settleErrors_0 6 rfl) cls_7 (Nat.le_of_ble_eq_true rfl) fl_7_12 rfl rfl rfl (fun v1 => ?_)
  refine Q_getf (k := 4) (pc := 9) (DCa dc_Shor_settleErrors_0 7 rfl) cls_6 (Nat.le_of_ble_eq_true rfl) fl_7_52 rfl rfl rfl (fun v2 => ?_)
  refine V_icmp_ge (tgt := 54) (pc := 12) (DCa dc_Shor_settleErrors_0 8 rfl) (by decide) (fun _ => ?_) (fun _ => ?_)
  · refine V_aload_n (pc := 15) (DCa dc_Shor_settleErrors_0 9 rfl) rfl 0 rfl ?_
    refine Q_getf (k := 5) (pc := 16) (DCa dc_Shor_settleErrors_0 10 rfl) cls_7 (Nat.le_of_ble_eq_true rfl) fl_7_34 rfl rfl rfl (fun v3 => ?_)
    refine V_iload_n (pc := 19) (DCa dc_Shor_settleErrors_0 11 rfl) rfl 2 rfl ?_
    refine V_aload_n (pc := 20) (DCa dc_Shor_settleErrors_0 12 rfl) rfl 0 rfl ?_
    refine Q_getf (k := 0) (pc := 21) (DCa dc_Shor_settleErrors_0 13 rfl) cls_7 (Nat.le_of_ble_eq_true rfl) fl_7_12 rfl rfl rfl (fun v4 => ?_)
    refine Q_getf (k := 14) (pc := 24) (DCa dc_Shor_settleErrors_0 14 rfl) cls_6 (Nat.le_of_ble_eq_true rfl) fl_7_41 rfl rfl rfl (fun v5 => ?_)
    refine V_aload_n (pc := 27) (DCa dc_Shor_settleErrors_0 15 rfl) rfl 0 rfl ?_
    refine Q_getf (k := 0) (pc := 28) (DCa dc_Shor_settleErrors_0 16 rfl) cls_7 (Nat.le_of_ble_eq_true rfl) fl_7_12 rfl rfl rfl (fun v6 => ?_)
    refine V_iload_n (pc := 31) (DCa dc_Shor_settleErrors_0 17 rfl) rfl 2 rfl ?_
    refine Q_callv (ci := 6) (st := [(2, v5), (0, l2), (2, v3)]) (pc := 32) (DCa dc_Shor_settleErrors_0 18 rfl) (sp_Scri_farFromPeg F _ _ _) ce_Scri_farFromPeg ml_7_106 rfl rfl ⟨Nat.le_of_ble_eq_true rfl, Nat.le_of_ble_eq_true rfl⟩ rfl (Nat.le_of_ble_eq_true rfl) (fun r7 h8 => ?_)
    refine V_iconst (pc := 35) (DCa dc_Shor_settleErrors_0 19 rfl) (by decide) ?_
    refine Q_callv (ci := 0) (st := [(0, l2), (2, v3)]) (pc := 36) (DCa dc_Shor_settleErrors_0 20 rfl) (sp_Laws_slip F _ _ _ _) ce_Laws_slip ml_7_109 rfl rfl ⟨Nat.le_of_ble_eq_true rfl, Nat.le_of_ble_eq_true rfl⟩ rfl (Nat.le_of_ble_eq_true rfl) (fun r9 h10 => ?_)
    refine Q_iastore (pc := 39) (DCa dc_Shor_settleErrors_0 21 rfl) (fun h11 => ?_)
    refine V_aload_n (pc := 40) (DCa dc_Shor_settleErrors_0 22 rfl) rfl 0 rfl ?_
    refine Q_getf (k := 6) (pc := 41) (DCa dc_Shor_settleErrors_0 23 rfl) cls_7 (Nat.le_of_ble_eq_true rfl) fl_7_37 rfl rfl rfl (fun v12 => ?_)
    refine V_iload_n (pc := 44) (DCa dc_Shor_settleErrors_0 24 rfl) rfl 2 rfl ?_
    refine V_bipush (pc := 45) (DCa dc_Shor_settleErrors_0 25 rfl) (by decide) ?_
    refine Q_iastore (pc := 47) (DCa dc_Shor_settleErrors_0 26 rfl) (fun h13 => ?_)
    refine V_iinc (ls' := [(0, 2, l0), (1, 0, l1), (2, 0, w32 (l2 + 1))]) (pc := 48) (DCa dc_Shor_settleErrors_0 27 rfl) (Nat.le_of_ble_eq_true rfl) (by decide) 2 rfl rfl ?_
    refine V_goto (tgt := 4) (pc := 51) (DCa dc_Shor_settleErrors_0 28 rfl) (by decide) ?_
    exact hR4 _ _ _ _
  · refine V_iconst (pc := 54) (DCa dc_Shor_settleErrors_0 29 rfl) (by decide) ?_
    refine V_istore_n (ls' := [(0, 2, l0), (1, 0, l1), (2, 0, 0)]) (pc := 55) (DCa dc_Shor_settleErrors_0 30 rfl) rfl (Nat.le_of_ble_eq_true rfl) rfl ?_
    exact v_Shor_settleErrors_L56 F F _ _ _ _
theorem v_Shor_settleErrors_L4 (F : Nat)  (n : Nat) : ∀ (l0 l1 l2 : Int) (h : Hp), V X_Shor_settleErrors 4 [(0, 2, l0), (1, 0, l1), (2, 0, l2)] [] h (Shor_settleErrors_L4 F  n l0 l1 l2 h) := by
  induction n with
  | zero => intros; exact V_none
  | succ n ih => exact fun l0 l1 l2 h => v_Shor_settleErrors_L4s F  _ ih l0 l1 l2 h
theorem v_Shor_settleErrors (F : Nat) (l0 : Int) (h : Hp) : V X_Shor_settleErrors 0 [(0, 2, l0)] [] h (Shor_settleErrors F l0 h) := by
  unfold Shor_settleErrors
  refine V_iconst (pc := 0) (DCa dc_Shor_settleErrors_0 0 rfl) (by decide) ?_
  refine V_istore_n (ls' := [(0, 2, l0), (1, 0, 0)]) (pc := 1) (DCa dc_Shor_settleErrors_0 1 rfl) rfl (Nat.le_of_ble_eq_true rfl) rfl ?_
  refine V_iconst (pc := 2) (DCa dc_Shor_settleErrors_0 2 rfl) (by decide) ?_
  refine V_istore_n (ls' := [(0, 2, l0), (1, 0, 0), (2, 0, 0)]) (pc := 3) (DCa dc_Shor_settleErrors_0 3 rfl) rfl (Nat.le_of_ble_eq_true rfl) rfl ?_
  exact v_Shor_settleErrors_L4 F F _ _ _ _
theorem sp_Shor_settleErrors (F : Nat) (l0 : Int) (h : Hp) : Sp yX7_settleErrors cX7_settleErrors 4 none 5 118 [(2, l0)] h (Shor_settleErrors F l0 h) := Sp_of (by decide +kernel) rfl rfl (Nat.le_of_ble_eq_true rfl) (v_Shor_settleErrors F l0 h)

-- TideRakes$Shore.settle
def Shor_settle_L117s (F : Nat) (R51 : Int → Int → Hp → Option (Int × Hp)) (R117 : Int → Int → Int → Hp → Option (Int × Hp)) (l0 l1 l3 : Int) (h : Hp) : Option (Int × Hp) :=
  if l3 < (ishl 2 l1) then
    (gf h l0 107 4 fun v32 =>
    gf h l0 107 4 fun v33 =>
    al h v33 0 (w32 (l3 - (ishl 1 l1))) fun v34 =>
    gf h l0 107 0 fun v35 =>
    gf h v35 106 2 fun v36 =>
    al h v36 0 l1 fun v37 =>
    as h v32 0 l3 (w32 (v34 + v37)) fun h38 =>
    R117 l0 l1 (w32 (l3 + 1)) h38)
  else
    (R51 l0 (w32 (l1 + 1)) h)
def Shor_settle_L117 (F : Nat) (R51 : Int → Int → Hp → Option (Int × Hp)) : Nat → Int → Int → Int → Hp → Option (Int × Hp)
  | 0 => fun _ _ _ _ => none
  | n + 1 => Shor_settle_L117s F R51 (Shor_settle_L117 F R51 n)
def Shor_settle_B162 (F : Nat)  (l0 : Int) (h : Hp) : Option (Int × Hp) :=
  iv h l0 107 (Shor_settleErrors F l0 h) fun r39 h40 =>
  some (0, h40)
def Shor_settle_L51s (F : Nat)  (R51 : Int → Int → Hp → Option (Int × Hp)) (l0 l1 : Int) (h : Hp) : Option (Int × Hp) :=
  gf h l0 107 0 fun v13 =>
  gf h v13 106 4 fun v14 =>
  if l1 < v14 then
    (gf h l0 107 3 fun v15 =>
    al h v15 5 l1 fun v16 =>
    gf h l0 107 0 fun v17 =>
    gf h v17 106 0 fun v18 =>
    al h v18 0 l1 fun v19 =>
    pf h v16 105 0 v19 fun h20 =>
    gf h20 l0 107 0 fun v21 =>
    gf h20 v21 106 1 fun v22 =>
    al h20 v22 0 l1 fun v23 =>
    pf h20 v16 105 1 v23 fun h24 =>
    gf h24 l0 107 0 fun v25 =>
    gf h24 v25 106 3 fun v26 =>
    al h24 v26 0 l1 fun v27 =>
    pf h24 v16 105 3 v27 fun h28 =>
    iv h28 l0 107 (Shor_layOut F l0 v16 h28) fun r29 h30 =>
    lt (ishl 1 l1) fun x31 =>
    Shor_settle_L117 F R51 F l0 l1 x31 h30)
  else
    (Shor_settle_B162 F l0 h)
def Shor_settle_L51 (F : Nat)  : Nat → Int → Int → Hp → Option (Int × Hp)
  | 0 => fun _ _ _ => none
  | n + 1 => Shor_settle_L51s F  (Shor_settle_L51 F  n)
def Shor_settle_L2s (F : Nat)  (R2 : Int → Int → Hp → Option (Int × Hp)) (l0 l1 : Int) (h : Hp) : Option (Int × Hp) :=
  if l1 < 600 then
    (gf h l0 107 1 fun v1 =>
    gf h l0 107 0 fun v2 =>
    gf h v2 106 14 fun v3 =>
    iv h v3 100 (Laws_tide F v3 l1 h) fun r4 h5 =>
    as h5 v1 0 l1 r4 fun h6 =>
    gf h6 l0 107 2 fun v7 =>
    gf h6 l0 107 0 fun v8 =>
    gf h6 v8 106 14 fun v9 =>
    iv h6 v9 100 (Laws_sun F v9 l1 h6) fun r10 h11 =>
    as h11 v7 0 l1 r10 fun h12 =>
    R2 l0 (w32 (l1 + 1)) h12)
  else
    (Shor_settle_L51 F F l0 0 h)
def Shor_settle_L2 (F : Nat)  : Nat → Int → Int → Hp → Option (Int × Hp)
  | 0 => fun _ _ _ => none
  | n + 1 => Shor_settle_L2s F  (Shor_settle_L2 F  n)
def Shor_settle (F : Nat) (l0 : Int) (h : Hp) : Option (Int × Hp) :=
  Shor_settle_L2 F F l0 0 h

theorem dc_Shor_settle_0 : ∀ q ∈ ([(0, .iconst 0, 1), (1, .istore_n 1, 1), (2, .iload_n 1, 1), (3, .sipush 600, 3), (6, .if_icmp .ge 43, 3), (9, .aload_n 0, 1), (10, .getfield 18, 3), (13, .iload_n 1, 1), (14, .aload_n 0, 1), (15, .getfield 12, 3), (18, .getfield 41, 3), (21, .iload_n 1, 1), (22, .invokevirtual 45, 3), (25, .iastore, 1), (26, .aload_n 0, 1), (27, .getfield 22, 3), (30, .iload_n 1, 1), (31, .aload_n 0, 1), (32, .getfield 12, 3), (35, .getfield 41, 3), (38, .iload_n 1, 1), (39, .invokevirtual 50, 3), (42, .iastore, 1), (43, .iinc 1 1, 3), (46, .goto (-44), 3), (49, .iconst 0, 1), (50, .istore_n 1, 1), (51, .iload_n 1, 1), (52, .aload_n 0, 1), (53, .getfield 12, 3), (56, .getfield 52, 3), (59, .if_icmp .ge 103, 3), (62, .aload_n 0, 1), (63, .getfield 27, 3), (66, .iload_n 1, 1), (67, .aaload, 1), (68, .astore_n 2, 1), (69, .aload_n 2, 1), (70, .aload_n 0, 1), (71, .getfield 12, 3), (74, .getfield 56, 3), (77, .iload_n 1, 1), (78, .iaload, 1), (79, .putfield 59, 3), (82, .aload_n 2, 1), (83, .aload_n 0, 1), (84, .getfield 12, 3), (87, .getfield 62, 3), (90, .iload_n 1, 1), (91, .iaload, 1)] : List (Nat × Instr × Nat)), decode cX7_settle q.1 = .ok (q.2.1, q.2.2) := by decide +kernel
theorem dc_Shor_settle_1 : ∀ q ∈ ([(92, .putfield 65, 3), (95, .aload_n 2, 1), (96, .aload_n 0, 1), (97, .getfield 12, 3), (100, .getfield 68, 3), (103, .iload_n 1, 1), (104, .iaload, 1), (105, .putfield 71, 3), (108, .aload_n 0, 1), (109, .aload_n 2, 1), (110, .invokevirtual 73, 3), (113, .iconst 1, 1), (114, .iload_n 1, 1), (115, .ishl, 1), (116, .istore_n 3, 1), (117, .iload_n 3, 1), (118, .iconst 2, 1), (119, .iload_n 1, 1), (120, .ishl, 1), (121, .if_icmp .ge 35, 3), (124, .aload_n 0, 1), (125, .getfield 31, 3), (128, .iload_n 3, 1), (129, .aload_n 0, 1), (130, .getfield 31, 3), (133, .iload_n 3, 1), (134, .iconst 1, 1), (135, .iload_n 1, 1), (136, .ishl, 1), (137, .isub, 1), (138, .iaload, 1), (139, .aload_n 0, 1), (140, .getfield 12, 3), (143, .getfield 77, 3), (146, .iload_n 1, 1), (147, .iaload, 1), (148, .iadd, 1), (149, .iastore, 1), (150, .iinc 3 1, 3), (153, .goto (-36), 3), (156, .iinc 1 1, 3), (159, .goto (-108), 3), (162, .aload_n 0, 1), (163, .invokevirtual 80, 3), (166, .return_, 1)] : List (Nat × Instr × Nat)), decode cX7_settle q.1 = .ok (q.2.1, q.2.2) := by decide +kernel
abbrev X_Shor_settle : MX := (cX7_settle, RX7, "settle", 4, none, 6, 141)
theorem v_Shor_settle_L117s (F : Nat) (R51 : Int → Int → Hp → Option (Int × Hp)) (hR51 : ∀ (l0 l1 : Int) (h : Hp), V X_Shor_settle 51 [(0, 2, l0), (1, 0, l1)] [] h (R51 l0 l1 h)) (R117 : Int → Int → Int → Hp → Option (Int × Hp)) (hR117 : ∀ (l0 l1 l3 : Int) (h : Hp), V X_Shor_settle 117 [(0, 2, l0), (1, 0, l1), (3, 0, l3)] [] h (R117 l0 l1 l3 h)) (l0 l1 l3 : Int) (h : Hp) : V X_Shor_settle 117 [(0, 2, l0), (1, 0, l1), (3, 0, l3)] [] h (Shor_settle_L117s F R51 R117 l0 l1 l3 h) := by
  unfold Shor_settle_L117s
  refine V_iload_n (pc := 117) (DCa dc_Shor_settle_1 15 rfl) rfl 2 rfl ?_
  refine V_iconst (pc := 118) (DCa dc_Shor_settle_1 16 rfl) (by decide) ?_
  refine V_iload_n (pc := 119) (DCa dc_Shor_settle_1 17 rfl) rfl 1 rfl ?_
  refine V_ishl (pc := 120) (DCa dc_Shor_settle_1 18 rfl) ?_
  refine V_icmp_ge (tgt := 156) (pc := 121) (DCa dc_Shor_settle_1 19 rfl) (by decide) (fun _ => ?_) (fun _ => ?_)
  · refine V_aload_n (pc := 124) (DCa dc_Shor_settle_1 20 rfl) rfl 0 rfl ?_
    refine Q_getf (k := 4) (pc := 125) (DCa dc_Shor_settle_1 21 rfl) cls_7 (Nat.le_of_ble_eq_true rfl) fl_7_31 rfl rfl rfl (fun v32 => ?_)
    refine V_iload_n (pc := 128) (DCa dc_Shor_settle_1 22 rfl) rfl 2 rfl ?_
    refine V_aload_n (pc := 129) (DCa dc_Shor_settle_1 23 rfl) rfl 0 rfl ?_
    refine Q_getf (k := 4) (pc := 130) (DCa dc_Shor_settle_1 24 rfl) cls_7 (Nat.le_of_ble_eq_true rfl) fl_7_31 rfl rfl rfl (fun v33 => ?_)
    refine V_iload_n (pc := 133) (DCa dc_Shor_settle_1 25 rfl) rfl 2 rfl ?_
    refine V_iconst (pc := 134) (DCa dc_Shor_settle_1 26 rfl) (by decide) ?_
    refine V_iload_n (pc := 135) (DCa dc_Shor_settle_1 27 rfl) rfl 1 rfl ?_
    refine V_ishl (pc := 136) (DCa dc_Shor_settle_1 28 rfl) ?_
    refine V_isub (pc := 137) (DCa dc_Shor_settle_1 29 rfl) ?_
    refine Q_iaload (pc := 138) (DCa dc_Shor_settle_1 30 rfl) (fun v34 => ?_)
    refine V_aload_n (pc := 139) (DCa dc_Shor_settle_1 31 rfl) rfl 0 rfl ?_
    refine Q_getf (k := 0) (pc := 140) (DCa dc_Shor_settle_1 32 rfl) cls_7 (Nat.le_of_ble_eq_true rfl) fl_7_12 rfl rfl rfl (fun v35 => ?_)
    refine Q_getf (k := 2) (pc := 143) (DCa dc_Shor_settle_1 33 rfl) cls_6 (Nat.le_of_ble_eq_true rfl) fl_7_77 rfl rfl rfl (fun v36 => ?_)
    refine V_iload_n (pc := 146) (DCa dc_Shor_settle_1 34 rfl) rfl 1 rfl ?_
    refine Q_iaload (pc := 147) (DCa dc_Shor_settle_1 35 rfl) (fun v37 => ?_)
    refine V_iadd (pc := 148) (DCa dc_Shor_settle_1 36 rfl) ?_
    refine Q_iastore (pc := 149) (DCa dc_Shor_settle_1 37 rfl) (fun h38 => ?_)
    refine V_iinc (ls' := [(0, 2, l0), (1, 0, l1), (3, 0, w32 (l3 + 1))]) (pc := 150) (DCa dc_Shor_settle_1 38 rfl) (Nat.le_of_ble_eq_true rfl) (by decide) 2 rfl rfl ?_
    refine V_goto (tgt := 117) (pc := 153) (DCa dc_Shor_settle_1 39 rfl) (by decide) ?_
    exact hR117 _ _ _ _
  · refine V_iinc (ls' := [(0, 2, l0), (1, 0, w32 (l1 + 1)), (3, 0, l3)]) (pc := 156) (DCa dc_Shor_settle_1 40 rfl) (Nat.le_of_ble_eq_true rfl) (by decide) 1 rfl rfl ?_
    refine V_goto (tgt := 51) (pc := 159) (DCa dc_Shor_settle_1 41 rfl) (by decide) ?_
    refine V_pick [0, 1] rfl ?_
    exact hR51 _ _ _
theorem v_Shor_settle_L117 (F : Nat) (R51 : Int → Int → Hp → Option (Int × Hp)) (hR51 : ∀ (l0 l1 : Int) (h : Hp), V X_Shor_settle 51 [(0, 2, l0), (1, 0, l1)] [] h (R51 l0 l1 h)) (n : Nat) : ∀ (l0 l1 l3 : Int) (h : Hp), V X_Shor_settle 117 [(0, 2, l0), (1, 0, l1), (3, 0, l3)] [] h (Shor_settle_L117 F R51 n l0 l1 l3 h) := by
  induction n with
  | zero => intros; exact V_none
  | succ n ih => exact fun l0 l1 l3 h => v_Shor_settle_L117s F R51 hR51 _ ih l0 l1 l3 h
theorem v_Shor_settle_B162 (F : Nat)  (l0 : Int) (h : Hp) : V X_Shor_settle 162 [(0, 2, l0)] [] h (Shor_settle_B162 F  l0 h) := by
  unfold Shor_settle_B162
  refine V_aload_n (pc := 162) (DCa dc_Shor_settle_1 42 rfl) rfl 0 rfl ?_
  refine Q_callv (ci := 7) (st := []) (pc := 163) (DCa dc_Shor_settle_1 43 rfl) (sp_Shor_settleErrors F _ _) ce_Shor_settleErrors ml_7_80 rfl rfl ⟨Nat.le_of_ble_eq_true rfl, Nat.le_of_ble_eq_true rfl⟩ rfl (Nat.le_of_ble_eq_true rfl) (fun r39 h40 => ?_)
  exact V_return (pc := 166) (DCa dc_Shor_settle_1 44 rfl) rfl
theorem v_Shor_settle_L51s (F : Nat)  (R51 : Int → Int → Hp → Option (Int × Hp)) (hR51 : ∀ (l0 l1 : Int) (h : Hp), V X_Shor_settle 51 [(0, 2, l0), (1, 0, l1)] [] h (R51 l0 l1 h)) (l0 l1 : Int) (h : Hp) : V X_Shor_settle 51 [(0, 2, l0), (1, 0, l1)] [] h (Shor_settle_L51s F  R51 l0 l1 h) := by
  unfold Shor_settle_L51s
  refine V_iload_n (pc := 51) (DCa dc_Shor_settle_0 27 rfl) rfl 1 rfl ?_
  refine V_aload_n (pc := 52) (DCa dc_Shor_settle_0 28 rfl) rfl 0 rfl ?_
  refine Q_getf (k := 0) (pc := 53) (DCa dc_Shor_settle_0 29 rfl) cls_7 (Nat.le_of_ble_eq_true rfl) fl_7_12 rfl rfl rfl (fun v13 => ?_)
  refine Q_getf (k := 4) (pc := 56) (DCa dc_Shor_settle_0 30 rfl) cls_6 (Nat.le_of_ble_eq_true rfl) fl_7_52 rfl rfl rfl (fun v14 => ?_)
  refine V_icmp_ge (tgt := 162) (pc := 59) (DCa dc_Shor_settle_0 31 rfl) (by decide) (fun _ => ?_) (fun _ => ?_)
  · refine V_aload_n (pc := 62) (DCa dc_Shor_settle_0 32 rfl) rfl 0 rfl ?_
    refine Q_getf (k := 3) (pc := 63) (DCa dc_Shor_settle_0 33 rfl) cls_7 (Nat.le_of_ble_eq_true rfl) fl_7_27 rfl rfl rfl (fun v15 => ?_)
    refine V_iload_n (pc := 66) (DCa dc_Shor_settle_0 34 rfl) rfl 1 rfl ?_
    refine Q_aaload (pc := 67) (DCa dc_Shor_settle_0 35 rfl) (by decide) rfl rfl (fun v16 => ?_)
    refine V_astore_n (ls' := [(0, 2, l0), (1, 0, l1), (2, 2, v16)]) (pc := 68) (DCa dc_Shor_settle_0 36 rfl) rfl (Nat.le_of_ble_eq_true rfl) rfl ?_
    refine V_aload_n (pc := 69) (DCa dc_Shor_settle_0 37 rfl) rfl 2 rfl ?_
    refine V_aload_n (pc := 70) (DCa dc_Shor_settle_0 38 rfl) rfl 0 rfl ?_
    refine Q_getf (k := 0) (pc := 71) (DCa dc_Shor_settle_0 39 rfl) cls_7 (Nat.le_of_ble_eq_true rfl) fl_7_12 rfl rfl rfl (fun v17 => ?_)
    refine Q_getf (k := 0) (pc := 74) (DCa dc_Shor_settle_0 40 rfl) cls_6 (Nat.le_of_ble_eq_true rfl) fl_7_56 rfl rfl rfl (fun v18 => ?_)
    refine V_iload_n (pc := 77) (DCa dc_Shor_settle_0 41 rfl) rfl 1 rfl ?_
    refine Q_iaload (pc := 78) (DCa dc_Shor_settle_0 42 rfl) (fun v19 => ?_)
    refine Q_putf (k := 0) (pc := 79) (DCa dc_Shor_settle_0 43 rfl) cls_5 (Nat.le_of_ble_eq_true rfl) fl_7_59 rfl rfl rfl (Or.inl rfl) (Or.inl ⟨rfl, rfl⟩) (fun h20 => ?_)
    refine V_aload_n (pc := 82) (DCa dc_Shor_settle_0 44 rfl) rfl 2 rfl ?_
    refine V_aload_n (pc := 83) (DCa dc_Shor_settle_0 45 rfl) rfl 0 rfl ?_
    refine Q_getf (k := 0) (pc := 84) (DCa dc_Shor_settle_0 46 rfl) cls_7 (Nat.le_of_ble_eq_true rfl) fl_7_12 rfl rfl rfl (fun v21 => ?_)
    refine Q_getf (k := 1) (pc := 87) (DCa dc_Shor_settle_0 47 rfl) cls_6 (Nat.le_of_ble_eq_true rfl) fl_7_62 rfl rfl rfl (fun v22 => ?_)
    refine V_iload_n (pc := 90) (DCa dc_Shor_settle_0 48 rfl) rfl 1 rfl ?_
    refine Q_iaload (pc := 91) (DCa dc_Shor_settle_0 49 rfl) (fun v23 => ?_)
    refine Q_putf (k := 1) (pc := 92) (DCa dc_Shor_settle_1 0 rfl) cls_5 (Nat.le_of_ble_eq_true rfl) fl_7_65 rfl rfl rfl (Or.inl rfl) (Or.inl ⟨rfl, rfl⟩) (fun h24 => ?_)
    refine V_aload_n (pc := 95) (DCa dc_Shor_settle_1 1 rfl) rfl 2 rfl ?_
    refine V_aload_n (pc := 96) (DCa dc_Shor_settle_1 2 rfl) rfl 0 rfl ?_
    refine Q_getf (k := 0) (pc := 97) (DCa dc_Shor_settle_1 3 rfl) cls_7 (Nat.le_of_ble_eq_true rfl) fl_7_12 rfl rfl rfl (fun v25 => ?_)
    refine Q_getf (k := 3) (pc := 100) (DCa dc_Shor_settle_1 4 rfl) cls_6 (Nat.le_of_ble_eq_true rfl) fl_7_68 rfl rfl rfl (fun v26 => ?_)
    refine V_iload_n (pc := 103) (DCa dc_Shor_settle_1 5 rfl) rfl 1 rfl ?_
    refine Q_iaload (pc := 104) (DCa dc_Shor_settle_1 6 rfl) (fun v27 => ?_)
    refine Q_putf (k := 3) (pc := 105) (DCa dc_Shor_settle_1 7 rfl) cls_5 (Nat.le_of_ble_eq_true rfl) fl_7_71 rfl rfl rfl (Or.inl rfl) (Or.inl ⟨rfl, rfl⟩) (fun h28 => ?_)
    refine V_aload_n (pc := 108) (DCa dc_Shor_settle_1 8 rfl) rfl 0 rfl ?_
    refine V_aload_n (pc := 109) (DCa dc_Shor_settle_1 9 rfl) rfl 2 rfl ?_
    refine Q_callv (ci := 7) (st := []) (pc := 110) (DCa dc_Shor_settle_1 10 rfl) (sp_Shor_layOut F _ _ _) ce_Shor_layOut ml_7_73 rfl rfl ⟨Nat.le_of_ble_eq_true rfl, Nat.le_of_ble_eq_true rfl⟩ rfl (Nat.le_of_ble_eq_true rfl) (fun r29 h30 => ?_)
    refine V_iconst (pc := 113) (DCa dc_Shor_settle_1 11 rfl) (by decide) ?_
    refine V_iload_n (pc := 114) (DCa dc_Shor_settle_1 12 rfl) rfl 1 rfl ?_
    refine V_ishl (pc := 115) (DCa dc_Shor_settle_1 13 rfl) ?_
    refine Q_lt (fun x31 => ?_)
    refine V_istore_n (ls' := [(0, 2, l0), (1, 0, l1), (2, 2, v16), (3, 0, x31)]) (pc := 116) (DCa dc_Shor_settle_1 14 rfl) rfl (Nat.le_of_ble_eq_true rfl) rfl ?_
    refine V_pick [0, 1, 3] rfl ?_
    exact v_Shor_settle_L117 F R51 hR51 F _ _ _ _
  · refine V_pick [0] rfl ?_
    exact v_Shor_settle_B162 F _ _
theorem v_Shor_settle_L51 (F : Nat)  (n : Nat) : ∀ (l0 l1 : Int) (h : Hp), V X_Shor_settle 51 [(0, 2, l0), (1, 0, l1)] [] h (Shor_settle_L51 F  n l0 l1 h) := by
  induction n with
  | zero => intros; exact V_none
  | succ n ih => exact fun l0 l1 h => v_Shor_settle_L51s F  _ ih l0 l1 h
theorem v_Shor_settle_L2s (F : Nat)  (R2 : Int → Int → Hp → Option (Int × Hp)) (hR2 : ∀ (l0 l1 : Int) (h : Hp), V X_Shor_settle 2 [(0, 2, l0), (1, 0, l1)] [] h (R2 l0 l1 h)) (l0 l1 : Int) (h : Hp) : V X_Shor_settle 2 [(0, 2, l0), (1, 0, l1)] [] h (Shor_settle_L2s F  R2 l0 l1 h) := by
  unfold Shor_settle_L2s
  refine V_iload_n (pc := 2) (DCa dc_Shor_settle_0 2 rfl) rfl 1 rfl ?_
  refine V_sipush (pc := 3) (DCa dc_Shor_settle_0 3 rfl) (by decide) ?_
  refine V_icmp_ge (tgt := 49) (pc := 6) (DCa dc_Shor_settle_0 4 rfl) (by decide) (fun _ => ?_) (fun _ => ?_)
  · refine V_aload_n (pc := 9) (DCa dc_Shor_settle_0 5 rfl) rfl 0 rfl ?_
    refine Q_getf (k := 1) (pc := 10) (DCa dc_Shor_settle_0 6 rfl) cls_7 (Nat.le_of_ble_eq_true rfl) fl_7_18 rfl rfl rfl (fun v1 => ?_)
    refine V_iload_n (pc := 13) (DCa dc_Shor_settle_0 7 rfl) rfl 1 rfl ?_
    refine V_aload_n (pc := 14) (DCa dc_Shor_settle_0 8 rfl) rfl 0 rfl ?_
    refine Q_getf (k := 0) (pc := 15) (DCa dc_Shor_settle_0 9 rfl) cls_7 (Nat.le_of_ble_eq_true rfl) fl_7_12 rfl rfl rfl (fun v2 => ?_)
    refine Q_getf (k := 14) (pc := 18) (DCa dc_Shor_settle_0 10 rfl) cls_6 (Nat.le_of_ble_eq_true rfl) fl_7_41 rfl rfl rfl (fun v3 => ?_)
    refine V_iload_n (pc := 21) (DCa dc_Shor_settle_0 11 rfl) rfl 1 rfl ?_
    refine Q_callv (ci := 0) (st := [(0, l1), (2, v1)]) (pc := 22) (DCa dc_Shor_settle_0 12 rfl) (sp_Laws_tide F _ _ _) ce_Laws_tide ml_7_45 rfl rfl ⟨Nat.le_of_ble_eq_true rfl, Nat.le_of_ble_eq_true rfl⟩ rfl (Nat.le_of_ble_eq_true rfl) (fun r4 h5 => ?_)
    refine Q_iastore (pc := 25) (DCa dc_Shor_settle_0 13 rfl) (fun h6 => ?_)
    refine V_aload_n (pc := 26) (DCa dc_Shor_settle_0 14 rfl) rfl 0 rfl ?_
    refine Q_getf (k := 2) (pc := 27) (DCa dc_Shor_settle_0 15 rfl) cls_7 (Nat.le_of_ble_eq_true rfl) fl_7_22 rfl rfl rfl (fun v7 => ?_)
    refine V_iload_n (pc := 30) (DCa dc_Shor_settle_0 16 rfl) rfl 1 rfl ?_
    refine V_aload_n (pc := 31) (DCa dc_Shor_settle_0 17 rfl) rfl 0 rfl ?_
    refine Q_getf (k := 0) (pc := 32) (DCa dc_Shor_settle_0 18 rfl) cls_7 (Nat.le_of_ble_eq_true rfl) fl_7_12 rfl rfl rfl (fun v8 => ?_)
    refine Q_getf (k := 14) (pc := 35) (DCa dc_Shor_settle_0 19 rfl) cls_6 (Nat.le_of_ble_eq_true rfl) fl_7_41 rfl rfl rfl (fun v9 => ?_)
    refine V_iload_n (pc := 38) (DCa dc_Shor_settle_0 20 rfl) rfl 1 rfl ?_
    refine Q_callv (ci := 0) (st := [(0, l1), (2, v7)]) (pc := 39) (DCa dc_Shor_settle_0 21 rfl) (sp_Laws_sun F _ _ _) ce_Laws_sun ml_7_50 rfl rfl ⟨Nat.le_of_ble_eq_true rfl, Nat.le_of_ble_eq_true rfl⟩ rfl (Nat.le_of_ble_eq_true rfl) (fun r10 h11 => ?_)
    refine Q_iastore (pc := 42) (DCa dc_Shor_settle_0 22 rfl) (fun h12 => ?_)
    refine V_iinc (ls' := [(0, 2, l0), (1, 0, w32 (l1 + 1))]) (pc := 43) (DCa dc_Shor_settle_0 23 rfl) (Nat.le_of_ble_eq_true rfl) (by decide) 1 rfl rfl ?_
    refine V_goto (tgt := 2) (pc := 46) (DCa dc_Shor_settle_0 24 rfl) (by decide) ?_
    exact hR2 _ _ _
  · refine V_iconst (pc := 49) (DCa dc_Shor_settle_0 25 rfl) (by decide) ?_
    refine V_istore_n (ls' := [(0, 2, l0), (1, 0, 0)]) (pc := 50) (DCa dc_Shor_settle_0 26 rfl) rfl (Nat.le_of_ble_eq_true rfl) rfl ?_
    exact v_Shor_settle_L51 F F _ _ _
theorem v_Shor_settle_L2 (F : Nat)  (n : Nat) : ∀ (l0 l1 : Int) (h : Hp), V X_Shor_settle 2 [(0, 2, l0), (1, 0, l1)] [] h (Shor_settle_L2 F  n l0 l1 h) := by
  induction n with
  | zero => intros; exact V_none
  | succ n ih => exact fun l0 l1 h => v_Shor_settle_L2s F  _ ih l0 l1 h
theorem v_Shor_settle (F : Nat) (l0 : Int) (h : Hp) : V X_Shor_settle 0 [(0, 2, l0)] [] h (Shor_settle F l0 h) := by
  unfold Shor_settle
  refine V_iconst (pc := 0) (DCa dc_Shor_settle_0 0 rfl) (by decide) ?_
  refine V_istore_n (ls' := [(0, 2, l0), (1, 0, 0)]) (pc := 1) (DCa dc_Shor_settle_0 1 rfl) rfl (Nat.le_of_ble_eq_true rfl) rfl ?_
  exact v_Shor_settle_L2 F F _ _ _
theorem sp_Shor_settle (F : Nat) (l0 : Int) (h : Hp) : Sp yX7_settle cX7_settle 4 none 6 141 [(2, l0)] h (Shor_settle F l0 h) := Sp_of (by decide +kernel) rfl rfl (Nat.le_of_ble_eq_true rfl) (v_Shor_settle F l0 h)

-- TideRakes$Shore.holds
def Shor_holds (F : Nat) (l0 l1 l2 : Int) (h : Hp) : Option (Int × Hp) :=
  iv h l1 105 (Sand_freeFor F l1 l2 h) fun r1 h2 =>
  gf h2 l0 107 0 fun v3 =>
  gf h2 v3 106 9 fun v4 =>
  if r1 < v4 then
    (rz 0 h2)
  else
    (gf h2 l0 107 0 fun v5 =>
    gf h2 v5 106 10 fun v6 =>
    if v6 < r1 then
      (rz 0 h2)
    else
      (rz 1 h2))

theorem dc_Shor_holds_0 : ∀ q ∈ ([(0, .aload_n 1, 1), (1, .iload_n 2, 1), (2, .invokevirtual 99, 3), (5, .istore_n 3, 1), (6, .iload_n 3, 1), (7, .aload_n 0, 1), (8, .getfield 12, 3), (11, .getfield 89, 3), (14, .if_icmp .lt 18, 3), (17, .iload_n 3, 1), (18, .aload_n 0, 1), (19, .getfield 12, 3), (22, .getfield 92, 3), (25, .if_icmp .gt 7, 3), (28, .iconst 1, 1), (29, .goto 4, 3), (32, .iconst 0, 1), (33, .ireturn, 1)] : List (Nat × Instr × Nat)), decode cX7_holds q.1 = .ok (q.2.1, q.2.2) := by decide +kernel
abbrev X_Shor_holds : MX := (cX7_holds, RX7, "holds", 4, (some (.boolean)), 2, 41)
theorem v_Shor_holds (F : Nat) (l0 l1 l2 : Int) (h : Hp) : V X_Shor_holds 0 [(0, 2, l0), (1, 2, l1), (2, 0, l2)] [] h (Shor_holds F l0 l1 l2 h) := by
  unfold Shor_holds
  refine V_aload_n (pc := 0) (DCa dc_Shor_holds_0 0 rfl) rfl 1 rfl ?_
  refine V_iload_n (pc := 1) (DCa dc_Shor_holds_0 1 rfl) rfl 2 rfl ?_
  refine Q_callv (ci := 5) (st := []) (pc := 2) (DCa dc_Shor_holds_0 2 rfl) (sp_Sand_freeFor F _ _ _) ce_Sand_freeFor ml_7_99 rfl rfl ⟨Nat.le_of_ble_eq_true rfl, Nat.le_of_ble_eq_true rfl⟩ rfl (Nat.le_of_ble_eq_true rfl) (fun r1 h2 => ?_)
  refine V_istore_n (ls' := [(0, 2, l0), (1, 2, l1), (2, 0, l2), (3, 0, r1)]) (pc := 5) (DCa dc_Shor_holds_0 3 rfl) rfl (Nat.le_of_ble_eq_true rfl) rfl ?_
  refine V_iload_n (pc := 6) (DCa dc_Shor_holds_0 4 rfl) rfl 3 rfl ?_
  refine V_aload_n (pc := 7) (DCa dc_Shor_holds_0 5 rfl) rfl 0 rfl ?_
  refine Q_getf (k := 0) (pc := 8) (DCa dc_Shor_holds_0 6 rfl) cls_7 (Nat.le_of_ble_eq_true rfl) fl_7_12 rfl rfl rfl (fun v3 => ?_)
  refine Q_getf (k := 9) (pc := 11) (DCa dc_Shor_holds_0 7 rfl) cls_6 (Nat.le_of_ble_eq_true rfl) fl_7_89 rfl rfl rfl (fun v4 => ?_)
  refine V_icmp_lt (tgt := 32) (pc := 14) (DCa dc_Shor_holds_0 8 rfl) (by decide) (fun _ => ?_) (fun _ => ?_)
  · refine V_iconst (pc := 32) (DCa dc_Shor_holds_0 16 rfl) (by decide) ?_
    exact V_zreturn (pc := 33) (DCa dc_Shor_holds_0 17 rfl) rfl
  · refine V_iload_n (pc := 17) (DCa dc_Shor_holds_0 9 rfl) rfl 3 rfl ?_
    refine V_aload_n (pc := 18) (DCa dc_Shor_holds_0 10 rfl) rfl 0 rfl ?_
    refine Q_getf (k := 0) (pc := 19) (DCa dc_Shor_holds_0 11 rfl) cls_7 (Nat.le_of_ble_eq_true rfl) fl_7_12 rfl rfl rfl (fun v5 => ?_)
    refine Q_getf (k := 10) (pc := 22) (DCa dc_Shor_holds_0 12 rfl) cls_6 (Nat.le_of_ble_eq_true rfl) fl_7_92 rfl rfl rfl (fun v6 => ?_)
    refine V_icmp_gt (tgt := 32) (pc := 25) (DCa dc_Shor_holds_0 13 rfl) (by decide) (fun _ => ?_) (fun _ => ?_)
    · refine V_iconst (pc := 32) (DCa dc_Shor_holds_0 16 rfl) (by decide) ?_
      exact V_zreturn (pc := 33) (DCa dc_Shor_holds_0 17 rfl) rfl
    · refine V_iconst (pc := 28) (DCa dc_Shor_holds_0 14 rfl) (by decide) ?_
      refine V_goto (tgt := 33) (pc := 29) (DCa dc_Shor_holds_0 15 rfl) (by decide) ?_
      exact V_zreturn (pc := 33) (DCa dc_Shor_holds_0 17 rfl) rfl
theorem sp_Shor_holds (F : Nat) (l0 l1 l2 : Int) (h : Hp) : Sp yX7_holds cX7_holds 4 (some (.boolean)) 2 41 [(2, l0), (2, l1), (0, l2)] h (Shor_holds F l0 l1 l2 h) := Sp_of (by decide +kernel) rfl rfl (Nat.le_of_ble_eq_true rfl) (v_Shor_holds F l0 l1 l2 h)

-- TideRakes$Shore.dogTells
def Shor_dogTells (F : Nat) (l0 l1 l2 : Int) (h : Hp) : Option (Int × Hp) :=
  gf h l0 107 0 fun v1 =>
  gf h v1 106 14 fun v2 =>
  gf h l0 107 0 fun v3 =>
  gf h v3 106 0 fun v4 =>
  al h v4 0 l1 fun v5 =>
  gf h l0 107 0 fun v6 =>
  gf h v6 106 1 fun v7 =>
  al h v7 0 l1 fun v8 =>
  iv h v2 100 (Laws_loose F v2 v5 v8 l2 h) fun r9 h10 =>
  some (r9, h10)

theorem dc_Shor_dogTells_0 : ∀ q ∈ ([(0, .aload_n 0, 1), (1, .getfield 12, 3), (4, .getfield 41, 3), (7, .aload_n 0, 1), (8, .getfield 12, 3), (11, .getfield 56, 3), (14, .iload_n 1, 1), (15, .iaload, 1), (16, .aload_n 0, 1), (17, .getfield 12, 3), (20, .getfield 62, 3), (23, .iload_n 1, 1), (24, .iaload, 1), (25, .iload_n 2, 1), (26, .invokevirtual 102, 3), (29, .ireturn, 1)] : List (Nat × Instr × Nat)), decode cX7_dogTells q.1 = .ok (q.2.1, q.2.2) := by decide +kernel
abbrev X_Shor_dogTells : MX := (cX7_dogTells, RX7, "dogTells", 3, (some (.int)), 4, 93)
theorem v_Shor_dogTells (F : Nat) (l0 l1 l2 : Int) (h : Hp) : V X_Shor_dogTells 0 [(0, 2, l0), (1, 0, l1), (2, 0, l2)] [] h (Shor_dogTells F l0 l1 l2 h) := by
  unfold Shor_dogTells
  refine V_aload_n (pc := 0) (DCa dc_Shor_dogTells_0 0 rfl) rfl 0 rfl ?_
  refine Q_getf (k := 0) (pc := 1) (DCa dc_Shor_dogTells_0 1 rfl) cls_7 (Nat.le_of_ble_eq_true rfl) fl_7_12 rfl rfl rfl (fun v1 => ?_)
  refine Q_getf (k := 14) (pc := 4) (DCa dc_Shor_dogTells_0 2 rfl) cls_6 (Nat.le_of_ble_eq_true rfl) fl_7_41 rfl rfl rfl (fun v2 => ?_)
  refine V_aload_n (pc := 7) (DCa dc_Shor_dogTells_0 3 rfl) rfl 0 rfl ?_
  refine Q_getf (k := 0) (pc := 8) (DCa dc_Shor_dogTells_0 4 rfl) cls_7 (Nat.le_of_ble_eq_true rfl) fl_7_12 rfl rfl rfl (fun v3 => ?_)
  refine Q_getf (k := 0) (pc := 11) (DCa dc_Shor_dogTells_0 5 rfl) cls_6 (Nat.le_of_ble_eq_true rfl) fl_7_56 rfl rfl rfl (fun v4 => ?_)
  refine V_iload_n (pc := 14) (DCa dc_Shor_dogTells_0 6 rfl) rfl 1 rfl ?_
  refine Q_iaload (pc := 15) (DCa dc_Shor_dogTells_0 7 rfl) (fun v5 => ?_)
  refine V_aload_n (pc := 16) (DCa dc_Shor_dogTells_0 8 rfl) rfl 0 rfl ?_
  refine Q_getf (k := 0) (pc := 17) (DCa dc_Shor_dogTells_0 9 rfl) cls_7 (Nat.le_of_ble_eq_true rfl) fl_7_12 rfl rfl rfl (fun v6 => ?_)
  refine Q_getf (k := 1) (pc := 20) (DCa dc_Shor_dogTells_0 10 rfl) cls_6 (Nat.le_of_ble_eq_true rfl) fl_7_62 rfl rfl rfl (fun v7 => ?_)
  refine V_iload_n (pc := 23) (DCa dc_Shor_dogTells_0 11 rfl) rfl 1 rfl ?_
  refine Q_iaload (pc := 24) (DCa dc_Shor_dogTells_0 12 rfl) (fun v8 => ?_)
  refine V_iload_n (pc := 25) (DCa dc_Shor_dogTells_0 13 rfl) rfl 2 rfl ?_
  refine Q_callv (ci := 0) (st := []) (pc := 26) (DCa dc_Shor_dogTells_0 14 rfl) (sp_Laws_loose F _ _ _ _ _) ce_Laws_loose ml_7_102 rfl rfl ⟨Nat.le_of_ble_eq_true rfl, Nat.le_of_ble_eq_true rfl⟩ rfl (Nat.le_of_ble_eq_true rfl) (fun r9 h10 => ?_)
  exact V_ireturn (pc := 29) (DCa dc_Shor_dogTells_0 15 rfl) rfl
theorem sp_Shor_dogTells (F : Nat) (l0 l1 l2 : Int) (h : Hp) : Sp yX7_dogTells cX7_dogTells 3 (some (.int)) 4 93 [(2, l0), (0, l1), (0, l2)] h (Shor_dogTells F l0 l1 l2 h) := Sp_of (by decide +kernel) rfl rfl (Nat.le_of_ble_eq_true rfl) (v_Shor_dogTells F l0 l1 l2 h)

-- TideRakes$Stand.<init>
def Stan_init_L70s (F : Nat)  (R70 : Int → Int → Hp → Option (Int × Hp)) (l0 l1 : Int) (h : Hp) : Option (Int × Hp) :=
  if l1 < 3 then
    (gf h l0 108 0 fun v25 =>
    no h 110 5 fun v26 h27 =>
    iv h27 v26 110 (Walk_init F v26 h27) fun r28 h29 =>
    ar h29 v25 7 l1 v26 110 fun h30 =>
    R70 l0 (w32 (l1 + 1)) h30)
  else
    (some (0, h))
def Stan_init_L70 (F : Nat)  : Nat → Int → Int → Hp → Option (Int × Hp)
  | 0 => fun _ _ _ => none
  | n + 1 => Stan_init_L70s F  (Stan_init_L70 F  n)
def Stan_init (F : Nat) (l0 : Int) (h : Hp) : Option (Int × Hp) :=
  vc h l0 108 <|
  na h 7 3 fun v1 h2 =>
  pf h2 l0 108 0 v1 fun h3 =>
  na h3 0 8 fun v4 h5 =>
  pf h5 l0 108 1 v4 fun h6 =>
  na h6 0 8 fun v7 h8 =>
  pf h8 l0 108 2 v7 fun h9 =>
  na h9 0 8 fun v10 h11 =>
  pf h11 l0 108 3 v10 fun h12 =>
  na h12 2 8 fun v13 h14 =>
  pf h14 l0 108 4 v13 fun h15 =>
  na h15 0 30 fun v16 h17 =>
  pf h17 l0 108 5 v16 fun h18 =>
  na h18 0 30 fun v19 h20 =>
  pf h20 l0 108 6 v19 fun h21 =>
  na h21 0 30 fun v22 h23 =>
  pf h23 l0 108 7 v22 fun h24 =>
  Stan_init_L70 F F l0 0 h24

theorem dc_Stan_init_0 : ∀ q ∈ ([(0, .aload_n 0, 1), (1, .invokespecial 3, 3), (4, .aload_n 0, 1), (5, .iconst 3, 1), (6, .anewarray 9, 3), (9, .putfield 11, 3), (12, .aload_n 0, 1), (13, .bipush 8, 2), (15, .newarray .int, 2), (17, .putfield 17, 3), (20, .aload_n 0, 1), (21, .bipush 8, 2), (23, .newarray .int, 2), (25, .putfield 21, 3), (28, .aload_n 0, 1), (29, .bipush 8, 2), (31, .newarray .int, 2), (33, .putfield 24, 3), (36, .aload_n 0, 1), (37, .bipush 8, 2), (39, .newarray .boolean, 2), (41, .putfield 27, 3), (44, .aload_n 0, 1), (45, .bipush 30, 2), (47, .newarray .int, 2), (49, .putfield 31, 3), (52, .aload_n 0, 1), (53, .bipush 30, 2), (55, .newarray .int, 2), (57, .putfield 34, 3), (60, .aload_n 0, 1), (61, .bipush 30, 2), (63, .newarray .int, 2), (65, .putfield 37, 3), (68, .iconst 0, 1), (69, .istore_n 1, 1), (70, .iload_n 1, 1), (71, .iconst 3, 1), (72, .if_icmp .ge 22, 3), (75, .aload_n 0, 1), (76, .getfield 11, 3), (79, .iload_n 1, 1), (80, .new 9, 3), (83, .dup, 1), (84, .invokespecial 40, 3), (87, .aastore, 1), (88, .iinc 1 1, 3), (91, .goto (-21), 3), (94, .return_, 1)] : List (Nat × Instr × Nat)), decode cX8_init q.1 = .ok (q.2.1, q.2.2) := by decide +kernel
abbrev X_Stan_init : MX := (cX8_init, RX8, "<init>", 2, none, 2, 40)
theorem v_Stan_init_L70s (F : Nat)  (R70 : Int → Int → Hp → Option (Int × Hp)) (hR70 : ∀ (l0 l1 : Int) (h : Hp), V X_Stan_init 70 [(0, 2, l0), (1, 0, l1)] [] h (R70 l0 l1 h)) (l0 l1 : Int) (h : Hp) : V X_Stan_init 70 [(0, 2, l0), (1, 0, l1)] [] h (Stan_init_L70s F  R70 l0 l1 h) := by
  unfold Stan_init_L70s
  refine V_iload_n (pc := 70) (DCa dc_Stan_init_0 36 rfl) rfl 1 rfl ?_
  refine V_iconst (pc := 71) (DCa dc_Stan_init_0 37 rfl) (by decide) ?_
  refine V_icmp_ge (tgt := 94) (pc := 72) (DCa dc_Stan_init_0 38 rfl) (by decide) (fun _ => ?_) (fun _ => ?_)
  · refine V_aload_n (pc := 75) (DCa dc_Stan_init_0 39 rfl) rfl 0 rfl ?_
    refine Q_getf (k := 0) (pc := 76) (DCa dc_Stan_init_0 40 rfl) cls_8 (Nat.le_of_ble_eq_true rfl) fl_8_11 rfl rfl rfl (fun v25 => ?_)
    refine V_iload_n (pc := 79) (DCa dc_Stan_init_0 41 rfl) rfl 1 rfl ?_
    refine Q_new (pc := 80) (DCa dc_Stan_init_0 42 rfl) cls_10 (tb2 96 rfl rfl) rfl rfl (fun v26 h27 => ?_)
    refine V_dup (pc := 83) (DCa dc_Stan_init_0 43 rfl) rfl ?_
    refine Q_calliN (ci := 10) (host := "TideRakes") (st := [(2, v26), (0, l1), (2, v25)]) (pc := 84) (DCa dc_Stan_init_0 44 rfl) (sp_Walk_init F _ _) ce_Walk_init (by decide +kernel) rfl rfl ⟨Nat.le_of_ble_eq_true rfl, Nat.le_of_ble_eq_true rfl⟩ rfl (Nat.le_of_ble_eq_true rfl) (fun r28 h29 => ?_)
    refine Q_aastore (pc := 87) (DCa dc_Stan_init_0 45 rfl) (by decide) rfl cls_10 rfl rfl (fun h30 => ?_)
    refine V_iinc (ls' := [(0, 2, l0), (1, 0, w32 (l1 + 1))]) (pc := 88) (DCa dc_Stan_init_0 46 rfl) (Nat.le_of_ble_eq_true rfl) (by decide) 1 rfl rfl ?_
    refine V_goto (tgt := 70) (pc := 91) (DCa dc_Stan_init_0 47 rfl) (by decide) ?_
    exact hR70 _ _ _
  · exact V_return (pc := 94) (DCa dc_Stan_init_0 48 rfl) rfl
theorem v_Stan_init_L70 (F : Nat)  (n : Nat) : ∀ (l0 l1 : Int) (h : Hp), V X_Stan_init 70 [(0, 2, l0), (1, 0, l1)] [] h (Stan_init_L70 F  n l0 l1 h) := by
  induction n with
  | zero => intros; exact V_none
  | succ n ih => exact fun l0 l1 h => v_Stan_init_L70s F  _ ih l0 l1 h
theorem v_Stan_init (F : Nat) (l0 : Int) (h : Hp) : V X_Stan_init 0 [(0, 2, l0)] [] h (Stan_init F l0 h) := by
  unfold Stan_init
  refine V_aload_n (pc := 0) (DCa dc_Stan_init_0 0 rfl) rfl 0 rfl ?_
  refine Q_objinit (pc := 1) (DCa dc_Stan_init_0 1 rfl) (tb2 95 rfl rfl) oi_i oi_c ⟨Nat.le_of_ble_eq_true rfl, Nat.le_of_ble_eq_true rfl⟩ ?_
  refine V_aload_n (pc := 4) (DCa dc_Stan_init_0 2 rfl) rfl 0 rfl ?_
  refine V_iconst (pc := 5) (DCa dc_Stan_init_0 3 rfl) (by decide) ?_
  refine Q_anewa (C := RX10) (pc := 6) (DCa dc_Stan_init_0 4 rfl) (by decide) rfl rfl (tb2 96 rfl rfl) (by decide +kernel) (fun v1 h2 => ?_)
  refine Q_putf (k := 0) (pc := 9) (DCa dc_Stan_init_0 5 rfl) cls_8 (Nat.le_of_ble_eq_true rfl) fl_8_11 rfl rfl rfl (Or.inr ⟨rfl, rfl, rfl⟩) (Or.inr ⟨Or.inr ⟨_, rfl⟩, rfl⟩) (fun h3 => ?_)
  refine V_aload_n (pc := 12) (DCa dc_Stan_init_0 6 rfl) rfl 0 rfl ?_
  refine V_bipush (pc := 13) (DCa dc_Stan_init_0 7 rfl) (by decide) ?_
  refine Q_newa (pc := 15) (DCa dc_Stan_init_0 8 rfl) nas_0 (fun v4 h5 => ?_)
  refine Q_putf (k := 1) (pc := 17) (DCa dc_Stan_init_0 9 rfl) cls_8 (Nat.le_of_ble_eq_true rfl) fl_8_17 rfl rfl rfl (Or.inr ⟨rfl, rfl, rfl⟩) (Or.inr ⟨Or.inr ⟨_, rfl⟩, rfl⟩) (fun h6 => ?_)
  refine V_aload_n (pc := 20) (DCa dc_Stan_init_0 10 rfl) rfl 0 rfl ?_
  refine V_bipush (pc := 21) (DCa dc_Stan_init_0 11 rfl) (by decide) ?_
  refine Q_newa (pc := 23) (DCa dc_Stan_init_0 12 rfl) nas_0 (fun v7 h8 => ?_)
  refine Q_putf (k := 2) (pc := 25) (DCa dc_Stan_init_0 13 rfl) cls_8 (Nat.le_of_ble_eq_true rfl) fl_8_21 rfl rfl rfl (Or.inr ⟨rfl, rfl, rfl⟩) (Or.inr ⟨Or.inr ⟨_, rfl⟩, rfl⟩) (fun h9 => ?_)
  refine V_aload_n (pc := 28) (DCa dc_Stan_init_0 14 rfl) rfl 0 rfl ?_
  refine V_bipush (pc := 29) (DCa dc_Stan_init_0 15 rfl) (by decide) ?_
  refine Q_newa (pc := 31) (DCa dc_Stan_init_0 16 rfl) nas_0 (fun v10 h11 => ?_)
  refine Q_putf (k := 3) (pc := 33) (DCa dc_Stan_init_0 17 rfl) cls_8 (Nat.le_of_ble_eq_true rfl) fl_8_24 rfl rfl rfl (Or.inr ⟨rfl, rfl, rfl⟩) (Or.inr ⟨Or.inr ⟨_, rfl⟩, rfl⟩) (fun h12 => ?_)
  refine V_aload_n (pc := 36) (DCa dc_Stan_init_0 18 rfl) rfl 0 rfl ?_
  refine V_bipush (pc := 37) (DCa dc_Stan_init_0 19 rfl) (by decide) ?_
  refine Q_newa (pc := 39) (DCa dc_Stan_init_0 20 rfl) nas_2 (fun v13 h14 => ?_)
  refine Q_putf (k := 4) (pc := 41) (DCa dc_Stan_init_0 21 rfl) cls_8 (Nat.le_of_ble_eq_true rfl) fl_8_27 rfl rfl rfl (Or.inr ⟨rfl, rfl, rfl⟩) (Or.inr ⟨Or.inr ⟨_, rfl⟩, rfl⟩) (fun h15 => ?_)
  refine V_aload_n (pc := 44) (DCa dc_Stan_init_0 22 rfl) rfl 0 rfl ?_
  refine V_bipush (pc := 45) (DCa dc_Stan_init_0 23 rfl) (by decide) ?_
  refine Q_newa (pc := 47) (DCa dc_Stan_init_0 24 rfl) nas_0 (fun v16 h17 => ?_)
  refine Q_putf (k := 5) (pc := 49) (DCa dc_Stan_init_0 25 rfl) cls_8 (Nat.le_of_ble_eq_true rfl) fl_8_31 rfl rfl rfl (Or.inr ⟨rfl, rfl, rfl⟩) (Or.inr ⟨Or.inr ⟨_, rfl⟩, rfl⟩) (fun h18 => ?_)
  refine V_aload_n (pc := 52) (DCa dc_Stan_init_0 26 rfl) rfl 0 rfl ?_
  refine V_bipush (pc := 53) (DCa dc_Stan_init_0 27 rfl) (by decide) ?_
  refine Q_newa (pc := 55) (DCa dc_Stan_init_0 28 rfl) nas_0 (fun v19 h20 => ?_)
  refine Q_putf (k := 6) (pc := 57) (DCa dc_Stan_init_0 29 rfl) cls_8 (Nat.le_of_ble_eq_true rfl) fl_8_34 rfl rfl rfl (Or.inr ⟨rfl, rfl, rfl⟩) (Or.inr ⟨Or.inr ⟨_, rfl⟩, rfl⟩) (fun h21 => ?_)
  refine V_aload_n (pc := 60) (DCa dc_Stan_init_0 30 rfl) rfl 0 rfl ?_
  refine V_bipush (pc := 61) (DCa dc_Stan_init_0 31 rfl) (by decide) ?_
  refine Q_newa (pc := 63) (DCa dc_Stan_init_0 32 rfl) nas_0 (fun v22 h23 => ?_)
  refine Q_putf (k := 7) (pc := 65) (DCa dc_Stan_init_0 33 rfl) cls_8 (Nat.le_of_ble_eq_true rfl) fl_8_37 rfl rfl rfl (Or.inr ⟨rfl, rfl, rfl⟩) (Or.inr ⟨Or.inr ⟨_, rfl⟩, rfl⟩) (fun h24 => ?_)
  refine V_iconst (pc := 68) (DCa dc_Stan_init_0 34 rfl) (by decide) ?_
  refine V_istore_n (ls' := [(0, 2, l0), (1, 0, 0)]) (pc := 69) (DCa dc_Stan_init_0 35 rfl) rfl (Nat.le_of_ble_eq_true rfl) rfl ?_
  exact v_Stan_init_L70 F F _ _ _
theorem sp_Stan_init (F : Nat) (l0 : Int) (h : Hp) : Sp yX8_init cX8_init 2 none 2 40 [(2, l0)] h (Stan_init F l0 h) := Sp_of (by decide +kernel) rfl rfl (Nat.le_of_ble_eq_true rfl) (v_Stan_init F l0 h)

-- TideRakes$Stand.begin
def Stan_begin_L26s (F : Nat)  (R26 : Int → Int → Hp → Option (Int × Hp)) (l0 l2 : Int) (h : Hp) : Option (Int × Hp) :=
  if l2 < 8 then
    (gf h l0 108 1 fun v5 =>
    as h v5 0 l2 (-2) fun h6 =>
    gf h6 l0 108 2 fun v7 =>
    as h6 v7 0 l2 0 fun h8 =>
    gf h8 l0 108 3 fun v9 =>
    as h8 v9 0 l2 (-2) fun h10 =>
    gf h10 l0 108 4 fun v11 =>
    az h10 v11 l2 0 fun h12 =>
    R26 l0 (w32 (l2 + 1)) h12)
  else
    (pf h l0 108 8 0 fun h13 =>
    some (0, h13))
def Stan_begin_L26 (F : Nat)  : Nat → Int → Int → Hp → Option (Int × Hp)
  | 0 => fun _ _ _ => none
  | n + 1 => Stan_begin_L26s F  (Stan_begin_L26 F  n)
def Stan_begin_L2s (F : Nat)  (R2 : Int → Int → Int → Hp → Option (Int × Hp)) (l0 l1 l2 : Int) (h : Hp) : Option (Int × Hp) :=
  if l2 < 3 then
    (gf h l0 108 0 fun v1 =>
    al h v1 7 l2 fun v2 =>
    iv h v2 110 (Walk_begin F v2 l1 l2 h) fun r3 h4 =>
    R2 l0 l1 (w32 (l2 + 1)) h4)
  else
    (Stan_begin_L26 F F l0 0 h)
def Stan_begin_L2 (F : Nat)  : Nat → Int → Int → Int → Hp → Option (Int × Hp)
  | 0 => fun _ _ _ _ => none
  | n + 1 => Stan_begin_L2s F  (Stan_begin_L2 F  n)
def Stan_begin (F : Nat) (l0 l1 : Int) (h : Hp) : Option (Int × Hp) :=
  Stan_begin_L2 F F l0 l1 0 h

theorem dc_Stan_begin_0 : ∀ q ∈ ([(0, .iconst 0, 1), (1, .istore_n 2, 1), (2, .iload_n 2, 1), (3, .iconst 3, 1), (4, .if_icmp .ge 20, 3), (7, .aload_n 0, 1), (8, .getfield 11, 3), (11, .iload_n 2, 1), (12, .aaload, 1), (13, .aload_n 1, 1), (14, .iload_n 2, 1), (15, .invokevirtual 41, 3), (18, .iinc 2 1, 3), (21, .goto (-19), 3), (24, .iconst 0, 1), (25, .istore_n 2, 1), (26, .iload_n 2, 1), (27, .bipush 8, 2), (29, .if_icmp .ge 39, 3), (32, .aload_n 0, 1), (33, .getfield 17, 3), (36, .iload_n 2, 1), (37, .bipush (-2), 2), (39, .iastore, 1), (40, .aload_n 0, 1), (41, .getfield 21, 3), (44, .iload_n 2, 1), (45, .iconst 0, 1), (46, .iastore, 1), (47, .aload_n 0, 1), (48, .getfield 24, 3), (51, .iload_n 2, 1), (52, .bipush (-2), 2), (54, .iastore, 1), (55, .aload_n 0, 1), (56, .getfield 27, 3), (59, .iload_n 2, 1), (60, .iconst 0, 1), (61, .bastore, 1), (62, .iinc 2 1, 3), (65, .goto (-39), 3), (68, .aload_n 0, 1), (69, .iconst 0, 1), (70, .putfield 45, 3), (73, .return_, 1)] : List (Nat × Instr × Nat)), decode cX8_begin q.1 = .ok (q.2.1, q.2.2) := by decide +kernel
abbrev X_Stan_begin : MX := (cX8_begin, RX8, "begin", 3, none, 2, 42)
theorem v_Stan_begin_L26s (F : Nat)  (R26 : Int → Int → Hp → Option (Int × Hp)) (hR26 : ∀ (l0 l2 : Int) (h : Hp), V X_Stan_begin 26 [(0, 2, l0), (2, 0, l2)] [] h (R26 l0 l2 h)) (l0 l2 : Int) (h : Hp) : V X_Stan_begin 26 [(0, 2, l0), (2, 0, l2)] [] h (Stan_begin_L26s F  R26 l0 l2 h) := by
  unfold Stan_begin_L26s
  refine V_iload_n (pc := 26) (DCa dc_Stan_begin_0 16 rfl) rfl 1 rfl ?_
  refine V_bipush (pc := 27) (DCa dc_Stan_begin_0 17 rfl) (by decide) ?_
  refine V_icmp_ge (tgt := 68) (pc := 29) (DCa dc_Stan_begin_0 18 rfl) (by decide) (fun _ => ?_) (fun _ => ?_)
  · refine V_aload_n (pc := 32) (DCa dc_Stan_begin_0 19 rfl) rfl 0 rfl ?_
    refine Q_getf (k := 1) (pc := 33) (DCa dc_Stan_begin_0 20 rfl) cls_8 (Nat.le_of_ble_eq_true rfl) fl_8_17 rfl rfl rfl (fun v5 => ?_)
    refine V_iload_n (pc := 36) (DCa dc_Stan_begin_0 21 rfl) rfl 1 rfl ?_
    refine V_bipush (pc := 37) (DCa dc_Stan_begin_0 22 rfl) (by decide) ?_
    refine Q_iastore (pc := 39) (DCa dc_Stan_begin_0 23 rfl) (fun h6 => ?_)
    refine V_aload_n (pc := 40) (DCa dc_Stan_begin_0 24 rfl) rfl 0 rfl ?_
    refine Q_getf (k := 2) (pc := 41) (DCa dc_Stan_begin_0 25 rfl) cls_8 (Nat.le_of_ble_eq_true rfl) fl_8_21 rfl rfl rfl (fun v7 => ?_)
    refine V_iload_n (pc := 44) (DCa dc_Stan_begin_0 26 rfl) rfl 1 rfl ?_
    refine V_iconst (pc := 45) (DCa dc_Stan_begin_0 27 rfl) (by decide) ?_
    refine Q_iastore (pc := 46) (DCa dc_Stan_begin_0 28 rfl) (fun h8 => ?_)
    refine V_aload_n (pc := 47) (DCa dc_Stan_begin_0 29 rfl) rfl 0 rfl ?_
    refine Q_getf (k := 3) (pc := 48) (DCa dc_Stan_begin_0 30 rfl) cls_8 (Nat.le_of_ble_eq_true rfl) fl_8_24 rfl rfl rfl (fun v9 => ?_)
    refine V_iload_n (pc := 51) (DCa dc_Stan_begin_0 31 rfl) rfl 1 rfl ?_
    refine V_bipush (pc := 52) (DCa dc_Stan_begin_0 32 rfl) (by decide) ?_
    refine Q_iastore (pc := 54) (DCa dc_Stan_begin_0 33 rfl) (fun h10 => ?_)
    refine V_aload_n (pc := 55) (DCa dc_Stan_begin_0 34 rfl) rfl 0 rfl ?_
    refine Q_getf (k := 4) (pc := 56) (DCa dc_Stan_begin_0 35 rfl) cls_8 (Nat.le_of_ble_eq_true rfl) fl_8_27 rfl rfl rfl (fun v11 => ?_)
    refine V_iload_n (pc := 59) (DCa dc_Stan_begin_0 36 rfl) rfl 1 rfl ?_
    refine V_iconst (pc := 60) (DCa dc_Stan_begin_0 37 rfl) (by decide) ?_
    refine Q_zastore (pc := 61) (DCa dc_Stan_begin_0 38 rfl) (fun h12 => ?_)
    refine V_iinc (ls' := [(0, 2, l0), (2, 0, w32 (l2 + 1))]) (pc := 62) (DCa dc_Stan_begin_0 39 rfl) (Nat.le_of_ble_eq_true rfl) (by decide) 1 rfl rfl ?_
    refine V_goto (tgt := 26) (pc := 65) (DCa dc_Stan_begin_0 40 rfl) (by decide) ?_
    exact hR26 _ _ _
  · refine V_aload_n (pc := 68) (DCa dc_Stan_begin_0 41 rfl) rfl 0 rfl ?_
    refine V_iconst (pc := 69) (DCa dc_Stan_begin_0 42 rfl) (by decide) ?_
    refine Q_putf (k := 8) (pc := 70) (DCa dc_Stan_begin_0 43 rfl) cls_8 (Nat.le_of_ble_eq_true rfl) fl_8_45 rfl rfl rfl (Or.inl rfl) (Or.inl ⟨rfl, rfl⟩) (fun h13 => ?_)
    exact V_return (pc := 73) (DCa dc_Stan_begin_0 44 rfl) rfl
theorem v_Stan_begin_L26 (F : Nat)  (n : Nat) : ∀ (l0 l2 : Int) (h : Hp), V X_Stan_begin 26 [(0, 2, l0), (2, 0, l2)] [] h (Stan_begin_L26 F  n l0 l2 h) := by
  induction n with
  | zero => intros; exact V_none
  | succ n ih => exact fun l0 l2 h => v_Stan_begin_L26s F  _ ih l0 l2 h
theorem v_Stan_begin_L2s (F : Nat)  (R2 : Int → Int → Int → Hp → Option (Int × Hp)) (hR2 : ∀ (l0 l1 l2 : Int) (h : Hp), V X_Stan_begin 2 [(0, 2, l0), (1, 2, l1), (2, 0, l2)] [] h (R2 l0 l1 l2 h)) (l0 l1 l2 : Int) (h : Hp) : V X_Stan_begin 2 [(0, 2, l0), (1, 2, l1), (2, 0, l2)] [] h (Stan_begin_L2s F  R2 l0 l1 l2 h) := by
  unfold Stan_begin_L2s
  refine V_iload_n (pc := 2) (DCa dc_Stan_begin_0 2 rfl) rfl 2 rfl ?_
  refine V_iconst (pc := 3) (DCa dc_Stan_begin_0 3 rfl) (by decide) ?_
  refine V_icmp_ge (tgt := 24) (pc := 4) (DCa dc_Stan_begin_0 4 rfl) (by decide) (fun _ => ?_) (fun _ => ?_)
  · refine V_aload_n (pc := 7) (DCa dc_Stan_begin_0 5 rfl) rfl 0 rfl ?_
    refine Q_getf (k := 0) (pc := 8) (DCa dc_Stan_begin_0 6 rfl) cls_8 (Nat.le_of_ble_eq_true rfl) fl_8_11 rfl rfl rfl (fun v1 => ?_)
    refine V_iload_n (pc := 11) (DCa dc_Stan_begin_0 7 rfl) rfl 2 rfl ?_
    refine Q_aaload (pc := 12) (DCa dc_Stan_begin_0 8 rfl) (by decide) rfl rfl (fun v2 => ?_)
    refine V_aload_n (pc := 13) (DCa dc_Stan_begin_0 9 rfl) rfl 1 rfl ?_
    refine V_iload_n (pc := 14) (DCa dc_Stan_begin_0 10 rfl) rfl 2 rfl ?_
    refine Q_callv (ci := 10) (st := []) (pc := 15) (DCa dc_Stan_begin_0 11 rfl) (sp_Walk_begin F _ _ _ _) ce_Walk_begin ml_8_41 rfl rfl ⟨Nat.le_of_ble_eq_true rfl, Nat.le_of_ble_eq_true rfl⟩ rfl (Nat.le_of_ble_eq_true rfl) (fun r3 h4 => ?_)
    refine V_iinc (ls' := [(0, 2, l0), (1, 2, l1), (2, 0, w32 (l2 + 1))]) (pc := 18) (DCa dc_Stan_begin_0 12 rfl) (Nat.le_of_ble_eq_true rfl) (by decide) 2 rfl rfl ?_
    refine V_goto (tgt := 2) (pc := 21) (DCa dc_Stan_begin_0 13 rfl) (by decide) ?_
    exact hR2 _ _ _ _
  · refine V_iconst (pc := 24) (DCa dc_Stan_begin_0 14 rfl) (by decide) ?_
    refine V_istore_n (ls' := [(0, 2, l0), (1, 2, l1), (2, 0, 0)]) (pc := 25) (DCa dc_Stan_begin_0 15 rfl) rfl (Nat.le_of_ble_eq_true rfl) rfl ?_
    refine V_pick [0, 2] rfl ?_
    exact v_Stan_begin_L26 F F _ _ _
theorem v_Stan_begin_L2 (F : Nat)  (n : Nat) : ∀ (l0 l1 l2 : Int) (h : Hp), V X_Stan_begin 2 [(0, 2, l0), (1, 2, l1), (2, 0, l2)] [] h (Stan_begin_L2 F  n l0 l1 l2 h) := by
  induction n with
  | zero => intros; exact V_none
  | succ n ih => exact fun l0 l1 l2 h => v_Stan_begin_L2s F  _ ih l0 l1 l2 h
theorem v_Stan_begin (F : Nat) (l0 l1 : Int) (h : Hp) : V X_Stan_begin 0 [(0, 2, l0), (1, 2, l1)] [] h (Stan_begin F l0 l1 h) := by
  unfold Stan_begin
  refine V_iconst (pc := 0) (DCa dc_Stan_begin_0 0 rfl) (by decide) ?_
  refine V_istore_n (ls' := [(0, 2, l0), (1, 2, l1), (2, 0, 0)]) (pc := 1) (DCa dc_Stan_begin_0 1 rfl) rfl (Nat.le_of_ble_eq_true rfl) rfl ?_
  exact v_Stan_begin_L2 F F _ _ _ _
theorem sp_Stan_begin (F : Nat) (l0 l1 : Int) (h : Hp) : Sp yX8_begin cX8_begin 3 none 2 42 [(2, l0), (2, l1)] h (Stan_begin F l0 l1 h) := Sp_of (by decide +kernel) rfl rfl (Nat.le_of_ble_eq_true rfl) (v_Stan_begin F l0 l1 h)

-- TideRakes$Stand.wouldBeDone
def Stan_wouldBeDone_B49 (F : Nat)  (l4 l5 : Int) (h : Hp) : Option (Int × Hp) :=
  iv h l4 105 (Sand_startFrom F l4 l5 h) fun r13 h14 =>
  if r13 < 0 then
    (some ((-2), h14))
  else
    (gf h14 l4 105 3 fun v15 =>
    some (w32 (r13 + v15), h14))
def Stan_wouldBeDone (F : Nat) (l0 l1 l2 l3 : Int) (h : Hp) : Option (Int × Hp) :=
  gf h l1 107 3 fun v1 =>
  al h v1 5 l3 fun v2 =>
  gf h l0 108 0 fun v3 =>
  al h v3 7 l2 fun v4 =>
  iv h v4 110 (Walk_comesTo F v4 v2 h) fun r5 h6 =>
  gf h6 l0 108 1 fun v7 =>
  al h6 v7 0 l3 fun v8 =>
  if v8 < 0 then
    (Stan_wouldBeDone_B49 F v2 r5 h6)
  else
    (gf h6 l0 108 1 fun v9 =>
    al h6 v9 0 l3 fun v10 =>
    iv h6 v2 105 (Sand_washed F v2 v10 r5 h6) fun r11 h12 =>
    if r11 = 0 then
      (some ((-2), h12))
    else
      (Stan_wouldBeDone_B49 F v2 r5 h12))

theorem dc_Stan_wouldBeDone_0 : ∀ q ∈ ([(0, .aload_n 1, 1), (1, .getfield 59, 3), (4, .iload_n 3, 1), (5, .aaload, 1), (6, .astore 4, 2), (8, .aload_n 0, 1), (9, .getfield 11, 3), (12, .iload_n 2, 1), (13, .aaload, 1), (14, .aload 4, 2), (16, .invokevirtual 65, 3), (19, .istore 5, 2), (21, .aload_n 0, 1), (22, .getfield 17, 3), (25, .iload_n 3, 1), (26, .iaload, 1), (27, .ifCond .lt 22, 3), (30, .aload 4, 2), (32, .aload_n 0, 1), (33, .getfield 17, 3), (36, .iload_n 3, 1), (37, .iaload, 1), (38, .iload 5, 2), (40, .invokevirtual 69, 3), (43, .ifCond .ne 6, 3), (46, .bipush (-2), 2), (48, .ireturn, 1), (49, .aload 4, 2), (51, .iload 5, 2), (53, .invokevirtual 75, 3), (56, .istore 6, 2), (58, .iload 6, 2), (60, .ifCond .ge 8, 3), (63, .bipush (-2), 2), (65, .goto 11, 3), (68, .iload 6, 2), (70, .aload 4, 2), (72, .getfield 79, 3), (75, .iadd, 1), (76, .ireturn, 1)] : List (Nat × Instr × Nat)), decode cX8_wouldBeDone q.1 = .ok (q.2.1, q.2.2) := by decide +kernel
abbrev X_Stan_wouldBeDone : MX := (cX8_wouldBeDone, RX8, "wouldBeDone", 7, (some (.int)), 3, 64)
theorem v_Stan_wouldBeDone_B49 (F : Nat)  (l4 l5 : Int) (h : Hp) : V X_Stan_wouldBeDone 49 [(4, 2, l4), (5, 0, l5)] [] h (Stan_wouldBeDone_B49 F  l4 l5 h) := by
  unfold Stan_wouldBeDone_B49
  refine V_aload (pc := 49) (DCa dc_Stan_wouldBeDone_0 27 rfl) 0 rfl ?_
  refine V_iload (pc := 51) (DCa dc_Stan_wouldBeDone_0 28 rfl) 1 rfl ?_
  refine Q_callv (ci := 5) (st := []) (pc := 53) (DCa dc_Stan_wouldBeDone_0 29 rfl) (sp_Sand_startFrom F _ _ _) ce_Sand_startFrom ml_8_75 rfl rfl ⟨Nat.le_of_ble_eq_true rfl, Nat.le_of_ble_eq_true rfl⟩ rfl (Nat.le_of_ble_eq_true rfl) (fun r13 h14 => ?_)
  refine V_istore (ls' := [(4, 2, l4), (5, 0, l5), (6, 0, r13)]) (pc := 56) (DCa dc_Stan_wouldBeDone_0 30 rfl) (Nat.le_of_ble_eq_true rfl) rfl ?_
  refine V_iload (pc := 58) (DCa dc_Stan_wouldBeDone_0 31 rfl) 2 rfl ?_
  refine V_if_ge (tgt := 68) (pc := 60) (DCa dc_Stan_wouldBeDone_0 32 rfl) (by decide) (fun _ => ?_) (fun _ => ?_)
  · refine V_bipush (pc := 63) (DCa dc_Stan_wouldBeDone_0 33 rfl) (by decide) ?_
    refine V_goto (tgt := 76) (pc := 65) (DCa dc_Stan_wouldBeDone_0 34 rfl) (by decide) ?_
    exact V_ireturn (pc := 76) (DCa dc_Stan_wouldBeDone_0 39 rfl) rfl
  · refine V_iload (pc := 68) (DCa dc_Stan_wouldBeDone_0 35 rfl) 2 rfl ?_
    refine V_aload (pc := 70) (DCa dc_Stan_wouldBeDone_0 36 rfl) 0 rfl ?_
    refine Q_getf (k := 3) (pc := 72) (DCa dc_Stan_wouldBeDone_0 37 rfl) cls_5 (Nat.le_of_ble_eq_true rfl) fl_8_79 rfl rfl rfl (fun v15 => ?_)
    refine V_iadd (pc := 75) (DCa dc_Stan_wouldBeDone_0 38 rfl) ?_
    exact V_ireturn (pc := 76) (DCa dc_Stan_wouldBeDone_0 39 rfl) rfl
theorem v_Stan_wouldBeDone (F : Nat) (l0 l1 l2 l3 : Int) (h : Hp) : V X_Stan_wouldBeDone 0 [(0, 2, l0), (1, 2, l1), (2, 0, l2), (3, 0, l3)] [] h (Stan_wouldBeDone F l0 l1 l2 l3 h) := by
  unfold Stan_wouldBeDone
  refine V_aload_n (pc := 0) (DCa dc_Stan_wouldBeDone_0 0 rfl) rfl 1 rfl ?_
  refine Q_getf (k := 3) (pc := 1) (DCa dc_Stan_wouldBeDone_0 1 rfl) cls_7 (Nat.le_of_ble_eq_true rfl) fl_8_59 rfl rfl rfl (fun v1 => ?_)
  refine V_iload_n (pc := 4) (DCa dc_Stan_wouldBeDone_0 2 rfl) rfl 3 rfl ?_
  refine Q_aaload (pc := 5) (DCa dc_Stan_wouldBeDone_0 3 rfl) (by decide) rfl rfl (fun v2 => ?_)
  refine V_astore (ls' := [(0, 2, l0), (1, 2, l1), (2, 0, l2), (3, 0, l3), (4, 2, v2)]) (pc := 6) (DCa dc_Stan_wouldBeDone_0 4 rfl) (Nat.le_of_ble_eq_true rfl) rfl ?_
  refine V_aload_n (pc := 8) (DCa dc_Stan_wouldBeDone_0 5 rfl) rfl 0 rfl ?_
  refine Q_getf (k := 0) (pc := 9) (DCa dc_Stan_wouldBeDone_0 6 rfl) cls_8 (Nat.le_of_ble_eq_true rfl) fl_8_11 rfl rfl rfl (fun v3 => ?_)
  refine V_iload_n (pc := 12) (DCa dc_Stan_wouldBeDone_0 7 rfl) rfl 2 rfl ?_
  refine Q_aaload (pc := 13) (DCa dc_Stan_wouldBeDone_0 8 rfl) (by decide) rfl rfl (fun v4 => ?_)
  refine V_aload (pc := 14) (DCa dc_Stan_wouldBeDone_0 9 rfl) 4 rfl ?_
  refine Q_callv (ci := 10) (st := []) (pc := 16) (DCa dc_Stan_wouldBeDone_0 10 rfl) (sp_Walk_comesTo F _ _ _) ce_Walk_comesTo ml_8_65 rfl rfl ⟨Nat.le_of_ble_eq_true rfl, Nat.le_of_ble_eq_true rfl⟩ rfl (Nat.le_of_ble_eq_true rfl) (fun r5 h6 => ?_)
  refine V_istore (ls' := [(0, 2, l0), (1, 2, l1), (2, 0, l2), (3, 0, l3), (4, 2, v2), (5, 0, r5)]) (pc := 19) (DCa dc_Stan_wouldBeDone_0 11 rfl) (Nat.le_of_ble_eq_true rfl) rfl ?_
  refine V_aload_n (pc := 21) (DCa dc_Stan_wouldBeDone_0 12 rfl) rfl 0 rfl ?_
  refine Q_getf (k := 1) (pc := 22) (DCa dc_Stan_wouldBeDone_0 13 rfl) cls_8 (Nat.le_of_ble_eq_true rfl) fl_8_17 rfl rfl rfl (fun v7 => ?_)
  refine V_iload_n (pc := 25) (DCa dc_Stan_wouldBeDone_0 14 rfl) rfl 3 rfl ?_
  refine Q_iaload (pc := 26) (DCa dc_Stan_wouldBeDone_0 15 rfl) (fun v8 => ?_)
  refine V_if_lt (tgt := 49) (pc := 27) (DCa dc_Stan_wouldBeDone_0 16 rfl) (by decide) (fun _ => ?_) (fun _ => ?_)
  · refine V_pick [4, 5] rfl ?_
    exact v_Stan_wouldBeDone_B49 F _ _ _
  · refine V_aload (pc := 30) (DCa dc_Stan_wouldBeDone_0 17 rfl) 4 rfl ?_
    refine V_aload_n (pc := 32) (DCa dc_Stan_wouldBeDone_0 18 rfl) rfl 0 rfl ?_
    refine Q_getf (k := 1) (pc := 33) (DCa dc_Stan_wouldBeDone_0 19 rfl) cls_8 (Nat.le_of_ble_eq_true rfl) fl_8_17 rfl rfl rfl (fun v9 => ?_)
    refine V_iload_n (pc := 36) (DCa dc_Stan_wouldBeDone_0 20 rfl) rfl 3 rfl ?_
    refine Q_iaload (pc := 37) (DCa dc_Stan_wouldBeDone_0 21 rfl) (fun v10 => ?_)
    refine V_iload (pc := 38) (DCa dc_Stan_wouldBeDone_0 22 rfl) 5 rfl ?_
    refine Q_callv (ci := 5) (st := []) (pc := 40) (DCa dc_Stan_wouldBeDone_0 23 rfl) (sp_Sand_washed F _ _ _ _) ce_Sand_washed ml_8_69 rfl rfl ⟨Nat.le_of_ble_eq_true rfl, Nat.le_of_ble_eq_true rfl⟩ rfl (Nat.le_of_ble_eq_true rfl) (fun r11 h12 => ?_)
    refine V_if_ne (tgt := 49) (pc := 43) (DCa dc_Stan_wouldBeDone_0 24 rfl) (by decide) (fun _ => ?_) (fun _ => ?_)
    · refine V_bipush (pc := 46) (DCa dc_Stan_wouldBeDone_0 25 rfl) (by decide) ?_
      exact V_ireturn (pc := 48) (DCa dc_Stan_wouldBeDone_0 26 rfl) rfl
    · refine V_pick [4, 5] rfl ?_
      exact v_Stan_wouldBeDone_B49 F _ _ _
theorem sp_Stan_wouldBeDone (F : Nat) (l0 l1 l2 l3 : Int) (h : Hp) : Sp yX8_wouldBeDone cX8_wouldBeDone 7 (some (.int)) 3 64 [(2, l0), (2, l1), (0, l2), (0, l3)] h (Stan_wouldBeDone F l0 l1 l2 l3 h) := Sp_of (by decide +kernel) rfl rfl (Nat.le_of_ble_eq_true rfl) (v_Stan_wouldBeDone F l0 l1 l2 l3 h)

-- TideRakes$Stand.addAct
def Stan_addAct (F : Nat) (l0 l1 l2 l3 : Int) (h : Hp) : Option (Int × Hp) :=
  gf h l0 108 8 fun v1 =>
  if v1 < 30 then
    (gf h l0 108 5 fun v2 =>
    gf h l0 108 8 fun v3 =>
    as h v2 0 v3 l1 fun h4 =>
    gf h4 l0 108 6 fun v5 =>
    gf h4 l0 108 8 fun v6 =>
    as h4 v5 0 v6 l2 fun h7 =>
    gf h7 l0 108 7 fun v8 =>
    gf h7 l0 108 8 fun v9 =>
    as h7 v8 0 v9 l3 fun h10 =>
    gf h10 l0 108 8 fun v11 =>
    pf h10 l0 108 8 (w32 (v11 + 1)) fun h12 =>
    some (0, h12))
  else
    (gf h l0 108 8 fun v13 =>
    pf h l0 108 8 (w32 (v13 + 1)) fun h14 =>
    some (0, h14))

theorem dc_Stan_addAct_0 : ∀ q ∈ ([(0, .aload_n 0, 1), (1, .getfield 45, 3), (4, .bipush 30, 2), (6, .if_icmp .ge 33, 3), (9, .aload_n 0, 1), (10, .getfield 31, 3), (13, .aload_n 0, 1), (14, .getfield 45, 3), (17, .iload_n 1, 1), (18, .iastore, 1), (19, .aload_n 0, 1), (20, .getfield 34, 3), (23, .aload_n 0, 1), (24, .getfield 45, 3), (27, .iload_n 2, 1), (28, .iastore, 1), (29, .aload_n 0, 1), (30, .getfield 37, 3), (33, .aload_n 0, 1), (34, .getfield 45, 3), (37, .iload_n 3, 1), (38, .iastore, 1), (39, .aload_n 0, 1), (40, .dup, 1), (41, .getfield 45, 3), (44, .iconst 1, 1), (45, .iadd, 1), (46, .putfield 45, 3), (49, .return_, 1)] : List (Nat × Instr × Nat)), decode cX8_addAct q.1 = .ok (q.2.1, q.2.2) := by decide +kernel
abbrev X_Stan_addAct : MX := (cX8_addAct, RX8, "addAct", 4, none, 1, 20)
theorem v_Stan_addAct (F : Nat) (l0 l1 l2 l3 : Int) (h : Hp) : V X_Stan_addAct 0 [(0, 2, l0), (1, 0, l1), (2, 0, l2), (3, 0, l3)] [] h (Stan_addAct F l0 l1 l2 l3 h) := by
  unfold Stan_addAct
  refine V_aload_n (pc := 0) (DCa dc_Stan_addAct_0 0 rfl) rfl 0 rfl ?_
  refine Q_getf (k := 8) (pc := 1) (DCa dc_Stan_addAct_0 1 rfl) cls_8 (Nat.le_of_ble_eq_true rfl) fl_8_45 rfl rfl rfl (fun v1 => ?_)
  refine V_bipush (pc := 4) (DCa dc_Stan_addAct_0 2 rfl) (by decide) ?_
  refine V_icmp_ge (tgt := 39) (pc := 6) (DCa dc_Stan_addAct_0 3 rfl) (by decide) (fun _ => ?_) (fun _ => ?_)
  · refine V_aload_n (pc := 9) (DCa dc_Stan_addAct_0 4 rfl) rfl 0 rfl ?_
    refine Q_getf (k := 5) (pc := 10) (DCa dc_Stan_addAct_0 5 rfl) cls_8 (Nat.le_of_ble_eq_true rfl) fl_8_31 rfl rfl rfl (fun v2 => ?_)
    refine V_aload_n (pc := 13) (DCa dc_Stan_addAct_0 6 rfl) rfl 0 rfl ?_
    refine Q_getf (k := 8) (pc := 14) (DCa dc_Stan_addAct_0 7 rfl) cls_8 (Nat.le_of_ble_eq_true rfl) fl_8_45 rfl rfl rfl (fun v3 => ?_)
    refine V_iload_n (pc := 17) (DCa dc_Stan_addAct_0 8 rfl) rfl 1 rfl ?_
    refine Q_iastore (pc := 18) (DCa dc_Stan_addAct_0 9 rfl) (fun h4 => ?_)
    refine V_aload_n (pc := 19) (DCa dc_Stan_addAct_0 10 rfl) rfl 0 rfl ?_
    refine Q_getf (k := 6) (pc := 20) (DCa dc_Stan_addAct_0 11 rfl) cls_8 (Nat.le_of_ble_eq_true rfl) fl_8_34 rfl rfl rfl (fun v5 => ?_)
    refine V_aload_n (pc := 23) (DCa dc_Stan_addAct_0 12 rfl) rfl 0 rfl ?_
    refine Q_getf (k := 8) (pc := 24) (DCa dc_Stan_addAct_0 13 rfl) cls_8 (Nat.le_of_ble_eq_true rfl) fl_8_45 rfl rfl rfl (fun v6 => ?_)
    refine V_iload_n (pc := 27) (DCa dc_Stan_addAct_0 14 rfl) rfl 2 rfl ?_
    refine Q_iastore (pc := 28) (DCa dc_Stan_addAct_0 15 rfl) (fun h7 => ?_)
    refine V_aload_n (pc := 29) (DCa dc_Stan_addAct_0 16 rfl) rfl 0 rfl ?_
    refine Q_getf (k := 7) (pc := 30) (DCa dc_Stan_addAct_0 17 rfl) cls_8 (Nat.le_of_ble_eq_true rfl) fl_8_37 rfl rfl rfl (fun v8 => ?_)
    refine V_aload_n (pc := 33) (DCa dc_Stan_addAct_0 18 rfl) rfl 0 rfl ?_
    refine Q_getf (k := 8) (pc := 34) (DCa dc_Stan_addAct_0 19 rfl) cls_8 (Nat.le_of_ble_eq_true rfl) fl_8_45 rfl rfl rfl (fun v9 => ?_)
    refine V_iload_n (pc := 37) (DCa dc_Stan_addAct_0 20 rfl) rfl 3 rfl ?_
    refine Q_iastore (pc := 38) (DCa dc_Stan_addAct_0 21 rfl) (fun h10 => ?_)
    refine V_aload_n (pc := 39) (DCa dc_Stan_addAct_0 22 rfl) rfl 0 rfl ?_
    refine V_dup (pc := 40) (DCa dc_Stan_addAct_0 23 rfl) rfl ?_
    refine Q_getf (k := 8) (pc := 41) (DCa dc_Stan_addAct_0 24 rfl) cls_8 (Nat.le_of_ble_eq_true rfl) fl_8_45 rfl rfl rfl (fun v11 => ?_)
    refine V_iconst (pc := 44) (DCa dc_Stan_addAct_0 25 rfl) (by decide) ?_
    refine V_iadd (pc := 45) (DCa dc_Stan_addAct_0 26 rfl) ?_
    refine Q_putf (k := 8) (pc := 46) (DCa dc_Stan_addAct_0 27 rfl) cls_8 (Nat.le_of_ble_eq_true rfl) fl_8_45 rfl rfl rfl (Or.inl rfl) (Or.inl ⟨rfl, rfl⟩) (fun h12 => ?_)
    exact V_return (pc := 49) (DCa dc_Stan_addAct_0 28 rfl) rfl
  · refine V_aload_n (pc := 39) (DCa dc_Stan_addAct_0 22 rfl) rfl 0 rfl ?_
    refine V_dup (pc := 40) (DCa dc_Stan_addAct_0 23 rfl) rfl ?_
    refine Q_getf (k := 8) (pc := 41) (DCa dc_Stan_addAct_0 24 rfl) cls_8 (Nat.le_of_ble_eq_true rfl) fl_8_45 rfl rfl rfl (fun v13 => ?_)
    refine V_iconst (pc := 44) (DCa dc_Stan_addAct_0 25 rfl) (by decide) ?_
    refine V_iadd (pc := 45) (DCa dc_Stan_addAct_0 26 rfl) ?_
    refine Q_putf (k := 8) (pc := 46) (DCa dc_Stan_addAct_0 27 rfl) cls_8 (Nat.le_of_ble_eq_true rfl) fl_8_45 rfl rfl rfl (Or.inl rfl) (Or.inl ⟨rfl, rfl⟩) (fun h14 => ?_)
    exact V_return (pc := 49) (DCa dc_Stan_addAct_0 28 rfl) rfl
theorem sp_Stan_addAct (F : Nat) (l0 l1 l2 l3 : Int) (h : Hp) : Sp yX8_addAct cX8_addAct 4 none 1 20 [(2, l0), (0, l1), (0, l2), (0, l3)] h (Stan_addAct F l0 l1 l2 l3 h) := Sp_of (by decide +kernel) rfl rfl (Nat.le_of_ble_eq_true rfl) (v_Stan_addAct F l0 l1 l2 l3 h)

-- TideRakes$Walker.goTo
def Walk_goTo (F : Nat) (l0 l1 l2 : Int) (h : Hp) : Option (Int × Hp) :=
  gf h l1 105 0 fun v1 =>
  pf h l0 110 0 v1 fun h2 =>
  gf h2 l1 105 1 fun v3 =>
  pf h2 l0 110 1 v3 fun h4 =>
  pf h4 l0 110 3 l2 fun h5 =>
  some (0, h5)

theorem dc_Walk_goTo_0 : ∀ q ∈ ([(0, .aload_n 0, 1), (1, .aload_n 1, 1), (2, .getfield 36, 3), (5, .putfield 7, 3), (8, .aload_n 0, 1), (9, .aload_n 1, 1), (10, .getfield 39, 3), (13, .putfield 13, 3), (16, .aload_n 0, 1), (17, .iload_n 2, 1), (18, .putfield 19, 3), (21, .return_, 1)] : List (Nat × Instr × Nat)), decode cX10_goTo q.1 = .ok (q.2.1, q.2.2) := by decide +kernel
abbrev X_Walk_goTo : MX := (cX10_goTo, RX10, "goTo", 3, none, 1, 20)
theorem v_Walk_goTo (F : Nat) (l0 l1 l2 : Int) (h : Hp) : V X_Walk_goTo 0 [(0, 2, l0), (1, 2, l1), (2, 0, l2)] [] h (Walk_goTo F l0 l1 l2 h) := by
  unfold Walk_goTo
  refine V_aload_n (pc := 0) (DCa dc_Walk_goTo_0 0 rfl) rfl 0 rfl ?_
  refine V_aload_n (pc := 1) (DCa dc_Walk_goTo_0 1 rfl) rfl 1 rfl ?_
  refine Q_getf (k := 0) (pc := 2) (DCa dc_Walk_goTo_0 2 rfl) cls_5 (Nat.le_of_ble_eq_true rfl) fl_10_36 rfl rfl rfl (fun v1 => ?_)
  refine Q_putf (k := 0) (pc := 5) (DCa dc_Walk_goTo_0 3 rfl) cls_10 (Nat.le_of_ble_eq_true rfl) fl_10_7 rfl rfl rfl (Or.inl rfl) (Or.inl ⟨rfl, rfl⟩) (fun h2 => ?_)
  refine V_aload_n (pc := 8) (DCa dc_Walk_goTo_0 4 rfl) rfl 0 rfl ?_
  refine V_aload_n (pc := 9) (DCa dc_Walk_goTo_0 5 rfl) rfl 1 rfl ?_
  refine Q_getf (k := 1) (pc := 10) (DCa dc_Walk_goTo_0 6 rfl) cls_5 (Nat.le_of_ble_eq_true rfl) fl_10_39 rfl rfl rfl (fun v3 => ?_)
  refine Q_putf (k := 1) (pc := 13) (DCa dc_Walk_goTo_0 7 rfl) cls_10 (Nat.le_of_ble_eq_true rfl) fl_10_13 rfl rfl rfl (Or.inl rfl) (Or.inl ⟨rfl, rfl⟩) (fun h4 => ?_)
  refine V_aload_n (pc := 16) (DCa dc_Walk_goTo_0 8 rfl) rfl 0 rfl ?_
  refine V_iload_n (pc := 17) (DCa dc_Walk_goTo_0 9 rfl) rfl 2 rfl ?_
  refine Q_putf (k := 3) (pc := 18) (DCa dc_Walk_goTo_0 10 rfl) cls_10 (Nat.le_of_ble_eq_true rfl) fl_10_19 rfl rfl rfl (Or.inl rfl) (Or.inl ⟨rfl, rfl⟩) (fun h5 => ?_)
  exact V_return (pc := 21) (DCa dc_Walk_goTo_0 11 rfl) rfl
theorem sp_Walk_goTo (F : Nat) (l0 l1 l2 : Int) (h : Hp) : Sp yX10_goTo cX10_goTo 3 none 1 20 [(2, l0), (2, l1), (0, l2)] h (Walk_goTo F l0 l1 l2 h) := Sp_of (by decide +kernel) rfl rfl (Nat.le_of_ble_eq_true rfl) (v_Walk_goTo F l0 l1 l2 h)

-- TideRakes$Stand.rake
def Stan_rake (F : Nat) (l0 l1 l2 l3 : Int) (h : Hp) : Option (Int × Hp) :=
  iv h l0 108 (Stan_wouldBeDone F l0 l1 l2 l3 h) fun r1 h2 =>
  if r1 < 0 then
    (some ((-2), h2))
  else
    (gf h2 l0 108 0 fun v3 =>
    al h2 v3 7 l2 fun v4 =>
    gf h2 l1 107 3 fun v5 =>
    al h2 v5 5 l3 fun v6 =>
    iv h2 v4 110 (Walk_goTo F v4 v6 r1 h2) fun r7 h8 =>
    gf h8 l0 108 0 fun v9 =>
    al h8 v9 7 l2 fun v10 =>
    gf h8 v10 110 4 fun v11 =>
    gf h8 l1 107 0 fun v12 =>
    gf h8 v12 106 2 fun v13 =>
    al h8 v13 0 l3 fun v14 =>
    pf h8 v10 110 4 (w32 (v11 + v14)) fun h15 =>
    gf h15 l0 108 1 fun v16 =>
    as h15 v16 0 l3 r1 fun h17 =>
    gf h17 l0 108 2 fun v18 =>
    as h17 v18 0 l3 0 fun h19 =>
    gf h19 l0 108 3 fun v20 =>
    as h19 v20 0 l3 l2 fun h21 =>
    gf h21 l0 108 4 fun v22 =>
    az h21 v22 l3 0 fun h23 =>
    iv h23 l0 108 (Stan_addAct F l0 0 l2 l3 h23) fun r24 h25 =>
    some (r1, h25))

theorem dc_Stan_rake_0 : ∀ q ∈ ([(0, .aload_n 0, 1), (1, .aload_n 1, 1), (2, .iload_n 2, 1), (3, .iload_n 3, 1), (4, .invokevirtual 82, 3), (7, .istore 4, 2), (9, .iload 4, 2), (11, .ifCond .ge 6, 3), (14, .bipush (-2), 2), (16, .ireturn, 1), (17, .aload_n 0, 1), (18, .getfield 11, 3), (21, .iload_n 2, 1), (22, .aaload, 1), (23, .aload_n 1, 1), (24, .getfield 59, 3), (27, .iload_n 3, 1), (28, .aaload, 1), (29, .iload 4, 2), (31, .invokevirtual 86, 3), (34, .aload_n 0, 1), (35, .getfield 11, 3), (38, .iload_n 2, 1), (39, .aaload, 1), (40, .dup, 1), (41, .getfield 90, 3), (44, .aload_n 1, 1), (45, .getfield 93, 3), (48, .getfield 97, 3), (51, .iload_n 3, 1), (52, .iaload, 1), (53, .iadd, 1), (54, .putfield 90, 3), (57, .aload_n 0, 1), (58, .getfield 17, 3), (61, .iload_n 3, 1), (62, .iload 4, 2), (64, .iastore, 1), (65, .aload_n 0, 1), (66, .getfield 21, 3), (69, .iload_n 3, 1), (70, .iconst 0, 1), (71, .iastore, 1), (72, .aload_n 0, 1), (73, .getfield 24, 3), (76, .iload_n 3, 1), (77, .iload_n 2, 1), (78, .iastore, 1), (79, .aload_n 0, 1), (80, .getfield 27, 3)] : List (Nat × Instr × Nat)), decode cX8_rake q.1 = .ok (q.2.1, q.2.2) := by decide +kernel
theorem dc_Stan_rake_1 : ∀ q ∈ ([(83, .iload_n 3, 1), (84, .iconst 0, 1), (85, .bastore, 1), (86, .aload_n 0, 1), (87, .iconst 0, 1), (88, .iload_n 2, 1), (89, .iload_n 3, 1), (90, .invokevirtual 102, 3), (93, .iload 4, 2), (95, .ireturn, 1)] : List (Nat × Instr × Nat)), decode cX8_rake q.1 = .ok (q.2.1, q.2.2) := by decide +kernel
abbrev X_Stan_rake : MX := (cX8_rake, RX8, "rake", 5, (some (.int)), 4, 90)
theorem v_Stan_rake (F : Nat) (l0 l1 l2 l3 : Int) (h : Hp) : V X_Stan_rake 0 [(0, 2, l0), (1, 2, l1), (2, 0, l2), (3, 0, l3)] [] h (Stan_rake F l0 l1 l2 l3 h) := by
  unfold Stan_rake
  refine V_aload_n (pc := 0) (DCa dc_Stan_rake_0 0 rfl) rfl 0 rfl ?_
  refine V_aload_n (pc := 1) (DCa dc_Stan_rake_0 1 rfl) rfl 1 rfl ?_
  refine V_iload_n (pc := 2) (DCa dc_Stan_rake_0 2 rfl) rfl 2 rfl ?_
  refine V_iload_n (pc := 3) (DCa dc_Stan_rake_0 3 rfl) rfl 3 rfl ?_
  refine Q_callv (ci := 8) (st := []) (pc := 4) (DCa dc_Stan_rake_0 4 rfl) (sp_Stan_wouldBeDone F _ _ _ _ _) ce_Stan_wouldBeDone ml_8_82 rfl rfl ⟨Nat.le_of_ble_eq_true rfl, Nat.le_of_ble_eq_true rfl⟩ rfl (Nat.le_of_ble_eq_true rfl) (fun r1 h2 => ?_)
  refine V_istore (ls' := [(0, 2, l0), (1, 2, l1), (2, 0, l2), (3, 0, l3), (4, 0, r1)]) (pc := 7) (DCa dc_Stan_rake_0 5 rfl) (Nat.le_of_ble_eq_true rfl) rfl ?_
  refine V_iload (pc := 9) (DCa dc_Stan_rake_0 6 rfl) 4 rfl ?_
  refine V_if_ge (tgt := 17) (pc := 11) (DCa dc_Stan_rake_0 7 rfl) (by decide) (fun _ => ?_) (fun _ => ?_)
  · refine V_bipush (pc := 14) (DCa dc_Stan_rake_0 8 rfl) (by decide) ?_
    exact V_ireturn (pc := 16) (DCa dc_Stan_rake_0 9 rfl) rfl
  · refine V_aload_n (pc := 17) (DCa dc_Stan_rake_0 10 rfl) rfl 0 rfl ?_
    refine Q_getf (k := 0) (pc := 18) (DCa dc_Stan_rake_0 11 rfl) cls_8 (Nat.le_of_ble_eq_true rfl) fl_8_11 rfl rfl rfl (fun v3 => ?_)
    refine V_iload_n (pc := 21) (DCa dc_Stan_rake_0 12 rfl) rfl 2 rfl ?_
    refine Q_aaload (pc := 22) (DCa dc_Stan_rake_0 13 rfl) (by decide) rfl rfl (fun v4 => ?_)
    refine V_aload_n (pc := 23) (DCa dc_Stan_rake_0 14 rfl) rfl 1 rfl ?_
    refine Q_getf (k := 3) (pc := 24) (DCa dc_Stan_rake_0 15 rfl) cls_7 (Nat.le_of_ble_eq_true rfl) fl_8_59 rfl rfl rfl (fun v5 => ?_)
    refine V_iload_n (pc := 27) (DCa dc_Stan_rake_0 16 rfl) rfl 3 rfl ?_
    refine Q_aaload (pc := 28) (DCa dc_Stan_rake_0 17 rfl) (by decide) rfl rfl (fun v6 => ?_)
    refine V_iload (pc := 29) (DCa dc_Stan_rake_0 18 rfl) 4 rfl ?_
    refine Q_callv (ci := 10) (st := []) (pc := 31) (DCa dc_Stan_rake_0 19 rfl) (sp_Walk_goTo F _ _ _ _) ce_Walk_goTo ml_8_86 rfl rfl ⟨Nat.le_of_ble_eq_true rfl, Nat.le_of_ble_eq_true rfl⟩ rfl (Nat.le_of_ble_eq_true rfl) (fun r7 h8 => ?_)
    refine V_aload_n (pc := 34) (DCa dc_Stan_rake_0 20 rfl) rfl 0 rfl ?_
    refine Q_getf (k := 0) (pc := 35) (DCa dc_Stan_rake_0 21 rfl) cls_8 (Nat.le_of_ble_eq_true rfl) fl_8_11 rfl rfl rfl (fun v9 => ?_)
    refine V_iload_n (pc := 38) (DCa dc_Stan_rake_0 22 rfl) rfl 2 rfl ?_
    refine Q_aaload (pc := 39) (DCa dc_Stan_rake_0 23 rfl) (by decide) rfl rfl (fun v10 => ?_)
    refine V_dup (pc := 40) (DCa dc_Stan_rake_0 24 rfl) rfl ?_
    refine Q_getf (k := 4) (pc := 41) (DCa dc_Stan_rake_0 25 rfl) cls_10 (Nat.le_of_ble_eq_true rfl) fl_8_90 rfl rfl rfl (fun v11 => ?_)
    refine V_aload_n (pc := 44) (DCa dc_Stan_rake_0 26 rfl) rfl 1 rfl ?_
    refine Q_getf (k := 0) (pc := 45) (DCa dc_Stan_rake_0 27 rfl) cls_7 (Nat.le_of_ble_eq_true rfl) fl_8_93 rfl rfl rfl (fun v12 => ?_)
    refine Q_getf (k := 2) (pc := 48) (DCa dc_Stan_rake_0 28 rfl) cls_6 (Nat.le_of_ble_eq_true rfl) fl_8_97 rfl rfl rfl (fun v13 => ?_)
    refine V_iload_n (pc := 51) (DCa dc_Stan_rake_0 29 rfl) rfl 3 rfl ?_
    refine Q_iaload (pc := 52) (DCa dc_Stan_rake_0 30 rfl) (fun v14 => ?_)
    refine V_iadd (pc := 53) (DCa dc_Stan_rake_0 31 rfl) ?_
    refine Q_putf (k := 4) (pc := 54) (DCa dc_Stan_rake_0 32 rfl) cls_10 (Nat.le_of_ble_eq_true rfl) fl_8_90 rfl rfl rfl (Or.inl rfl) (Or.inl ⟨rfl, rfl⟩) (fun h15 => ?_)
    refine V_aload_n (pc := 57) (DCa dc_Stan_rake_0 33 rfl) rfl 0 rfl ?_
    refine Q_getf (k := 1) (pc := 58) (DCa dc_Stan_rake_0 34 rfl) cls_8 (Nat.le_of_ble_eq_true rfl) fl_8_17 rfl rfl rfl (fun v16 => ?_)
    refine V_iload_n (pc := 61) (DCa dc_Stan_rake_0 35 rfl) rfl 3 rfl ?_
    refine V_iload (pc := 62) (DCa dc_Stan_rake_0 36 rfl) 4 rfl ?_
    refine Q_iastore (pc := 64) (DCa dc_Stan_rake_0 37 rfl) (fun h17 => ?_)
    refine V_aload_n (pc := 65) (DCa dc_Stan_rake_0 38 rfl) rfl 0 rfl ?_
    refine Q_getf (k := 2) (pc := 66) (DCa dc_Stan_rake_0 39 rfl) cls_8 (Nat.le_of_ble_eq_true rfl) fl_8_21 rfl rfl rfl (fun v18 => ?_)
    refine V_iload_n (pc := 69) (DCa dc_Stan_rake_0 40 rfl) rfl 3 rfl ?_
    refine V_iconst (pc := 70) (DCa dc_Stan_rake_0 41 rfl) (by decide) ?_
    refine Q_iastore (pc := 71) (DCa dc_Stan_rake_0 42 rfl) (fun h19 => ?_)
    refine V_aload_n (pc := 72) (DCa dc_Stan_rake_0 43 rfl) rfl 0 rfl ?_
    refine Q_getf (k := 3) (pc := 73) (DCa dc_Stan_rake_0 44 rfl) cls_8 (Nat.le_of_ble_eq_true rfl) fl_8_24 rfl rfl rfl (fun v20 => ?_)
    refine V_iload_n (pc := 76) (DCa dc_Stan_rake_0 45 rfl) rfl 3 rfl ?_
    refine V_iload_n (pc := 77) (DCa dc_Stan_rake_0 46 rfl) rfl 2 rfl ?_
    refine Q_iastore (pc := 78) (DCa dc_Stan_rake_0 47 rfl) (fun h21 => ?_)
    refine V_aload_n (pc := 79) (DCa dc_Stan_rake_0 48 rfl) rfl 0 rfl ?_
    refine Q_getf (k := 4) (pc := 80) (DCa dc_Stan_rake_0 49 rfl) cls_8 (Nat.le_of_ble_eq_true rfl) fl_8_27 rfl rfl rfl (fun v22 => ?_)
    refine V_iload_n (pc := 83) (DCa dc_Stan_rake_1 0 rfl) rfl 3 rfl ?_
    refine V_iconst (pc := 84) (DCa dc_Stan_rake_1 1 rfl) (by decide) ?_
    refine Q_zastore (pc := 85) (DCa dc_Stan_rake_1 2 rfl) (fun h23 => ?_)
    refine V_aload_n (pc := 86) (DCa dc_Stan_rake_1 3 rfl) rfl 0 rfl ?_
    refine V_iconst (pc := 87) (DCa dc_Stan_rake_1 4 rfl) (by decide) ?_
    refine V_iload_n (pc := 88) (DCa dc_Stan_rake_1 5 rfl) rfl 2 rfl ?_
    refine V_iload_n (pc := 89) (DCa dc_Stan_rake_1 6 rfl) rfl 3 rfl ?_
    refine Q_callv (ci := 8) (st := []) (pc := 90) (DCa dc_Stan_rake_1 7 rfl) (sp_Stan_addAct F _ _ _ _ _) ce_Stan_addAct ml_8_102 rfl rfl ⟨Nat.le_of_ble_eq_true rfl, Nat.le_of_ble_eq_true rfl⟩ rfl (Nat.le_of_ble_eq_true rfl) (fun r24 h25 => ?_)
    refine V_iload (pc := 93) (DCa dc_Stan_rake_1 8 rfl) 4 rfl ?_
    exact V_ireturn (pc := 95) (DCa dc_Stan_rake_1 9 rfl) rfl
theorem sp_Stan_rake (F : Nat) (l0 l1 l2 l3 : Int) (h : Hp) : Sp yX8_rake cX8_rake 5 (some (.int)) 4 90 [(2, l0), (2, l1), (0, l2), (0, l3)] h (Stan_rake F l0 l1 l2 l3 h) := Sp_of (by decide +kernel) rfl rfl (Nat.le_of_ble_eq_true rfl) (v_Stan_rake F l0 l1 l2 l3 h)

-- TideRakes$Stand.strike
def Stan_strike (F : Nat) (l0 l1 : Int) (h : Hp) : Option (Int × Hp) :=
  gf h l0 108 1 fun v1 =>
  al h v1 0 l1 fun v2 =>
  if v2 < 0 then
    (rz 0 h)
  else
    (gf h l0 108 4 fun v3 =>
    al h v3 2 l1 fun v4 =>
    if v4 = 0 then
      (gf h l0 108 4 fun v5 =>
      az h v5 l1 1 fun h6 =>
      iv h6 l0 108 (Stan_addAct F l0 1 0 l1 h6) fun r7 h8 =>
      rz 1 h8)
    else
      (rz 0 h))

theorem dc_Stan_strike_0 : ∀ q ∈ ([(0, .aload_n 0, 1), (1, .getfield 17, 3), (4, .iload_n 1, 1), (5, .iaload, 1), (6, .ifCond .lt 12, 3), (9, .aload_n 0, 1), (10, .getfield 27, 3), (13, .iload_n 1, 1), (14, .baload, 1), (15, .ifCond .eq 5, 3), (18, .iconst 0, 1), (19, .ireturn, 1), (20, .aload_n 0, 1), (21, .getfield 27, 3), (24, .iload_n 1, 1), (25, .iconst 1, 1), (26, .bastore, 1), (27, .aload_n 0, 1), (28, .iconst 1, 1), (29, .iconst 0, 1), (30, .iload_n 1, 1), (31, .invokevirtual 102, 3), (34, .iconst 1, 1), (35, .ireturn, 1)] : List (Nat × Instr × Nat)), decode cX8_strike q.1 = .ok (q.2.1, q.2.2) := by decide +kernel
abbrev X_Stan_strike : MX := (cX8_strike, RX8, "strike", 2, (some (.boolean)), 2, 43)
theorem v_Stan_strike (F : Nat) (l0 l1 : Int) (h : Hp) : V X_Stan_strike 0 [(0, 2, l0), (1, 0, l1)] [] h (Stan_strike F l0 l1 h) := by
  unfold Stan_strike
  refine V_aload_n (pc := 0) (DCa dc_Stan_strike_0 0 rfl) rfl 0 rfl ?_
  refine Q_getf (k := 1) (pc := 1) (DCa dc_Stan_strike_0 1 rfl) cls_8 (Nat.le_of_ble_eq_true rfl) fl_8_17 rfl rfl rfl (fun v1 => ?_)
  refine V_iload_n (pc := 4) (DCa dc_Stan_strike_0 2 rfl) rfl 1 rfl ?_
  refine Q_iaload (pc := 5) (DCa dc_Stan_strike_0 3 rfl) (fun v2 => ?_)
  refine V_if_lt (tgt := 18) (pc := 6) (DCa dc_Stan_strike_0 4 rfl) (by decide) (fun _ => ?_) (fun _ => ?_)
  · refine V_iconst (pc := 18) (DCa dc_Stan_strike_0 10 rfl) (by decide) ?_
    exact V_zreturn (pc := 19) (DCa dc_Stan_strike_0 11 rfl) rfl
  · refine V_aload_n (pc := 9) (DCa dc_Stan_strike_0 5 rfl) rfl 0 rfl ?_
    refine Q_getf (k := 4) (pc := 10) (DCa dc_Stan_strike_0 6 rfl) cls_8 (Nat.le_of_ble_eq_true rfl) fl_8_27 rfl rfl rfl (fun v3 => ?_)
    refine V_iload_n (pc := 13) (DCa dc_Stan_strike_0 7 rfl) rfl 1 rfl ?_
    refine Q_zaload (pc := 14) (DCa dc_Stan_strike_0 8 rfl) (fun v4 => ?_)
    refine V_if_eq (tgt := 20) (pc := 15) (DCa dc_Stan_strike_0 9 rfl) (by decide) (fun _ => ?_) (fun _ => ?_)
    · refine V_aload_n (pc := 20) (DCa dc_Stan_strike_0 12 rfl) rfl 0 rfl ?_
      refine Q_getf (k := 4) (pc := 21) (DCa dc_Stan_strike_0 13 rfl) cls_8 (Nat.le_of_ble_eq_true rfl) fl_8_27 rfl rfl rfl (fun v5 => ?_)
      refine V_iload_n (pc := 24) (DCa dc_Stan_strike_0 14 rfl) rfl 1 rfl ?_
      refine V_iconst (pc := 25) (DCa dc_Stan_strike_0 15 rfl) (by decide) ?_
      refine Q_zastore (pc := 26) (DCa dc_Stan_strike_0 16 rfl) (fun h6 => ?_)
      refine V_aload_n (pc := 27) (DCa dc_Stan_strike_0 17 rfl) rfl 0 rfl ?_
      refine V_iconst (pc := 28) (DCa dc_Stan_strike_0 18 rfl) (by decide) ?_
      refine V_iconst (pc := 29) (DCa dc_Stan_strike_0 19 rfl) (by decide) ?_
      refine V_iload_n (pc := 30) (DCa dc_Stan_strike_0 20 rfl) rfl 1 rfl ?_
      refine Q_callv (ci := 8) (st := []) (pc := 31) (DCa dc_Stan_strike_0 21 rfl) (sp_Stan_addAct F _ _ _ _ _) ce_Stan_addAct ml_8_102 rfl rfl ⟨Nat.le_of_ble_eq_true rfl, Nat.le_of_ble_eq_true rfl⟩ rfl (Nat.le_of_ble_eq_true rfl) (fun r7 h8 => ?_)
      refine V_iconst (pc := 34) (DCa dc_Stan_strike_0 22 rfl) (by decide) ?_
      exact V_zreturn (pc := 35) (DCa dc_Stan_strike_0 23 rfl) rfl
    · refine V_iconst (pc := 18) (DCa dc_Stan_strike_0 10 rfl) (by decide) ?_
      exact V_zreturn (pc := 19) (DCa dc_Stan_strike_0 11 rfl) rfl
theorem sp_Stan_strike (F : Nat) (l0 l1 : Int) (h : Hp) : Sp yX8_strike cX8_strike 2 (some (.boolean)) 2 43 [(2, l0), (0, l1)] h (Stan_strike F l0 l1 h) := Sp_of (by decide +kernel) rfl rfl (Nat.le_of_ble_eq_true rfl) (v_Stan_strike F l0 l1 h)

-- TideRakes$Stand.repair
def Stan_repair (F : Nat) (l0 l1 l2 l3 : Int) (h : Hp) : Option (Int × Hp) :=
  gf h l0 108 4 fun v1 =>
  al h v1 2 l3 fun v2 =>
  if v2 = 0 then
    (some ((-2), h))
  else
    (gf h l1 107 3 fun v3 =>
    al h v3 5 l3 fun v4 =>
    gf h l0 108 0 fun v5 =>
    al h v5 7 l2 fun v6 =>
    iv h v6 110 (Walk_comesTo F v6 v4 h) fun r7 h8 =>
    gf h8 v4 105 3 fun v9 =>
    cl (Tide_roundedUp F v9 3 h8) fun r10 h11 =>
    lt (w32 (r7 + r10)) fun x12 =>
    if 600 < x12 then
      (some ((-2), h11))
    else
      (gf h11 l0 108 0 fun v13 =>
      al h11 v13 7 l2 fun v14 =>
      iv h11 v14 110 (Walk_goTo F v14 v4 x12 h11) fun r15 h16 =>
      gf h16 l0 108 2 fun v17 =>
      as h16 v17 0 l3 x12 fun h18 =>
      gf h18 l0 108 4 fun v19 =>
      az h18 v19 l3 0 fun h20 =>
      iv h20 l0 108 (Stan_addAct F l0 2 l2 l3 h20) fun r21 h22 =>
      some (x12, h22)))

theorem dc_Stan_repair_0 : ∀ q ∈ ([(0, .aload_n 0, 1), (1, .getfield 27, 3), (4, .iload_n 3, 1), (5, .baload, 1), (6, .ifCond .ne 6, 3), (9, .bipush (-2), 2), (11, .ireturn, 1), (12, .aload_n 1, 1), (13, .getfield 59, 3), (16, .iload_n 3, 1), (17, .aaload, 1), (18, .astore 4, 2), (20, .aload_n 0, 1), (21, .getfield 11, 3), (24, .iload_n 2, 1), (25, .aaload, 1), (26, .aload 4, 2), (28, .invokevirtual 65, 3), (31, .aload 4, 2), (33, .getfield 79, 3), (36, .iconst 3, 1), (37, .invokestatic 106, 3), (40, .iadd, 1), (41, .istore 5, 2), (43, .iload 5, 2), (45, .sipush 600, 3), (48, .if_icmp .le 6, 3), (51, .bipush (-2), 2), (53, .ireturn, 1), (54, .aload_n 0, 1), (55, .getfield 11, 3), (58, .iload_n 2, 1), (59, .aaload, 1), (60, .aload 4, 2), (62, .iload 5, 2), (64, .invokevirtual 86, 3), (67, .aload_n 0, 1), (68, .getfield 21, 3), (71, .iload_n 3, 1), (72, .iload 5, 2), (74, .iastore, 1), (75, .aload_n 0, 1), (76, .getfield 27, 3), (79, .iload_n 3, 1), (80, .iconst 0, 1), (81, .bastore, 1), (82, .aload_n 0, 1), (83, .iconst 2, 1), (84, .iload_n 2, 1), (85, .iload_n 3, 1)] : List (Nat × Instr × Nat)), decode cX8_repair q.1 = .ok (q.2.1, q.2.2) := by decide +kernel
theorem dc_Stan_repair_1 : ∀ q ∈ ([(86, .invokevirtual 102, 3), (89, .iload 5, 2), (91, .ireturn, 1)] : List (Nat × Instr × Nat)), decode cX8_repair q.1 = .ok (q.2.1, q.2.2) := by decide +kernel
abbrev X_Stan_repair : MX := (cX8_repair, RX8, "repair", 6, (some (.int)), 3, 64)
theorem v_Stan_repair (F : Nat) (l0 l1 l2 l3 : Int) (h : Hp) : V X_Stan_repair 0 [(0, 2, l0), (1, 2, l1), (2, 0, l2), (3, 0, l3)] [] h (Stan_repair F l0 l1 l2 l3 h) := by
  unfold Stan_repair
  refine V_aload_n (pc := 0) (DCa dc_Stan_repair_0 0 rfl) rfl 0 rfl ?_
  refine Q_getf (k := 4) (pc := 1) (DCa dc_Stan_repair_0 1 rfl) cls_8 (Nat.le_of_ble_eq_true rfl) fl_8_27 rfl rfl rfl (fun v1 => ?_)
  refine V_iload_n (pc := 4) (DCa dc_Stan_repair_0 2 rfl) rfl 3 rfl ?_
  refine Q_zaload (pc := 5) (DCa dc_Stan_repair_0 3 rfl) (fun v2 => ?_)
  refine V_if_ne (tgt := 12) (pc := 6) (DCa dc_Stan_repair_0 4 rfl) (by decide) (fun _ => ?_) (fun _ => ?_)
  · refine V_bipush (pc := 9) (DCa dc_Stan_repair_0 5 rfl) (by decide) ?_
    exact V_ireturn (pc := 11) (DCa dc_Stan_repair_0 6 rfl) rfl
  · refine V_aload_n (pc := 12) (DCa dc_Stan_repair_0 7 rfl) rfl 1 rfl ?_
    refine Q_getf (k := 3) (pc := 13) (DCa dc_Stan_repair_0 8 rfl) cls_7 (Nat.le_of_ble_eq_true rfl) fl_8_59 rfl rfl rfl (fun v3 => ?_)
    refine V_iload_n (pc := 16) (DCa dc_Stan_repair_0 9 rfl) rfl 3 rfl ?_
    refine Q_aaload (pc := 17) (DCa dc_Stan_repair_0 10 rfl) (by decide) rfl rfl (fun v4 => ?_)
    refine V_astore (ls' := [(0, 2, l0), (1, 2, l1), (2, 0, l2), (3, 0, l3), (4, 2, v4)]) (pc := 18) (DCa dc_Stan_repair_0 11 rfl) (Nat.le_of_ble_eq_true rfl) rfl ?_
    refine V_aload_n (pc := 20) (DCa dc_Stan_repair_0 12 rfl) rfl 0 rfl ?_
    refine Q_getf (k := 0) (pc := 21) (DCa dc_Stan_repair_0 13 rfl) cls_8 (Nat.le_of_ble_eq_true rfl) fl_8_11 rfl rfl rfl (fun v5 => ?_)
    refine V_iload_n (pc := 24) (DCa dc_Stan_repair_0 14 rfl) rfl 2 rfl ?_
    refine Q_aaload (pc := 25) (DCa dc_Stan_repair_0 15 rfl) (by decide) rfl rfl (fun v6 => ?_)
    refine V_aload (pc := 26) (DCa dc_Stan_repair_0 16 rfl) 4 rfl ?_
    refine Q_callv (ci := 10) (st := []) (pc := 28) (DCa dc_Stan_repair_0 17 rfl) (sp_Walk_comesTo F _ _ _) ce_Walk_comesTo ml_8_65 rfl rfl ⟨Nat.le_of_ble_eq_true rfl, Nat.le_of_ble_eq_true rfl⟩ rfl (Nat.le_of_ble_eq_true rfl) (fun r7 h8 => ?_)
    refine V_aload (pc := 31) (DCa dc_Stan_repair_0 18 rfl) 4 rfl ?_
    refine Q_getf (k := 3) (pc := 33) (DCa dc_Stan_repair_0 19 rfl) cls_5 (Nat.le_of_ble_eq_true rfl) fl_8_79 rfl rfl rfl (fun v9 => ?_)
    refine V_iconst (pc := 36) (DCa dc_Stan_repair_0 20 rfl) (by decide) ?_
    refine Q_callsN (st := [(0, r7)]) (host := "TideRakes") (pc := 37) (DCa dc_Stan_repair_0 21 rfl) (sp_Tide_roundedUp F _ _ _) ce_Tide_roundedUp (by decide +kernel) rfl ⟨Nat.le_of_ble_eq_true rfl, Nat.le_of_ble_eq_true rfl⟩ rfl (Nat.le_of_ble_eq_true rfl) (fun r10 h11 => ?_)
    refine V_iadd (pc := 40) (DCa dc_Stan_repair_0 22 rfl) ?_
    refine Q_lt (fun x12 => ?_)
    refine V_istore (ls' := [(0, 2, l0), (1, 2, l1), (2, 0, l2), (3, 0, l3), (4, 2, v4), (5, 0, x12)]) (pc := 41) (DCa dc_Stan_repair_0 23 rfl) (Nat.le_of_ble_eq_true rfl) rfl ?_
    refine V_iload (pc := 43) (DCa dc_Stan_repair_0 24 rfl) 5 rfl ?_
    refine V_sipush (pc := 45) (DCa dc_Stan_repair_0 25 rfl) (by decide) ?_
    refine V_icmp_le (tgt := 54) (pc := 48) (DCa dc_Stan_repair_0 26 rfl) (by decide) (fun _ => ?_) (fun _ => ?_)
    · refine V_bipush (pc := 51) (DCa dc_Stan_repair_0 27 rfl) (by decide) ?_
      exact V_ireturn (pc := 53) (DCa dc_Stan_repair_0 28 rfl) rfl
    · refine V_aload_n (pc := 54) (DCa dc_Stan_repair_0 29 rfl) rfl 0 rfl ?_
      refine Q_getf (k := 0) (pc := 55) (DCa dc_Stan_repair_0 30 rfl) cls_8 (Nat.le_of_ble_eq_true rfl) fl_8_11 rfl rfl rfl (fun v13 => ?_)
      refine V_iload_n (pc := 58) (DCa dc_Stan_repair_0 31 rfl) rfl 2 rfl ?_
      refine Q_aaload (pc := 59) (DCa dc_Stan_repair_0 32 rfl) (by decide) rfl rfl (fun v14 => ?_)
      refine V_aload (pc := 60) (DCa dc_Stan_repair_0 33 rfl) 4 rfl ?_
      refine V_iload (pc := 62) (DCa dc_Stan_repair_0 34 rfl) 5 rfl ?_
      refine Q_callv (ci := 10) (st := []) (pc := 64) (DCa dc_Stan_repair_0 35 rfl) (sp_Walk_goTo F _ _ _ _) ce_Walk_goTo ml_8_86 rfl rfl ⟨Nat.le_of_ble_eq_true rfl, Nat.le_of_ble_eq_true rfl⟩ rfl (Nat.le_of_ble_eq_true rfl) (fun r15 h16 => ?_)
      refine V_aload_n (pc := 67) (DCa dc_Stan_repair_0 36 rfl) rfl 0 rfl ?_
      refine Q_getf (k := 2) (pc := 68) (DCa dc_Stan_repair_0 37 rfl) cls_8 (Nat.le_of_ble_eq_true rfl) fl_8_21 rfl rfl rfl (fun v17 => ?_)
      refine V_iload_n (pc := 71) (DCa dc_Stan_repair_0 38 rfl) rfl 3 rfl ?_
      refine V_iload (pc := 72) (DCa dc_Stan_repair_0 39 rfl) 5 rfl ?_
      refine Q_iastore (pc := 74) (DCa dc_Stan_repair_0 40 rfl) (fun h18 => ?_)
      refine V_aload_n (pc := 75) (DCa dc_Stan_repair_0 41 rfl) rfl 0 rfl ?_
      refine Q_getf (k := 4) (pc := 76) (DCa dc_Stan_repair_0 42 rfl) cls_8 (Nat.le_of_ble_eq_true rfl) fl_8_27 rfl rfl rfl (fun v19 => ?_)
      refine V_iload_n (pc := 79) (DCa dc_Stan_repair_0 43 rfl) rfl 3 rfl ?_
      refine V_iconst (pc := 80) (DCa dc_Stan_repair_0 44 rfl) (by decide) ?_
      refine Q_zastore (pc := 81) (DCa dc_Stan_repair_0 45 rfl) (fun h20 => ?_)
      refine V_aload_n (pc := 82) (DCa dc_Stan_repair_0 46 rfl) rfl 0 rfl ?_
      refine V_iconst (pc := 83) (DCa dc_Stan_repair_0 47 rfl) (by decide) ?_
      refine V_iload_n (pc := 84) (DCa dc_Stan_repair_0 48 rfl) rfl 2 rfl ?_
      refine V_iload_n (pc := 85) (DCa dc_Stan_repair_0 49 rfl) rfl 3 rfl ?_
      refine Q_callv (ci := 8) (st := []) (pc := 86) (DCa dc_Stan_repair_1 0 rfl) (sp_Stan_addAct F _ _ _ _ _) ce_Stan_addAct ml_8_102 rfl rfl ⟨Nat.le_of_ble_eq_true rfl, Nat.le_of_ble_eq_true rfl⟩ rfl (Nat.le_of_ble_eq_true rfl) (fun r21 h22 => ?_)
      refine V_iload (pc := 89) (DCa dc_Stan_repair_1 1 rfl) 5 rfl ?_
      exact V_ireturn (pc := 91) (DCa dc_Stan_repair_1 2 rfl) rfl
theorem sp_Stan_repair (F : Nat) (l0 l1 l2 l3 : Int) (h : Hp) : Sp yX8_repair cX8_repair 6 (some (.int)) 3 64 [(2, l0), (2, l1), (0, l2), (0, l3)] h (Stan_repair F l0 l1 l2 l3 h) := Sp_of (by decide +kernel) rfl rfl (Nat.le_of_ble_eq_true rfl) (v_Stan_repair F l0 l1 l2 l3 h)

-- TideRakes$Stand.visibleFrom
def Stan_visibleFrom (F : Nat) (l0 l1 : Int) (h : Hp) : Option (Int × Hp) :=
  gf h l0 108 1 fun v1 =>
  al h v1 0 l1 fun v2 =>
  gf h l0 108 2 fun v3 =>
  al h v3 0 l1 fun v4 =>
  lt (imax v2 v4) fun r5 =>
  some (r5, h)

theorem dc_Stan_visibleFrom_0 : ∀ q ∈ ([(0, .aload_n 0, 1), (1, .getfield 17, 3), (4, .iload_n 1, 1), (5, .iaload, 1), (6, .aload_n 0, 1), (7, .getfield 21, 3), (10, .iload_n 1, 1), (11, .iaload, 1), (12, .invokestatic 110, 3), (15, .ireturn, 1)] : List (Nat × Instr × Nat)), decode cX8_visibleFrom q.1 = .ok (q.2.1, q.2.2) := by decide +kernel
abbrev X_Stan_visibleFrom : MX := (cX8_visibleFrom, RX8, "visibleFrom", 2, (some (.int)), 1, 20)
theorem v_Stan_visibleFrom (F : Nat) (l0 l1 : Int) (h : Hp) : V X_Stan_visibleFrom 0 [(0, 2, l0), (1, 0, l1)] [] h (Stan_visibleFrom F l0 l1 h) := by
  unfold Stan_visibleFrom
  refine V_aload_n (pc := 0) (DCa dc_Stan_visibleFrom_0 0 rfl) rfl 0 rfl ?_
  refine Q_getf (k := 1) (pc := 1) (DCa dc_Stan_visibleFrom_0 1 rfl) cls_8 (Nat.le_of_ble_eq_true rfl) fl_8_17 rfl rfl rfl (fun v1 => ?_)
  refine V_iload_n (pc := 4) (DCa dc_Stan_visibleFrom_0 2 rfl) rfl 1 rfl ?_
  refine Q_iaload (pc := 5) (DCa dc_Stan_visibleFrom_0 3 rfl) (fun v2 => ?_)
  refine V_aload_n (pc := 6) (DCa dc_Stan_visibleFrom_0 4 rfl) rfl 0 rfl ?_
  refine Q_getf (k := 2) (pc := 7) (DCa dc_Stan_visibleFrom_0 5 rfl) cls_8 (Nat.le_of_ble_eq_true rfl) fl_8_21 rfl rfl rfl (fun v3 => ?_)
  refine V_iload_n (pc := 10) (DCa dc_Stan_visibleFrom_0 6 rfl) rfl 1 rfl ?_
  refine Q_iaload (pc := 11) (DCa dc_Stan_visibleFrom_0 7 rfl) (fun v4 => ?_)
  refine V_mmax (pc := 12) (DCa dc_Stan_visibleFrom_0 8 rfl) (tb5 24 rfl rfl) mt_smax mt_i mt_cmax ⟨Nat.le_of_ble_eq_true rfl, Nat.le_of_ble_eq_true rfl⟩ ?_
  refine Q_lt (fun r5 => ?_)
  exact V_ireturn (pc := 15) (DCa dc_Stan_visibleFrom_0 9 rfl) rfl
theorem sp_Stan_visibleFrom (F : Nat) (l0 l1 : Int) (h : Hp) : Sp yX8_visibleFrom cX8_visibleFrom 2 (some (.int)) 1 20 [(2, l0), (0, l1)] h (Stan_visibleFrom F l0 l1 h) := Sp_of (by decide +kernel) rfl rfl (Nat.le_of_ble_eq_true rfl) (v_Stan_visibleFrom F l0 l1 h)

-- TideRakes$Stand.isVisible
def Stan_isVisible (F : Nat) (l0 l1 l2 l3 : Int) (h : Hp) : Option (Int × Hp) :=
  gf h l0 108 1 fun v1 =>
  al h v1 0 l2 fun v2 =>
  if v2 < 0 then
    (rz 0 h)
  else
    (gf h l0 108 4 fun v3 =>
    al h v3 2 l2 fun v4 =>
    if v4 = 0 then
      (iv h l0 108 (Stan_visibleFrom F l0 l2 h) fun r5 h6 =>
      if l3 < r5 then
        (rz 0 h6)
      else
        (gf h6 l1 107 3 fun v7 =>
        al h6 v7 5 l2 fun v8 =>
        gf h6 l0 108 1 fun v9 =>
        al h6 v9 0 l2 fun v10 =>
        iv h6 v8 105 (Sand_washed F v8 v10 l3 h6) fun r11 h12 =>
        if r11 = 0 then
          (rz 1 h12)
        else
          (rz 0 h12)))
    else
      (rz 0 h))

theorem dc_Stan_isVisible_0 : ∀ q ∈ ([(0, .aload_n 0, 1), (1, .getfield 17, 3), (4, .iload_n 2, 1), (5, .iaload, 1), (6, .ifCond .lt 21, 3), (9, .aload_n 0, 1), (10, .getfield 27, 3), (13, .iload_n 2, 1), (14, .baload, 1), (15, .ifCond .ne 12, 3), (18, .aload_n 0, 1), (19, .iload_n 2, 1), (20, .invokevirtual 115, 3), (23, .iload_n 3, 1), (24, .if_icmp .le 5, 3), (27, .iconst 0, 1), (28, .ireturn, 1), (29, .aload_n 1, 1), (30, .getfield 59, 3), (33, .iload_n 2, 1), (34, .aaload, 1), (35, .aload_n 0, 1), (36, .getfield 17, 3), (39, .iload_n 2, 1), (40, .iaload, 1), (41, .iload_n 3, 1), (42, .invokevirtual 69, 3), (45, .ifCond .ne 7, 3), (48, .iconst 1, 1), (49, .goto 4, 3), (52, .iconst 0, 1), (53, .ireturn, 1)] : List (Nat × Instr × Nat)), decode cX8_isVisible q.1 = .ok (q.2.1, q.2.2) := by decide +kernel
abbrev X_Stan_isVisible : MX := (cX8_isVisible, RX8, "isVisible", 4, (some (.boolean)), 3, 63)
theorem v_Stan_isVisible (F : Nat) (l0 l1 l2 l3 : Int) (h : Hp) : V X_Stan_isVisible 0 [(0, 2, l0), (1, 2, l1), (2, 0, l2), (3, 0, l3)] [] h (Stan_isVisible F l0 l1 l2 l3 h) := by
  unfold Stan_isVisible
  refine V_aload_n (pc := 0) (DCa dc_Stan_isVisible_0 0 rfl) rfl 0 rfl ?_
  refine Q_getf (k := 1) (pc := 1) (DCa dc_Stan_isVisible_0 1 rfl) cls_8 (Nat.le_of_ble_eq_true rfl) fl_8_17 rfl rfl rfl (fun v1 => ?_)
  refine V_iload_n (pc := 4) (DCa dc_Stan_isVisible_0 2 rfl) rfl 2 rfl ?_
  refine Q_iaload (pc := 5) (DCa dc_Stan_isVisible_0 3 rfl) (fun v2 => ?_)
  refine V_if_lt (tgt := 27) (pc := 6) (DCa dc_Stan_isVisible_0 4 rfl) (by decide) (fun _ => ?_) (fun _ => ?_)
  · refine V_iconst (pc := 27) (DCa dc_Stan_isVisible_0 15 rfl) (by decide) ?_
    exact V_zreturn (pc := 28) (DCa dc_Stan_isVisible_0 16 rfl) rfl
  · refine V_aload_n (pc := 9) (DCa dc_Stan_isVisible_0 5 rfl) rfl 0 rfl ?_
    refine Q_getf (k := 4) (pc := 10) (DCa dc_Stan_isVisible_0 6 rfl) cls_8 (Nat.le_of_ble_eq_true rfl) fl_8_27 rfl rfl rfl (fun v3 => ?_)
    refine V_iload_n (pc := 13) (DCa dc_Stan_isVisible_0 7 rfl) rfl 2 rfl ?_
    refine Q_zaload (pc := 14) (DCa dc_Stan_isVisible_0 8 rfl) (fun v4 => ?_)
    refine V_if_ne (tgt := 27) (pc := 15) (DCa dc_Stan_isVisible_0 9 rfl) (by decide) (fun _ => ?_) (fun _ => ?_)
    · refine V_aload_n (pc := 18) (DCa dc_Stan_isVisible_0 10 rfl) rfl 0 rfl ?_
      refine V_iload_n (pc := 19) (DCa dc_Stan_isVisible_0 11 rfl) rfl 2 rfl ?_
      refine Q_callv (ci := 8) (st := []) (pc := 20) (DCa dc_Stan_isVisible_0 12 rfl) (sp_Stan_visibleFrom F _ _ _) ce_Stan_visibleFrom ml_8_115 rfl rfl ⟨Nat.le_of_ble_eq_true rfl, Nat.le_of_ble_eq_true rfl⟩ rfl (Nat.le_of_ble_eq_true rfl) (fun r5 h6 => ?_)
      refine V_iload_n (pc := 23) (DCa dc_Stan_isVisible_0 13 rfl) rfl 3 rfl ?_
      refine V_icmp_le (tgt := 29) (pc := 24) (DCa dc_Stan_isVisible_0 14 rfl) (by decide) (fun _ => ?_) (fun _ => ?_)
      · refine V_iconst (pc := 27) (DCa dc_Stan_isVisible_0 15 rfl) (by decide) ?_
        exact V_zreturn (pc := 28) (DCa dc_Stan_isVisible_0 16 rfl) rfl
      · refine V_aload_n (pc := 29) (DCa dc_Stan_isVisible_0 17 rfl) rfl 1 rfl ?_
        refine Q_getf (k := 3) (pc := 30) (DCa dc_Stan_isVisible_0 18 rfl) cls_7 (Nat.le_of_ble_eq_true rfl) fl_8_59 rfl rfl rfl (fun v7 => ?_)
        refine V_iload_n (pc := 33) (DCa dc_Stan_isVisible_0 19 rfl) rfl 2 rfl ?_
        refine Q_aaload (pc := 34) (DCa dc_Stan_isVisible_0 20 rfl) (by decide) rfl rfl (fun v8 => ?_)
        refine V_aload_n (pc := 35) (DCa dc_Stan_isVisible_0 21 rfl) rfl 0 rfl ?_
        refine Q_getf (k := 1) (pc := 36) (DCa dc_Stan_isVisible_0 22 rfl) cls_8 (Nat.le_of_ble_eq_true rfl) fl_8_17 rfl rfl rfl (fun v9 => ?_)
        refine V_iload_n (pc := 39) (DCa dc_Stan_isVisible_0 23 rfl) rfl 2 rfl ?_
        refine Q_iaload (pc := 40) (DCa dc_Stan_isVisible_0 24 rfl) (fun v10 => ?_)
        refine V_iload_n (pc := 41) (DCa dc_Stan_isVisible_0 25 rfl) rfl 3 rfl ?_
        refine Q_callv (ci := 5) (st := []) (pc := 42) (DCa dc_Stan_isVisible_0 26 rfl) (sp_Sand_washed F _ _ _ _) ce_Sand_washed ml_8_69 rfl rfl ⟨Nat.le_of_ble_eq_true rfl, Nat.le_of_ble_eq_true rfl⟩ rfl (Nat.le_of_ble_eq_true rfl) (fun r11 h12 => ?_)
        refine V_if_ne (tgt := 52) (pc := 45) (DCa dc_Stan_isVisible_0 27 rfl) (by decide) (fun _ => ?_) (fun _ => ?_)
        · refine V_iconst (pc := 48) (DCa dc_Stan_isVisible_0 28 rfl) (by decide) ?_
          refine V_goto (tgt := 53) (pc := 49) (DCa dc_Stan_isVisible_0 29 rfl) (by decide) ?_
          exact V_zreturn (pc := 53) (DCa dc_Stan_isVisible_0 31 rfl) rfl
        · refine V_iconst (pc := 52) (DCa dc_Stan_isVisible_0 30 rfl) (by decide) ?_
          exact V_zreturn (pc := 53) (DCa dc_Stan_isVisible_0 31 rfl) rfl
    · refine V_iconst (pc := 27) (DCa dc_Stan_isVisible_0 15 rfl) (by decide) ?_
      exact V_zreturn (pc := 28) (DCa dc_Stan_isVisible_0 16 rfl) rfl
theorem sp_Stan_isVisible (F : Nat) (l0 l1 l2 l3 : Int) (h : Hp) : Sp yX8_isVisible cX8_isVisible 4 (some (.boolean)) 3 63 [(2, l0), (2, l1), (0, l2), (0, l3)] h (Stan_isVisible F l0 l1 l2 l3 h) := Sp_of (by decide +kernel) rfl rfl (Nat.le_of_ble_eq_true rfl) (v_Stan_isVisible F l0 l1 l2 l3 h)

-- TideRakes$Stand.visible
def Stan_visible_L5s (F : Nat)  (R5 : Int → Int → Int → Int → Int → Hp → Option (Int × Hp)) (l0 l1 l2 l3 l4 : Int) (h : Hp) : Option (Int × Hp) :=
  gf h l1 107 0 fun v1 =>
  gf h v1 106 4 fun v2 =>
  if l4 < v2 then
    (iv h l0 108 (Stan_isVisible F l0 l1 l4 l2 h) fun r3 h4 =>
    if r3 = 0 then
      (R5 l0 l1 l2 l3 (w32 (l4 + 1)) h4)
    else
      (lt (ior l3 (ishl 1 l4)) fun x5 =>
      R5 l0 l1 l2 x5 (w32 (l4 + 1)) h4))
  else
    (some (l3, h))
def Stan_visible_L5 (F : Nat)  : Nat → Int → Int → Int → Int → Int → Hp → Option (Int × Hp)
  | 0 => fun _ _ _ _ _ _ => none
  | n + 1 => Stan_visible_L5s F  (Stan_visible_L5 F  n)
def Stan_visible (F : Nat) (l0 l1 l2 : Int) (h : Hp) : Option (Int × Hp) :=
  Stan_visible_L5 F F l0 l1 l2 0 0 h

theorem dc_Stan_visible_0 : ∀ q ∈ ([(0, .iconst 0, 1), (1, .istore_n 3, 1), (2, .iconst 0, 1), (3, .istore 4, 2), (5, .iload 4, 2), (7, .aload_n 1, 1), (8, .getfield 93, 3), (11, .getfield 118, 3), (14, .if_icmp .ge 27, 3), (17, .aload_n 0, 1), (18, .aload_n 1, 1), (19, .iload 4, 2), (21, .iload_n 2, 1), (22, .invokevirtual 121, 3), (25, .ifCond .eq 10, 3), (28, .iload_n 3, 1), (29, .iconst 1, 1), (30, .iload 4, 2), (32, .ishl, 1), (33, .ior, 1), (34, .istore_n 3, 1), (35, .iinc 4 1, 3), (38, .goto (-33), 3), (41, .iload_n 3, 1), (42, .ireturn, 1)] : List (Nat × Instr × Nat)), decode cX8_visible q.1 = .ok (q.2.1, q.2.2) := by decide +kernel
abbrev X_Stan_visible : MX := (cX8_visible, RX8, "visible", 5, (some (.int)), 4, 86)
theorem v_Stan_visible_L5s (F : Nat)  (R5 : Int → Int → Int → Int → Int → Hp → Option (Int × Hp)) (hR5 : ∀ (l0 l1 l2 l3 l4 : Int) (h : Hp), V X_Stan_visible 5 [(0, 2, l0), (1, 2, l1), (2, 0, l2), (3, 0, l3), (4, 0, l4)] [] h (R5 l0 l1 l2 l3 l4 h)) (l0 l1 l2 l3 l4 : Int) (h : Hp) : V X_Stan_visible 5 [(0, 2, l0), (1, 2, l1), (2, 0, l2), (3, 0, l3), (4, 0, l4)] [] h (Stan_visible_L5s F  R5 l0 l1 l2 l3 l4 h) := by
  unfold Stan_visible_L5s
  refine V_iload (pc := 5) (DCa dc_Stan_visible_0 4 rfl) 4 rfl ?_
  refine V_aload_n (pc := 7) (DCa dc_Stan_visible_0 5 rfl) rfl 1 rfl ?_
  refine Q_getf (k := 0) (pc := 8) (DCa dc_Stan_visible_0 6 rfl) cls_7 (Nat.le_of_ble_eq_true rfl) fl_8_93 rfl rfl rfl (fun v1 => ?_)
  refine Q_getf (k := 4) (pc := 11) (DCa dc_Stan_visible_0 7 rfl) cls_6 (Nat.le_of_ble_eq_true rfl) fl_8_118 rfl rfl rfl (fun v2 => ?_)
  refine V_icmp_ge (tgt := 41) (pc := 14) (DCa dc_Stan_visible_0 8 rfl) (by decide) (fun _ => ?_) (fun _ => ?_)
  · refine V_aload_n (pc := 17) (DCa dc_Stan_visible_0 9 rfl) rfl 0 rfl ?_
    refine V_aload_n (pc := 18) (DCa dc_Stan_visible_0 10 rfl) rfl 1 rfl ?_
    refine V_iload (pc := 19) (DCa dc_Stan_visible_0 11 rfl) 4 rfl ?_
    refine V_iload_n (pc := 21) (DCa dc_Stan_visible_0 12 rfl) rfl 2 rfl ?_
    refine Q_callv (ci := 8) (st := []) (pc := 22) (DCa dc_Stan_visible_0 13 rfl) (sp_Stan_isVisible F _ _ _ _ _) ce_Stan_isVisible ml_8_121 rfl rfl ⟨Nat.le_of_ble_eq_true rfl, Nat.le_of_ble_eq_true rfl⟩ rfl (Nat.le_of_ble_eq_true rfl) (fun r3 h4 => ?_)
    refine V_if_eq (tgt := 35) (pc := 25) (DCa dc_Stan_visible_0 14 rfl) (by decide) (fun _ => ?_) (fun _ => ?_)
    · refine V_iinc (ls' := [(0, 2, l0), (1, 2, l1), (2, 0, l2), (3, 0, l3), (4, 0, w32 (l4 + 1))]) (pc := 35) (DCa dc_Stan_visible_0 21 rfl) (Nat.le_of_ble_eq_true rfl) (by decide) 4 rfl rfl ?_
      refine V_goto (tgt := 5) (pc := 38) (DCa dc_Stan_visible_0 22 rfl) (by decide) ?_
      exact hR5 _ _ _ _ _ _
    · refine V_iload_n (pc := 28) (DCa dc_Stan_visible_0 15 rfl) rfl 3 rfl ?_
      refine V_iconst (pc := 29) (DCa dc_Stan_visible_0 16 rfl) (by decide) ?_
      refine V_iload (pc := 30) (DCa dc_Stan_visible_0 17 rfl) 4 rfl ?_
      refine V_ishl (pc := 32) (DCa dc_Stan_visible_0 18 rfl) ?_
      refine V_ior (pc := 33) (DCa dc_Stan_visible_0 19 rfl) ?_
      refine Q_lt (fun x5 => ?_)
      refine V_istore_n (ls' := [(0, 2, l0), (1, 2, l1), (2, 0, l2), (3, 0, x5), (4, 0, l4)]) (pc := 34) (DCa dc_Stan_visible_0 20 rfl) rfl (Nat.le_of_ble_eq_true rfl) rfl ?_
      refine V_iinc (ls' := [(0, 2, l0), (1, 2, l1), (2, 0, l2), (3, 0, x5), (4, 0, w32 (l4 + 1))]) (pc := 35) (DCa dc_Stan_visible_0 21 rfl) (Nat.le_of_ble_eq_true rfl) (by decide) 4 rfl rfl ?_
      refine V_goto (tgt := 5) (pc := 38) (DCa dc_Stan_visible_0 22 rfl) (by decide) ?_
      exact hR5 _ _ _ _ _ _
  · refine V_iload_n (pc := 41) (DCa dc_Stan_visible_0 23 rfl) rfl 3 rfl ?_
    exact V_ireturn (pc := 42) (DCa dc_Stan_visible_0 24 rfl) rfl
theorem v_Stan_visible_L5 (F : Nat)  (n : Nat) : ∀ (l0 l1 l2 l3 l4 : Int) (h : Hp), V X_Stan_visible 5 [(0, 2, l0), (1, 2, l1), (2, 0, l2), (3, 0, l3), (4, 0, l4)] [] h (Stan_visible_L5 F  n l0 l1 l2 l3 l4 h) := by
  induction n with
  | zero => intros; exact V_none
  | succ n ih => exact fun l0 l1 l2 l3 l4 h => v_Stan_visible_L5s F  _ ih l0 l1 l2 l3 l4 h
theorem v_Stan_visible (F : Nat) (l0 l1 l2 : Int) (h : Hp) : V X_Stan_visible 0 [(0, 2, l0), (1, 2, l1), (2, 0, l2)] [] h (Stan_visible F l0 l1 l2 h) := by
  unfold Stan_visible
  refine V_iconst (pc := 0) (DCa dc_Stan_visible_0 0 rfl) (by decide) ?_
  refine V_istore_n (ls' := [(0, 2, l0), (1, 2, l1), (2, 0, l2), (3, 0, 0)]) (pc := 1) (DCa dc_Stan_visible_0 1 rfl) rfl (Nat.le_of_ble_eq_true rfl) rfl ?_
  refine V_iconst (pc := 2) (DCa dc_Stan_visible_0 2 rfl) (by decide) ?_
  refine V_istore (ls' := [(0, 2, l0), (1, 2, l1), (2, 0, l2), (3, 0, 0), (4, 0, 0)]) (pc := 3) (DCa dc_Stan_visible_0 3 rfl) (Nat.le_of_ble_eq_true rfl) rfl ?_
  exact v_Stan_visible_L5 F F _ _ _ _ _ _
theorem sp_Stan_visible (F : Nat) (l0 l1 l2 : Int) (h : Hp) : Sp yX8_visible cX8_visible 5 (some (.int)) 4 86 [(2, l0), (2, l1), (0, l2)] h (Stan_visible F l0 l1 l2 h) := Sp_of (by decide +kernel) rfl rfl (Nat.le_of_ble_eq_true rfl) (v_Stan_visible F l0 l1 l2 h)

-- TideRakes$Told.<init>
def Told_init (F : Nat) (l0 : Int) (h : Hp) : Option (Int × Hp) :=
  vc h l0 109 <|
  na h 0 20 fun v1 h2 =>
  pf h2 l0 109 0 v1 fun h3 =>
  na h3 0 20 fun v4 h5 =>
  pf h5 l0 109 1 v4 fun h6 =>
  na h6 2 20 fun v7 h8 =>
  pf h8 l0 109 2 v7 fun h9 =>
  no h9 108 9 fun v10 h11 =>
  iv h11 v10 108 (Stan_init F v10 h11) fun r12 h13 =>
  pf h13 l0 109 3 v10 fun h14 =>
  some (0, h14)

theorem dc_Told_init_0 : ∀ q ∈ ([(0, .aload_n 0, 1), (1, .invokespecial 3, 3), (4, .aload_n 0, 1), (5, .bipush 20, 2), (7, .newarray .int, 2), (9, .putfield 9, 3), (12, .aload_n 0, 1), (13, .bipush 20, 2), (15, .newarray .int, 2), (17, .putfield 15, 3), (20, .aload_n 0, 1), (21, .bipush 20, 2), (23, .newarray .boolean, 2), (25, .putfield 18, 3), (28, .aload_n 0, 1), (29, .new 22, 3), (32, .dup, 1), (33, .invokespecial 24, 3), (36, .putfield 25, 3), (39, .return_, 1)] : List (Nat × Instr × Nat)), decode cX9_init q.1 = .ok (q.2.1, q.2.2) := by decide +kernel
abbrev X_Told_init : MX := (cX9_init, RX9, "<init>", 1, none, 3, 61)
theorem v_Told_init (F : Nat) (l0 : Int) (h : Hp) : V X_Told_init 0 [(0, 2, l0)] [] h (Told_init F l0 h) := by
  unfold Told_init
  refine V_aload_n (pc := 0) (DCa dc_Told_init_0 0 rfl) rfl 0 rfl ?_
  refine Q_objinit (pc := 1) (DCa dc_Told_init_0 1 rfl) (tb3 36 rfl rfl) oi_i oi_c ⟨Nat.le_of_ble_eq_true rfl, Nat.le_of_ble_eq_true rfl⟩ ?_
  refine V_aload_n (pc := 4) (DCa dc_Told_init_0 2 rfl) rfl 0 rfl ?_
  refine V_bipush (pc := 5) (DCa dc_Told_init_0 3 rfl) (by decide) ?_
  refine Q_newa (pc := 7) (DCa dc_Told_init_0 4 rfl) nas_0 (fun v1 h2 => ?_)
  refine Q_putf (k := 0) (pc := 9) (DCa dc_Told_init_0 5 rfl) cls_9 (Nat.le_of_ble_eq_true rfl) fl_9_9 rfl rfl rfl (Or.inr ⟨rfl, rfl, rfl⟩) (Or.inr ⟨Or.inr ⟨_, rfl⟩, rfl⟩) (fun h3 => ?_)
  refine V_aload_n (pc := 12) (DCa dc_Told_init_0 6 rfl) rfl 0 rfl ?_
  refine V_bipush (pc := 13) (DCa dc_Told_init_0 7 rfl) (by decide) ?_
  refine Q_newa (pc := 15) (DCa dc_Told_init_0 8 rfl) nas_0 (fun v4 h5 => ?_)
  refine Q_putf (k := 1) (pc := 17) (DCa dc_Told_init_0 9 rfl) cls_9 (Nat.le_of_ble_eq_true rfl) fl_9_15 rfl rfl rfl (Or.inr ⟨rfl, rfl, rfl⟩) (Or.inr ⟨Or.inr ⟨_, rfl⟩, rfl⟩) (fun h6 => ?_)
  refine V_aload_n (pc := 20) (DCa dc_Told_init_0 10 rfl) rfl 0 rfl ?_
  refine V_bipush (pc := 21) (DCa dc_Told_init_0 11 rfl) (by decide) ?_
  refine Q_newa (pc := 23) (DCa dc_Told_init_0 12 rfl) nas_2 (fun v7 h8 => ?_)
  refine Q_putf (k := 2) (pc := 25) (DCa dc_Told_init_0 13 rfl) cls_9 (Nat.le_of_ble_eq_true rfl) fl_9_18 rfl rfl rfl (Or.inr ⟨rfl, rfl, rfl⟩) (Or.inr ⟨Or.inr ⟨_, rfl⟩, rfl⟩) (fun h9 => ?_)
  refine V_aload_n (pc := 28) (DCa dc_Told_init_0 14 rfl) rfl 0 rfl ?_
  refine Q_new (pc := 29) (DCa dc_Told_init_0 15 rfl) cls_8 (tb3 37 rfl rfl) rfl rfl (fun v10 h11 => ?_)
  refine V_dup (pc := 32) (DCa dc_Told_init_0 16 rfl) rfl ?_
  refine Q_calli (ci := 8) (st := [(2, v10), (2, l0)]) (pc := 33) (DCa dc_Told_init_0 17 rfl) (sp_Stan_init F _ _) ce_Stan_init ml_9_24 rfl rfl ⟨Nat.le_of_ble_eq_true rfl, Nat.le_of_ble_eq_true rfl⟩ rfl (Nat.le_of_ble_eq_true rfl) (fun r12 h13 => ?_)
  refine Q_putf (k := 3) (pc := 36) (DCa dc_Told_init_0 18 rfl) cls_9 (Nat.le_of_ble_eq_true rfl) fl_9_25 rfl rfl rfl (Or.inr ⟨rfl, rfl, rfl⟩) (Or.inr ⟨Or.inl ⟨_, rfl⟩, rfl⟩) (fun h14 => ?_)
  exact V_return (pc := 39) (DCa dc_Told_init_0 19 rfl) rfl
theorem sp_Told_init (F : Nat) (l0 : Int) (h : Hp) : Sp yX9_init cX9_init 1 none 3 61 [(2, l0)] h (Told_init F l0 h) := Sp_of (by decide +kernel) rfl rfl (Nat.le_of_ble_eq_true rfl) (v_Told_init F l0 h)

-- TideRakes$Told.add
def Told_add (F : Nat) (l0 l1 l2 l3 : Int) (h : Hp) : Option (Int × Hp) :=
  gf h l0 109 4 fun v1 =>
  if v1 < 20 then
    (gf h l0 109 0 fun v2 =>
    gf h l0 109 4 fun v3 =>
    as h v2 0 v3 l1 fun h4 =>
    gf h4 l0 109 1 fun v5 =>
    gf h4 l0 109 4 fun v6 =>
    as h4 v5 0 v6 l2 fun h7 =>
    gf h7 l0 109 2 fun v8 =>
    gf h7 l0 109 4 fun v9 =>
    az h7 v8 v9 l3 fun h10 =>
    gf h10 l0 109 4 fun v11 =>
    pf h10 l0 109 4 (w32 (v11 + 1)) fun h12 =>
    gf h12 l0 109 4 fun v13 =>
    some (w32 (v13 - 1), h12))
  else
    (some ((-1), h))

theorem dc_Told_add_0 : ∀ q ∈ ([(0, .aload_n 0, 1), (1, .getfield 29, 3), (4, .bipush 20, 2), (6, .if_icmp .lt 5, 3), (9, .iconst (-1), 1), (10, .ireturn, 1), (11, .aload_n 0, 1), (12, .getfield 9, 3), (15, .aload_n 0, 1), (16, .getfield 29, 3), (19, .iload_n 1, 1), (20, .iastore, 1), (21, .aload_n 0, 1), (22, .getfield 15, 3), (25, .aload_n 0, 1), (26, .getfield 29, 3), (29, .iload_n 2, 1), (30, .iastore, 1), (31, .aload_n 0, 1), (32, .getfield 18, 3), (35, .aload_n 0, 1), (36, .getfield 29, 3), (39, .iload_n 3, 1), (40, .bastore, 1), (41, .aload_n 0, 1), (42, .dup, 1), (43, .getfield 29, 3), (46, .iconst 1, 1), (47, .iadd, 1), (48, .putfield 29, 3), (51, .aload_n 0, 1), (52, .getfield 29, 3), (55, .iconst 1, 1), (56, .isub, 1), (57, .ireturn, 1)] : List (Nat × Instr × Nat)), decode cX9_add q.1 = .ok (q.2.1, q.2.2) := by decide +kernel
abbrev X_Told_add : MX := (cX9_add, RX9, "add", 4, (some (.int)), 1, 20)
theorem v_Told_add (F : Nat) (l0 l1 l2 l3 : Int) (h : Hp) : V X_Told_add 0 [(0, 2, l0), (1, 0, l1), (2, 0, l2), (3, 0, l3)] [] h (Told_add F l0 l1 l2 l3 h) := by
  unfold Told_add
  refine V_aload_n (pc := 0) (DCa dc_Told_add_0 0 rfl) rfl 0 rfl ?_
  refine Q_getf (k := 4) (pc := 1) (DCa dc_Told_add_0 1 rfl) cls_9 (Nat.le_of_ble_eq_true rfl) fl_9_29 rfl rfl rfl (fun v1 => ?_)
  refine V_bipush (pc := 4) (DCa dc_Told_add_0 2 rfl) (by decide) ?_
  refine V_icmp_lt (tgt := 11) (pc := 6) (DCa dc_Told_add_0 3 rfl) (by decide) (fun _ => ?_) (fun _ => ?_)
  · refine V_aload_n (pc := 11) (DCa dc_Told_add_0 6 rfl) rfl 0 rfl ?_
    refine Q_getf (k := 0) (pc := 12) (DCa dc_Told_add_0 7 rfl) cls_9 (Nat.le_of_ble_eq_true rfl) fl_9_9 rfl rfl rfl (fun v2 => ?_)
    refine V_aload_n (pc := 15) (DCa dc_Told_add_0 8 rfl) rfl 0 rfl ?_
    refine Q_getf (k := 4) (pc := 16) (DCa dc_Told_add_0 9 rfl) cls_9 (Nat.le_of_ble_eq_true rfl) fl_9_29 rfl rfl rfl (fun v3 => ?_)
    refine V_iload_n (pc := 19) (DCa dc_Told_add_0 10 rfl) rfl 1 rfl ?_
    refine Q_iastore (pc := 20) (DCa dc_Told_add_0 11 rfl) (fun h4 => ?_)
    refine V_aload_n (pc := 21) (DCa dc_Told_add_0 12 rfl) rfl 0 rfl ?_
    refine Q_getf (k := 1) (pc := 22) (DCa dc_Told_add_0 13 rfl) cls_9 (Nat.le_of_ble_eq_true rfl) fl_9_15 rfl rfl rfl (fun v5 => ?_)
    refine V_aload_n (pc := 25) (DCa dc_Told_add_0 14 rfl) rfl 0 rfl ?_
    refine Q_getf (k := 4) (pc := 26) (DCa dc_Told_add_0 15 rfl) cls_9 (Nat.le_of_ble_eq_true rfl) fl_9_29 rfl rfl rfl (fun v6 => ?_)
    refine V_iload_n (pc := 29) (DCa dc_Told_add_0 16 rfl) rfl 2 rfl ?_
    refine Q_iastore (pc := 30) (DCa dc_Told_add_0 17 rfl) (fun h7 => ?_)
    refine V_aload_n (pc := 31) (DCa dc_Told_add_0 18 rfl) rfl 0 rfl ?_
    refine Q_getf (k := 2) (pc := 32) (DCa dc_Told_add_0 19 rfl) cls_9 (Nat.le_of_ble_eq_true rfl) fl_9_18 rfl rfl rfl (fun v8 => ?_)
    refine V_aload_n (pc := 35) (DCa dc_Told_add_0 20 rfl) rfl 0 rfl ?_
    refine Q_getf (k := 4) (pc := 36) (DCa dc_Told_add_0 21 rfl) cls_9 (Nat.le_of_ble_eq_true rfl) fl_9_29 rfl rfl rfl (fun v9 => ?_)
    refine V_iload_n (pc := 39) (DCa dc_Told_add_0 22 rfl) rfl 3 rfl ?_
    refine Q_zastore (pc := 40) (DCa dc_Told_add_0 23 rfl) (fun h10 => ?_)
    refine V_aload_n (pc := 41) (DCa dc_Told_add_0 24 rfl) rfl 0 rfl ?_
    refine V_dup (pc := 42) (DCa dc_Told_add_0 25 rfl) rfl ?_
    refine Q_getf (k := 4) (pc := 43) (DCa dc_Told_add_0 26 rfl) cls_9 (Nat.le_of_ble_eq_true rfl) fl_9_29 rfl rfl rfl (fun v11 => ?_)
    refine V_iconst (pc := 46) (DCa dc_Told_add_0 27 rfl) (by decide) ?_
    refine V_iadd (pc := 47) (DCa dc_Told_add_0 28 rfl) ?_
    refine Q_putf (k := 4) (pc := 48) (DCa dc_Told_add_0 29 rfl) cls_9 (Nat.le_of_ble_eq_true rfl) fl_9_29 rfl rfl rfl (Or.inl rfl) (Or.inl ⟨rfl, rfl⟩) (fun h12 => ?_)
    refine V_aload_n (pc := 51) (DCa dc_Told_add_0 30 rfl) rfl 0 rfl ?_
    refine Q_getf (k := 4) (pc := 52) (DCa dc_Told_add_0 31 rfl) cls_9 (Nat.le_of_ble_eq_true rfl) fl_9_29 rfl rfl rfl (fun v13 => ?_)
    refine V_iconst (pc := 55) (DCa dc_Told_add_0 32 rfl) (by decide) ?_
    refine V_isub (pc := 56) (DCa dc_Told_add_0 33 rfl) ?_
    exact V_ireturn (pc := 57) (DCa dc_Told_add_0 34 rfl) rfl
  · refine V_iconst (pc := 9) (DCa dc_Told_add_0 4 rfl) (by decide) ?_
    exact V_ireturn (pc := 10) (DCa dc_Told_add_0 5 rfl) rfl
theorem sp_Told_add (F : Nat) (l0 l1 l2 l3 : Int) (h : Hp) : Sp yX9_add cX9_add 4 (some (.int)) 1 20 [(2, l0), (0, l1), (0, l2), (0, l3)] h (Told_add F l0 l1 l2 l3 h) := Sp_of (by decide +kernel) rfl rfl (Nat.le_of_ble_eq_true rfl) (v_Told_add F l0 l1 l2 l3 h)

-- TideRakes$Told.agrees
def Told_agrees_L12s (F : Nat)  (R12 : Int → Int → Int → Int → Hp → Option (Int × Hp)) (l0 l1 l3 l4 : Int) (h : Hp) : Option (Int × Hp) :=
  if l4 < l3 then
    (gf h l0 109 3 fun v3 =>
    gf h l0 109 0 fun v4 =>
    al h v4 0 l4 fun v5 =>
    gf h l0 109 1 fun v6 =>
    al h v6 0 l4 fun v7 =>
    iv h v3 108 (Stan_isVisible F v3 l1 v5 v7 h) fun r8 h9 =>
    gf h9 l0 109 2 fun v10 =>
    al h9 v10 2 l4 fun v11 =>
    if r8 = v11 then
      (R12 l0 l1 l3 (w32 (l4 + 1)) h9)
    else
      (rz 0 h9))
  else
    (rz 1 h)
def Told_agrees_L12 (F : Nat)  : Nat → Int → Int → Int → Int → Hp → Option (Int × Hp)
  | 0 => fun _ _ _ _ _ => none
  | n + 1 => Told_agrees_L12s F  (Told_agrees_L12 F  n)
def Told_agrees (F : Nat) (l0 l1 l2 : Int) (h : Hp) : Option (Int × Hp) :=
  gf h l0 109 4 fun v1 =>
  lt (imin l2 v1) fun r2 =>
  Told_agrees_L12 F F l0 l1 r2 0 h

theorem dc_Told_agrees_0 : ∀ q ∈ ([(0, .iload_n 2, 1), (1, .aload_n 0, 1), (2, .getfield 29, 3), (5, .invokestatic 68, 3), (8, .istore_n 3, 1), (9, .iconst 0, 1), (10, .istore 4, 2), (12, .iload 4, 2), (14, .iload_n 3, 1), (15, .if_icmp .ge 43, 3), (18, .aload_n 0, 1), (19, .getfield 25, 3), (22, .aload_n 1, 1), (23, .aload_n 0, 1), (24, .getfield 9, 3), (27, .iload 4, 2), (29, .iaload, 1), (30, .aload_n 0, 1), (31, .getfield 15, 3), (34, .iload 4, 2), (36, .iaload, 1), (37, .invokevirtual 94, 3), (40, .aload_n 0, 1), (41, .getfield 18, 3), (44, .iload 4, 2), (46, .baload, 1), (47, .if_icmp .eq 5, 3), (50, .iconst 0, 1), (51, .ireturn, 1), (52, .iinc 4 1, 3), (55, .goto (-43), 3), (58, .iconst 1, 1), (59, .ireturn, 1)] : List (Nat × Instr × Nat)), decode cX9_agrees q.1 = .ok (q.2.1, q.2.2) := by decide +kernel
abbrev X_Told_agrees : MX := (cX9_agrees, RX9, "agrees", 5, (some (.boolean)), 4, 86)
theorem v_Told_agrees_L12s (F : Nat)  (R12 : Int → Int → Int → Int → Hp → Option (Int × Hp)) (hR12 : ∀ (l0 l1 l3 l4 : Int) (h : Hp), V X_Told_agrees 12 [(0, 2, l0), (1, 2, l1), (3, 0, l3), (4, 0, l4)] [] h (R12 l0 l1 l3 l4 h)) (l0 l1 l3 l4 : Int) (h : Hp) : V X_Told_agrees 12 [(0, 2, l0), (1, 2, l1), (3, 0, l3), (4, 0, l4)] [] h (Told_agrees_L12s F  R12 l0 l1 l3 l4 h) := by
  unfold Told_agrees_L12s
  refine V_iload (pc := 12) (DCa dc_Told_agrees_0 7 rfl) 3 rfl ?_
  refine V_iload_n (pc := 14) (DCa dc_Told_agrees_0 8 rfl) rfl 2 rfl ?_
  refine V_icmp_ge (tgt := 58) (pc := 15) (DCa dc_Told_agrees_0 9 rfl) (by decide) (fun _ => ?_) (fun _ => ?_)
  · refine V_aload_n (pc := 18) (DCa dc_Told_agrees_0 10 rfl) rfl 0 rfl ?_
    refine Q_getf (k := 3) (pc := 19) (DCa dc_Told_agrees_0 11 rfl) cls_9 (Nat.le_of_ble_eq_true rfl) fl_9_25 rfl rfl rfl (fun v3 => ?_)
    refine V_aload_n (pc := 22) (DCa dc_Told_agrees_0 12 rfl) rfl 1 rfl ?_
    refine V_aload_n (pc := 23) (DCa dc_Told_agrees_0 13 rfl) rfl 0 rfl ?_
    refine Q_getf (k := 0) (pc := 24) (DCa dc_Told_agrees_0 14 rfl) cls_9 (Nat.le_of_ble_eq_true rfl) fl_9_9 rfl rfl rfl (fun v4 => ?_)
    refine V_iload (pc := 27) (DCa dc_Told_agrees_0 15 rfl) 3 rfl ?_
    refine Q_iaload (pc := 29) (DCa dc_Told_agrees_0 16 rfl) (fun v5 => ?_)
    refine V_aload_n (pc := 30) (DCa dc_Told_agrees_0 17 rfl) rfl 0 rfl ?_
    refine Q_getf (k := 1) (pc := 31) (DCa dc_Told_agrees_0 18 rfl) cls_9 (Nat.le_of_ble_eq_true rfl) fl_9_15 rfl rfl rfl (fun v6 => ?_)
    refine V_iload (pc := 34) (DCa dc_Told_agrees_0 19 rfl) 3 rfl ?_
    refine Q_iaload (pc := 36) (DCa dc_Told_agrees_0 20 rfl) (fun v7 => ?_)
    refine Q_callv (ci := 8) (st := []) (pc := 37) (DCa dc_Told_agrees_0 21 rfl) (sp_Stan_isVisible F _ _ _ _ _) ce_Stan_isVisible ml_9_94 rfl rfl ⟨Nat.le_of_ble_eq_true rfl, Nat.le_of_ble_eq_true rfl⟩ rfl (Nat.le_of_ble_eq_true rfl) (fun r8 h9 => ?_)
    refine V_aload_n (pc := 40) (DCa dc_Told_agrees_0 22 rfl) rfl 0 rfl ?_
    refine Q_getf (k := 2) (pc := 41) (DCa dc_Told_agrees_0 23 rfl) cls_9 (Nat.le_of_ble_eq_true rfl) fl_9_18 rfl rfl rfl (fun v10 => ?_)
    refine V_iload (pc := 44) (DCa dc_Told_agrees_0 24 rfl) 3 rfl ?_
    refine Q_zaload (pc := 46) (DCa dc_Told_agrees_0 25 rfl) (fun v11 => ?_)
    refine V_icmp_eq (tgt := 52) (pc := 47) (DCa dc_Told_agrees_0 26 rfl) (by decide) (fun _ => ?_) (fun _ => ?_)
    · refine V_iinc (ls' := [(0, 2, l0), (1, 2, l1), (3, 0, l3), (4, 0, w32 (l4 + 1))]) (pc := 52) (DCa dc_Told_agrees_0 29 rfl) (Nat.le_of_ble_eq_true rfl) (by decide) 3 rfl rfl ?_
      refine V_goto (tgt := 12) (pc := 55) (DCa dc_Told_agrees_0 30 rfl) (by decide) ?_
      exact hR12 _ _ _ _ _
    · refine V_iconst (pc := 50) (DCa dc_Told_agrees_0 27 rfl) (by decide) ?_
      exact V_zreturn (pc := 51) (DCa dc_Told_agrees_0 28 rfl) rfl
  · refine V_iconst (pc := 58) (DCa dc_Told_agrees_0 31 rfl) (by decide) ?_
    exact V_zreturn (pc := 59) (DCa dc_Told_agrees_0 32 rfl) rfl
theorem v_Told_agrees_L12 (F : Nat)  (n : Nat) : ∀ (l0 l1 l3 l4 : Int) (h : Hp), V X_Told_agrees 12 [(0, 2, l0), (1, 2, l1), (3, 0, l3), (4, 0, l4)] [] h (Told_agrees_L12 F  n l0 l1 l3 l4 h) := by
  induction n with
  | zero => intros; exact V_none
  | succ n ih => exact fun l0 l1 l3 l4 h => v_Told_agrees_L12s F  _ ih l0 l1 l3 l4 h
theorem v_Told_agrees (F : Nat) (l0 l1 l2 : Int) (h : Hp) : V X_Told_agrees 0 [(0, 2, l0), (1, 2, l1), (2, 0, l2)] [] h (Told_agrees F l0 l1 l2 h) := by
  unfold Told_agrees
  refine V_iload_n (pc := 0) (DCa dc_Told_agrees_0 0 rfl) rfl 2 rfl ?_
  refine V_aload_n (pc := 1) (DCa dc_Told_agrees_0 1 rfl) rfl 0 rfl ?_
  refine Q_getf (k := 4) (pc := 2) (DCa dc_Told_agrees_0 2 rfl) cls_9 (Nat.le_of_ble_eq_true rfl) fl_9_29 rfl rfl rfl (fun v1 => ?_)
  refine V_mmin (pc := 5) (DCa dc_Told_agrees_0 3 rfl) (tb6 41 rfl rfl) mt_smin mt_i mt_cmin ⟨Nat.le_of_ble_eq_true rfl, Nat.le_of_ble_eq_true rfl⟩ ?_
  refine Q_lt (fun r2 => ?_)
  refine V_istore_n (ls' := [(0, 2, l0), (1, 2, l1), (2, 0, l2), (3, 0, r2)]) (pc := 8) (DCa dc_Told_agrees_0 4 rfl) rfl (Nat.le_of_ble_eq_true rfl) rfl ?_
  refine V_iconst (pc := 9) (DCa dc_Told_agrees_0 5 rfl) (by decide) ?_
  refine V_istore (ls' := [(0, 2, l0), (1, 2, l1), (2, 0, l2), (3, 0, r2), (4, 0, 0)]) (pc := 10) (DCa dc_Told_agrees_0 6 rfl) (Nat.le_of_ble_eq_true rfl) rfl ?_
  refine V_pick [0, 1, 3, 4] rfl ?_
  exact v_Told_agrees_L12 F F _ _ _ _ _
theorem sp_Told_agrees (F : Nat) (l0 l1 l2 : Int) (h : Hp) : Sp yX9_agrees cX9_agrees 5 (some (.boolean)) 4 86 [(2, l0), (2, l1), (0, l2)] h (Told_agrees F l0 l1 l2 h) := Sp_of (by decide +kernel) rfl rfl (Nat.le_of_ble_eq_true rfl) (v_Told_agrees F l0 l1 l2 h)

-- TideRakes$Told.replay
def Told_replay_L39s (F : Nat)  (R39 : Int → Int → Int → Int → Int → Hp → Option (Int × Hp)) (l0 l1 l2 l5 l6 : Int) (h : Hp) : Option (Int × Hp) :=
  if l6 < l5 then
    (gf h l2 108 6 fun v11 =>
    al h v11 0 l6 fun v12 =>
    gf h l2 108 7 fun v13 =>
    al h v13 0 l6 fun v14 =>
    gf h l2 108 5 fun v15 =>
    al h v15 0 l6 fun v16 =>
    if v16 = 0 then
      (gf h l0 109 3 fun v17 =>
      iv h v17 108 (Stan_rake F v17 l1 v12 v14 h) fun r18 h19 =>
      R39 l0 l1 l2 l5 (w32 (l6 + 1)) h19)
    else
      (gf h l2 108 5 fun v20 =>
      al h v20 0 l6 fun v21 =>
      if v21 = 1 then
        (gf h l0 109 3 fun v22 =>
        iv h v22 108 (Stan_strike F v22 v14 h) fun r23 h24 =>
        R39 l0 l1 l2 l5 (w32 (l6 + 1)) h24)
      else
        (gf h l0 109 3 fun v25 =>
        iv h v25 108 (Stan_repair F v25 l1 v12 v14 h) fun r26 h27 =>
        R39 l0 l1 l2 l5 (w32 (l6 + 1)) h27)))
  else
    (some (0, h))
def Told_replay_L39 (F : Nat)  : Nat → Int → Int → Int → Int → Int → Hp → Option (Int × Hp)
  | 0 => fun _ _ _ _ _ _ => none
  | n + 1 => Told_replay_L39s F  (Told_replay_L39 F  n)
def Told_replay (F : Nat) (l0 l1 l2 l3 l4 : Int) (h : Hp) : Option (Int × Hp) :=
  gf h l0 109 3 fun v1 =>
  gf h l1 107 0 fun v2 =>
  iv h v1 108 (Stan_begin F v1 v2 h) fun r3 h4 =>
  gf h4 l0 109 3 fun v5 =>
  gf h4 v5 108 0 fun v6 =>
  al h4 v6 7 l3 fun v7 =>
  pf h4 v7 110 3 l4 fun h8 =>
  gf h8 l2 108 8 fun v9 =>
  lt (imin v9 30) fun r10 =>
  Told_replay_L39 F F l0 l1 l2 r10 0 h8

theorem dc_Told_replay_0 : ∀ q ∈ ([(0, .aload_n 0, 1), (1, .getfield 25, 3), (4, .aload_n 1, 1), (5, .getfield 33, 3), (8, .invokevirtual 52, 3), (11, .aload_n 0, 1), (12, .getfield 25, 3), (15, .getfield 56, 3), (18, .iload_n 3, 1), (19, .aaload, 1), (20, .iload 4, 2), (22, .putfield 60, 3), (25, .aload_n 2, 1), (26, .getfield 65, 3), (29, .bipush 30, 2), (31, .invokestatic 68, 3), (34, .istore 5, 2), (36, .iconst 0, 1), (37, .istore 6, 2), (39, .iload 6, 2), (41, .iload 5, 2), (43, .if_icmp .ge 90, 3), (46, .aload_n 2, 1), (47, .getfield 74, 3), (50, .iload 6, 2), (52, .iaload, 1), (53, .istore 7, 2), (55, .aload_n 2, 1), (56, .getfield 77, 3), (59, .iload 6, 2), (61, .iaload, 1), (62, .istore 8, 2), (64, .aload_n 2, 1), (65, .getfield 80, 3), (68, .iload 6, 2), (70, .iaload, 1), (71, .ifCond .ne 19, 3), (74, .aload_n 0, 1), (75, .getfield 25, 3), (78, .aload_n 1, 1), (79, .iload 7, 2), (81, .iload 8, 2), (83, .invokevirtual 83, 3), (86, .pop, 1), (87, .goto 40, 3), (90, .aload_n 2, 1), (91, .getfield 80, 3), (94, .iload 6, 2), (96, .iaload, 1), (97, .iconst 1, 1)] : List (Nat × Instr × Nat)), decode cX9_replay q.1 = .ok (q.2.1, q.2.2) := by decide +kernel
theorem dc_Told_replay_1 : ∀ q ∈ ([(98, .if_icmp .ne 16, 3), (101, .aload_n 0, 1), (102, .getfield 25, 3), (105, .iload 8, 2), (107, .invokevirtual 87, 3), (110, .pop, 1), (111, .goto 16, 3), (114, .aload_n 0, 1), (115, .getfield 25, 3), (118, .aload_n 1, 1), (119, .iload 7, 2), (121, .iload 8, 2), (123, .invokevirtual 91, 3), (126, .pop, 1), (127, .iinc 6 1, 3), (130, .goto (-91), 3), (133, .return_, 1)] : List (Nat × Instr × Nat)), decode cX9_replay q.1 = .ok (q.2.1, q.2.2) := by decide +kernel
abbrev X_Told_replay : MX := (cX9_replay, RX9, "replay", 9, none, 5, 114)
theorem v_Told_replay_L39s (F : Nat)  (R39 : Int → Int → Int → Int → Int → Hp → Option (Int × Hp)) (hR39 : ∀ (l0 l1 l2 l5 l6 : Int) (h : Hp), V X_Told_replay 39 [(0, 2, l0), (1, 2, l1), (2, 2, l2), (5, 0, l5), (6, 0, l6)] [] h (R39 l0 l1 l2 l5 l6 h)) (l0 l1 l2 l5 l6 : Int) (h : Hp) : V X_Told_replay 39 [(0, 2, l0), (1, 2, l1), (2, 2, l2), (5, 0, l5), (6, 0, l6)] [] h (Told_replay_L39s F  R39 l0 l1 l2 l5 l6 h) := by
  unfold Told_replay_L39s
  refine V_iload (pc := 39) (DCa dc_Told_replay_0 19 rfl) 4 rfl ?_
  refine V_iload (pc := 41) (DCa dc_Told_replay_0 20 rfl) 3 rfl ?_
  refine V_icmp_ge (tgt := 133) (pc := 43) (DCa dc_Told_replay_0 21 rfl) (by decide) (fun _ => ?_) (fun _ => ?_)
  · refine V_aload_n (pc := 46) (DCa dc_Told_replay_0 22 rfl) rfl 2 rfl ?_
    refine Q_getf (k := 6) (pc := 47) (DCa dc_Told_replay_0 23 rfl) cls_8 (Nat.le_of_ble_eq_true rfl) fl_9_74 rfl rfl rfl (fun v11 => ?_)
    refine V_iload (pc := 50) (DCa dc_Told_replay_0 24 rfl) 4 rfl ?_
    refine Q_iaload (pc := 52) (DCa dc_Told_replay_0 25 rfl) (fun v12 => ?_)
    refine V_istore (ls' := [(0, 2, l0), (1, 2, l1), (2, 2, l2), (5, 0, l5), (6, 0, l6), (7, 0, v12)]) (pc := 53) (DCa dc_Told_replay_0 26 rfl) (Nat.le_of_ble_eq_true rfl) rfl ?_
    refine V_aload_n (pc := 55) (DCa dc_Told_replay_0 27 rfl) rfl 2 rfl ?_
    refine Q_getf (k := 7) (pc := 56) (DCa dc_Told_replay_0 28 rfl) cls_8 (Nat.le_of_ble_eq_true rfl) fl_9_77 rfl rfl rfl (fun v13 => ?_)
    refine V_iload (pc := 59) (DCa dc_Told_replay_0 29 rfl) 4 rfl ?_
    refine Q_iaload (pc := 61) (DCa dc_Told_replay_0 30 rfl) (fun v14 => ?_)
    refine V_istore (ls' := [(0, 2, l0), (1, 2, l1), (2, 2, l2), (5, 0, l5), (6, 0, l6), (7, 0, v12), (8, 0, v14)]) (pc := 62) (DCa dc_Told_replay_0 31 rfl) (Nat.le_of_ble_eq_true rfl) rfl ?_
    refine V_aload_n (pc := 64) (DCa dc_Told_replay_0 32 rfl) rfl 2 rfl ?_
    refine Q_getf (k := 5) (pc := 65) (DCa dc_Told_replay_0 33 rfl) cls_8 (Nat.le_of_ble_eq_true rfl) fl_9_80 rfl rfl rfl (fun v15 => ?_)
    refine V_iload (pc := 68) (DCa dc_Told_replay_0 34 rfl) 4 rfl ?_
    refine Q_iaload (pc := 70) (DCa dc_Told_replay_0 35 rfl) (fun v16 => ?_)
    refine V_if_ne (tgt := 90) (pc := 71) (DCa dc_Told_replay_0 36 rfl) (by decide) (fun _ => ?_) (fun _ => ?_)
    · refine V_aload_n (pc := 74) (DCa dc_Told_replay_0 37 rfl) rfl 0 rfl ?_
      refine Q_getf (k := 3) (pc := 75) (DCa dc_Told_replay_0 38 rfl) cls_9 (Nat.le_of_ble_eq_true rfl) fl_9_25 rfl rfl rfl (fun v17 => ?_)
      refine V_aload_n (pc := 78) (DCa dc_Told_replay_0 39 rfl) rfl 1 rfl ?_
      refine V_iload (pc := 79) (DCa dc_Told_replay_0 40 rfl) 5 rfl ?_
      refine V_iload (pc := 81) (DCa dc_Told_replay_0 41 rfl) 6 rfl ?_
      refine Q_callv (ci := 8) (st := []) (pc := 83) (DCa dc_Told_replay_0 42 rfl) (sp_Stan_rake F _ _ _ _ _) ce_Stan_rake ml_9_83 rfl rfl ⟨Nat.le_of_ble_eq_true rfl, Nat.le_of_ble_eq_true rfl⟩ rfl (Nat.le_of_ble_eq_true rfl) (fun r18 h19 => ?_)
      refine V_pop (pc := 86) (DCa dc_Told_replay_0 43 rfl) rfl ?_
      refine V_goto (tgt := 127) (pc := 87) (DCa dc_Told_replay_0 44 rfl) (by decide) ?_
      refine V_iinc (ls' := [(0, 2, l0), (1, 2, l1), (2, 2, l2), (5, 0, l5), (6, 0, w32 (l6 + 1)), (7, 0, v12), (8, 0, v14)]) (pc := 127) (DCa dc_Told_replay_1 14 rfl) (Nat.le_of_ble_eq_true rfl) (by decide) 4 rfl rfl ?_
      refine V_goto (tgt := 39) (pc := 130) (DCa dc_Told_replay_1 15 rfl) (by decide) ?_
      refine V_pick [0, 1, 2, 3, 4] rfl ?_
      exact hR39 _ _ _ _ _ _
    · refine V_aload_n (pc := 90) (DCa dc_Told_replay_0 45 rfl) rfl 2 rfl ?_
      refine Q_getf (k := 5) (pc := 91) (DCa dc_Told_replay_0 46 rfl) cls_8 (Nat.le_of_ble_eq_true rfl) fl_9_80 rfl rfl rfl (fun v20 => ?_)
      refine V_iload (pc := 94) (DCa dc_Told_replay_0 47 rfl) 4 rfl ?_
      refine Q_iaload (pc := 96) (DCa dc_Told_replay_0 48 rfl) (fun v21 => ?_)
      refine V_iconst (pc := 97) (DCa dc_Told_replay_0 49 rfl) (by decide) ?_
      refine V_icmp_ne (tgt := 114) (pc := 98) (DCa dc_Told_replay_1 0 rfl) (by decide) (fun _ => ?_) (fun _ => ?_)
      · refine V_aload_n (pc := 101) (DCa dc_Told_replay_1 1 rfl) rfl 0 rfl ?_
        refine Q_getf (k := 3) (pc := 102) (DCa dc_Told_replay_1 2 rfl) cls_9 (Nat.le_of_ble_eq_true rfl) fl_9_25 rfl rfl rfl (fun v22 => ?_)
        refine V_iload (pc := 105) (DCa dc_Told_replay_1 3 rfl) 6 rfl ?_
        refine Q_callv (ci := 8) (st := []) (pc := 107) (DCa dc_Told_replay_1 4 rfl) (sp_Stan_strike F _ _ _) ce_Stan_strike ml_9_87 rfl rfl ⟨Nat.le_of_ble_eq_true rfl, Nat.le_of_ble_eq_true rfl⟩ rfl (Nat.le_of_ble_eq_true rfl) (fun r23 h24 => ?_)
        refine V_pop (pc := 110) (DCa dc_Told_replay_1 5 rfl) rfl ?_
        refine V_goto (tgt := 127) (pc := 111) (DCa dc_Told_replay_1 6 rfl) (by decide) ?_
        refine V_iinc (ls' := [(0, 2, l0), (1, 2, l1), (2, 2, l2), (5, 0, l5), (6, 0, w32 (l6 + 1)), (7, 0, v12), (8, 0, v14)]) (pc := 127) (DCa dc_Told_replay_1 14 rfl) (Nat.le_of_ble_eq_true rfl) (by decide) 4 rfl rfl ?_
        refine V_goto (tgt := 39) (pc := 130) (DCa dc_Told_replay_1 15 rfl) (by decide) ?_
        refine V_pick [0, 1, 2, 3, 4] rfl ?_
        exact hR39 _ _ _ _ _ _
      · refine V_aload_n (pc := 114) (DCa dc_Told_replay_1 7 rfl) rfl 0 rfl ?_
        refine Q_getf (k := 3) (pc := 115) (DCa dc_Told_replay_1 8 rfl) cls_9 (Nat.le_of_ble_eq_true rfl) fl_9_25 rfl rfl rfl (fun v25 => ?_)
        refine V_aload_n (pc := 118) (DCa dc_Told_replay_1 9 rfl) rfl 1 rfl ?_
        refine V_iload (pc := 119) (DCa dc_Told_replay_1 10 rfl) 5 rfl ?_
        refine V_iload (pc := 121) (DCa dc_Told_replay_1 11 rfl) 6 rfl ?_
        refine Q_callv (ci := 8) (st := []) (pc := 123) (DCa dc_Told_replay_1 12 rfl) (sp_Stan_repair F _ _ _ _ _) ce_Stan_repair ml_9_91 rfl rfl ⟨Nat.le_of_ble_eq_true rfl, Nat.le_of_ble_eq_true rfl⟩ rfl (Nat.le_of_ble_eq_true rfl) (fun r26 h27 => ?_)
        refine V_pop (pc := 126) (DCa dc_Told_replay_1 13 rfl) rfl ?_
        refine V_iinc (ls' := [(0, 2, l0), (1, 2, l1), (2, 2, l2), (5, 0, l5), (6, 0, w32 (l6 + 1)), (7, 0, v12), (8, 0, v14)]) (pc := 127) (DCa dc_Told_replay_1 14 rfl) (Nat.le_of_ble_eq_true rfl) (by decide) 4 rfl rfl ?_
        refine V_goto (tgt := 39) (pc := 130) (DCa dc_Told_replay_1 15 rfl) (by decide) ?_
        refine V_pick [0, 1, 2, 3, 4] rfl ?_
        exact hR39 _ _ _ _ _ _
  · exact V_return (pc := 133) (DCa dc_Told_replay_1 16 rfl) rfl
theorem v_Told_replay_L39 (F : Nat)  (n : Nat) : ∀ (l0 l1 l2 l5 l6 : Int) (h : Hp), V X_Told_replay 39 [(0, 2, l0), (1, 2, l1), (2, 2, l2), (5, 0, l5), (6, 0, l6)] [] h (Told_replay_L39 F  n l0 l1 l2 l5 l6 h) := by
  induction n with
  | zero => intros; exact V_none
  | succ n ih => exact fun l0 l1 l2 l5 l6 h => v_Told_replay_L39s F  _ ih l0 l1 l2 l5 l6 h
theorem v_Told_replay (F : Nat) (l0 l1 l2 l3 l4 : Int) (h : Hp) : V X_Told_replay 0 [(0, 2, l0), (1, 2, l1), (2, 2, l2), (3, 0, l3), (4, 0, l4)] [] h (Told_replay F l0 l1 l2 l3 l4 h) := by
  unfold Told_replay
  refine V_aload_n (pc := 0) (DCa dc_Told_replay_0 0 rfl) rfl 0 rfl ?_
  refine Q_getf (k := 3) (pc := 1) (DCa dc_Told_replay_0 1 rfl) cls_9 (Nat.le_of_ble_eq_true rfl) fl_9_25 rfl rfl rfl (fun v1 => ?_)
  refine V_aload_n (pc := 4) (DCa dc_Told_replay_0 2 rfl) rfl 1 rfl ?_
  refine Q_getf (k := 0) (pc := 5) (DCa dc_Told_replay_0 3 rfl) cls_7 (Nat.le_of_ble_eq_true rfl) fl_9_33 rfl rfl rfl (fun v2 => ?_)
  refine Q_callv (ci := 8) (st := []) (pc := 8) (DCa dc_Told_replay_0 4 rfl) (sp_Stan_begin F _ _ _) ce_Stan_begin ml_9_52 rfl rfl ⟨Nat.le_of_ble_eq_true rfl, Nat.le_of_ble_eq_true rfl⟩ rfl (Nat.le_of_ble_eq_true rfl) (fun r3 h4 => ?_)
  refine V_aload_n (pc := 11) (DCa dc_Told_replay_0 5 rfl) rfl 0 rfl ?_
  refine Q_getf (k := 3) (pc := 12) (DCa dc_Told_replay_0 6 rfl) cls_9 (Nat.le_of_ble_eq_true rfl) fl_9_25 rfl rfl rfl (fun v5 => ?_)
  refine Q_getf (k := 0) (pc := 15) (DCa dc_Told_replay_0 7 rfl) cls_8 (Nat.le_of_ble_eq_true rfl) fl_9_56 rfl rfl rfl (fun v6 => ?_)
  refine V_iload_n (pc := 18) (DCa dc_Told_replay_0 8 rfl) rfl 3 rfl ?_
  refine Q_aaload (pc := 19) (DCa dc_Told_replay_0 9 rfl) (by decide) rfl rfl (fun v7 => ?_)
  refine V_iload (pc := 20) (DCa dc_Told_replay_0 10 rfl) 4 rfl ?_
  refine Q_putf (k := 3) (pc := 22) (DCa dc_Told_replay_0 11 rfl) cls_10 (Nat.le_of_ble_eq_true rfl) fl_9_60 rfl rfl rfl (Or.inl rfl) (Or.inl ⟨rfl, rfl⟩) (fun h8 => ?_)
  refine V_aload_n (pc := 25) (DCa dc_Told_replay_0 12 rfl) rfl 2 rfl ?_
  refine Q_getf (k := 8) (pc := 26) (DCa dc_Told_replay_0 13 rfl) cls_8 (Nat.le_of_ble_eq_true rfl) fl_9_65 rfl rfl rfl (fun v9 => ?_)
  refine V_bipush (pc := 29) (DCa dc_Told_replay_0 14 rfl) (by decide) ?_
  refine V_mmin (pc := 31) (DCa dc_Told_replay_0 15 rfl) (tb6 41 rfl rfl) mt_smin mt_i mt_cmin ⟨Nat.le_of_ble_eq_true rfl, Nat.le_of_ble_eq_true rfl⟩ ?_
  refine Q_lt (fun r10 => ?_)
  refine V_istore (ls' := [(0, 2, l0), (1, 2, l1), (2, 2, l2), (3, 0, l3), (4, 0, l4), (5, 0, r10)]) (pc := 34) (DCa dc_Told_replay_0 16 rfl) (Nat.le_of_ble_eq_true rfl) rfl ?_
  refine V_iconst (pc := 36) (DCa dc_Told_replay_0 17 rfl) (by decide) ?_
  refine V_istore (ls' := [(0, 2, l0), (1, 2, l1), (2, 2, l2), (3, 0, l3), (4, 0, l4), (5, 0, r10), (6, 0, 0)]) (pc := 37) (DCa dc_Told_replay_0 18 rfl) (Nat.le_of_ble_eq_true rfl) rfl ?_
  refine V_pick [0, 1, 2, 5, 6] rfl ?_
  exact v_Told_replay_L39 F F _ _ _ _ _ _
theorem sp_Told_replay (F : Nat) (l0 l1 l2 l3 l4 : Int) (h : Hp) : Sp yX9_replay cX9_replay 9 none 5 114 [(2, l0), (2, l1), (2, l2), (0, l3), (0, l4)] h (Told_replay F l0 l1 l2 l3 l4 h) := Sp_of (by decide +kernel) rfl rfl (Nat.le_of_ble_eq_true rfl) (v_Told_replay F l0 l1 l2 l3 l4 h)
