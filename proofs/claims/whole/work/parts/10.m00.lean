-- TideRakes$Laws.<init>
def Laws_init (F : Nat) (l0 : Int) (h : Hp) : Option (Int × Hp) :=
  vc h l0 100 <|
  na h 0 450 fun v1 h2 =>
  pf h2 l0 100 0 v1 fun h3 =>
  na h3 0 5 fun v4 h5 =>
  pf h5 l0 100 1 v4 fun h6 =>
  na h6 0 5 fun v7 h8 =>
  pf h8 l0 100 2 v7 fun h9 =>
  na h9 0 20 fun v10 h11 =>
  pf h11 l0 100 3 v10 fun h12 =>
  some (0, h12)

theorem dc_Laws_init_0 : ∀ q ∈ ([(0, .aload_n 0, 1), (1, .invokespecial 1, 3), (4, .aload_n 0, 1), (5, .sipush 450, 3), (8, .newarray .int, 2), (10, .putfield 9, 3), (13, .aload_n 0, 1), (14, .iconst 5, 1), (15, .newarray .int, 2), (17, .putfield 13, 3), (20, .aload_n 0, 1), (21, .iconst 5, 1), (22, .newarray .int, 2), (24, .putfield 16, 3), (27, .aload_n 0, 1), (28, .bipush 20, 2), (30, .newarray .int, 2), (32, .putfield 19, 3), (35, .return_, 1)] : List (Nat × Instr × Nat)), decode cX0_init q.1 = .ok (q.2.1, q.2.2) := by decide +kernel
abbrev X_Laws_init : MX := (cX0_init, RX0, "<init>", 1, none, 1, 20)
theorem v_Laws_init (F : Nat) (l0 : Int) (h : Hp) : V X_Laws_init 0 [(0, 2, l0)] [] h (Laws_init F l0 h) := by
  unfold Laws_init
  refine V_aload_n (pc := 0) (DCa dc_Laws_init_0 0 rfl) rfl 0 rfl ?_
  refine Q_objinit (pc := 1) (DCa dc_Laws_init_0 1 rfl) (tb1 48 rfl rfl) oi_i oi_c ⟨Nat.le_of_ble_eq_true rfl, Nat.le_of_ble_eq_true rfl⟩ ?_
  refine V_aload_n (pc := 4) (DCa dc_Laws_init_0 2 rfl) rfl 0 rfl ?_
  refine V_sipush (pc := 5) (DCa dc_Laws_init_0 3 rfl) (by decide) ?_
  refine Q_newa (pc := 8) (DCa dc_Laws_init_0 4 rfl) nas_0 (fun v1 h2 => ?_)
  refine Q_putf (k := 0) (pc := 10) (DCa dc_Laws_init_0 5 rfl) cls_0 (Nat.le_of_ble_eq_true rfl) fl_0_9 rfl rfl rfl (Or.inr ⟨rfl, rfl, rfl⟩) (Or.inr ⟨Or.inr ⟨_, rfl⟩, rfl⟩) (fun h3 => ?_)
  refine V_aload_n (pc := 13) (DCa dc_Laws_init_0 6 rfl) rfl 0 rfl ?_
  refine V_iconst (pc := 14) (DCa dc_Laws_init_0 7 rfl) (by decide) ?_
  refine Q_newa (pc := 15) (DCa dc_Laws_init_0 8 rfl) nas_0 (fun v4 h5 => ?_)
  refine Q_putf (k := 1) (pc := 17) (DCa dc_Laws_init_0 9 rfl) cls_0 (Nat.le_of_ble_eq_true rfl) fl_0_13 rfl rfl rfl (Or.inr ⟨rfl, rfl, rfl⟩) (Or.inr ⟨Or.inr ⟨_, rfl⟩, rfl⟩) (fun h6 => ?_)
  refine V_aload_n (pc := 20) (DCa dc_Laws_init_0 10 rfl) rfl 0 rfl ?_
  refine V_iconst (pc := 21) (DCa dc_Laws_init_0 11 rfl) (by decide) ?_
  refine Q_newa (pc := 22) (DCa dc_Laws_init_0 12 rfl) nas_0 (fun v7 h8 => ?_)
  refine Q_putf (k := 2) (pc := 24) (DCa dc_Laws_init_0 13 rfl) cls_0 (Nat.le_of_ble_eq_true rfl) fl_0_16 rfl rfl rfl (Or.inr ⟨rfl, rfl, rfl⟩) (Or.inr ⟨Or.inr ⟨_, rfl⟩, rfl⟩) (fun h9 => ?_)
  refine V_aload_n (pc := 27) (DCa dc_Laws_init_0 14 rfl) rfl 0 rfl ?_
  refine V_bipush (pc := 28) (DCa dc_Laws_init_0 15 rfl) (by decide) ?_
  refine Q_newa (pc := 30) (DCa dc_Laws_init_0 16 rfl) nas_0 (fun v10 h11 => ?_)
  refine Q_putf (k := 3) (pc := 32) (DCa dc_Laws_init_0 17 rfl) cls_0 (Nat.le_of_ble_eq_true rfl) fl_0_19 rfl rfl rfl (Or.inr ⟨rfl, rfl, rfl⟩) (Or.inr ⟨Or.inr ⟨_, rfl⟩, rfl⟩) (fun h12 => ?_)
  exact V_return (pc := 35) (DCa dc_Laws_init_0 18 rfl) rfl
theorem sp_Laws_init (F : Nat) (l0 : Int) (h : Hp) : Sp yX0_init cX0_init 1 none 1 20 [(2, l0)] h (Laws_init F l0 h) := Sp_of (by decide +kernel) rfl rfl (Nat.le_of_ble_eq_true rfl) (v_Laws_init F l0 h)

-- TideRakes$Laws.begin
def Laws_begin (F : Nat) (l0 l1 : Int) (h : Hp) : Option (Int × Hp) :=
  if l1 < 0 then
    (some (0, h))
  else
    (if l1 < 5 then
      (gf h l0 100 1 fun v1 =>
      gf h l0 100 4 fun v2 =>
      as h v1 0 l1 v2 fun h3 =>
      some (0, h3))
    else
      (some (0, h)))

theorem dc_Laws_begin_0 : ∀ q ∈ ([(0, .iload_n 1, 1), (1, .ifCond .lt 18, 3), (4, .iload_n 1, 1), (5, .iconst 5, 1), (6, .if_icmp .ge 13, 3), (9, .aload_n 0, 1), (10, .getfield 13, 3), (13, .iload_n 1, 1), (14, .aload_n 0, 1), (15, .getfield 22, 3), (18, .iastore, 1), (19, .return_, 1)] : List (Nat × Instr × Nat)), decode cX0_begin q.1 = .ok (q.2.1, q.2.2) := by decide +kernel
abbrev X_Laws_begin : MX := (cX0_begin, RX0, "begin", 2, none, 1, 20)
theorem v_Laws_begin (F : Nat) (l0 l1 : Int) (h : Hp) : V X_Laws_begin 0 [(0, 2, l0), (1, 0, l1)] [] h (Laws_begin F l0 l1 h) := by
  unfold Laws_begin
  refine V_iload_n (pc := 0) (DCa dc_Laws_begin_0 0 rfl) rfl 1 rfl ?_
  refine V_if_lt (tgt := 19) (pc := 1) (DCa dc_Laws_begin_0 1 rfl) (by decide) (fun _ => ?_) (fun _ => ?_)
  · exact V_return (pc := 19) (DCa dc_Laws_begin_0 11 rfl) rfl
  · refine V_iload_n (pc := 4) (DCa dc_Laws_begin_0 2 rfl) rfl 1 rfl ?_
    refine V_iconst (pc := 5) (DCa dc_Laws_begin_0 3 rfl) (by decide) ?_
    refine V_icmp_ge (tgt := 19) (pc := 6) (DCa dc_Laws_begin_0 4 rfl) (by decide) (fun _ => ?_) (fun _ => ?_)
    · refine V_aload_n (pc := 9) (DCa dc_Laws_begin_0 5 rfl) rfl 0 rfl ?_
      refine Q_getf (k := 1) (pc := 10) (DCa dc_Laws_begin_0 6 rfl) cls_0 (Nat.le_of_ble_eq_true rfl) fl_0_13 rfl rfl rfl (fun v1 => ?_)
      refine V_iload_n (pc := 13) (DCa dc_Laws_begin_0 7 rfl) rfl 1 rfl ?_
      refine V_aload_n (pc := 14) (DCa dc_Laws_begin_0 8 rfl) rfl 0 rfl ?_
      refine Q_getf (k := 4) (pc := 15) (DCa dc_Laws_begin_0 9 rfl) cls_0 (Nat.le_of_ble_eq_true rfl) fl_0_22 rfl rfl rfl (fun v2 => ?_)
      refine Q_iastore (pc := 18) (DCa dc_Laws_begin_0 10 rfl) (fun h3 => ?_)
      exact V_return (pc := 19) (DCa dc_Laws_begin_0 11 rfl) rfl
    · exact V_return (pc := 19) (DCa dc_Laws_begin_0 11 rfl) rfl
theorem sp_Laws_begin (F : Nat) (l0 l1 : Int) (h : Hp) : Sp yX0_begin cX0_begin 2 none 1 20 [(2, l0), (0, l1)] h (Laws_begin F l0 l1 h) := Sp_of (by decide +kernel) rfl rfl (Nat.le_of_ble_eq_true rfl) (v_Laws_begin F l0 l1 h)

-- TideRakes$Laws.emit
def Laws_emit (F : Nat) (l0 l1 l2 : Int) (h : Hp) : Option (Int × Hp) :=
  gf h l0 100 4 fun v1 =>
  if v1 < 450 then
    (gf h l0 100 0 fun v2 =>
    as h v2 0 v1 (w32 ((w32 (l2 * 256)) + l1)) fun h3 =>
    gf h3 l0 100 4 fun v4 =>
    pf h3 l0 100 4 (w32 (v4 + 1)) fun h5 =>
    some (v1, h5))
  else
    (some (v1, h))

theorem dc_Laws_emit_0 : ∀ q ∈ ([(0, .aload_n 0, 1), (1, .getfield 22, 3), (4, .istore_n 3, 1), (5, .iload_n 3, 1), (6, .sipush 450, 3), (9, .if_icmp .ge 26, 3), (12, .aload_n 0, 1), (13, .getfield 9, 3), (16, .iload_n 3, 1), (17, .iload_n 2, 1), (18, .sipush 256, 3), (21, .imul, 1), (22, .iload_n 1, 1), (23, .iadd, 1), (24, .iastore, 1), (25, .aload_n 0, 1), (26, .dup, 1), (27, .getfield 22, 3), (30, .iconst 1, 1), (31, .iadd, 1), (32, .putfield 22, 3), (35, .iload_n 3, 1), (36, .ireturn, 1)] : List (Nat × Instr × Nat)), decode cX0_emit q.1 = .ok (q.2.1, q.2.2) := by decide +kernel
abbrev X_Laws_emit : MX := (cX0_emit, RX0, "emit", 4, (some (.int)), 1, 20)
theorem v_Laws_emit (F : Nat) (l0 l1 l2 : Int) (h : Hp) : V X_Laws_emit 0 [(0, 2, l0), (1, 0, l1), (2, 0, l2)] [] h (Laws_emit F l0 l1 l2 h) := by
  unfold Laws_emit
  refine V_aload_n (pc := 0) (DCa dc_Laws_emit_0 0 rfl) rfl 0 rfl ?_
  refine Q_getf (k := 4) (pc := 1) (DCa dc_Laws_emit_0 1 rfl) cls_0 (Nat.le_of_ble_eq_true rfl) fl_0_22 rfl rfl rfl (fun v1 => ?_)
  refine V_istore_n (ls' := [(0, 2, l0), (1, 0, l1), (2, 0, l2), (3, 0, v1)]) (pc := 4) (DCa dc_Laws_emit_0 2 rfl) rfl (Nat.le_of_ble_eq_true rfl) rfl ?_
  refine V_iload_n (pc := 5) (DCa dc_Laws_emit_0 3 rfl) rfl 3 rfl ?_
  refine V_sipush (pc := 6) (DCa dc_Laws_emit_0 4 rfl) (by decide) ?_
  refine V_icmp_ge (tgt := 35) (pc := 9) (DCa dc_Laws_emit_0 5 rfl) (by decide) (fun _ => ?_) (fun _ => ?_)
  · refine V_aload_n (pc := 12) (DCa dc_Laws_emit_0 6 rfl) rfl 0 rfl ?_
    refine Q_getf (k := 0) (pc := 13) (DCa dc_Laws_emit_0 7 rfl) cls_0 (Nat.le_of_ble_eq_true rfl) fl_0_9 rfl rfl rfl (fun v2 => ?_)
    refine V_iload_n (pc := 16) (DCa dc_Laws_emit_0 8 rfl) rfl 3 rfl ?_
    refine V_iload_n (pc := 17) (DCa dc_Laws_emit_0 9 rfl) rfl 2 rfl ?_
    refine V_sipush (pc := 18) (DCa dc_Laws_emit_0 10 rfl) (by decide) ?_
    refine V_imul (pc := 21) (DCa dc_Laws_emit_0 11 rfl) ?_
    refine V_iload_n (pc := 22) (DCa dc_Laws_emit_0 12 rfl) rfl 1 rfl ?_
    refine V_iadd (pc := 23) (DCa dc_Laws_emit_0 13 rfl) ?_
    refine Q_iastore (pc := 24) (DCa dc_Laws_emit_0 14 rfl) (fun h3 => ?_)
    refine V_aload_n (pc := 25) (DCa dc_Laws_emit_0 15 rfl) rfl 0 rfl ?_
    refine V_dup (pc := 26) (DCa dc_Laws_emit_0 16 rfl) rfl ?_
    refine Q_getf (k := 4) (pc := 27) (DCa dc_Laws_emit_0 17 rfl) cls_0 (Nat.le_of_ble_eq_true rfl) fl_0_22 rfl rfl rfl (fun v4 => ?_)
    refine V_iconst (pc := 30) (DCa dc_Laws_emit_0 18 rfl) (by decide) ?_
    refine V_iadd (pc := 31) (DCa dc_Laws_emit_0 19 rfl) ?_
    refine Q_putf (k := 4) (pc := 32) (DCa dc_Laws_emit_0 20 rfl) cls_0 (Nat.le_of_ble_eq_true rfl) fl_0_22 rfl rfl rfl (Or.inl rfl) (Or.inl ⟨rfl, rfl⟩) (fun h5 => ?_)
    refine V_iload_n (pc := 35) (DCa dc_Laws_emit_0 21 rfl) rfl 3 rfl ?_
    exact V_ireturn (pc := 36) (DCa dc_Laws_emit_0 22 rfl) rfl
  · refine V_iload_n (pc := 35) (DCa dc_Laws_emit_0 21 rfl) rfl 3 rfl ?_
    exact V_ireturn (pc := 36) (DCa dc_Laws_emit_0 22 rfl) rfl
theorem sp_Laws_emit (F : Nat) (l0 l1 l2 : Int) (h : Hp) : Sp yX0_emit cX0_emit 4 (some (.int)) 1 20 [(2, l0), (0, l1), (0, l2)] h (Laws_emit F l0 l1 l2 h) := Sp_of (by decide +kernel) rfl rfl (Nat.le_of_ble_eq_true rfl) (v_Laws_emit F l0 l1 l2 h)

-- TideRakes$Laws.tellOne
def Laws_tellOne (F : Nat) (l0 l1 l2 : Int) (h : Hp) : Option (Int × Hp) :=
  iv h l0 100 (Laws_emit F l0 l1 l2 h) fun r1 h2 =>
  iv h2 l0 100 (Laws_emit F l0 4 0 h2) fun r3 h4 =>
  some (0, h4)

theorem dc_Laws_tellOne_0 : ∀ q ∈ ([(0, .aload_n 0, 1), (1, .iload_n 1, 1), (2, .iload_n 2, 1), (3, .invokevirtual 34, 3), (6, .pop, 1), (7, .aload_n 0, 1), (8, .iconst 4, 1), (9, .iconst 0, 1), (10, .invokevirtual 34, 3), (13, .pop, 1), (14, .return_, 1)] : List (Nat × Instr × Nat)), decode cX0_tellOne q.1 = .ok (q.2.1, q.2.2) := by decide +kernel
abbrev X_Laws_tellOne : MX := (cX0_tellOne, RX0, "tellOne", 3, none, 2, 43)
theorem v_Laws_tellOne (F : Nat) (l0 l1 l2 : Int) (h : Hp) : V X_Laws_tellOne 0 [(0, 2, l0), (1, 0, l1), (2, 0, l2)] [] h (Laws_tellOne F l0 l1 l2 h) := by
  unfold Laws_tellOne
  refine V_aload_n (pc := 0) (DCa dc_Laws_tellOne_0 0 rfl) rfl 0 rfl ?_
  refine V_iload_n (pc := 1) (DCa dc_Laws_tellOne_0 1 rfl) rfl 1 rfl ?_
  refine V_iload_n (pc := 2) (DCa dc_Laws_tellOne_0 2 rfl) rfl 2 rfl ?_
  refine Q_callv (ci := 0) (st := []) (pc := 3) (DCa dc_Laws_tellOne_0 3 rfl) (sp_Laws_emit F _ _ _ _) ce_Laws_emit ml_0_34 rfl rfl ⟨Nat.le_of_ble_eq_true rfl, Nat.le_of_ble_eq_true rfl⟩ rfl (Nat.le_of_ble_eq_true rfl) (fun r1 h2 => ?_)
  refine V_pop (pc := 6) (DCa dc_Laws_tellOne_0 4 rfl) rfl ?_
  refine V_aload_n (pc := 7) (DCa dc_Laws_tellOne_0 5 rfl) rfl 0 rfl ?_
  refine V_iconst (pc := 8) (DCa dc_Laws_tellOne_0 6 rfl) (by decide) ?_
  refine V_iconst (pc := 9) (DCa dc_Laws_tellOne_0 7 rfl) (by decide) ?_
  refine Q_callv (ci := 0) (st := []) (pc := 10) (DCa dc_Laws_tellOne_0 8 rfl) (sp_Laws_emit F _ _ _ _) ce_Laws_emit ml_0_34 rfl rfl ⟨Nat.le_of_ble_eq_true rfl, Nat.le_of_ble_eq_true rfl⟩ rfl (Nat.le_of_ble_eq_true rfl) (fun r3 h4 => ?_)
  refine V_pop (pc := 13) (DCa dc_Laws_tellOne_0 9 rfl) rfl ?_
  exact V_return (pc := 14) (DCa dc_Laws_tellOne_0 10 rfl) rfl
theorem sp_Laws_tellOne (F : Nat) (l0 l1 l2 : Int) (h : Hp) : Sp yX0_tellOne cX0_tellOne 3 none 2 43 [(2, l0), (0, l1), (0, l2)] h (Laws_tellOne F l0 l1 l2 h) := Sp_of (by decide +kernel) rfl rfl (Nat.le_of_ble_eq_true rfl) (v_Laws_tellOne F l0 l1 l2 h)

-- TideRakes$Laws.clear
def Laws_clear (F : Nat) (l0 : Int) (h : Hp) : Option (Int × Hp) :=
  pf h l0 100 4 0 fun h1 =>
  iv h1 l0 100 (Laws_begin F l0 0 h1) fun r2 h3 =>
  iv h3 l0 100 (Laws_tellOne F l0 2 1 h3) fun r4 h5 =>
  iv h5 l0 100 (Laws_begin F l0 1 h5) fun r6 h7 =>
  iv h7 l0 100 (Laws_tellOne F l0 1 0 h7) fun r8 h9 =>
  iv h9 l0 100 (Laws_begin F l0 2 h9) fun r10 h11 =>
  iv h11 l0 100 (Laws_tellOne F l0 1 100 h11) fun r12 h13 =>
  iv h13 l0 100 (Laws_begin F l0 3 h13) fun r14 h15 =>
  iv h15 l0 100 (Laws_tellOne F l0 2 3 h15) fun r16 h17 =>
  iv h17 l0 100 (Laws_begin F l0 4 h17) fun r18 h19 =>
  iv h19 l0 100 (Laws_tellOne F l0 1 0 h19) fun r20 h21 =>
  some (0, h21)

theorem dc_Laws_clear_0 : ∀ q ∈ ([(0, .aload_n 0, 1), (1, .iconst 0, 1), (2, .putfield 22, 3), (5, .aload_n 0, 1), (6, .iconst 0, 1), (7, .invokevirtual 26, 3), (10, .aload_n 0, 1), (11, .iconst 2, 1), (12, .iconst 1, 1), (13, .invokevirtual 30, 3), (16, .aload_n 0, 1), (17, .iconst 1, 1), (18, .invokevirtual 26, 3), (21, .aload_n 0, 1), (22, .iconst 1, 1), (23, .iconst 0, 1), (24, .invokevirtual 30, 3), (27, .aload_n 0, 1), (28, .iconst 2, 1), (29, .invokevirtual 26, 3), (32, .aload_n 0, 1), (33, .iconst 1, 1), (34, .bipush 100, 2), (36, .invokevirtual 30, 3), (39, .aload_n 0, 1), (40, .iconst 3, 1), (41, .invokevirtual 26, 3), (44, .aload_n 0, 1), (45, .iconst 2, 1), (46, .iconst 3, 1), (47, .invokevirtual 30, 3), (50, .aload_n 0, 1), (51, .iconst 4, 1), (52, .invokevirtual 26, 3), (55, .aload_n 0, 1), (56, .iconst 1, 1), (57, .iconst 0, 1), (58, .invokevirtual 30, 3), (61, .return_, 1)] : List (Nat × Instr × Nat)), decode cX0_clear q.1 = .ok (q.2.1, q.2.2) := by decide +kernel
abbrev X_Laws_clear : MX := (cX0_clear, RX0, "clear", 1, none, 3, 65)
theorem v_Laws_clear (F : Nat) (l0 : Int) (h : Hp) : V X_Laws_clear 0 [(0, 2, l0)] [] h (Laws_clear F l0 h) := by
  unfold Laws_clear
  refine V_aload_n (pc := 0) (DCa dc_Laws_clear_0 0 rfl) rfl 0 rfl ?_
  refine V_iconst (pc := 1) (DCa dc_Laws_clear_0 1 rfl) (by decide) ?_
  refine Q_putf (k := 4) (pc := 2) (DCa dc_Laws_clear_0 2 rfl) cls_0 (Nat.le_of_ble_eq_true rfl) fl_0_22 rfl rfl rfl (Or.inl rfl) (Or.inl ⟨rfl, rfl⟩) (fun h1 => ?_)
  refine V_aload_n (pc := 5) (DCa dc_Laws_clear_0 3 rfl) rfl 0 rfl ?_
  refine V_iconst (pc := 6) (DCa dc_Laws_clear_0 4 rfl) (by decide) ?_
  refine Q_callv (ci := 0) (st := []) (pc := 7) (DCa dc_Laws_clear_0 5 rfl) (sp_Laws_begin F _ _ _) ce_Laws_begin ml_0_26 rfl rfl ⟨Nat.le_of_ble_eq_true rfl, Nat.le_of_ble_eq_true rfl⟩ rfl (Nat.le_of_ble_eq_true rfl) (fun r2 h3 => ?_)
  refine V_aload_n (pc := 10) (DCa dc_Laws_clear_0 6 rfl) rfl 0 rfl ?_
  refine V_iconst (pc := 11) (DCa dc_Laws_clear_0 7 rfl) (by decide) ?_
  refine V_iconst (pc := 12) (DCa dc_Laws_clear_0 8 rfl) (by decide) ?_
  refine Q_callv (ci := 0) (st := []) (pc := 13) (DCa dc_Laws_clear_0 9 rfl) (sp_Laws_tellOne F _ _ _ _) ce_Laws_tellOne ml_0_30 rfl rfl ⟨Nat.le_of_ble_eq_true rfl, Nat.le_of_ble_eq_true rfl⟩ rfl (Nat.le_of_ble_eq_true rfl) (fun r4 h5 => ?_)
  refine V_aload_n (pc := 16) (DCa dc_Laws_clear_0 10 rfl) rfl 0 rfl ?_
  refine V_iconst (pc := 17) (DCa dc_Laws_clear_0 11 rfl) (by decide) ?_
  refine Q_callv (ci := 0) (st := []) (pc := 18) (DCa dc_Laws_clear_0 12 rfl) (sp_Laws_begin F _ _ _) ce_Laws_begin ml_0_26 rfl rfl ⟨Nat.le_of_ble_eq_true rfl, Nat.le_of_ble_eq_true rfl⟩ rfl (Nat.le_of_ble_eq_true rfl) (fun r6 h7 => ?_)
  refine V_aload_n (pc := 21) (DCa dc_Laws_clear_0 13 rfl) rfl 0 rfl ?_
  refine V_iconst (pc := 22) (DCa dc_Laws_clear_0 14 rfl) (by decide) ?_
  refine V_iconst (pc := 23) (DCa dc_Laws_clear_0 15 rfl) (by decide) ?_
  refine Q_callv (ci := 0) (st := []) (pc := 24) (DCa dc_Laws_clear_0 16 rfl) (sp_Laws_tellOne F _ _ _ _) ce_Laws_tellOne ml_0_30 rfl rfl ⟨Nat.le_of_ble_eq_true rfl, Nat.le_of_ble_eq_true rfl⟩ rfl (Nat.le_of_ble_eq_true rfl) (fun r8 h9 => ?_)
  refine V_aload_n (pc := 27) (DCa dc_Laws_clear_0 17 rfl) rfl 0 rfl ?_
  refine V_iconst (pc := 28) (DCa dc_Laws_clear_0 18 rfl) (by decide) ?_
  refine Q_callv (ci := 0) (st := []) (pc := 29) (DCa dc_Laws_clear_0 19 rfl) (sp_Laws_begin F _ _ _) ce_Laws_begin ml_0_26 rfl rfl ⟨Nat.le_of_ble_eq_true rfl, Nat.le_of_ble_eq_true rfl⟩ rfl (Nat.le_of_ble_eq_true rfl) (fun r10 h11 => ?_)
  refine V_aload_n (pc := 32) (DCa dc_Laws_clear_0 20 rfl) rfl 0 rfl ?_
  refine V_iconst (pc := 33) (DCa dc_Laws_clear_0 21 rfl) (by decide) ?_
  refine V_bipush (pc := 34) (DCa dc_Laws_clear_0 22 rfl) (by decide) ?_
  refine Q_callv (ci := 0) (st := []) (pc := 36) (DCa dc_Laws_clear_0 23 rfl) (sp_Laws_tellOne F _ _ _ _) ce_Laws_tellOne ml_0_30 rfl rfl ⟨Nat.le_of_ble_eq_true rfl, Nat.le_of_ble_eq_true rfl⟩ rfl (Nat.le_of_ble_eq_true rfl) (fun r12 h13 => ?_)
  refine V_aload_n (pc := 39) (DCa dc_Laws_clear_0 24 rfl) rfl 0 rfl ?_
  refine V_iconst (pc := 40) (DCa dc_Laws_clear_0 25 rfl) (by decide) ?_
  refine Q_callv (ci := 0) (st := []) (pc := 41) (DCa dc_Laws_clear_0 26 rfl) (sp_Laws_begin F _ _ _) ce_Laws_begin ml_0_26 rfl rfl ⟨Nat.le_of_ble_eq_true rfl, Nat.le_of_ble_eq_true rfl⟩ rfl (Nat.le_of_ble_eq_true rfl) (fun r14 h15 => ?_)
  refine V_aload_n (pc := 44) (DCa dc_Laws_clear_0 27 rfl) rfl 0 rfl ?_
  refine V_iconst (pc := 45) (DCa dc_Laws_clear_0 28 rfl) (by decide) ?_
  refine V_iconst (pc := 46) (DCa dc_Laws_clear_0 29 rfl) (by decide) ?_
  refine Q_callv (ci := 0) (st := []) (pc := 47) (DCa dc_Laws_clear_0 30 rfl) (sp_Laws_tellOne F _ _ _ _) ce_Laws_tellOne ml_0_30 rfl rfl ⟨Nat.le_of_ble_eq_true rfl, Nat.le_of_ble_eq_true rfl⟩ rfl (Nat.le_of_ble_eq_true rfl) (fun r16 h17 => ?_)
  refine V_aload_n (pc := 50) (DCa dc_Laws_clear_0 31 rfl) rfl 0 rfl ?_
  refine V_iconst (pc := 51) (DCa dc_Laws_clear_0 32 rfl) (by decide) ?_
  refine Q_callv (ci := 0) (st := []) (pc := 52) (DCa dc_Laws_clear_0 33 rfl) (sp_Laws_begin F _ _ _) ce_Laws_begin ml_0_26 rfl rfl ⟨Nat.le_of_ble_eq_true rfl, Nat.le_of_ble_eq_true rfl⟩ rfl (Nat.le_of_ble_eq_true rfl) (fun r18 h19 => ?_)
  refine V_aload_n (pc := 55) (DCa dc_Laws_clear_0 34 rfl) rfl 0 rfl ?_
  refine V_iconst (pc := 56) (DCa dc_Laws_clear_0 35 rfl) (by decide) ?_
  refine V_iconst (pc := 57) (DCa dc_Laws_clear_0 36 rfl) (by decide) ?_
  refine Q_callv (ci := 0) (st := []) (pc := 58) (DCa dc_Laws_clear_0 37 rfl) (sp_Laws_tellOne F _ _ _ _) ce_Laws_tellOne ml_0_30 rfl rfl ⟨Nat.le_of_ble_eq_true rfl, Nat.le_of_ble_eq_true rfl⟩ rfl (Nat.le_of_ble_eq_true rfl) (fun r20 h21 => ?_)
  exact V_return (pc := 61) (DCa dc_Laws_clear_0 38 rfl) rfl
theorem sp_Laws_clear (F : Nat) (l0 : Int) (h : Hp) : Sp yX0_clear cX0_clear 1 none 3 65 [(2, l0)] h (Laws_clear F l0 h) := Sp_of (by decide +kernel) rfl rfl (Nat.le_of_ble_eq_true rfl) (v_Laws_clear F l0 h)

-- TideRakes$Laws.jumpHere
def Laws_jumpHere (F : Nat) (l0 l1 : Int) (h : Hp) : Option (Int × Hp) :=
  if l1 < 0 then
    (some (0, h))
  else
    (gf h l0 100 4 fun v1 =>
    if l1 < v1 then
      (gf h l0 100 0 fun v2 =>
      gf h l0 100 4 fun v3 =>
      as h v2 0 l1 (w32 ((w32 (v3 * 256)) + 3)) fun h4 =>
      some (0, h4))
    else
      (some (0, h)))

theorem dc_Laws_jumpHere_0 : ∀ q ∈ ([(0, .iload_n 1, 1), (1, .ifCond .lt 27, 3), (4, .iload_n 1, 1), (5, .aload_n 0, 1), (6, .getfield 22, 3), (9, .if_icmp .ge 19, 3), (12, .aload_n 0, 1), (13, .getfield 9, 3), (16, .iload_n 1, 1), (17, .aload_n 0, 1), (18, .getfield 22, 3), (21, .sipush 256, 3), (24, .imul, 1), (25, .iconst 3, 1), (26, .iadd, 1), (27, .iastore, 1), (28, .return_, 1)] : List (Nat × Instr × Nat)), decode cX0_jumpHere q.1 = .ok (q.2.1, q.2.2) := by decide +kernel
abbrev X_Laws_jumpHere : MX := (cX0_jumpHere, RX0, "jumpHere", 2, none, 1, 20)
theorem v_Laws_jumpHere (F : Nat) (l0 l1 : Int) (h : Hp) : V X_Laws_jumpHere 0 [(0, 2, l0), (1, 0, l1)] [] h (Laws_jumpHere F l0 l1 h) := by
  unfold Laws_jumpHere
  refine V_iload_n (pc := 0) (DCa dc_Laws_jumpHere_0 0 rfl) rfl 1 rfl ?_
  refine V_if_lt (tgt := 28) (pc := 1) (DCa dc_Laws_jumpHere_0 1 rfl) (by decide) (fun _ => ?_) (fun _ => ?_)
  · exact V_return (pc := 28) (DCa dc_Laws_jumpHere_0 16 rfl) rfl
  · refine V_iload_n (pc := 4) (DCa dc_Laws_jumpHere_0 2 rfl) rfl 1 rfl ?_
    refine V_aload_n (pc := 5) (DCa dc_Laws_jumpHere_0 3 rfl) rfl 0 rfl ?_
    refine Q_getf (k := 4) (pc := 6) (DCa dc_Laws_jumpHere_0 4 rfl) cls_0 (Nat.le_of_ble_eq_true rfl) fl_0_22 rfl rfl rfl (fun v1 => ?_)
    refine V_icmp_ge (tgt := 28) (pc := 9) (DCa dc_Laws_jumpHere_0 5 rfl) (by decide) (fun _ => ?_) (fun _ => ?_)
    · refine V_aload_n (pc := 12) (DCa dc_Laws_jumpHere_0 6 rfl) rfl 0 rfl ?_
      refine Q_getf (k := 0) (pc := 13) (DCa dc_Laws_jumpHere_0 7 rfl) cls_0 (Nat.le_of_ble_eq_true rfl) fl_0_9 rfl rfl rfl (fun v2 => ?_)
      refine V_iload_n (pc := 16) (DCa dc_Laws_jumpHere_0 8 rfl) rfl 1 rfl ?_
      refine V_aload_n (pc := 17) (DCa dc_Laws_jumpHere_0 9 rfl) rfl 0 rfl ?_
      refine Q_getf (k := 4) (pc := 18) (DCa dc_Laws_jumpHere_0 10 rfl) cls_0 (Nat.le_of_ble_eq_true rfl) fl_0_22 rfl rfl rfl (fun v3 => ?_)
      refine V_sipush (pc := 21) (DCa dc_Laws_jumpHere_0 11 rfl) (by decide) ?_
      refine V_imul (pc := 24) (DCa dc_Laws_jumpHere_0 12 rfl) ?_
      refine V_iconst (pc := 25) (DCa dc_Laws_jumpHere_0 13 rfl) (by decide) ?_
      refine V_iadd (pc := 26) (DCa dc_Laws_jumpHere_0 14 rfl) ?_
      refine Q_iastore (pc := 27) (DCa dc_Laws_jumpHere_0 15 rfl) (fun h4 => ?_)
      exact V_return (pc := 28) (DCa dc_Laws_jumpHere_0 16 rfl) rfl
    · exact V_return (pc := 28) (DCa dc_Laws_jumpHere_0 16 rfl) rfl
theorem sp_Laws_jumpHere (F : Nat) (l0 l1 : Int) (h : Hp) : Sp yX0_jumpHere cX0_jumpHere 2 none 1 20 [(2, l0), (0, l1)] h (Laws_jumpHere F l0 l1 h) := Sp_of (by decide +kernel) rfl rfl (Nat.le_of_ble_eq_true rfl) (v_Laws_jumpHere F l0 l1 h)

-- TideRakes$Laws.setVariables
def Laws_setVariables (F : Nat) (l0 l1 l2 l3 l4 l5 : Int) (h : Hp) : Option (Int × Hp) :=
  gf h l0 100 2 fun v1 =>
  as h v1 0 0 l1 fun h2 =>
  gf h2 l0 100 2 fun v3 =>
  as h2 v3 0 1 l2 fun h4 =>
  gf h4 l0 100 2 fun v5 =>
  as h4 v5 0 2 l3 fun h6 =>
  gf h6 l0 100 2 fun v7 =>
  as h6 v7 0 3 l4 fun h8 =>
  gf h8 l0 100 2 fun v9 =>
  as h8 v9 0 4 l5 fun h10 =>
  some (0, h10)

theorem dc_Laws_setVariables_0 : ∀ q ∈ ([(0, .aload_n 0, 1), (1, .getfield 16, 3), (4, .iconst 0, 1), (5, .iload_n 1, 1), (6, .iastore, 1), (7, .aload_n 0, 1), (8, .getfield 16, 3), (11, .iconst 1, 1), (12, .iload_n 2, 1), (13, .iastore, 1), (14, .aload_n 0, 1), (15, .getfield 16, 3), (18, .iconst 2, 1), (19, .iload_n 3, 1), (20, .iastore, 1), (21, .aload_n 0, 1), (22, .getfield 16, 3), (25, .iconst 3, 1), (26, .iload 4, 2), (28, .iastore, 1), (29, .aload_n 0, 1), (30, .getfield 16, 3), (33, .iconst 4, 1), (34, .iload 5, 2), (36, .iastore, 1), (37, .return_, 1)] : List (Nat × Instr × Nat)), decode cX0_setVariables q.1 = .ok (q.2.1, q.2.2) := by decide +kernel
abbrev X_Laws_setVariables : MX := (cX0_setVariables, RX0, "setVariables", 6, none, 1, 20)
theorem v_Laws_setVariables (F : Nat) (l0 l1 l2 l3 l4 l5 : Int) (h : Hp) : V X_Laws_setVariables 0 [(0, 2, l0), (1, 0, l1), (2, 0, l2), (3, 0, l3), (4, 0, l4), (5, 0, l5)] [] h (Laws_setVariables F l0 l1 l2 l3 l4 l5 h) := by
  unfold Laws_setVariables
  refine V_aload_n (pc := 0) (DCa dc_Laws_setVariables_0 0 rfl) rfl 0 rfl ?_
  refine Q_getf (k := 2) (pc := 1) (DCa dc_Laws_setVariables_0 1 rfl) cls_0 (Nat.le_of_ble_eq_true rfl) fl_0_16 rfl rfl rfl (fun v1 => ?_)
  refine V_iconst (pc := 4) (DCa dc_Laws_setVariables_0 2 rfl) (by decide) ?_
  refine V_iload_n (pc := 5) (DCa dc_Laws_setVariables_0 3 rfl) rfl 1 rfl ?_
  refine Q_iastore (pc := 6) (DCa dc_Laws_setVariables_0 4 rfl) (fun h2 => ?_)
  refine V_aload_n (pc := 7) (DCa dc_Laws_setVariables_0 5 rfl) rfl 0 rfl ?_
  refine Q_getf (k := 2) (pc := 8) (DCa dc_Laws_setVariables_0 6 rfl) cls_0 (Nat.le_of_ble_eq_true rfl) fl_0_16 rfl rfl rfl (fun v3 => ?_)
  refine V_iconst (pc := 11) (DCa dc_Laws_setVariables_0 7 rfl) (by decide) ?_
  refine V_iload_n (pc := 12) (DCa dc_Laws_setVariables_0 8 rfl) rfl 2 rfl ?_
  refine Q_iastore (pc := 13) (DCa dc_Laws_setVariables_0 9 rfl) (fun h4 => ?_)
  refine V_aload_n (pc := 14) (DCa dc_Laws_setVariables_0 10 rfl) rfl 0 rfl ?_
  refine Q_getf (k := 2) (pc := 15) (DCa dc_Laws_setVariables_0 11 rfl) cls_0 (Nat.le_of_ble_eq_true rfl) fl_0_16 rfl rfl rfl (fun v5 => ?_)
  refine V_iconst (pc := 18) (DCa dc_Laws_setVariables_0 12 rfl) (by decide) ?_
  refine V_iload_n (pc := 19) (DCa dc_Laws_setVariables_0 13 rfl) rfl 3 rfl ?_
  refine Q_iastore (pc := 20) (DCa dc_Laws_setVariables_0 14 rfl) (fun h6 => ?_)
  refine V_aload_n (pc := 21) (DCa dc_Laws_setVariables_0 15 rfl) rfl 0 rfl ?_
  refine Q_getf (k := 2) (pc := 22) (DCa dc_Laws_setVariables_0 16 rfl) cls_0 (Nat.le_of_ble_eq_true rfl) fl_0_16 rfl rfl rfl (fun v7 => ?_)
  refine V_iconst (pc := 25) (DCa dc_Laws_setVariables_0 17 rfl) (by decide) ?_
  refine V_iload (pc := 26) (DCa dc_Laws_setVariables_0 18 rfl) 4 rfl ?_
  refine Q_iastore (pc := 28) (DCa dc_Laws_setVariables_0 19 rfl) (fun h8 => ?_)
  refine V_aload_n (pc := 29) (DCa dc_Laws_setVariables_0 20 rfl) rfl 0 rfl ?_
  refine Q_getf (k := 2) (pc := 30) (DCa dc_Laws_setVariables_0 21 rfl) cls_0 (Nat.le_of_ble_eq_true rfl) fl_0_16 rfl rfl rfl (fun v9 => ?_)
  refine V_iconst (pc := 33) (DCa dc_Laws_setVariables_0 22 rfl) (by decide) ?_
  refine V_iload (pc := 34) (DCa dc_Laws_setVariables_0 23 rfl) 5 rfl ?_
  refine Q_iastore (pc := 36) (DCa dc_Laws_setVariables_0 24 rfl) (fun h10 => ?_)
  exact V_return (pc := 37) (DCa dc_Laws_setVariables_0 25 rfl) rfl
theorem sp_Laws_setVariables (F : Nat) (l0 l1 l2 l3 l4 l5 : Int) (h : Hp) : Sp yX0_setVariables cX0_setVariables 6 none 1 20 [(2, l0), (0, l1), (0, l2), (0, l3), (0, l4), (0, l5)] h (Laws_setVariables F l0 l1 l2 l3 l4 l5 h) := Sp_of (by decide +kernel) rfl rfl (Nat.le_of_ble_eq_true rfl) (v_Laws_setVariables F l0 l1 l2 l3 l4 l5 h)

-- TideRakes$Laws.combined
def Laws_combined (F : Nat) (l0 l1 l2 : Int) (h : Hp) : Option (Int × Hp) :=
  if l0 = 43 then
    (some (w32 (l1 + l2), h))
  else
    (if l0 = 45 then
      (some (w32 (l1 - l2), h))
    else
      (if l0 = 42 then
        (some (w32 (l1 * l2), h))
      else
        (if l2 = 0 then
          (some (0, h))
        else
          (dv l1 l2 fun v1 =>
          some (v1, h)))))

theorem dc_Laws_combined_0 : ∀ q ∈ ([(0, .iload_n 0, 1), (1, .bipush 43, 2), (3, .if_icmp .ne 7, 3), (6, .iload_n 1, 1), (7, .iload_n 2, 1), (8, .iadd, 1), (9, .ireturn, 1), (10, .iload_n 0, 1), (11, .bipush 45, 2), (13, .if_icmp .ne 7, 3), (16, .iload_n 1, 1), (17, .iload_n 2, 1), (18, .isub, 1), (19, .ireturn, 1), (20, .iload_n 0, 1), (21, .bipush 42, 2), (23, .if_icmp .ne 7, 3), (26, .iload_n 1, 1), (27, .iload_n 2, 1), (28, .imul, 1), (29, .ireturn, 1), (30, .iload_n 2, 1), (31, .ifCond .ne 7, 3), (34, .iconst 0, 1), (35, .goto 6, 3), (38, .iload_n 1, 1), (39, .iload_n 2, 1), (40, .idiv, 1), (41, .ireturn, 1)] : List (Nat × Instr × Nat)), decode cX0_combined q.1 = .ok (q.2.1, q.2.2) := by decide +kernel
abbrev X_Laws_combined : MX := (cX0_combined, RX0, "combined", 3, (some (.int)), 1, 20)
theorem v_Laws_combined (F : Nat) (l0 l1 l2 : Int) (h : Hp) : V X_Laws_combined 0 [(0, 0, l0), (1, 0, l1), (2, 0, l2)] [] h (Laws_combined F l0 l1 l2 h) := by
  unfold Laws_combined
  refine V_iload_n (pc := 0) (DCa dc_Laws_combined_0 0 rfl) rfl 0 rfl ?_
  refine V_bipush (pc := 1) (DCa dc_Laws_combined_0 1 rfl) (by decide) ?_
  refine V_icmp_ne (tgt := 10) (pc := 3) (DCa dc_Laws_combined_0 2 rfl) (by decide) (fun _ => ?_) (fun _ => ?_)
  · refine V_iload_n (pc := 6) (DCa dc_Laws_combined_0 3 rfl) rfl 1 rfl ?_
    refine V_iload_n (pc := 7) (DCa dc_Laws_combined_0 4 rfl) rfl 2 rfl ?_
    refine V_iadd (pc := 8) (DCa dc_Laws_combined_0 5 rfl) ?_
    exact V_ireturn (pc := 9) (DCa dc_Laws_combined_0 6 rfl) rfl
  · refine V_iload_n (pc := 10) (DCa dc_Laws_combined_0 7 rfl) rfl 0 rfl ?_
    refine V_bipush (pc := 11) (DCa dc_Laws_combined_0 8 rfl) (by decide) ?_
    refine V_icmp_ne (tgt := 20) (pc := 13) (DCa dc_Laws_combined_0 9 rfl) (by decide) (fun _ => ?_) (fun _ => ?_)
    · refine V_iload_n (pc := 16) (DCa dc_Laws_combined_0 10 rfl) rfl 1 rfl ?_
      refine V_iload_n (pc := 17) (DCa dc_Laws_combined_0 11 rfl) rfl 2 rfl ?_
      refine V_isub (pc := 18) (DCa dc_Laws_combined_0 12 rfl) ?_
      exact V_ireturn (pc := 19) (DCa dc_Laws_combined_0 13 rfl) rfl
    · refine V_iload_n (pc := 20) (DCa dc_Laws_combined_0 14 rfl) rfl 0 rfl ?_
      refine V_bipush (pc := 21) (DCa dc_Laws_combined_0 15 rfl) (by decide) ?_
      refine V_icmp_ne (tgt := 30) (pc := 23) (DCa dc_Laws_combined_0 16 rfl) (by decide) (fun _ => ?_) (fun _ => ?_)
      · refine V_iload_n (pc := 26) (DCa dc_Laws_combined_0 17 rfl) rfl 1 rfl ?_
        refine V_iload_n (pc := 27) (DCa dc_Laws_combined_0 18 rfl) rfl 2 rfl ?_
        refine V_imul (pc := 28) (DCa dc_Laws_combined_0 19 rfl) ?_
        exact V_ireturn (pc := 29) (DCa dc_Laws_combined_0 20 rfl) rfl
      · refine V_iload_n (pc := 30) (DCa dc_Laws_combined_0 21 rfl) rfl 2 rfl ?_
        refine V_if_ne (tgt := 38) (pc := 31) (DCa dc_Laws_combined_0 22 rfl) (by decide) (fun _ => ?_) (fun _ => ?_)
        · refine V_iconst (pc := 34) (DCa dc_Laws_combined_0 23 rfl) (by decide) ?_
          refine V_goto (tgt := 41) (pc := 35) (DCa dc_Laws_combined_0 24 rfl) (by decide) ?_
          exact V_ireturn (pc := 41) (DCa dc_Laws_combined_0 28 rfl) rfl
        · refine V_iload_n (pc := 38) (DCa dc_Laws_combined_0 25 rfl) rfl 1 rfl ?_
          refine V_iload_n (pc := 39) (DCa dc_Laws_combined_0 26 rfl) rfl 2 rfl ?_
          refine Q_idiv (pc := 40) (DCa dc_Laws_combined_0 27 rfl) (fun v1 => ?_)
          exact V_ireturn (pc := 41) (DCa dc_Laws_combined_0 28 rfl) rfl
theorem sp_Laws_combined (F : Nat) (l0 l1 l2 : Int) (h : Hp) : Sp yX0_combined cX0_combined 3 (some (.int)) 1 20 [(0, l0), (0, l1), (0, l2)] h (Laws_combined F l0 l1 l2 h) := Sp_of (by decide +kernel) rfl rfl (Nat.le_of_ble_eq_true rfl) (v_Laws_combined F l0 l1 l2 h)

-- TideRakes$Laws.value
def Laws_value_B131 (F : Nat)  (l0 l3 : Int) (h : Hp) : Option (Int × Hp) :=
  if 0 < l3 then
    (gf h l0 100 3 fun v15 =>
    al h v15 0 (w32 (l3 - 1)) fun v16 =>
    some (v16, h))
  else
    (some (0, h))
def Laws_value_B212 (F : Nat) (R12 : Int → Int → Int → Int → Hp → Option (Int × Hp)) (l0 l2 l3 l4 l5 l7 l8 : Int) (h : Hp) : Option (Int × Hp) :=
  gf h l0 100 3 fun v17 =>
  cl (Laws_combined F l5 l7 l8 h) fun r18 h19 =>
  as h19 v17 0 l3 r18 fun h20 =>
  R12 l0 l2 (w32 (l3 + 1)) (w32 (l4 + 1)) h20
def Laws_value_B95 (F : Nat) (R12 : Int → Int → Int → Int → Hp → Option (Int × Hp)) (l0 l2 l3 l4 l5 l6 : Int) (h : Hp) : Option (Int × Hp) :=
  gf h l0 100 3 fun v21 =>
  if l5 = 1 then
    (as h v21 0 l3 l6 fun h22 =>
    R12 l0 l2 (w32 (l3 + 1)) (w32 (l4 + 1)) h22)
  else
    (gf h l0 100 2 fun v23 =>
    al h v23 0 l6 fun v24 =>
    as h v21 0 l3 v24 fun h25 =>
    R12 l0 l2 (w32 (l3 + 1)) (w32 (l4 + 1)) h25)
def Laws_value_B70 (F : Nat) (R12 : Int → Int → Int → Int → Hp → Option (Int × Hp)) (l0 l2 l3 l4 l5 l6 : Int) (h : Hp) : Option (Int × Hp) :=
  if l3 < 20 then
    (if l6 < 0 then
      (some (0, h))
    else
      (if l5 = 2 then
        (if l6 < 5 then
          (Laws_value_B95 F R12 l0 l2 l3 l4 l5 l6 h)
        else
          (some (0, h)))
      else
        (Laws_value_B95 F R12 l0 l2 l3 l4 l5 l6 h)))
  else
    (some (0, h))
def Laws_value_L12s (F : Nat)  (R12 : Int → Int → Int → Int → Hp → Option (Int × Hp)) (l0 l2 l3 l4 : Int) (h : Hp) : Option (Int × Hp) :=
  if l4 < 450 then
    (if l2 < 0 then
      (some (0, h))
    else
      (gf h l0 100 4 fun v3 =>
      if l2 < v3 then
        (gf h l0 100 0 fun v4 =>
        al h v4 0 l2 fun v5 =>
        lt (iand v5 255) fun x6 =>
        gf h l0 100 0 fun v7 =>
        al h v7 0 l2 fun v8 =>
        lt (ishr v8 8) fun x9 =>
        if x6 = 1 then
          (Laws_value_B70 F R12 l0 (w32 (l2 + 1)) l3 l4 x6 x9 h)
        else
          (if x6 = 2 then
            (Laws_value_B70 F R12 l0 (w32 (l2 + 1)) l3 l4 x6 x9 h)
          else
            (if x6 = 4 then
              (Laws_value_B131 F l0 l3 h)
            else
              (if (w32 (l3 + (-2))) < 0 then
                (some (0, h))
              else
                (gf h l0 100 3 fun v10 =>
                al h v10 0 (w32 (l3 + (-2))) fun v11 =>
                gf h l0 100 3 fun v12 =>
                al h v12 0 (w32 ((w32 (l3 + (-2))) + 1)) fun v13 =>
                if x6 = 3 then
                  (if v11 < v13 then
                    (lt (w32 (l2 + 1)) fun x14 =>
                    R12 l0 x14 (w32 (l3 + (-2))) (w32 (l4 + 1)) h)
                  else
                    (R12 l0 x9 (w32 (l3 + (-2))) (w32 (l4 + 1)) h))
                else
                  (if x6 = 47 then
                    (if v13 = 0 then
                      (some (0, h))
                    else
                      (Laws_value_B212 F R12 l0 (w32 (l2 + 1)) (w32 (l3 + (-2))) l4 x6 v11 v13 h))
                  else
                    (Laws_value_B212 F R12 l0 (w32 (l2 + 1)) (w32 (l3 + (-2))) l4 x6 v11 v13 h)))))))
      else
        (some (0, h))))
  else
    (some (0, h))
def Laws_value_L12 (F : Nat)  : Nat → Int → Int → Int → Int → Hp → Option (Int × Hp)
  | 0 => fun _ _ _ _ _ => none
  | n + 1 => Laws_value_L12s F  (Laws_value_L12 F  n)
def Laws_value (F : Nat) (l0 l1 : Int) (h : Hp) : Option (Int × Hp) :=
  gf h l0 100 1 fun v1 =>
  al h v1 0 l1 fun v2 =>
  Laws_value_L12 F F l0 v2 0 0 h

theorem dc_Laws_value_0 : ∀ q ∈ ([(0, .aload_n 0, 1), (1, .getfield 13, 3), (4, .iload_n 1, 1), (5, .iaload, 1), (6, .istore_n 2, 1), (7, .iconst 0, 1), (8, .istore_n 3, 1), (9, .iconst 0, 1), (10, .istore 4, 2), (12, .iload 4, 2), (14, .sipush 450, 3), (17, .if_icmp .ge 219, 3), (20, .iload_n 2, 1), (21, .ifCond .lt 215, 3), (24, .iload_n 2, 1), (25, .aload_n 0, 1), (26, .getfield 22, 3), (29, .if_icmp .ge 207, 3), (32, .aload_n 0, 1), (33, .getfield 9, 3), (36, .iload_n 2, 1), (37, .iaload, 1), (38, .sipush 255, 3), (41, .iand, 1), (42, .istore 5, 2), (44, .aload_n 0, 1), (45, .getfield 9, 3), (48, .iload_n 2, 1), (49, .iaload, 1), (50, .bipush 8, 2), (52, .ishr, 1), (53, .istore 6, 2), (55, .iinc 2 1, 3), (58, .iload 5, 2), (60, .iconst 1, 1), (61, .if_icmp .eq 9, 3), (64, .iload 5, 2), (66, .iconst 2, 1), (67, .if_icmp .ne 58, 3), (70, .iload_n 3, 1), (71, .bipush 20, 2), (73, .if_icmp .ge 20, 3), (76, .iload 6, 2), (78, .ifCond .lt 15, 3), (81, .iload 5, 2), (83, .iconst 2, 1), (84, .if_icmp .ne 11, 3), (87, .iload 6, 2), (89, .iconst 5, 1), (90, .if_icmp .lt 5, 3)] : List (Nat × Instr × Nat)), decode cX0_value q.1 = .ok (q.2.1, q.2.2) := by decide +kernel
theorem dc_Laws_value_1 : ∀ q ∈ ([(93, .iconst 0, 1), (94, .ireturn, 1), (95, .aload_n 0, 1), (96, .getfield 19, 3), (99, .iload_n 3, 1), (100, .iload 5, 2), (102, .iconst 1, 1), (103, .if_icmp .ne 8, 3), (106, .iload 6, 2), (108, .goto 10, 3), (111, .aload_n 0, 1), (112, .getfield 16, 3), (115, .iload 6, 2), (117, .iaload, 1), (118, .iastore, 1), (119, .iinc 3 1, 3), (122, .goto 108, 3), (125, .iload 5, 2), (127, .iconst 4, 1), (128, .if_icmp .ne 20, 3), (131, .iload_n 3, 1), (132, .ifCond .le 14, 3), (135, .aload_n 0, 1), (136, .getfield 19, 3), (139, .iload_n 3, 1), (140, .iconst 1, 1), (141, .isub, 1), (142, .iaload, 1), (143, .goto 4, 3), (146, .iconst 0, 1), (147, .ireturn, 1), (148, .iinc 3 (-2), 3), (151, .iload_n 3, 1), (152, .ifCond .ge 5, 3), (155, .iconst 0, 1), (156, .ireturn, 1), (157, .aload_n 0, 1), (158, .getfield 19, 3), (161, .iload_n 3, 1), (162, .iaload, 1), (163, .istore 7, 2), (165, .aload_n 0, 1), (166, .getfield 19, 3), (169, .iload_n 3, 1), (170, .iconst 1, 1), (171, .iadd, 1), (172, .iaload, 1), (173, .istore 8, 2), (175, .iload 5, 2), (177, .iconst 3, 1)] : List (Nat × Instr × Nat)), decode cX0_value q.1 = .ok (q.2.1, q.2.2) := by decide +kernel
theorem dc_Laws_value_2 : ∀ q ∈ ([(178, .if_icmp .ne 20, 3), (181, .iload 7, 2), (183, .iload 8, 2), (185, .if_icmp .ge 7, 3), (188, .iload_n 2, 1), (189, .goto 5, 3), (192, .iload 6, 2), (194, .istore_n 2, 1), (195, .goto 35, 3), (198, .iload 5, 2), (200, .bipush 47, 2), (202, .if_icmp .ne 10, 3), (205, .iload 8, 2), (207, .ifCond .ne 5, 3), (210, .iconst 0, 1), (211, .ireturn, 1), (212, .aload_n 0, 1), (213, .getfield 19, 3), (216, .iload_n 3, 1), (217, .iload 5, 2), (219, .iload 7, 2), (221, .iload 8, 2), (223, .invokestatic 58, 3), (226, .iastore, 1), (227, .iinc 3 1, 3), (230, .iinc 4 1, 3), (233, .goto (-221), 3), (236, .iconst 0, 1), (237, .ireturn, 1)] : List (Nat × Instr × Nat)), decode cX0_value q.1 = .ok (q.2.1, q.2.2) := by decide +kernel
abbrev X_Laws_value : MX := (cX0_value, RX0, "value", 9, (some (.int)), 2, 42)
theorem v_Laws_value_B131 (F : Nat)  (l0 l3 : Int) (h : Hp) : V X_Laws_value 131 [(0, 2, l0), (3, 0, l3)] [] h (Laws_value_B131 F  l0 l3 h) := by
  unfold Laws_value_B131
  refine V_iload_n (pc := 131) (DCa dc_Laws_value_1 20 rfl) rfl 1 rfl ?_
  refine V_if_le (tgt := 146) (pc := 132) (DCa dc_Laws_value_1 21 rfl) (by decide) (fun _ => ?_) (fun _ => ?_)
  · refine V_aload_n (pc := 135) (DCa dc_Laws_value_1 22 rfl) rfl 0 rfl ?_
    refine Q_getf (k := 3) (pc := 136) (DCa dc_Laws_value_1 23 rfl) cls_0 (Nat.le_of_ble_eq_true rfl) fl_0_19 rfl rfl rfl (fun v15 => ?_)
    refine V_iload_n (pc := 139) (DCa dc_Laws_value_1 24 rfl) rfl 1 rfl ?_
    refine V_iconst (pc := 140) (DCa dc_Laws_value_1 25 rfl) (by decide) ?_
    refine V_isub (pc := 141) (DCa dc_Laws_value_1 26 rfl) ?_
    refine Q_iaload (pc := 142) (DCa dc_Laws_value_1 27 rfl) (fun v16 => ?_)
    refine V_goto (tgt := 147) (pc := 143) (DCa dc_Laws_value_1 28 rfl) (by decide) ?_
    exact V_ireturn (pc := 147) (DCa dc_Laws_value_1 30 rfl) rfl
  · refine V_iconst (pc := 146) (DCa dc_Laws_value_1 29 rfl) (by decide) ?_
    exact V_ireturn (pc := 147) (DCa dc_Laws_value_1 30 rfl) rfl
theorem v_Laws_value_B212 (F : Nat) (R12 : Int → Int → Int → Int → Hp → Option (Int × Hp)) (hR12 : ∀ (l0 l2 l3 l4 : Int) (h : Hp), V X_Laws_value 12 [(0, 2, l0), (2, 0, l2), (3, 0, l3), (4, 0, l4)] [] h (R12 l0 l2 l3 l4 h)) (l0 l2 l3 l4 l5 l7 l8 : Int) (h : Hp) : V X_Laws_value 212 [(0, 2, l0), (2, 0, l2), (3, 0, l3), (4, 0, l4), (5, 0, l5), (7, 0, l7), (8, 0, l8)] [] h (Laws_value_B212 F R12 l0 l2 l3 l4 l5 l7 l8 h) := by
  unfold Laws_value_B212
  refine V_aload_n (pc := 212) (DCa dc_Laws_value_2 16 rfl) rfl 0 rfl ?_
  refine Q_getf (k := 3) (pc := 213) (DCa dc_Laws_value_2 17 rfl) cls_0 (Nat.le_of_ble_eq_true rfl) fl_0_19 rfl rfl rfl (fun v17 => ?_)
  refine V_iload_n (pc := 216) (DCa dc_Laws_value_2 18 rfl) rfl 2 rfl ?_
  refine V_iload (pc := 217) (DCa dc_Laws_value_2 19 rfl) 4 rfl ?_
  refine V_iload (pc := 219) (DCa dc_Laws_value_2 20 rfl) 5 rfl ?_
  refine V_iload (pc := 221) (DCa dc_Laws_value_2 21 rfl) 6 rfl ?_
  refine Q_calls (st := [(0, l3), (2, v17)]) (pc := 223) (DCa dc_Laws_value_2 22 rfl) (sp_Laws_combined F _ _ _ _) ce_Laws_combined ml_0_58 rfl ⟨Nat.le_of_ble_eq_true rfl, Nat.le_of_ble_eq_true rfl⟩ rfl (Nat.le_of_ble_eq_true rfl) (fun r18 h19 => ?_)
  refine Q_iastore (pc := 226) (DCa dc_Laws_value_2 23 rfl) (fun h20 => ?_)
  refine V_iinc (ls' := [(0, 2, l0), (2, 0, l2), (3, 0, w32 (l3 + 1)), (4, 0, l4), (5, 0, l5), (7, 0, l7), (8, 0, l8)]) (pc := 227) (DCa dc_Laws_value_2 24 rfl) (Nat.le_of_ble_eq_true rfl) (by decide) 2 rfl rfl ?_
  refine V_iinc (ls' := [(0, 2, l0), (2, 0, l2), (3, 0, w32 (l3 + 1)), (4, 0, w32 (l4 + 1)), (5, 0, l5), (7, 0, l7), (8, 0, l8)]) (pc := 230) (DCa dc_Laws_value_2 25 rfl) (Nat.le_of_ble_eq_true rfl) (by decide) 3 rfl rfl ?_
  refine V_goto (tgt := 12) (pc := 233) (DCa dc_Laws_value_2 26 rfl) (by decide) ?_
  refine V_pick [0, 1, 2, 3] rfl ?_
  exact hR12 _ _ _ _ _
theorem v_Laws_value_B95 (F : Nat) (R12 : Int → Int → Int → Int → Hp → Option (Int × Hp)) (hR12 : ∀ (l0 l2 l3 l4 : Int) (h : Hp), V X_Laws_value 12 [(0, 2, l0), (2, 0, l2), (3, 0, l3), (4, 0, l4)] [] h (R12 l0 l2 l3 l4 h)) (l0 l2 l3 l4 l5 l6 : Int) (h : Hp) : V X_Laws_value 95 [(0, 2, l0), (2, 0, l2), (3, 0, l3), (4, 0, l4), (5, 0, l5), (6, 0, l6)] [] h (Laws_value_B95 F R12 l0 l2 l3 l4 l5 l6 h) := by
  unfold Laws_value_B95
  refine V_aload_n (pc := 95) (DCa dc_Laws_value_1 2 rfl) rfl 0 rfl ?_
  refine Q_getf (k := 3) (pc := 96) (DCa dc_Laws_value_1 3 rfl) cls_0 (Nat.le_of_ble_eq_true rfl) fl_0_19 rfl rfl rfl (fun v21 => ?_)
  refine V_iload_n (pc := 99) (DCa dc_Laws_value_1 4 rfl) rfl 2 rfl ?_
  refine V_iload (pc := 100) (DCa dc_Laws_value_1 5 rfl) 4 rfl ?_
  refine V_iconst (pc := 102) (DCa dc_Laws_value_1 6 rfl) (by decide) ?_
  refine V_icmp_ne (tgt := 111) (pc := 103) (DCa dc_Laws_value_1 7 rfl) (by decide) (fun _ => ?_) (fun _ => ?_)
  · refine V_iload (pc := 106) (DCa dc_Laws_value_1 8 rfl) 5 rfl ?_
    refine V_goto (tgt := 118) (pc := 108) (DCa dc_Laws_value_1 9 rfl) (by decide) ?_
    refine Q_iastore (pc := 118) (DCa dc_Laws_value_1 14 rfl) (fun h22 => ?_)
    refine V_iinc (ls' := [(0, 2, l0), (2, 0, l2), (3, 0, w32 (l3 + 1)), (4, 0, l4), (5, 0, l5), (6, 0, l6)]) (pc := 119) (DCa dc_Laws_value_1 15 rfl) (Nat.le_of_ble_eq_true rfl) (by decide) 2 rfl rfl ?_
    refine V_goto (tgt := 230) (pc := 122) (DCa dc_Laws_value_1 16 rfl) (by decide) ?_
    refine V_iinc (ls' := [(0, 2, l0), (2, 0, l2), (3, 0, w32 (l3 + 1)), (4, 0, w32 (l4 + 1)), (5, 0, l5), (6, 0, l6)]) (pc := 230) (DCa dc_Laws_value_2 25 rfl) (Nat.le_of_ble_eq_true rfl) (by decide) 3 rfl rfl ?_
    refine V_goto (tgt := 12) (pc := 233) (DCa dc_Laws_value_2 26 rfl) (by decide) ?_
    refine V_pick [0, 1, 2, 3] rfl ?_
    exact hR12 _ _ _ _ _
  · refine V_aload_n (pc := 111) (DCa dc_Laws_value_1 10 rfl) rfl 0 rfl ?_
    refine Q_getf (k := 2) (pc := 112) (DCa dc_Laws_value_1 11 rfl) cls_0 (Nat.le_of_ble_eq_true rfl) fl_0_16 rfl rfl rfl (fun v23 => ?_)
    refine V_iload (pc := 115) (DCa dc_Laws_value_1 12 rfl) 5 rfl ?_
    refine Q_iaload (pc := 117) (DCa dc_Laws_value_1 13 rfl) (fun v24 => ?_)
    refine Q_iastore (pc := 118) (DCa dc_Laws_value_1 14 rfl) (fun h25 => ?_)
    refine V_iinc (ls' := [(0, 2, l0), (2, 0, l2), (3, 0, w32 (l3 + 1)), (4, 0, l4), (5, 0, l5), (6, 0, l6)]) (pc := 119) (DCa dc_Laws_value_1 15 rfl) (Nat.le_of_ble_eq_true rfl) (by decide) 2 rfl rfl ?_
    refine V_goto (tgt := 230) (pc := 122) (DCa dc_Laws_value_1 16 rfl) (by decide) ?_
    refine V_iinc (ls' := [(0, 2, l0), (2, 0, l2), (3, 0, w32 (l3 + 1)), (4, 0, w32 (l4 + 1)), (5, 0, l5), (6, 0, l6)]) (pc := 230) (DCa dc_Laws_value_2 25 rfl) (Nat.le_of_ble_eq_true rfl) (by decide) 3 rfl rfl ?_
    refine V_goto (tgt := 12) (pc := 233) (DCa dc_Laws_value_2 26 rfl) (by decide) ?_
    refine V_pick [0, 1, 2, 3] rfl ?_
    exact hR12 _ _ _ _ _
theorem v_Laws_value_B70 (F : Nat) (R12 : Int → Int → Int → Int → Hp → Option (Int × Hp)) (hR12 : ∀ (l0 l2 l3 l4 : Int) (h : Hp), V X_Laws_value 12 [(0, 2, l0), (2, 0, l2), (3, 0, l3), (4, 0, l4)] [] h (R12 l0 l2 l3 l4 h)) (l0 l2 l3 l4 l5 l6 : Int) (h : Hp) : V X_Laws_value 70 [(0, 2, l0), (2, 0, l2), (3, 0, l3), (4, 0, l4), (5, 0, l5), (6, 0, l6)] [] h (Laws_value_B70 F R12 l0 l2 l3 l4 l5 l6 h) := by
  unfold Laws_value_B70
  refine V_iload_n (pc := 70) (DCa dc_Laws_value_0 39 rfl) rfl 2 rfl ?_
  refine V_bipush (pc := 71) (DCa dc_Laws_value_0 40 rfl) (by decide) ?_
  refine V_icmp_ge (tgt := 93) (pc := 73) (DCa dc_Laws_value_0 41 rfl) (by decide) (fun _ => ?_) (fun _ => ?_)
  · refine V_iload (pc := 76) (DCa dc_Laws_value_0 42 rfl) 5 rfl ?_
    refine V_if_lt (tgt := 93) (pc := 78) (DCa dc_Laws_value_0 43 rfl) (by decide) (fun _ => ?_) (fun _ => ?_)
    · refine V_iconst (pc := 93) (DCa dc_Laws_value_1 0 rfl) (by decide) ?_
      exact V_ireturn (pc := 94) (DCa dc_Laws_value_1 1 rfl) rfl
    · refine V_iload (pc := 81) (DCa dc_Laws_value_0 44 rfl) 4 rfl ?_
      refine V_iconst (pc := 83) (DCa dc_Laws_value_0 45 rfl) (by decide) ?_
      refine V_icmp_ne (tgt := 95) (pc := 84) (DCa dc_Laws_value_0 46 rfl) (by decide) (fun _ => ?_) (fun _ => ?_)
      · refine V_iload (pc := 87) (DCa dc_Laws_value_0 47 rfl) 5 rfl ?_
        refine V_iconst (pc := 89) (DCa dc_Laws_value_0 48 rfl) (by decide) ?_
        refine V_icmp_lt (tgt := 95) (pc := 90) (DCa dc_Laws_value_0 49 rfl) (by decide) (fun _ => ?_) (fun _ => ?_)
        · exact v_Laws_value_B95 F R12 hR12 _ _ _ _ _ _ _
        · refine V_iconst (pc := 93) (DCa dc_Laws_value_1 0 rfl) (by decide) ?_
          exact V_ireturn (pc := 94) (DCa dc_Laws_value_1 1 rfl) rfl
      · exact v_Laws_value_B95 F R12 hR12 _ _ _ _ _ _ _
  · refine V_iconst (pc := 93) (DCa dc_Laws_value_1 0 rfl) (by decide) ?_
    exact V_ireturn (pc := 94) (DCa dc_Laws_value_1 1 rfl) rfl
theorem v_Laws_value_L12s (F : Nat)  (R12 : Int → Int → Int → Int → Hp → Option (Int × Hp)) (hR12 : ∀ (l0 l2 l3 l4 : Int) (h : Hp), V X_Laws_value 12 [(0, 2, l0), (2, 0, l2), (3, 0, l3), (4, 0, l4)] [] h (R12 l0 l2 l3 l4 h)) (l0 l2 l3 l4 : Int) (h : Hp) : V X_Laws_value 12 [(0, 2, l0), (2, 0, l2), (3, 0, l3), (4, 0, l4)] [] h (Laws_value_L12s F  R12 l0 l2 l3 l4 h) := by
  unfold Laws_value_L12s
  refine V_iload (pc := 12) (DCa dc_Laws_value_0 9 rfl) 3 rfl ?_
  refine V_sipush (pc := 14) (DCa dc_Laws_value_0 10 rfl) (by decide) ?_
  refine V_icmp_ge (tgt := 236) (pc := 17) (DCa dc_Laws_value_0 11 rfl) (by decide) (fun _ => ?_) (fun _ => ?_)
  · refine V_iload_n (pc := 20) (DCa dc_Laws_value_0 12 rfl) rfl 1 rfl ?_
    refine V_if_lt (tgt := 236) (pc := 21) (DCa dc_Laws_value_0 13 rfl) (by decide) (fun _ => ?_) (fun _ => ?_)
    · refine V_iconst (pc := 236) (DCa dc_Laws_value_2 27 rfl) (by decide) ?_
      exact V_ireturn (pc := 237) (DCa dc_Laws_value_2 28 rfl) rfl
    · refine V_iload_n (pc := 24) (DCa dc_Laws_value_0 14 rfl) rfl 1 rfl ?_
      refine V_aload_n (pc := 25) (DCa dc_Laws_value_0 15 rfl) rfl 0 rfl ?_
      refine Q_getf (k := 4) (pc := 26) (DCa dc_Laws_value_0 16 rfl) cls_0 (Nat.le_of_ble_eq_true rfl) fl_0_22 rfl rfl rfl (fun v3 => ?_)
      refine V_icmp_ge (tgt := 236) (pc := 29) (DCa dc_Laws_value_0 17 rfl) (by decide) (fun _ => ?_) (fun _ => ?_)
      · refine V_aload_n (pc := 32) (DCa dc_Laws_value_0 18 rfl) rfl 0 rfl ?_
        refine Q_getf (k := 0) (pc := 33) (DCa dc_Laws_value_0 19 rfl) cls_0 (Nat.le_of_ble_eq_true rfl) fl_0_9 rfl rfl rfl (fun v4 => ?_)
        refine V_iload_n (pc := 36) (DCa dc_Laws_value_0 20 rfl) rfl 1 rfl ?_
        refine Q_iaload (pc := 37) (DCa dc_Laws_value_0 21 rfl) (fun v5 => ?_)
        refine V_sipush (pc := 38) (DCa dc_Laws_value_0 22 rfl) (by decide) ?_
        refine V_iand (pc := 41) (DCa dc_Laws_value_0 23 rfl) ?_
        refine Q_lt (fun x6 => ?_)
        refine V_istore (ls' := [(0, 2, l0), (2, 0, l2), (3, 0, l3), (4, 0, l4), (5, 0, x6)]) (pc := 42) (DCa dc_Laws_value_0 24 rfl) (Nat.le_of_ble_eq_true rfl) rfl ?_
        refine V_aload_n (pc := 44) (DCa dc_Laws_value_0 25 rfl) rfl 0 rfl ?_
        refine Q_getf (k := 0) (pc := 45) (DCa dc_Laws_value_0 26 rfl) cls_0 (Nat.le_of_ble_eq_true rfl) fl_0_9 rfl rfl rfl (fun v7 => ?_)
        refine V_iload_n (pc := 48) (DCa dc_Laws_value_0 27 rfl) rfl 1 rfl ?_
        refine Q_iaload (pc := 49) (DCa dc_Laws_value_0 28 rfl) (fun v8 => ?_)
        refine V_bipush (pc := 50) (DCa dc_Laws_value_0 29 rfl) (by decide) ?_
        refine V_ishr (pc := 52) (DCa dc_Laws_value_0 30 rfl) ?_
        refine Q_lt (fun x9 => ?_)
        refine V_istore (ls' := [(0, 2, l0), (2, 0, l2), (3, 0, l3), (4, 0, l4), (5, 0, x6), (6, 0, x9)]) (pc := 53) (DCa dc_Laws_value_0 31 rfl) (Nat.le_of_ble_eq_true rfl) rfl ?_
        refine V_iinc (ls' := [(0, 2, l0), (2, 0, w32 (l2 + 1)), (3, 0, l3), (4, 0, l4), (5, 0, x6), (6, 0, x9)]) (pc := 55) (DCa dc_Laws_value_0 32 rfl) (Nat.le_of_ble_eq_true rfl) (by decide) 1 rfl rfl ?_
        refine V_iload (pc := 58) (DCa dc_Laws_value_0 33 rfl) 4 rfl ?_
        refine V_iconst (pc := 60) (DCa dc_Laws_value_0 34 rfl) (by decide) ?_
        refine V_icmp_eq (tgt := 70) (pc := 61) (DCa dc_Laws_value_0 35 rfl) (by decide) (fun _ => ?_) (fun _ => ?_)
        · exact v_Laws_value_B70 F R12 hR12 _ _ _ _ _ _ _
        · refine V_iload (pc := 64) (DCa dc_Laws_value_0 36 rfl) 4 rfl ?_
          refine V_iconst (pc := 66) (DCa dc_Laws_value_0 37 rfl) (by decide) ?_
          refine V_icmp_ne (tgt := 125) (pc := 67) (DCa dc_Laws_value_0 38 rfl) (by decide) (fun _ => ?_) (fun _ => ?_)
          · exact v_Laws_value_B70 F R12 hR12 _ _ _ _ _ _ _
          · refine V_iload (pc := 125) (DCa dc_Laws_value_1 17 rfl) 4 rfl ?_
            refine V_iconst (pc := 127) (DCa dc_Laws_value_1 18 rfl) (by decide) ?_
            refine V_icmp_ne (tgt := 148) (pc := 128) (DCa dc_Laws_value_1 19 rfl) (by decide) (fun _ => ?_) (fun _ => ?_)
            · refine V_pick [0, 2] rfl ?_
              exact v_Laws_value_B131 F _ _ _
            · refine V_iinc (ls' := [(0, 2, l0), (2, 0, w32 (l2 + 1)), (3, 0, w32 (l3 + (-2))), (4, 0, l4), (5, 0, x6), (6, 0, x9)]) (pc := 148) (DCa dc_Laws_value_1 31 rfl) (Nat.le_of_ble_eq_true rfl) (by decide) 2 rfl rfl ?_
              refine V_iload_n (pc := 151) (DCa dc_Laws_value_1 32 rfl) rfl 2 rfl ?_
              refine V_if_ge (tgt := 157) (pc := 152) (DCa dc_Laws_value_1 33 rfl) (by decide) (fun _ => ?_) (fun _ => ?_)
              · refine V_iconst (pc := 155) (DCa dc_Laws_value_1 34 rfl) (by decide) ?_
                exact V_ireturn (pc := 156) (DCa dc_Laws_value_1 35 rfl) rfl
              · refine V_aload_n (pc := 157) (DCa dc_Laws_value_1 36 rfl) rfl 0 rfl ?_
                refine Q_getf (k := 3) (pc := 158) (DCa dc_Laws_value_1 37 rfl) cls_0 (Nat.le_of_ble_eq_true rfl) fl_0_19 rfl rfl rfl (fun v10 => ?_)
                refine V_iload_n (pc := 161) (DCa dc_Laws_value_1 38 rfl) rfl 2 rfl ?_
                refine Q_iaload (pc := 162) (DCa dc_Laws_value_1 39 rfl) (fun v11 => ?_)
                refine V_istore (ls' := [(0, 2, l0), (2, 0, w32 (l2 + 1)), (3, 0, w32 (l3 + (-2))), (4, 0, l4), (5, 0, x6), (6, 0, x9), (7, 0, v11)]) (pc := 163) (DCa dc_Laws_value_1 40 rfl) (Nat.le_of_ble_eq_true rfl) rfl ?_
                refine V_aload_n (pc := 165) (DCa dc_Laws_value_1 41 rfl) rfl 0 rfl ?_
                refine Q_getf (k := 3) (pc := 166) (DCa dc_Laws_value_1 42 rfl) cls_0 (Nat.le_of_ble_eq_true rfl) fl_0_19 rfl rfl rfl (fun v12 => ?_)
                refine V_iload_n (pc := 169) (DCa dc_Laws_value_1 43 rfl) rfl 2 rfl ?_
                refine V_iconst (pc := 170) (DCa dc_Laws_value_1 44 rfl) (by decide) ?_
                refine V_iadd (pc := 171) (DCa dc_Laws_value_1 45 rfl) ?_
                refine Q_iaload (pc := 172) (DCa dc_Laws_value_1 46 rfl) (fun v13 => ?_)
                refine V_istore (ls' := [(0, 2, l0), (2, 0, w32 (l2 + 1)), (3, 0, w32 (l3 + (-2))), (4, 0, l4), (5, 0, x6), (6, 0, x9), (7, 0, v11), (8, 0, v13)]) (pc := 173) (DCa dc_Laws_value_1 47 rfl) (Nat.le_of_ble_eq_true rfl) rfl ?_
                refine V_iload (pc := 175) (DCa dc_Laws_value_1 48 rfl) 4 rfl ?_
                refine V_iconst (pc := 177) (DCa dc_Laws_value_1 49 rfl) (by decide) ?_
                refine V_icmp_ne (tgt := 198) (pc := 178) (DCa dc_Laws_value_2 0 rfl) (by decide) (fun _ => ?_) (fun _ => ?_)
                · refine V_iload (pc := 181) (DCa dc_Laws_value_2 1 rfl) 6 rfl ?_
                  refine V_iload (pc := 183) (DCa dc_Laws_value_2 2 rfl) 7 rfl ?_
                  refine V_icmp_ge (tgt := 192) (pc := 185) (DCa dc_Laws_value_2 3 rfl) (by decide) (fun _ => ?_) (fun _ => ?_)
                  · refine V_iload_n (pc := 188) (DCa dc_Laws_value_2 4 rfl) rfl 1 rfl ?_
                    refine V_goto (tgt := 194) (pc := 189) (DCa dc_Laws_value_2 5 rfl) (by decide) ?_
                    refine Q_lt (fun x14 => ?_)
                    refine V_istore_n (ls' := [(0, 2, l0), (2, 0, x14), (3, 0, w32 (l3 + (-2))), (4, 0, l4), (5, 0, x6), (6, 0, x9), (7, 0, v11), (8, 0, v13)]) (pc := 194) (DCa dc_Laws_value_2 7 rfl) rfl (Nat.le_of_ble_eq_true rfl) rfl ?_
                    refine V_goto (tgt := 230) (pc := 195) (DCa dc_Laws_value_2 8 rfl) (by decide) ?_
                    refine V_iinc (ls' := [(0, 2, l0), (2, 0, x14), (3, 0, w32 (l3 + (-2))), (4, 0, w32 (l4 + 1)), (5, 0, x6), (6, 0, x9), (7, 0, v11), (8, 0, v13)]) (pc := 230) (DCa dc_Laws_value_2 25 rfl) (Nat.le_of_ble_eq_true rfl) (by decide) 3 rfl rfl ?_
                    refine V_goto (tgt := 12) (pc := 233) (DCa dc_Laws_value_2 26 rfl) (by decide) ?_
                    refine V_pick [0, 1, 2, 3] rfl ?_
                    exact hR12 _ _ _ _ _
                  · refine V_iload (pc := 192) (DCa dc_Laws_value_2 6 rfl) 5 rfl ?_
                    refine V_istore_n (ls' := [(0, 2, l0), (2, 0, x9), (3, 0, w32 (l3 + (-2))), (4, 0, l4), (5, 0, x6), (6, 0, x9), (7, 0, v11), (8, 0, v13)]) (pc := 194) (DCa dc_Laws_value_2 7 rfl) rfl (Nat.le_of_ble_eq_true rfl) rfl ?_
                    refine V_goto (tgt := 230) (pc := 195) (DCa dc_Laws_value_2 8 rfl) (by decide) ?_
                    refine V_iinc (ls' := [(0, 2, l0), (2, 0, x9), (3, 0, w32 (l3 + (-2))), (4, 0, w32 (l4 + 1)), (5, 0, x6), (6, 0, x9), (7, 0, v11), (8, 0, v13)]) (pc := 230) (DCa dc_Laws_value_2 25 rfl) (Nat.le_of_ble_eq_true rfl) (by decide) 3 rfl rfl ?_
                    refine V_goto (tgt := 12) (pc := 233) (DCa dc_Laws_value_2 26 rfl) (by decide) ?_
                    refine V_pick [0, 1, 2, 3] rfl ?_
                    exact hR12 _ _ _ _ _
                · refine V_iload (pc := 198) (DCa dc_Laws_value_2 9 rfl) 4 rfl ?_
                  refine V_bipush (pc := 200) (DCa dc_Laws_value_2 10 rfl) (by decide) ?_
                  refine V_icmp_ne (tgt := 212) (pc := 202) (DCa dc_Laws_value_2 11 rfl) (by decide) (fun _ => ?_) (fun _ => ?_)
                  · refine V_iload (pc := 205) (DCa dc_Laws_value_2 12 rfl) 7 rfl ?_
                    refine V_if_ne (tgt := 212) (pc := 207) (DCa dc_Laws_value_2 13 rfl) (by decide) (fun _ => ?_) (fun _ => ?_)
                    · refine V_iconst (pc := 210) (DCa dc_Laws_value_2 14 rfl) (by decide) ?_
                      exact V_ireturn (pc := 211) (DCa dc_Laws_value_2 15 rfl) rfl
                    · refine V_pick [0, 1, 2, 3, 4, 6, 7] rfl ?_
                      exact v_Laws_value_B212 F R12 hR12 _ _ _ _ _ _ _ _
                  · refine V_pick [0, 1, 2, 3, 4, 6, 7] rfl ?_
                    exact v_Laws_value_B212 F R12 hR12 _ _ _ _ _ _ _ _
      · refine V_iconst (pc := 236) (DCa dc_Laws_value_2 27 rfl) (by decide) ?_
        exact V_ireturn (pc := 237) (DCa dc_Laws_value_2 28 rfl) rfl
  · refine V_iconst (pc := 236) (DCa dc_Laws_value_2 27 rfl) (by decide) ?_
    exact V_ireturn (pc := 237) (DCa dc_Laws_value_2 28 rfl) rfl
theorem v_Laws_value_L12 (F : Nat)  (n : Nat) : ∀ (l0 l2 l3 l4 : Int) (h : Hp), V X_Laws_value 12 [(0, 2, l0), (2, 0, l2), (3, 0, l3), (4, 0, l4)] [] h (Laws_value_L12 F  n l0 l2 l3 l4 h) := by
  induction n with
  | zero => intros; exact V_none
  | succ n ih => exact fun l0 l2 l3 l4 h => v_Laws_value_L12s F  _ ih l0 l2 l3 l4 h
theorem v_Laws_value (F : Nat) (l0 l1 : Int) (h : Hp) : V X_Laws_value 0 [(0, 2, l0), (1, 0, l1)] [] h (Laws_value F l0 l1 h) := by
  unfold Laws_value
  refine V_aload_n (pc := 0) (DCa dc_Laws_value_0 0 rfl) rfl 0 rfl ?_
  refine Q_getf (k := 1) (pc := 1) (DCa dc_Laws_value_0 1 rfl) cls_0 (Nat.le_of_ble_eq_true rfl) fl_0_13 rfl rfl rfl (fun v1 => ?_)
  refine V_iload_n (pc := 4) (DCa dc_Laws_value_0 2 rfl) rfl 1 rfl ?_
  refine Q_iaload (pc := 5) (DCa dc_Laws_value_0 3 rfl) (fun v2 => ?_)
  refine V_istore_n (ls' := [(0, 2, l0), (1, 0, l1), (2, 0, v2)]) (pc := 6) (DCa dc_Laws_value_0 4 rfl) rfl (Nat.le_of_ble_eq_true rfl) rfl ?_
  refine V_iconst (pc := 7) (DCa dc_Laws_value_0 5 rfl) (by decide) ?_
  refine V_istore_n (ls' := [(0, 2, l0), (1, 0, l1), (2, 0, v2), (3, 0, 0)]) (pc := 8) (DCa dc_Laws_value_0 6 rfl) rfl (Nat.le_of_ble_eq_true rfl) rfl ?_
  refine V_iconst (pc := 9) (DCa dc_Laws_value_0 7 rfl) (by decide) ?_
  refine V_istore (ls' := [(0, 2, l0), (1, 0, l1), (2, 0, v2), (3, 0, 0), (4, 0, 0)]) (pc := 10) (DCa dc_Laws_value_0 8 rfl) (Nat.le_of_ble_eq_true rfl) rfl ?_
  refine V_pick [0, 2, 3, 4] rfl ?_
  exact v_Laws_value_L12 F F _ _ _ _ _
theorem sp_Laws_value (F : Nat) (l0 l1 : Int) (h : Hp) : Sp yX0_value cX0_value 9 (some (.int)) 2 42 [(2, l0), (0, l1)] h (Laws_value F l0 l1 h) := Sp_of (by decide +kernel) rfl rfl (Nat.le_of_ble_eq_true rfl) (v_Laws_value F l0 l1 h)

-- TideRakes$Laws.within
def Laws_within (F : Nat) (l0 l1 l2 : Int) (h : Hp) : Option (Int × Hp) :=
  lt (imin l1 l2) fun r1 =>
  lt (imax l0 r1) fun r2 =>
  some (r2, h)

theorem dc_Laws_within_0 : ∀ q ∈ ([(0, .iload_n 0, 1), (1, .iload_n 1, 1), (2, .iload_n 2, 1), (3, .invokestatic 50, 3), (6, .invokestatic 55, 3), (9, .ireturn, 1)] : List (Nat × Instr × Nat)), decode cX0_within q.1 = .ok (q.2.1, q.2.2) := by decide +kernel
abbrev X_Laws_within : MX := (cX0_within, RX0, "within", 3, (some (.int)), 1, 20)
theorem v_Laws_within (F : Nat) (l0 l1 l2 : Int) (h : Hp) : V X_Laws_within 0 [(0, 0, l0), (1, 0, l1), (2, 0, l2)] [] h (Laws_within F l0 l1 l2 h) := by
  unfold Laws_within
  refine V_iload_n (pc := 0) (DCa dc_Laws_within_0 0 rfl) rfl 0 rfl ?_
  refine V_iload_n (pc := 1) (DCa dc_Laws_within_0 1 rfl) rfl 1 rfl ?_
  refine V_iload_n (pc := 2) (DCa dc_Laws_within_0 2 rfl) rfl 2 rfl ?_
  refine V_mmin (pc := 3) (DCa dc_Laws_within_0 3 rfl) (tb3 102 rfl rfl) mt_smin mt_i mt_cmin ⟨Nat.le_of_ble_eq_true rfl, Nat.le_of_ble_eq_true rfl⟩ ?_
  refine Q_lt (fun r1 => ?_)
  refine V_mmax (pc := 6) (DCa dc_Laws_within_0 4 rfl) (tb3 105 rfl rfl) mt_smax mt_i mt_cmax ⟨Nat.le_of_ble_eq_true rfl, Nat.le_of_ble_eq_true rfl⟩ ?_
  refine Q_lt (fun r2 => ?_)
  exact V_ireturn (pc := 9) (DCa dc_Laws_within_0 5 rfl) rfl
theorem sp_Laws_within (F : Nat) (l0 l1 l2 : Int) (h : Hp) : Sp yX0_within cX0_within 3 (some (.int)) 1 20 [(0, l0), (0, l1), (0, l2)] h (Laws_within F l0 l1 l2 h) := Sp_of (by decide +kernel) rfl rfl (Nat.le_of_ble_eq_true rfl) (v_Laws_within F l0 l1 l2 h)

-- TideRakes$Laws.high
def Laws_high (F : Nat) (l0 l1 l2 : Int) (h : Hp) : Option (Int × Hp) :=
  iv h l0 100 (Laws_setVariables F l0 l1 l2 0 0 0 h) fun r1 h2 =>
  iv h2 l0 100 (Laws_value F l0 0 h2) fun r3 h4 =>
  cl (Laws_within F (-9999) r3 9999 h4) fun r5 h6 =>
  some (r5, h6)

theorem dc_Laws_high_0 : ∀ q ∈ ([(0, .aload_n 0, 1), (1, .iload_n 1, 1), (2, .iload_n 2, 1), (3, .iconst 0, 1), (4, .iconst 0, 1), (5, .iconst 0, 1), (6, .invokevirtual 38, 3), (9, .sipush (-9999), 3), (12, .aload_n 0, 1), (13, .iconst 0, 1), (14, .invokevirtual 42, 3), (17, .sipush 9999, 3), (20, .invokestatic 46, 3), (23, .ireturn, 1)] : List (Nat × Instr × Nat)), decode cX0_high q.1 = .ok (q.2.1, q.2.2) := by decide +kernel
abbrev X_Laws_high : MX := (cX0_high, RX0, "high", 3, (some (.int)), 3, 70)
theorem v_Laws_high (F : Nat) (l0 l1 l2 : Int) (h : Hp) : V X_Laws_high 0 [(0, 2, l0), (1, 0, l1), (2, 0, l2)] [] h (Laws_high F l0 l1 l2 h) := by
  unfold Laws_high
  refine V_aload_n (pc := 0) (DCa dc_Laws_high_0 0 rfl) rfl 0 rfl ?_
  refine V_iload_n (pc := 1) (DCa dc_Laws_high_0 1 rfl) rfl 1 rfl ?_
  refine V_iload_n (pc := 2) (DCa dc_Laws_high_0 2 rfl) rfl 2 rfl ?_
  refine V_iconst (pc := 3) (DCa dc_Laws_high_0 3 rfl) (by decide) ?_
  refine V_iconst (pc := 4) (DCa dc_Laws_high_0 4 rfl) (by decide) ?_
  refine V_iconst (pc := 5) (DCa dc_Laws_high_0 5 rfl) (by decide) ?_
  refine Q_callv (ci := 0) (st := []) (pc := 6) (DCa dc_Laws_high_0 6 rfl) (sp_Laws_setVariables F _ _ _ _ _ _ _) ce_Laws_setVariables ml_0_38 rfl rfl ⟨Nat.le_of_ble_eq_true rfl, Nat.le_of_ble_eq_true rfl⟩ rfl (Nat.le_of_ble_eq_true rfl) (fun r1 h2 => ?_)
  refine V_sipush (pc := 9) (DCa dc_Laws_high_0 7 rfl) (by decide) ?_
  refine V_aload_n (pc := 12) (DCa dc_Laws_high_0 8 rfl) rfl 0 rfl ?_
  refine V_iconst (pc := 13) (DCa dc_Laws_high_0 9 rfl) (by decide) ?_
  refine Q_callv (ci := 0) (st := [(0, (-9999))]) (pc := 14) (DCa dc_Laws_high_0 10 rfl) (sp_Laws_value F _ _ _) ce_Laws_value ml_0_42 rfl rfl ⟨Nat.le_of_ble_eq_true rfl, Nat.le_of_ble_eq_true rfl⟩ rfl (Nat.le_of_ble_eq_true rfl) (fun r3 h4 => ?_)
  refine V_sipush (pc := 17) (DCa dc_Laws_high_0 11 rfl) (by decide) ?_
  refine Q_calls (st := []) (pc := 20) (DCa dc_Laws_high_0 12 rfl) (sp_Laws_within F _ _ _ _) ce_Laws_within ml_0_46 rfl ⟨Nat.le_of_ble_eq_true rfl, Nat.le_of_ble_eq_true rfl⟩ rfl (Nat.le_of_ble_eq_true rfl) (fun r5 h6 => ?_)
  exact V_ireturn (pc := 23) (DCa dc_Laws_high_0 13 rfl) rfl
theorem sp_Laws_high (F : Nat) (l0 l1 l2 : Int) (h : Hp) : Sp yX0_high cX0_high 3 (some (.int)) 3 70 [(2, l0), (0, l1), (0, l2)] h (Laws_high F l0 l1 l2 h) := Sp_of (by decide +kernel) rfl rfl (Nat.le_of_ble_eq_true rfl) (v_Laws_high F l0 l1 l2 h)

-- TideRakes$Laws.tide
def Laws_tide (F : Nat) (l0 l1 : Int) (h : Hp) : Option (Int × Hp) :=
  iv h l0 100 (Laws_setVariables F l0 0 0 l1 0 0 h) fun r1 h2 =>
  iv h2 l0 100 (Laws_value F l0 1 h2) fun r3 h4 =>
  cl (Laws_within F (-9999) r3 9999 h4) fun r5 h6 =>
  some (r5, h6)

theorem dc_Laws_tide_0 : ∀ q ∈ ([(0, .aload_n 0, 1), (1, .iconst 0, 1), (2, .iconst 0, 1), (3, .iload_n 1, 1), (4, .iconst 0, 1), (5, .iconst 0, 1), (6, .invokevirtual 38, 3), (9, .sipush (-9999), 3), (12, .aload_n 0, 1), (13, .iconst 1, 1), (14, .invokevirtual 42, 3), (17, .sipush 9999, 3), (20, .invokestatic 46, 3), (23, .ireturn, 1)] : List (Nat × Instr × Nat)), decode cX0_tide q.1 = .ok (q.2.1, q.2.2) := by decide +kernel
abbrev X_Laws_tide : MX := (cX0_tide, RX0, "tide", 2, (some (.int)), 3, 70)
theorem v_Laws_tide (F : Nat) (l0 l1 : Int) (h : Hp) : V X_Laws_tide 0 [(0, 2, l0), (1, 0, l1)] [] h (Laws_tide F l0 l1 h) := by
  unfold Laws_tide
  refine V_aload_n (pc := 0) (DCa dc_Laws_tide_0 0 rfl) rfl 0 rfl ?_
  refine V_iconst (pc := 1) (DCa dc_Laws_tide_0 1 rfl) (by decide) ?_
  refine V_iconst (pc := 2) (DCa dc_Laws_tide_0 2 rfl) (by decide) ?_
  refine V_iload_n (pc := 3) (DCa dc_Laws_tide_0 3 rfl) rfl 1 rfl ?_
  refine V_iconst (pc := 4) (DCa dc_Laws_tide_0 4 rfl) (by decide) ?_
  refine V_iconst (pc := 5) (DCa dc_Laws_tide_0 5 rfl) (by decide) ?_
  refine Q_callv (ci := 0) (st := []) (pc := 6) (DCa dc_Laws_tide_0 6 rfl) (sp_Laws_setVariables F _ _ _ _ _ _ _) ce_Laws_setVariables ml_0_38 rfl rfl ⟨Nat.le_of_ble_eq_true rfl, Nat.le_of_ble_eq_true rfl⟩ rfl (Nat.le_of_ble_eq_true rfl) (fun r1 h2 => ?_)
  refine V_sipush (pc := 9) (DCa dc_Laws_tide_0 7 rfl) (by decide) ?_
  refine V_aload_n (pc := 12) (DCa dc_Laws_tide_0 8 rfl) rfl 0 rfl ?_
  refine V_iconst (pc := 13) (DCa dc_Laws_tide_0 9 rfl) (by decide) ?_
  refine Q_callv (ci := 0) (st := [(0, (-9999))]) (pc := 14) (DCa dc_Laws_tide_0 10 rfl) (sp_Laws_value F _ _ _) ce_Laws_value ml_0_42 rfl rfl ⟨Nat.le_of_ble_eq_true rfl, Nat.le_of_ble_eq_true rfl⟩ rfl (Nat.le_of_ble_eq_true rfl) (fun r3 h4 => ?_)
  refine V_sipush (pc := 17) (DCa dc_Laws_tide_0 11 rfl) (by decide) ?_
  refine Q_calls (st := []) (pc := 20) (DCa dc_Laws_tide_0 12 rfl) (sp_Laws_within F _ _ _ _) ce_Laws_within ml_0_46 rfl ⟨Nat.le_of_ble_eq_true rfl, Nat.le_of_ble_eq_true rfl⟩ rfl (Nat.le_of_ble_eq_true rfl) (fun r5 h6 => ?_)
  exact V_ireturn (pc := 23) (DCa dc_Laws_tide_0 13 rfl) rfl
theorem sp_Laws_tide (F : Nat) (l0 l1 : Int) (h : Hp) : Sp yX0_tide cX0_tide 2 (some (.int)) 3 70 [(2, l0), (0, l1)] h (Laws_tide F l0 l1 h) := Sp_of (by decide +kernel) rfl rfl (Nat.le_of_ble_eq_true rfl) (v_Laws_tide F l0 l1 h)

-- TideRakes$Laws.sun
def Laws_sun (F : Nat) (l0 l1 : Int) (h : Hp) : Option (Int × Hp) :=
  iv h l0 100 (Laws_setVariables F l0 0 0 l1 0 0 h) fun r1 h2 =>
  iv h2 l0 100 (Laws_value F l0 2 h2) fun r3 h4 =>
  cl (Laws_within F 0 r3 100 h4) fun r5 h6 =>
  some (r5, h6)

theorem dc_Laws_sun_0 : ∀ q ∈ ([(0, .aload_n 0, 1), (1, .iconst 0, 1), (2, .iconst 0, 1), (3, .iload_n 1, 1), (4, .iconst 0, 1), (5, .iconst 0, 1), (6, .invokevirtual 38, 3), (9, .iconst 0, 1), (10, .aload_n 0, 1), (11, .iconst 2, 1), (12, .invokevirtual 42, 3), (15, .bipush 100, 2), (17, .invokestatic 46, 3), (20, .ireturn, 1)] : List (Nat × Instr × Nat)), decode cX0_sun q.1 = .ok (q.2.1, q.2.2) := by decide +kernel
abbrev X_Laws_sun : MX := (cX0_sun, RX0, "sun", 2, (some (.int)), 3, 70)
theorem v_Laws_sun (F : Nat) (l0 l1 : Int) (h : Hp) : V X_Laws_sun 0 [(0, 2, l0), (1, 0, l1)] [] h (Laws_sun F l0 l1 h) := by
  unfold Laws_sun
  refine V_aload_n (pc := 0) (DCa dc_Laws_sun_0 0 rfl) rfl 0 rfl ?_
  refine V_iconst (pc := 1) (DCa dc_Laws_sun_0 1 rfl) (by decide) ?_
  refine V_iconst (pc := 2) (DCa dc_Laws_sun_0 2 rfl) (by decide) ?_
  refine V_iload_n (pc := 3) (DCa dc_Laws_sun_0 3 rfl) rfl 1 rfl ?_
  refine V_iconst (pc := 4) (DCa dc_Laws_sun_0 4 rfl) (by decide) ?_
  refine V_iconst (pc := 5) (DCa dc_Laws_sun_0 5 rfl) (by decide) ?_
  refine Q_callv (ci := 0) (st := []) (pc := 6) (DCa dc_Laws_sun_0 6 rfl) (sp_Laws_setVariables F _ _ _ _ _ _ _) ce_Laws_setVariables ml_0_38 rfl rfl ⟨Nat.le_of_ble_eq_true rfl, Nat.le_of_ble_eq_true rfl⟩ rfl (Nat.le_of_ble_eq_true rfl) (fun r1 h2 => ?_)
  refine V_iconst (pc := 9) (DCa dc_Laws_sun_0 7 rfl) (by decide) ?_
  refine V_aload_n (pc := 10) (DCa dc_Laws_sun_0 8 rfl) rfl 0 rfl ?_
  refine V_iconst (pc := 11) (DCa dc_Laws_sun_0 9 rfl) (by decide) ?_
  refine Q_callv (ci := 0) (st := [(0, 0)]) (pc := 12) (DCa dc_Laws_sun_0 10 rfl) (sp_Laws_value F _ _ _) ce_Laws_value ml_0_42 rfl rfl ⟨Nat.le_of_ble_eq_true rfl, Nat.le_of_ble_eq_true rfl⟩ rfl (Nat.le_of_ble_eq_true rfl) (fun r3 h4 => ?_)
  refine V_bipush (pc := 15) (DCa dc_Laws_sun_0 11 rfl) (by decide) ?_
  refine Q_calls (st := []) (pc := 17) (DCa dc_Laws_sun_0 12 rfl) (sp_Laws_within F _ _ _ _) ce_Laws_within ml_0_46 rfl ⟨Nat.le_of_ble_eq_true rfl, Nat.le_of_ble_eq_true rfl⟩ rfl (Nat.le_of_ble_eq_true rfl) (fun r5 h6 => ?_)
  exact V_ireturn (pc := 20) (DCa dc_Laws_sun_0 13 rfl) rfl
theorem sp_Laws_sun (F : Nat) (l0 l1 : Int) (h : Hp) : Sp yX0_sun cX0_sun 2 (some (.int)) 3 70 [(2, l0), (0, l1)] h (Laws_sun F l0 l1 h) := Sp_of (by decide +kernel) rfl rfl (Nat.le_of_ble_eq_true rfl) (v_Laws_sun F l0 l1 h)

-- TideRakes$Laws.slip
def Laws_slip (F : Nat) (l0 l1 l2 : Int) (h : Hp) : Option (Int × Hp) :=
  iv h l0 100 (Laws_setVariables F l0 0 0 0 l1 l2 h) fun r1 h2 =>
  iv h2 l0 100 (Laws_value F l0 3 h2) fun r3 h4 =>
  cl (Laws_within F 0 r3 9999 h4) fun r5 h6 =>
  some (r5, h6)

theorem dc_Laws_slip_0 : ∀ q ∈ ([(0, .aload_n 0, 1), (1, .iconst 0, 1), (2, .iconst 0, 1), (3, .iconst 0, 1), (4, .iload_n 1, 1), (5, .iload_n 2, 1), (6, .invokevirtual 38, 3), (9, .iconst 0, 1), (10, .aload_n 0, 1), (11, .iconst 3, 1), (12, .invokevirtual 42, 3), (15, .sipush 9999, 3), (18, .invokestatic 46, 3), (21, .ireturn, 1)] : List (Nat × Instr × Nat)), decode cX0_slip q.1 = .ok (q.2.1, q.2.2) := by decide +kernel
abbrev X_Laws_slip : MX := (cX0_slip, RX0, "slip", 3, (some (.int)), 3, 70)
theorem v_Laws_slip (F : Nat) (l0 l1 l2 : Int) (h : Hp) : V X_Laws_slip 0 [(0, 2, l0), (1, 0, l1), (2, 0, l2)] [] h (Laws_slip F l0 l1 l2 h) := by
  unfold Laws_slip
  refine V_aload_n (pc := 0) (DCa dc_Laws_slip_0 0 rfl) rfl 0 rfl ?_
  refine V_iconst (pc := 1) (DCa dc_Laws_slip_0 1 rfl) (by decide) ?_
  refine V_iconst (pc := 2) (DCa dc_Laws_slip_0 2 rfl) (by decide) ?_
  refine V_iconst (pc := 3) (DCa dc_Laws_slip_0 3 rfl) (by decide) ?_
  refine V_iload_n (pc := 4) (DCa dc_Laws_slip_0 4 rfl) rfl 1 rfl ?_
  refine V_iload_n (pc := 5) (DCa dc_Laws_slip_0 5 rfl) rfl 2 rfl ?_
  refine Q_callv (ci := 0) (st := []) (pc := 6) (DCa dc_Laws_slip_0 6 rfl) (sp_Laws_setVariables F _ _ _ _ _ _ _) ce_Laws_setVariables ml_0_38 rfl rfl ⟨Nat.le_of_ble_eq_true rfl, Nat.le_of_ble_eq_true rfl⟩ rfl (Nat.le_of_ble_eq_true rfl) (fun r1 h2 => ?_)
  refine V_iconst (pc := 9) (DCa dc_Laws_slip_0 7 rfl) (by decide) ?_
  refine V_aload_n (pc := 10) (DCa dc_Laws_slip_0 8 rfl) rfl 0 rfl ?_
  refine V_iconst (pc := 11) (DCa dc_Laws_slip_0 9 rfl) (by decide) ?_
  refine Q_callv (ci := 0) (st := [(0, 0)]) (pc := 12) (DCa dc_Laws_slip_0 10 rfl) (sp_Laws_value F _ _ _) ce_Laws_value ml_0_42 rfl rfl ⟨Nat.le_of_ble_eq_true rfl, Nat.le_of_ble_eq_true rfl⟩ rfl (Nat.le_of_ble_eq_true rfl) (fun r3 h4 => ?_)
  refine V_sipush (pc := 15) (DCa dc_Laws_slip_0 11 rfl) (by decide) ?_
  refine Q_calls (st := []) (pc := 18) (DCa dc_Laws_slip_0 12 rfl) (sp_Laws_within F _ _ _ _) ce_Laws_within ml_0_46 rfl ⟨Nat.le_of_ble_eq_true rfl, Nat.le_of_ble_eq_true rfl⟩ rfl (Nat.le_of_ble_eq_true rfl) (fun r5 h6 => ?_)
  exact V_ireturn (pc := 21) (DCa dc_Laws_slip_0 13 rfl) rfl
theorem sp_Laws_slip (F : Nat) (l0 l1 l2 : Int) (h : Hp) : Sp yX0_slip cX0_slip 3 (some (.int)) 3 70 [(2, l0), (0, l1), (0, l2)] h (Laws_slip F l0 l1 l2 h) := Sp_of (by decide +kernel) rfl rfl (Nat.le_of_ble_eq_true rfl) (v_Laws_slip F l0 l1 l2 h)

-- TideRakes$Laws.loose
def Laws_loose (F : Nat) (l0 l1 l2 l3 : Int) (h : Hp) : Option (Int × Hp) :=
  iv h l0 100 (Laws_setVariables F l0 l1 l2 l3 0 0 h) fun r1 h2 =>
  iv h2 l0 100 (Laws_value F l0 4 h2) fun r3 h4 =>
  cl (Laws_within F 0 r3 100 h4) fun r5 h6 =>
  some (r5, h6)

theorem dc_Laws_loose_0 : ∀ q ∈ ([(0, .aload_n 0, 1), (1, .iload_n 1, 1), (2, .iload_n 2, 1), (3, .iload_n 3, 1), (4, .iconst 0, 1), (5, .iconst 0, 1), (6, .invokevirtual 38, 3), (9, .iconst 0, 1), (10, .aload_n 0, 1), (11, .iconst 4, 1), (12, .invokevirtual 42, 3), (15, .bipush 100, 2), (17, .invokestatic 46, 3), (20, .ireturn, 1)] : List (Nat × Instr × Nat)), decode cX0_loose q.1 = .ok (q.2.1, q.2.2) := by decide +kernel
abbrev X_Laws_loose : MX := (cX0_loose, RX0, "loose", 4, (some (.int)), 3, 70)
theorem v_Laws_loose (F : Nat) (l0 l1 l2 l3 : Int) (h : Hp) : V X_Laws_loose 0 [(0, 2, l0), (1, 0, l1), (2, 0, l2), (3, 0, l3)] [] h (Laws_loose F l0 l1 l2 l3 h) := by
  unfold Laws_loose
  refine V_aload_n (pc := 0) (DCa dc_Laws_loose_0 0 rfl) rfl 0 rfl ?_
  refine V_iload_n (pc := 1) (DCa dc_Laws_loose_0 1 rfl) rfl 1 rfl ?_
  refine V_iload_n (pc := 2) (DCa dc_Laws_loose_0 2 rfl) rfl 2 rfl ?_
  refine V_iload_n (pc := 3) (DCa dc_Laws_loose_0 3 rfl) rfl 3 rfl ?_
  refine V_iconst (pc := 4) (DCa dc_Laws_loose_0 4 rfl) (by decide) ?_
  refine V_iconst (pc := 5) (DCa dc_Laws_loose_0 5 rfl) (by decide) ?_
  refine Q_callv (ci := 0) (st := []) (pc := 6) (DCa dc_Laws_loose_0 6 rfl) (sp_Laws_setVariables F _ _ _ _ _ _ _) ce_Laws_setVariables ml_0_38 rfl rfl ⟨Nat.le_of_ble_eq_true rfl, Nat.le_of_ble_eq_true rfl⟩ rfl (Nat.le_of_ble_eq_true rfl) (fun r1 h2 => ?_)
  refine V_iconst (pc := 9) (DCa dc_Laws_loose_0 7 rfl) (by decide) ?_
  refine V_aload_n (pc := 10) (DCa dc_Laws_loose_0 8 rfl) rfl 0 rfl ?_
  refine V_iconst (pc := 11) (DCa dc_Laws_loose_0 9 rfl) (by decide) ?_
  refine Q_callv (ci := 0) (st := [(0, 0)]) (pc := 12) (DCa dc_Laws_loose_0 10 rfl) (sp_Laws_value F _ _ _) ce_Laws_value ml_0_42 rfl rfl ⟨Nat.le_of_ble_eq_true rfl, Nat.le_of_ble_eq_true rfl⟩ rfl (Nat.le_of_ble_eq_true rfl) (fun r3 h4 => ?_)
  refine V_bipush (pc := 15) (DCa dc_Laws_loose_0 11 rfl) (by decide) ?_
  refine Q_calls (st := []) (pc := 17) (DCa dc_Laws_loose_0 12 rfl) (sp_Laws_within F _ _ _ _) ce_Laws_within ml_0_46 rfl ⟨Nat.le_of_ble_eq_true rfl, Nat.le_of_ble_eq_true rfl⟩ rfl (Nat.le_of_ble_eq_true rfl) (fun r5 h6 => ?_)
  exact V_ireturn (pc := 20) (DCa dc_Laws_loose_0 13 rfl) rfl
theorem sp_Laws_loose (F : Nat) (l0 l1 l2 l3 : Int) (h : Hp) : Sp yX0_loose cX0_loose 4 (some (.int)) 3 70 [(2, l0), (0, l1), (0, l2), (0, l3)] h (Laws_loose F l0 l1 l2 l3 h) := Sp_of (by decide +kernel) rfl rfl (Nat.le_of_ble_eq_true rfl) (v_Laws_loose F l0 l1 l2 l3 h)

-- TideRakes$Past.<init>
def Past_init (F : Nat) (l0 : Int) (h : Hp) : Option (Int × Hp) :=
  vc h l0 101 <|
  na h 0 410 fun v1 h2 =>
  pf h2 l0 101 0 v1 fun h3 =>
  some (0, h3)

theorem dc_Past_init_0 : ∀ q ∈ ([(0, .aload_n 0, 1), (1, .invokespecial 3, 3), (4, .aload_n 0, 1), (5, .sipush 410, 3), (8, .newarray .int, 2), (10, .putfield 11, 3), (13, .return_, 1)] : List (Nat × Instr × Nat)), decode cX1_init q.1 = .ok (q.2.1, q.2.2) := by decide +kernel
abbrev X_Past_init : MX := (cX1_init, RX1, "<init>", 1, none, 1, 20)
theorem v_Past_init (F : Nat) (l0 : Int) (h : Hp) : V X_Past_init 0 [(0, 2, l0)] [] h (Past_init F l0 h) := by
  unfold Past_init
  refine V_aload_n (pc := 0) (DCa dc_Past_init_0 0 rfl) rfl 0 rfl ?_
  refine Q_objinit (pc := 1) (DCa dc_Past_init_0 1 rfl) (tb2 184 rfl rfl) oi_i oi_c ⟨Nat.le_of_ble_eq_true rfl, Nat.le_of_ble_eq_true rfl⟩ ?_
  refine V_aload_n (pc := 4) (DCa dc_Past_init_0 2 rfl) rfl 0 rfl ?_
  refine V_sipush (pc := 5) (DCa dc_Past_init_0 3 rfl) (by decide) ?_
  refine Q_newa (pc := 8) (DCa dc_Past_init_0 4 rfl) nas_0 (fun v1 h2 => ?_)
  refine Q_putf (k := 0) (pc := 10) (DCa dc_Past_init_0 5 rfl) cls_1 (Nat.le_of_ble_eq_true rfl) fl_1_11 rfl rfl rfl (Or.inr ⟨rfl, rfl, rfl⟩) (Or.inr ⟨Or.inr ⟨_, rfl⟩, rfl⟩) (fun h3 => ?_)
  exact V_return (pc := 13) (DCa dc_Past_init_0 6 rfl) rfl
theorem sp_Past_init (F : Nat) (l0 : Int) (h : Hp) : Sp yX1_init cX1_init 1 none 1 20 [(2, l0)] h (Past_init F l0 h) := Sp_of (by decide +kernel) rfl rfl (Nat.le_of_ble_eq_true rfl) (v_Past_init F l0 h)

-- TideRakes$Past.note
def Past_note (F : Nat) (l0 l1 l2 l3 : Int) (h : Hp) : Option (Int × Hp) :=
  gf h l0 101 1 fun v1 =>
  lt (w32 (v1 * 10)) fun x2 =>
  gf h l1 108 0 fun v3 =>
  al h v3 7 l2 fun v4 =>
  gf h l0 101 0 fun v5 =>
  as h v5 0 x2 l2 fun h6 =>
  gf h6 l0 101 0 fun v7 =>
  as h6 v7 0 (w32 (x2 + 1)) l3 fun h8 =>
  gf h8 l0 101 0 fun v9 =>
  gf h8 v4 110 0 fun v10 =>
  as h8 v9 0 (w32 (x2 + 2)) v10 fun h11 =>
  gf h11 l0 101 0 fun v12 =>
  gf h11 v4 110 1 fun v13 =>
  as h11 v12 0 (w32 (x2 + 3)) v13 fun h14 =>
  gf h14 l0 101 0 fun v15 =>
  gf h14 v4 110 3 fun v16 =>
  as h14 v15 0 (w32 (x2 + 4)) v16 fun h17 =>
  gf h17 l0 101 0 fun v18 =>
  gf h17 v4 110 4 fun v19 =>
  as h17 v18 0 (w32 (x2 + 5)) v19 fun h20 =>
  gf h20 l0 101 0 fun v21 =>
  gf h20 l1 108 1 fun v22 =>
  al h20 v22 0 l3 fun v23 =>
  as h20 v21 0 (w32 (x2 + 6)) v23 fun h24 =>
  gf h24 l0 101 0 fun v25 =>
  gf h24 l1 108 2 fun v26 =>
  al h24 v26 0 l3 fun v27 =>
  as h24 v25 0 (w32 (x2 + 7)) v27 fun h28 =>
  gf h28 l0 101 0 fun v29 =>
  gf h28 l1 108 3 fun v30 =>
  al h28 v30 0 l3 fun v31 =>
  as h28 v29 0 (w32 (x2 + 8)) v31 fun h32 =>
  gf h32 l0 101 0 fun v33 =>
  gf h32 l1 108 4 fun v34 =>
  al h32 v34 2 l3 fun v35 =>
  if v35 = 0 then
    (as h32 v33 0 (w32 (x2 + 9)) 0 fun h36 =>
    some (0, h36))
  else
    (as h32 v33 0 (w32 (x2 + 9)) 1 fun h37 =>
    some (0, h37))

theorem dc_Past_note_0 : ∀ q ∈ ([(0, .aload_n 0, 1), (1, .getfield 15, 3), (4, .bipush 10, 2), (6, .imul, 1), (7, .istore 4, 2), (9, .aload_n 1, 1), (10, .getfield 19, 3), (13, .iload_n 2, 1), (14, .aaload, 1), (15, .astore 5, 2), (17, .aload_n 0, 1), (18, .getfield 11, 3), (21, .iload 4, 2), (23, .iload_n 2, 1), (24, .iastore, 1), (25, .aload_n 0, 1), (26, .getfield 11, 3), (29, .iload 4, 2), (31, .iconst 1, 1), (32, .iadd, 1), (33, .iload_n 3, 1), (34, .iastore, 1), (35, .aload_n 0, 1), (36, .getfield 11, 3), (39, .iload 4, 2), (41, .iconst 2, 1), (42, .iadd, 1), (43, .aload 5, 2), (45, .getfield 25, 3), (48, .iastore, 1), (49, .aload_n 0, 1), (50, .getfield 11, 3), (53, .iload 4, 2), (55, .iconst 3, 1), (56, .iadd, 1), (57, .aload 5, 2), (59, .getfield 30, 3), (62, .iastore, 1), (63, .aload_n 0, 1), (64, .getfield 11, 3), (67, .iload 4, 2), (69, .iconst 4, 1), (70, .iadd, 1), (71, .aload 5, 2), (73, .getfield 33, 3), (76, .iastore, 1), (77, .aload_n 0, 1), (78, .getfield 11, 3), (81, .iload 4, 2), (83, .iconst 5, 1)] : List (Nat × Instr × Nat)), decode cX1_note q.1 = .ok (q.2.1, q.2.2) := by decide +kernel
theorem dc_Past_note_1 : ∀ q ∈ ([(84, .iadd, 1), (85, .aload 5, 2), (87, .getfield 36, 3), (90, .iastore, 1), (91, .aload_n 0, 1), (92, .getfield 11, 3), (95, .iload 4, 2), (97, .bipush 6, 2), (99, .iadd, 1), (100, .aload_n 1, 1), (101, .getfield 39, 3), (104, .iload_n 3, 1), (105, .iaload, 1), (106, .iastore, 1), (107, .aload_n 0, 1), (108, .getfield 11, 3), (111, .iload 4, 2), (113, .bipush 7, 2), (115, .iadd, 1), (116, .aload_n 1, 1), (117, .getfield 42, 3), (120, .iload_n 3, 1), (121, .iaload, 1), (122, .iastore, 1), (123, .aload_n 0, 1), (124, .getfield 11, 3), (127, .iload 4, 2), (129, .bipush 8, 2), (131, .iadd, 1), (132, .aload_n 1, 1), (133, .getfield 45, 3), (136, .iload_n 3, 1), (137, .iaload, 1), (138, .iastore, 1), (139, .aload_n 0, 1), (140, .getfield 11, 3), (143, .iload 4, 2), (145, .bipush 9, 2), (147, .iadd, 1), (148, .aload_n 1, 1), (149, .getfield 48, 3), (152, .iload_n 3, 1), (153, .baload, 1), (154, .ifCond .eq 7, 3), (157, .iconst 1, 1), (158, .goto 4, 3), (161, .iconst 0, 1), (162, .iastore, 1), (163, .return_, 1)] : List (Nat × Instr × Nat)), decode cX1_note q.1 = .ok (q.2.1, q.2.2) := by decide +kernel
abbrev X_Past_note : MX := (cX1_note, RX1, "note", 6, none, 1, 20)
theorem v_Past_note (F : Nat) (l0 l1 l2 l3 : Int) (h : Hp) : V X_Past_note 0 [(0, 2, l0), (1, 2, l1), (2, 0, l2), (3, 0, l3)] [] h (Past_note F l0 l1 l2 l3 h) := by
  unfold Past_note
  refine V_aload_n (pc := 0) (DCa dc_Past_note_0 0 rfl) rfl 0 rfl ?_
  refine Q_getf (k := 1) (pc := 1) (DCa dc_Past_note_0 1 rfl) cls_1 (Nat.le_of_ble_eq_true rfl) fl_1_15 rfl rfl rfl (fun v1 => ?_)
  refine V_bipush (pc := 4) (DCa dc_Past_note_0 2 rfl) (by decide) ?_
  refine V_imul (pc := 6) (DCa dc_Past_note_0 3 rfl) ?_
  refine Q_lt (fun x2 => ?_)
  refine V_istore (ls' := [(0, 2, l0), (1, 2, l1), (2, 0, l2), (3, 0, l3), (4, 0, x2)]) (pc := 7) (DCa dc_Past_note_0 4 rfl) (Nat.le_of_ble_eq_true rfl) rfl ?_
  refine V_aload_n (pc := 9) (DCa dc_Past_note_0 5 rfl) rfl 1 rfl ?_
  refine Q_getf (k := 0) (pc := 10) (DCa dc_Past_note_0 6 rfl) cls_8 (Nat.le_of_ble_eq_true rfl) fl_1_19 rfl rfl rfl (fun v3 => ?_)
  refine V_iload_n (pc := 13) (DCa dc_Past_note_0 7 rfl) rfl 2 rfl ?_
  refine Q_aaload (pc := 14) (DCa dc_Past_note_0 8 rfl) (by decide) rfl rfl (fun v4 => ?_)
  refine V_astore (ls' := [(0, 2, l0), (1, 2, l1), (2, 0, l2), (3, 0, l3), (4, 0, x2), (5, 2, v4)]) (pc := 15) (DCa dc_Past_note_0 9 rfl) (Nat.le_of_ble_eq_true rfl) rfl ?_
  refine V_aload_n (pc := 17) (DCa dc_Past_note_0 10 rfl) rfl 0 rfl ?_
  refine Q_getf (k := 0) (pc := 18) (DCa dc_Past_note_0 11 rfl) cls_1 (Nat.le_of_ble_eq_true rfl) fl_1_11 rfl rfl rfl (fun v5 => ?_)
  refine V_iload (pc := 21) (DCa dc_Past_note_0 12 rfl) 4 rfl ?_
  refine V_iload_n (pc := 23) (DCa dc_Past_note_0 13 rfl) rfl 2 rfl ?_
  refine Q_iastore (pc := 24) (DCa dc_Past_note_0 14 rfl) (fun h6 => ?_)
  refine V_aload_n (pc := 25) (DCa dc_Past_note_0 15 rfl) rfl 0 rfl ?_
  refine Q_getf (k := 0) (pc := 26) (DCa dc_Past_note_0 16 rfl) cls_1 (Nat.le_of_ble_eq_true rfl) fl_1_11 rfl rfl rfl (fun v7 => ?_)
  refine V_iload (pc := 29) (DCa dc_Past_note_0 17 rfl) 4 rfl ?_
  refine V_iconst (pc := 31) (DCa dc_Past_note_0 18 rfl) (by decide) ?_
  refine V_iadd (pc := 32) (DCa dc_Past_note_0 19 rfl) ?_
  refine V_iload_n (pc := 33) (DCa dc_Past_note_0 20 rfl) rfl 3 rfl ?_
  refine Q_iastore (pc := 34) (DCa dc_Past_note_0 21 rfl) (fun h8 => ?_)
  refine V_aload_n (pc := 35) (DCa dc_Past_note_0 22 rfl) rfl 0 rfl ?_
  refine Q_getf (k := 0) (pc := 36) (DCa dc_Past_note_0 23 rfl) cls_1 (Nat.le_of_ble_eq_true rfl) fl_1_11 rfl rfl rfl (fun v9 => ?_)
  refine V_iload (pc := 39) (DCa dc_Past_note_0 24 rfl) 4 rfl ?_
  refine V_iconst (pc := 41) (DCa dc_Past_note_0 25 rfl) (by decide) ?_
  refine V_iadd (pc := 42) (DCa dc_Past_note_0 26 rfl) ?_
  refine V_aload (pc := 43) (DCa dc_Past_note_0 27 rfl) 5 rfl ?_
  refine Q_getf (k := 0) (pc := 45) (DCa dc_Past_note_0 28 rfl) cls_10 (Nat.le_of_ble_eq_true rfl) fl_1_25 rfl rfl rfl (fun v10 => ?_)
  refine Q_iastore (pc := 48) (DCa dc_Past_note_0 29 rfl) (fun h11 => ?_)
  refine V_aload_n (pc := 49) (DCa dc_Past_note_0 30 rfl) rfl 0 rfl ?_
  refine Q_getf (k := 0) (pc := 50) (DCa dc_Past_note_0 31 rfl) cls_1 (Nat.le_of_ble_eq_true rfl) fl_1_11 rfl rfl rfl (fun v12 => ?_)
  refine V_iload (pc := 53) (DCa dc_Past_note_0 32 rfl) 4 rfl ?_
  refine V_iconst (pc := 55) (DCa dc_Past_note_0 33 rfl) (by decide) ?_
  refine V_iadd (pc := 56) (DCa dc_Past_note_0 34 rfl) ?_
  refine V_aload (pc := 57) (DCa dc_Past_note_0 35 rfl) 5 rfl ?_
  refine Q_getf (k := 1) (pc := 59) (DCa dc_Past_note_0 36 rfl) cls_10 (Nat.le_of_ble_eq_true rfl) fl_1_30 rfl rfl rfl (fun v13 => ?_)
  refine Q_iastore (pc := 62) (DCa dc_Past_note_0 37 rfl) (fun h14 => ?_)
  refine V_aload_n (pc := 63) (DCa dc_Past_note_0 38 rfl) rfl 0 rfl ?_
  refine Q_getf (k := 0) (pc := 64) (DCa dc_Past_note_0 39 rfl) cls_1 (Nat.le_of_ble_eq_true rfl) fl_1_11 rfl rfl rfl (fun v15 => ?_)
  refine V_iload (pc := 67) (DCa dc_Past_note_0 40 rfl) 4 rfl ?_
  refine V_iconst (pc := 69) (DCa dc_Past_note_0 41 rfl) (by decide) ?_
  refine V_iadd (pc := 70) (DCa dc_Past_note_0 42 rfl) ?_
  refine V_aload (pc := 71) (DCa dc_Past_note_0 43 rfl) 5 rfl ?_
  refine Q_getf (k := 3) (pc := 73) (DCa dc_Past_note_0 44 rfl) cls_10 (Nat.le_of_ble_eq_true rfl) fl_1_33 rfl rfl rfl (fun v16 => ?_)
  refine Q_iastore (pc := 76) (DCa dc_Past_note_0 45 rfl) (fun h17 => ?_)
  refine V_aload_n (pc := 77) (DCa dc_Past_note_0 46 rfl) rfl 0 rfl ?_
  refine Q_getf (k := 0) (pc := 78) (DCa dc_Past_note_0 47 rfl) cls_1 (Nat.le_of_ble_eq_true rfl) fl_1_11 rfl rfl rfl (fun v18 => ?_)
  refine V_iload (pc := 81) (DCa dc_Past_note_0 48 rfl) 4 rfl ?_
  refine V_iconst (pc := 83) (DCa dc_Past_note_0 49 rfl) (by decide) ?_
  refine V_iadd (pc := 84) (DCa dc_Past_note_1 0 rfl) ?_
  refine V_aload (pc := 85) (DCa dc_Past_note_1 1 rfl) 5 rfl ?_
  refine Q_getf (k := 4) (pc := 87) (DCa dc_Past_note_1 2 rfl) cls_10 (Nat.le_of_ble_eq_true rfl) fl_1_36 rfl rfl rfl (fun v19 => ?_)
  refine Q_iastore (pc := 90) (DCa dc_Past_note_1 3 rfl) (fun h20 => ?_)
  refine V_aload_n (pc := 91) (DCa dc_Past_note_1 4 rfl) rfl 0 rfl ?_
  refine Q_getf (k := 0) (pc := 92) (DCa dc_Past_note_1 5 rfl) cls_1 (Nat.le_of_ble_eq_true rfl) fl_1_11 rfl rfl rfl (fun v21 => ?_)
  refine V_iload (pc := 95) (DCa dc_Past_note_1 6 rfl) 4 rfl ?_
  refine V_bipush (pc := 97) (DCa dc_Past_note_1 7 rfl) (by decide) ?_
  refine V_iadd (pc := 99) (DCa dc_Past_note_1 8 rfl) ?_
  refine V_aload_n (pc := 100) (DCa dc_Past_note_1 9 rfl) rfl 1 rfl ?_
  refine Q_getf (k := 1) (pc := 101) (DCa dc_Past_note_1 10 rfl) cls_8 (Nat.le_of_ble_eq_true rfl) fl_1_39 rfl rfl rfl (fun v22 => ?_)
  refine V_iload_n (pc := 104) (DCa dc_Past_note_1 11 rfl) rfl 3 rfl ?_
  refine Q_iaload (pc := 105) (DCa dc_Past_note_1 12 rfl) (fun v23 => ?_)
  refine Q_iastore (pc := 106) (DCa dc_Past_note_1 13 rfl) (fun h24 => ?_)
  refine V_aload_n (pc := 107) (DCa dc_Past_note_1 14 rfl) rfl 0 rfl ?_
  refine Q_getf (k := 0) (pc := 108) (DCa dc_Past_note_1 15 rfl) cls_1 (Nat.le_of_ble_eq_true rfl) fl_1_11 rfl rfl rfl (fun v25 => ?_)
  refine V_iload (pc := 111) (DCa dc_Past_note_1 16 rfl) 4 rfl ?_
  refine V_bipush (pc := 113) (DCa dc_Past_note_1 17 rfl) (by decide) ?_
  refine V_iadd (pc := 115) (DCa dc_Past_note_1 18 rfl) ?_
  refine V_aload_n (pc := 116) (DCa dc_Past_note_1 19 rfl) rfl 1 rfl ?_
  refine Q_getf (k := 2) (pc := 117) (DCa dc_Past_note_1 20 rfl) cls_8 (Nat.le_of_ble_eq_true rfl) fl_1_42 rfl rfl rfl (fun v26 => ?_)
  refine V_iload_n (pc := 120) (DCa dc_Past_note_1 21 rfl) rfl 3 rfl ?_
  refine Q_iaload (pc := 121) (DCa dc_Past_note_1 22 rfl) (fun v27 => ?_)
  refine Q_iastore (pc := 122) (DCa dc_Past_note_1 23 rfl) (fun h28 => ?_)
  refine V_aload_n (pc := 123) (DCa dc_Past_note_1 24 rfl) rfl 0 rfl ?_
  refine Q_getf (k := 0) (pc := 124) (DCa dc_Past_note_1 25 rfl) cls_1 (Nat.le_of_ble_eq_true rfl) fl_1_11 rfl rfl rfl (fun v29 => ?_)
  refine V_iload (pc := 127) (DCa dc_Past_note_1 26 rfl) 4 rfl ?_
  refine V_bipush (pc := 129) (DCa dc_Past_note_1 27 rfl) (by decide) ?_
  refine V_iadd (pc := 131) (DCa dc_Past_note_1 28 rfl) ?_
  refine V_aload_n (pc := 132) (DCa dc_Past_note_1 29 rfl) rfl 1 rfl ?_
  refine Q_getf (k := 3) (pc := 133) (DCa dc_Past_note_1 30 rfl) cls_8 (Nat.le_of_ble_eq_true rfl) fl_1_45 rfl rfl rfl (fun v30 => ?_)
  refine V_iload_n (pc := 136) (DCa dc_Past_note_1 31 rfl) rfl 3 rfl ?_
  refine Q_iaload (pc := 137) (DCa dc_Past_note_1 32 rfl) (fun v31 => ?_)
  refine Q_iastore (pc := 138) (DCa dc_Past_note_1 33 rfl) (fun h32 => ?_)
  refine V_aload_n (pc := 139) (DCa dc_Past_note_1 34 rfl) rfl 0 rfl ?_
  refine Q_getf (k := 0) (pc := 140) (DCa dc_Past_note_1 35 rfl) cls_1 (Nat.le_of_ble_eq_true rfl) fl_1_11 rfl rfl rfl (fun v33 => ?_)
  refine V_iload (pc := 143) (DCa dc_Past_note_1 36 rfl) 4 rfl ?_
  refine V_bipush (pc := 145) (DCa dc_Past_note_1 37 rfl) (by decide) ?_
  refine V_iadd (pc := 147) (DCa dc_Past_note_1 38 rfl) ?_
  refine V_aload_n (pc := 148) (DCa dc_Past_note_1 39 rfl) rfl 1 rfl ?_
  refine Q_getf (k := 4) (pc := 149) (DCa dc_Past_note_1 40 rfl) cls_8 (Nat.le_of_ble_eq_true rfl) fl_1_48 rfl rfl rfl (fun v34 => ?_)
  refine V_iload_n (pc := 152) (DCa dc_Past_note_1 41 rfl) rfl 3 rfl ?_
  refine Q_zaload (pc := 153) (DCa dc_Past_note_1 42 rfl) (fun v35 => ?_)
  refine V_if_eq (tgt := 161) (pc := 154) (DCa dc_Past_note_1 43 rfl) (by decide) (fun _ => ?_) (fun _ => ?_)
  · refine V_iconst (pc := 161) (DCa dc_Past_note_1 46 rfl) (by decide) ?_
    refine Q_iastore (pc := 162) (DCa dc_Past_note_1 47 rfl) (fun h36 => ?_)
    exact V_return (pc := 163) (DCa dc_Past_note_1 48 rfl) rfl
  · refine V_iconst (pc := 157) (DCa dc_Past_note_1 44 rfl) (by decide) ?_
    refine V_goto (tgt := 162) (pc := 158) (DCa dc_Past_note_1 45 rfl) (by decide) ?_
    refine Q_iastore (pc := 162) (DCa dc_Past_note_1 47 rfl) (fun h37 => ?_)
    exact V_return (pc := 163) (DCa dc_Past_note_1 48 rfl) rfl
theorem sp_Past_note (F : Nat) (l0 l1 l2 l3 : Int) (h : Hp) : Sp yX1_note cX1_note 6 none 1 20 [(2, l0), (2, l1), (0, l2), (0, l3)] h (Past_note F l0 l1 l2 l3 h) := Sp_of (by decide +kernel) rfl rfl (Nat.le_of_ble_eq_true rfl) (v_Past_note F l0 l1 l2 l3 h)

-- TideRakes$Past.keep
def Past_keep (F : Nat) (l0 : Int) (h : Hp) : Option (Int × Hp) :=
  gf h l0 101 1 fun v1 =>
  dm (w32 (v1 + 1)) 41 fun v2 =>
  pf h l0 101 1 v2 fun h3 =>
  gf h3 l0 101 2 fun v4 =>
  lt (imin (w32 (v4 + 1)) 40) fun r5 =>
  pf h3 l0 101 2 r5 fun h6 =>
  some (0, h6)

theorem dc_Past_keep_0 : ∀ q ∈ ([(0, .aload_n 0, 1), (1, .aload_n 0, 1), (2, .getfield 15, 3), (5, .iconst 1, 1), (6, .iadd, 1), (7, .bipush 41, 2), (9, .irem, 1), (10, .putfield 15, 3), (13, .aload_n 0, 1), (14, .aload_n 0, 1), (15, .getfield 52, 3), (18, .iconst 1, 1), (19, .iadd, 1), (20, .bipush 40, 2), (22, .invokestatic 55, 3), (25, .putfield 52, 3), (28, .return_, 1)] : List (Nat × Instr × Nat)), decode cX1_keep q.1 = .ok (q.2.1, q.2.2) := by decide +kernel
abbrev X_Past_keep : MX := (cX1_keep, RX1, "keep", 1, none, 1, 20)
theorem v_Past_keep (F : Nat) (l0 : Int) (h : Hp) : V X_Past_keep 0 [(0, 2, l0)] [] h (Past_keep F l0 h) := by
  unfold Past_keep
  refine V_aload_n (pc := 0) (DCa dc_Past_keep_0 0 rfl) rfl 0 rfl ?_
  refine V_aload_n (pc := 1) (DCa dc_Past_keep_0 1 rfl) rfl 0 rfl ?_
  refine Q_getf (k := 1) (pc := 2) (DCa dc_Past_keep_0 2 rfl) cls_1 (Nat.le_of_ble_eq_true rfl) fl_1_15 rfl rfl rfl (fun v1 => ?_)
  refine V_iconst (pc := 5) (DCa dc_Past_keep_0 3 rfl) (by decide) ?_
  refine V_iadd (pc := 6) (DCa dc_Past_keep_0 4 rfl) ?_
  refine V_bipush (pc := 7) (DCa dc_Past_keep_0 5 rfl) (by decide) ?_
  refine Q_irem (pc := 9) (DCa dc_Past_keep_0 6 rfl) (fun v2 => ?_)
  refine Q_putf (k := 1) (pc := 10) (DCa dc_Past_keep_0 7 rfl) cls_1 (Nat.le_of_ble_eq_true rfl) fl_1_15 rfl rfl rfl (Or.inl rfl) (Or.inl ⟨rfl, rfl⟩) (fun h3 => ?_)
  refine V_aload_n (pc := 13) (DCa dc_Past_keep_0 8 rfl) rfl 0 rfl ?_
  refine V_aload_n (pc := 14) (DCa dc_Past_keep_0 9 rfl) rfl 0 rfl ?_
  refine Q_getf (k := 2) (pc := 15) (DCa dc_Past_keep_0 10 rfl) cls_1 (Nat.le_of_ble_eq_true rfl) fl_1_52 rfl rfl rfl (fun v4 => ?_)
  refine V_iconst (pc := 18) (DCa dc_Past_keep_0 11 rfl) (by decide) ?_
  refine V_iadd (pc := 19) (DCa dc_Past_keep_0 12 rfl) ?_
  refine V_bipush (pc := 20) (DCa dc_Past_keep_0 13 rfl) (by decide) ?_
  refine V_mmin (pc := 22) (DCa dc_Past_keep_0 14 rfl) (tb4 222 rfl rfl) mt_smin mt_i mt_cmin ⟨Nat.le_of_ble_eq_true rfl, Nat.le_of_ble_eq_true rfl⟩ ?_
  refine Q_lt (fun r5 => ?_)
  refine Q_putf (k := 2) (pc := 25) (DCa dc_Past_keep_0 15 rfl) cls_1 (Nat.le_of_ble_eq_true rfl) fl_1_52 rfl rfl rfl (Or.inl rfl) (Or.inl ⟨rfl, rfl⟩) (fun h6 => ?_)
  exact V_return (pc := 28) (DCa dc_Past_keep_0 16 rfl) rfl
theorem sp_Past_keep (F : Nat) (l0 : Int) (h : Hp) : Sp yX1_keep cX1_keep 1 none 1 20 [(2, l0)] h (Past_keep F l0 h) := Sp_of (by decide +kernel) rfl rfl (Nat.le_of_ble_eq_true rfl) (v_Past_keep F l0 h)

-- TideRakes$Past.takeBack
def Past_takeBack_B185 (F : Nat)  (l1 s0 s1 s2 : Int) (h : Hp) : Option (Int × Hp) :=
  az h s2 s1 s0 fun h42 =>
  gf h42 l1 108 8 fun v43 =>
  pf h42 l1 108 8 (w32 (v43 - 1)) fun h44 =>
  rz 1 h44
def Past_takeBack (F : Nat) (l0 l1 : Int) (h : Hp) : Option (Int × Hp) :=
  gf h l0 101 2 fun v1 =>
  if v1 = 0 then
    (rz 0 h)
  else
    (gf h l0 101 2 fun v2 =>
    pf h l0 101 2 (w32 (v2 - 1)) fun h3 =>
    gf h3 l0 101 1 fun v4 =>
    dm (w32 ((w32 (v4 + 41)) - 1)) 41 fun v5 =>
    pf h3 l0 101 1 v5 fun h6 =>
    gf h6 l0 101 1 fun v7 =>
    lt (w32 (v7 * 10)) fun x8 =>
    gf h6 l1 108 0 fun v9 =>
    gf h6 l0 101 0 fun v10 =>
    al h6 v10 0 x8 fun v11 =>
    al h6 v9 7 v11 fun v12 =>
    gf h6 l0 101 0 fun v13 =>
    al h6 v13 0 (w32 (x8 + 1)) fun v14 =>
    gf h6 l0 101 0 fun v15 =>
    al h6 v15 0 (w32 (x8 + 2)) fun v16 =>
    pf h6 v12 110 0 v16 fun h17 =>
    gf h17 l0 101 0 fun v18 =>
    al h17 v18 0 (w32 (x8 + 3)) fun v19 =>
    pf h17 v12 110 1 v19 fun h20 =>
    gf h20 l0 101 0 fun v21 =>
    al h20 v21 0 (w32 (x8 + 4)) fun v22 =>
    pf h20 v12 110 3 v22 fun h23 =>
    gf h23 l0 101 0 fun v24 =>
    al h23 v24 0 (w32 (x8 + 5)) fun v25 =>
    pf h23 v12 110 4 v25 fun h26 =>
    gf h26 l1 108 1 fun v27 =>
    gf h26 l0 101 0 fun v28 =>
    al h26 v28 0 (w32 (x8 + 6)) fun v29 =>
    as h26 v27 0 v14 v29 fun h30 =>
    gf h30 l1 108 2 fun v31 =>
    gf h30 l0 101 0 fun v32 =>
    al h30 v32 0 (w32 (x8 + 7)) fun v33 =>
    as h30 v31 0 v14 v33 fun h34 =>
    gf h34 l1 108 3 fun v35 =>
    gf h34 l0 101 0 fun v36 =>
    al h34 v36 0 (w32 (x8 + 8)) fun v37 =>
    as h34 v35 0 v14 v37 fun h38 =>
    gf h38 l1 108 4 fun v39 =>
    gf h38 l0 101 0 fun v40 =>
    al h38 v40 0 (w32 (x8 + 9)) fun v41 =>
    if v41 = 1 then
      (Past_takeBack_B185 F l1 1 v14 v39 h38)
    else
      (Past_takeBack_B185 F l1 0 v14 v39 h38))

theorem dc_Past_takeBack_0 : ∀ q ∈ ([(0, .aload_n 0, 1), (1, .getfield 52, 3), (4, .ifCond .ne 5, 3), (7, .iconst 0, 1), (8, .ireturn, 1), (9, .aload_n 0, 1), (10, .dup, 1), (11, .getfield 52, 3), (14, .iconst 1, 1), (15, .isub, 1), (16, .putfield 52, 3), (19, .aload_n 0, 1), (20, .aload_n 0, 1), (21, .getfield 15, 3), (24, .bipush 41, 2), (26, .iadd, 1), (27, .iconst 1, 1), (28, .isub, 1), (29, .bipush 41, 2), (31, .irem, 1), (32, .putfield 15, 3), (35, .aload_n 0, 1), (36, .getfield 15, 3), (39, .bipush 10, 2), (41, .imul, 1), (42, .istore_n 2, 1), (43, .aload_n 1, 1), (44, .getfield 19, 3), (47, .aload_n 0, 1), (48, .getfield 11, 3), (51, .iload_n 2, 1), (52, .iaload, 1), (53, .aaload, 1), (54, .astore_n 3, 1), (55, .aload_n 0, 1), (56, .getfield 11, 3), (59, .iload_n 2, 1), (60, .iconst 1, 1), (61, .iadd, 1), (62, .iaload, 1), (63, .istore 4, 2), (65, .aload_n 3, 1), (66, .aload_n 0, 1), (67, .getfield 11, 3), (70, .iload_n 2, 1), (71, .iconst 2, 1), (72, .iadd, 1), (73, .iaload, 1), (74, .putfield 25, 3), (77, .aload_n 3, 1)] : List (Nat × Instr × Nat)), decode cX1_takeBack q.1 = .ok (q.2.1, q.2.2) := by decide +kernel
theorem dc_Past_takeBack_1 : ∀ q ∈ ([(78, .aload_n 0, 1), (79, .getfield 11, 3), (82, .iload_n 2, 1), (83, .iconst 3, 1), (84, .iadd, 1), (85, .iaload, 1), (86, .putfield 30, 3), (89, .aload_n 3, 1), (90, .aload_n 0, 1), (91, .getfield 11, 3), (94, .iload_n 2, 1), (95, .iconst 4, 1), (96, .iadd, 1), (97, .iaload, 1), (98, .putfield 33, 3), (101, .aload_n 3, 1), (102, .aload_n 0, 1), (103, .getfield 11, 3), (106, .iload_n 2, 1), (107, .iconst 5, 1), (108, .iadd, 1), (109, .iaload, 1), (110, .putfield 36, 3), (113, .aload_n 1, 1), (114, .getfield 39, 3), (117, .iload 4, 2), (119, .aload_n 0, 1), (120, .getfield 11, 3), (123, .iload_n 2, 1), (124, .bipush 6, 2), (126, .iadd, 1), (127, .iaload, 1), (128, .iastore, 1), (129, .aload_n 1, 1), (130, .getfield 42, 3), (133, .iload 4, 2), (135, .aload_n 0, 1), (136, .getfield 11, 3), (139, .iload_n 2, 1), (140, .bipush 7, 2), (142, .iadd, 1), (143, .iaload, 1), (144, .iastore, 1), (145, .aload_n 1, 1), (146, .getfield 45, 3), (149, .iload 4, 2), (151, .aload_n 0, 1), (152, .getfield 11, 3), (155, .iload_n 2, 1), (156, .bipush 8, 2)] : List (Nat × Instr × Nat)), decode cX1_takeBack q.1 = .ok (q.2.1, q.2.2) := by decide +kernel
theorem dc_Past_takeBack_2 : ∀ q ∈ ([(158, .iadd, 1), (159, .iaload, 1), (160, .iastore, 1), (161, .aload_n 1, 1), (162, .getfield 48, 3), (165, .iload 4, 2), (167, .aload_n 0, 1), (168, .getfield 11, 3), (171, .iload_n 2, 1), (172, .bipush 9, 2), (174, .iadd, 1), (175, .iaload, 1), (176, .iconst 1, 1), (177, .if_icmp .ne 7, 3), (180, .iconst 1, 1), (181, .goto 4, 3), (184, .iconst 0, 1), (185, .bastore, 1), (186, .aload_n 1, 1), (187, .dup, 1), (188, .getfield 61, 3), (191, .iconst 1, 1), (192, .isub, 1), (193, .putfield 61, 3), (196, .iconst 1, 1), (197, .ireturn, 1)] : List (Nat × Instr × Nat)), decode cX1_takeBack q.1 = .ok (q.2.1, q.2.2) := by decide +kernel
abbrev X_Past_takeBack : MX := (cX1_takeBack, RX1, "takeBack", 5, (some (.boolean)), 1, 20)
theorem v_Past_takeBack_B185 (F : Nat)  (l1 s0 s1 s2 : Int) (h : Hp) : V X_Past_takeBack 185 [(1, 2, l1)] [(0, s0), (0, s1), (2, s2)] h (Past_takeBack_B185 F  l1 s0 s1 s2 h) := by
  unfold Past_takeBack_B185
  refine Q_zastore (pc := 185) (DCa dc_Past_takeBack_2 17 rfl) (fun h42 => ?_)
  refine V_aload_n (pc := 186) (DCa dc_Past_takeBack_2 18 rfl) rfl 0 rfl ?_
  refine V_dup (pc := 187) (DCa dc_Past_takeBack_2 19 rfl) rfl ?_
  refine Q_getf (k := 8) (pc := 188) (DCa dc_Past_takeBack_2 20 rfl) cls_8 (Nat.le_of_ble_eq_true rfl) fl_1_61 rfl rfl rfl (fun v43 => ?_)
  refine V_iconst (pc := 191) (DCa dc_Past_takeBack_2 21 rfl) (by decide) ?_
  refine V_isub (pc := 192) (DCa dc_Past_takeBack_2 22 rfl) ?_
  refine Q_putf (k := 8) (pc := 193) (DCa dc_Past_takeBack_2 23 rfl) cls_8 (Nat.le_of_ble_eq_true rfl) fl_1_61 rfl rfl rfl (Or.inl rfl) (Or.inl ⟨rfl, rfl⟩) (fun h44 => ?_)
  refine V_iconst (pc := 196) (DCa dc_Past_takeBack_2 24 rfl) (by decide) ?_
  exact V_zreturn (pc := 197) (DCa dc_Past_takeBack_2 25 rfl) rfl
theorem v_Past_takeBack (F : Nat) (l0 l1 : Int) (h : Hp) : V X_Past_takeBack 0 [(0, 2, l0), (1, 2, l1)] [] h (Past_takeBack F l0 l1 h) := by
  unfold Past_takeBack
  refine V_aload_n (pc := 0) (DCa dc_Past_takeBack_0 0 rfl) rfl 0 rfl ?_
  refine Q_getf (k := 2) (pc := 1) (DCa dc_Past_takeBack_0 1 rfl) cls_1 (Nat.le_of_ble_eq_true rfl) fl_1_52 rfl rfl rfl (fun v1 => ?_)
  refine V_if_ne (tgt := 9) (pc := 4) (DCa dc_Past_takeBack_0 2 rfl) (by decide) (fun _ => ?_) (fun _ => ?_)
  · refine V_iconst (pc := 7) (DCa dc_Past_takeBack_0 3 rfl) (by decide) ?_
    exact V_zreturn (pc := 8) (DCa dc_Past_takeBack_0 4 rfl) rfl
  · refine V_aload_n (pc := 9) (DCa dc_Past_takeBack_0 5 rfl) rfl 0 rfl ?_
    refine V_dup (pc := 10) (DCa dc_Past_takeBack_0 6 rfl) rfl ?_
    refine Q_getf (k := 2) (pc := 11) (DCa dc_Past_takeBack_0 7 rfl) cls_1 (Nat.le_of_ble_eq_true rfl) fl_1_52 rfl rfl rfl (fun v2 => ?_)
    refine V_iconst (pc := 14) (DCa dc_Past_takeBack_0 8 rfl) (by decide) ?_
    refine V_isub (pc := 15) (DCa dc_Past_takeBack_0 9 rfl) ?_
    refine Q_putf (k := 2) (pc := 16) (DCa dc_Past_takeBack_0 10 rfl) cls_1 (Nat.le_of_ble_eq_true rfl) fl_1_52 rfl rfl rfl (Or.inl rfl) (Or.inl ⟨rfl, rfl⟩) (fun h3 => ?_)
    refine V_aload_n (pc := 19) (DCa dc_Past_takeBack_0 11 rfl) rfl 0 rfl ?_
    refine V_aload_n (pc := 20) (DCa dc_Past_takeBack_0 12 rfl) rfl 0 rfl ?_
    refine Q_getf (k := 1) (pc := 21) (DCa dc_Past_takeBack_0 13 rfl) cls_1 (Nat.le_of_ble_eq_true rfl) fl_1_15 rfl rfl rfl (fun v4 => ?_)
    refine V_bipush (pc := 24) (DCa dc_Past_takeBack_0 14 rfl) (by decide) ?_
    refine V_iadd (pc := 26) (DCa dc_Past_takeBack_0 15 rfl) ?_
    refine V_iconst (pc := 27) (DCa dc_Past_takeBack_0 16 rfl) (by decide) ?_
    refine V_isub (pc := 28) (DCa dc_Past_takeBack_0 17 rfl) ?_
    refine V_bipush (pc := 29) (DCa dc_Past_takeBack_0 18 rfl) (by decide) ?_
    refine Q_irem (pc := 31) (DCa dc_Past_takeBack_0 19 rfl) (fun v5 => ?_)
    refine Q_putf (k := 1) (pc := 32) (DCa dc_Past_takeBack_0 20 rfl) cls_1 (Nat.le_of_ble_eq_true rfl) fl_1_15 rfl rfl rfl (Or.inl rfl) (Or.inl ⟨rfl, rfl⟩) (fun h6 => ?_)
    refine V_aload_n (pc := 35) (DCa dc_Past_takeBack_0 21 rfl) rfl 0 rfl ?_
    refine Q_getf (k := 1) (pc := 36) (DCa dc_Past_takeBack_0 22 rfl) cls_1 (Nat.le_of_ble_eq_true rfl) fl_1_15 rfl rfl rfl (fun v7 => ?_)
    refine V_bipush (pc := 39) (DCa dc_Past_takeBack_0 23 rfl) (by decide) ?_
    refine V_imul (pc := 41) (DCa dc_Past_takeBack_0 24 rfl) ?_
    refine Q_lt (fun x8 => ?_)
    refine V_istore_n (ls' := [(0, 2, l0), (1, 2, l1), (2, 0, x8)]) (pc := 42) (DCa dc_Past_takeBack_0 25 rfl) rfl (Nat.le_of_ble_eq_true rfl) rfl ?_
    refine V_aload_n (pc := 43) (DCa dc_Past_takeBack_0 26 rfl) rfl 1 rfl ?_
    refine Q_getf (k := 0) (pc := 44) (DCa dc_Past_takeBack_0 27 rfl) cls_8 (Nat.le_of_ble_eq_true rfl) fl_1_19 rfl rfl rfl (fun v9 => ?_)
    refine V_aload_n (pc := 47) (DCa dc_Past_takeBack_0 28 rfl) rfl 0 rfl ?_
    refine Q_getf (k := 0) (pc := 48) (DCa dc_Past_takeBack_0 29 rfl) cls_1 (Nat.le_of_ble_eq_true rfl) fl_1_11 rfl rfl rfl (fun v10 => ?_)
    refine V_iload_n (pc := 51) (DCa dc_Past_takeBack_0 30 rfl) rfl 2 rfl ?_
    refine Q_iaload (pc := 52) (DCa dc_Past_takeBack_0 31 rfl) (fun v11 => ?_)
    refine Q_aaload (pc := 53) (DCa dc_Past_takeBack_0 32 rfl) (by decide) rfl rfl (fun v12 => ?_)
    refine V_astore_n (ls' := [(0, 2, l0), (1, 2, l1), (2, 0, x8), (3, 2, v12)]) (pc := 54) (DCa dc_Past_takeBack_0 33 rfl) rfl (Nat.le_of_ble_eq_true rfl) rfl ?_
    refine V_aload_n (pc := 55) (DCa dc_Past_takeBack_0 34 rfl) rfl 0 rfl ?_
    refine Q_getf (k := 0) (pc := 56) (DCa dc_Past_takeBack_0 35 rfl) cls_1 (Nat.le_of_ble_eq_true rfl) fl_1_11 rfl rfl rfl (fun v13 => ?_)
    refine V_iload_n (pc := 59) (DCa dc_Past_takeBack_0 36 rfl) rfl 2 rfl ?_
    refine V_iconst (pc := 60) (DCa dc_Past_takeBack_0 37 rfl) (by decide) ?_
    refine V_iadd (pc := 61) (DCa dc_Past_takeBack_0 38 rfl) ?_
    refine Q_iaload (pc := 62) (DCa dc_Past_takeBack_0 39 rfl) (fun v14 => ?_)
    refine V_istore (ls' := [(0, 2, l0), (1, 2, l1), (2, 0, x8), (3, 2, v12), (4, 0, v14)]) (pc := 63) (DCa dc_Past_takeBack_0 40 rfl) (Nat.le_of_ble_eq_true rfl) rfl ?_
    refine V_aload_n (pc := 65) (DCa dc_Past_takeBack_0 41 rfl) rfl 3 rfl ?_
    refine V_aload_n (pc := 66) (DCa dc_Past_takeBack_0 42 rfl) rfl 0 rfl ?_
    refine Q_getf (k := 0) (pc := 67) (DCa dc_Past_takeBack_0 43 rfl) cls_1 (Nat.le_of_ble_eq_true rfl) fl_1_11 rfl rfl rfl (fun v15 => ?_)
    refine V_iload_n (pc := 70) (DCa dc_Past_takeBack_0 44 rfl) rfl 2 rfl ?_
    refine V_iconst (pc := 71) (DCa dc_Past_takeBack_0 45 rfl) (by decide) ?_
    refine V_iadd (pc := 72) (DCa dc_Past_takeBack_0 46 rfl) ?_
    refine Q_iaload (pc := 73) (DCa dc_Past_takeBack_0 47 rfl) (fun v16 => ?_)
    refine Q_putf (k := 0) (pc := 74) (DCa dc_Past_takeBack_0 48 rfl) cls_10 (Nat.le_of_ble_eq_true rfl) fl_1_25 rfl rfl rfl (Or.inl rfl) (Or.inl ⟨rfl, rfl⟩) (fun h17 => ?_)
    refine V_aload_n (pc := 77) (DCa dc_Past_takeBack_0 49 rfl) rfl 3 rfl ?_
    refine V_aload_n (pc := 78) (DCa dc_Past_takeBack_1 0 rfl) rfl 0 rfl ?_
    refine Q_getf (k := 0) (pc := 79) (DCa dc_Past_takeBack_1 1 rfl) cls_1 (Nat.le_of_ble_eq_true rfl) fl_1_11 rfl rfl rfl (fun v18 => ?_)
    refine V_iload_n (pc := 82) (DCa dc_Past_takeBack_1 2 rfl) rfl 2 rfl ?_
    refine V_iconst (pc := 83) (DCa dc_Past_takeBack_1 3 rfl) (by decide) ?_
    refine V_iadd (pc := 84) (DCa dc_Past_takeBack_1 4 rfl) ?_
    refine Q_iaload (pc := 85) (DCa dc_Past_takeBack_1 5 rfl) (fun v19 => ?_)
    refine Q_putf (k := 1) (pc := 86) (DCa dc_Past_takeBack_1 6 rfl) cls_10 (Nat.le_of_ble_eq_true rfl) fl_1_30 rfl rfl rfl (Or.inl rfl) (Or.inl ⟨rfl, rfl⟩) (fun h20 => ?_)
    refine V_aload_n (pc := 89) (DCa dc_Past_takeBack_1 7 rfl) rfl 3 rfl ?_
    refine V_aload_n (pc := 90) (DCa dc_Past_takeBack_1 8 rfl) rfl 0 rfl ?_
    refine Q_getf (k := 0) (pc := 91) (DCa dc_Past_takeBack_1 9 rfl) cls_1 (Nat.le_of_ble_eq_true rfl) fl_1_11 rfl rfl rfl (fun v21 => ?_)
    refine V_iload_n (pc := 94) (DCa dc_Past_takeBack_1 10 rfl) rfl 2 rfl ?_
    refine V_iconst (pc := 95) (DCa dc_Past_takeBack_1 11 rfl) (by decide) ?_
    refine V_iadd (pc := 96) (DCa dc_Past_takeBack_1 12 rfl) ?_
    refine Q_iaload (pc := 97) (DCa dc_Past_takeBack_1 13 rfl) (fun v22 => ?_)
    refine Q_putf (k := 3) (pc := 98) (DCa dc_Past_takeBack_1 14 rfl) cls_10 (Nat.le_of_ble_eq_true rfl) fl_1_33 rfl rfl rfl (Or.inl rfl) (Or.inl ⟨rfl, rfl⟩) (fun h23 => ?_)
    refine V_aload_n (pc := 101) (DCa dc_Past_takeBack_1 15 rfl) rfl 3 rfl ?_
    refine V_aload_n (pc := 102) (DCa dc_Past_takeBack_1 16 rfl) rfl 0 rfl ?_
    refine Q_getf (k := 0) (pc := 103) (DCa dc_Past_takeBack_1 17 rfl) cls_1 (Nat.le_of_ble_eq_true rfl) fl_1_11 rfl rfl rfl (fun v24 => ?_)
    refine V_iload_n (pc := 106) (DCa dc_Past_takeBack_1 18 rfl) rfl 2 rfl ?_
    refine V_iconst (pc := 107) (DCa dc_Past_takeBack_1 19 rfl) (by decide) ?_
    refine V_iadd (pc := 108) (DCa dc_Past_takeBack_1 20 rfl) ?_
    refine Q_iaload (pc := 109) (DCa dc_Past_takeBack_1 21 rfl) (fun v25 => ?_)
    refine Q_putf (k := 4) (pc := 110) (DCa dc_Past_takeBack_1 22 rfl) cls_10 (Nat.le_of_ble_eq_true rfl) fl_1_36 rfl rfl rfl (Or.inl rfl) (Or.inl ⟨rfl, rfl⟩) (fun h26 => ?_)
    refine V_aload_n (pc := 113) (DCa dc_Past_takeBack_1 23 rfl) rfl 1 rfl ?_
    refine Q_getf (k := 1) (pc := 114) (DCa dc_Past_takeBack_1 24 rfl) cls_8 (Nat.le_of_ble_eq_true rfl) fl_1_39 rfl rfl rfl (fun v27 => ?_)
    refine V_iload (pc := 117) (DCa dc_Past_takeBack_1 25 rfl) 4 rfl ?_
    refine V_aload_n (pc := 119) (DCa dc_Past_takeBack_1 26 rfl) rfl 0 rfl ?_
    refine Q_getf (k := 0) (pc := 120) (DCa dc_Past_takeBack_1 27 rfl) cls_1 (Nat.le_of_ble_eq_true rfl) fl_1_11 rfl rfl rfl (fun v28 => ?_)
    refine V_iload_n (pc := 123) (DCa dc_Past_takeBack_1 28 rfl) rfl 2 rfl ?_
    refine V_bipush (pc := 124) (DCa dc_Past_takeBack_1 29 rfl) (by decide) ?_
    refine V_iadd (pc := 126) (DCa dc_Past_takeBack_1 30 rfl) ?_
    refine Q_iaload (pc := 127) (DCa dc_Past_takeBack_1 31 rfl) (fun v29 => ?_)
    refine Q_iastore (pc := 128) (DCa dc_Past_takeBack_1 32 rfl) (fun h30 => ?_)
    refine V_aload_n (pc := 129) (DCa dc_Past_takeBack_1 33 rfl) rfl 1 rfl ?_
    refine Q_getf (k := 2) (pc := 130) (DCa dc_Past_takeBack_1 34 rfl) cls_8 (Nat.le_of_ble_eq_true rfl) fl_1_42 rfl rfl rfl (fun v31 => ?_)
    refine V_iload (pc := 133) (DCa dc_Past_takeBack_1 35 rfl) 4 rfl ?_
    refine V_aload_n (pc := 135) (DCa dc_Past_takeBack_1 36 rfl) rfl 0 rfl ?_
    refine Q_getf (k := 0) (pc := 136) (DCa dc_Past_takeBack_1 37 rfl) cls_1 (Nat.le_of_ble_eq_true rfl) fl_1_11 rfl rfl rfl (fun v32 => ?_)
    refine V_iload_n (pc := 139) (DCa dc_Past_takeBack_1 38 rfl) rfl 2 rfl ?_
    refine V_bipush (pc := 140) (DCa dc_Past_takeBack_1 39 rfl) (by decide) ?_
    refine V_iadd (pc := 142) (DCa dc_Past_takeBack_1 40 rfl) ?_
    refine Q_iaload (pc := 143) (DCa dc_Past_takeBack_1 41 rfl) (fun v33 => ?_)
    refine Q_iastore (pc := 144) (DCa dc_Past_takeBack_1 42 rfl) (fun h34 => ?_)
    refine V_aload_n (pc := 145) (DCa dc_Past_takeBack_1 43 rfl) rfl 1 rfl ?_
    refine Q_getf (k := 3) (pc := 146) (DCa dc_Past_takeBack_1 44 rfl) cls_8 (Nat.le_of_ble_eq_true rfl) fl_1_45 rfl rfl rfl (fun v35 => ?_)
    refine V_iload (pc := 149) (DCa dc_Past_takeBack_1 45 rfl) 4 rfl ?_
    refine V_aload_n (pc := 151) (DCa dc_Past_takeBack_1 46 rfl) rfl 0 rfl ?_
    refine Q_getf (k := 0) (pc := 152) (DCa dc_Past_takeBack_1 47 rfl) cls_1 (Nat.le_of_ble_eq_true rfl) fl_1_11 rfl rfl rfl (fun v36 => ?_)
    refine V_iload_n (pc := 155) (DCa dc_Past_takeBack_1 48 rfl) rfl 2 rfl ?_
    refine V_bipush (pc := 156) (DCa dc_Past_takeBack_1 49 rfl) (by decide) ?_
    refine V_iadd (pc := 158) (DCa dc_Past_takeBack_2 0 rfl) ?_
    refine Q_iaload (pc := 159) (DCa dc_Past_takeBack_2 1 rfl) (fun v37 => ?_)
    refine Q_iastore (pc := 160) (DCa dc_Past_takeBack_2 2 rfl) (fun h38 => ?_)
    refine V_aload_n (pc := 161) (DCa dc_Past_takeBack_2 3 rfl) rfl 1 rfl ?_
    refine Q_getf (k := 4) (pc := 162) (DCa dc_Past_takeBack_2 4 rfl) cls_8 (Nat.le_of_ble_eq_true rfl) fl_1_48 rfl rfl rfl (fun v39 => ?_)
    refine V_iload (pc := 165) (DCa dc_Past_takeBack_2 5 rfl) 4 rfl ?_
    refine V_aload_n (pc := 167) (DCa dc_Past_takeBack_2 6 rfl) rfl 0 rfl ?_
    refine Q_getf (k := 0) (pc := 168) (DCa dc_Past_takeBack_2 7 rfl) cls_1 (Nat.le_of_ble_eq_true rfl) fl_1_11 rfl rfl rfl (fun v40 => ?_)
    refine V_iload_n (pc := 171) (DCa dc_Past_takeBack_2 8 rfl) rfl 2 rfl ?_
    refine V_bipush (pc := 172) (DCa dc_Past_takeBack_2 9 rfl) (by decide) ?_
    refine V_iadd (pc := 174) (DCa dc_Past_takeBack_2 10 rfl) ?_
    refine Q_iaload (pc := 175) (DCa dc_Past_takeBack_2 11 rfl) (fun v41 => ?_)
    refine V_iconst (pc := 176) (DCa dc_Past_takeBack_2 12 rfl) (by decide) ?_
    refine V_icmp_ne (tgt := 184) (pc := 177) (DCa dc_Past_takeBack_2 13 rfl) (by decide) (fun _ => ?_) (fun _ => ?_)
    · refine V_iconst (pc := 180) (DCa dc_Past_takeBack_2 14 rfl) (by decide) ?_
      refine V_goto (tgt := 185) (pc := 181) (DCa dc_Past_takeBack_2 15 rfl) (by decide) ?_
      refine V_pick [1] rfl ?_
      exact v_Past_takeBack_B185 F _ _ _ _ _
    · refine V_iconst (pc := 184) (DCa dc_Past_takeBack_2 16 rfl) (by decide) ?_
      refine V_pick [1] rfl ?_
      exact v_Past_takeBack_B185 F _ _ _ _ _
theorem sp_Past_takeBack (F : Nat) (l0 l1 : Int) (h : Hp) : Sp yX1_takeBack cX1_takeBack 5 (some (.boolean)) 1 20 [(2, l0), (2, l1)] h (Past_takeBack F l0 l1 h) := Sp_of (by decide +kernel) rfl rfl (Nat.le_of_ble_eq_true rfl) (v_Past_takeBack F l0 l1 h)

-- TideRakes$Rows.<init>
def Rows_init (F : Nat) (l0 : Int) (h : Hp) : Option (Int × Hp) :=
  vc h l0 104 <|
  na h 5 0 fun v1 h2 =>
  pf h2 l0 104 0 v1 fun h3 =>
  na h3 0 64 fun v4 h5 =>
  pf h5 l0 104 3 v4 fun h6 =>
  na h6 0 8 fun v7 h8 =>
  pf h8 l0 104 4 v7 fun h9 =>
  na h9 0 0 fun v10 h11 =>
  pf h11 l0 104 5 v10 fun h12 =>
  na h12 0 1 fun v13 h14 =>
  pf h14 l0 104 6 v13 fun h15 =>
  some (0, h15)

theorem dc_Rows_init_0 : ∀ q ∈ ([(0, .aload_n 0, 1), (1, .invokespecial 3, 3), (4, .aload_n 0, 1), (5, .iconst 0, 1), (6, .anewarray 9, 3), (9, .putfield 11, 3), (12, .aload_n 0, 1), (13, .bipush 64, 2), (15, .newarray .int, 2), (17, .putfield 17, 3), (20, .aload_n 0, 1), (21, .bipush 8, 2), (23, .newarray .int, 2), (25, .putfield 21, 3), (28, .aload_n 0, 1), (29, .iconst 0, 1), (30, .newarray .int, 2), (32, .putfield 24, 3), (35, .aload_n 0, 1), (36, .iconst 1, 1), (37, .newarray .int, 2), (39, .putfield 27, 3), (42, .return_, 1)] : List (Nat × Instr × Nat)), decode cX4_init q.1 = .ok (q.2.1, q.2.2) := by decide +kernel
abbrev X_Rows_init : MX := (cX4_init, RX4, "<init>", 1, none, 1, 20)
theorem v_Rows_init (F : Nat) (l0 : Int) (h : Hp) : V X_Rows_init 0 [(0, 2, l0)] [] h (Rows_init F l0 h) := by
  unfold Rows_init
  refine V_aload_n (pc := 0) (DCa dc_Rows_init_0 0 rfl) rfl 0 rfl ?_
  refine Q_objinit (pc := 1) (DCa dc_Rows_init_0 1 rfl) (tb2 209 rfl rfl) oi_i oi_c ⟨Nat.le_of_ble_eq_true rfl, Nat.le_of_ble_eq_true rfl⟩ ?_
  refine V_aload_n (pc := 4) (DCa dc_Rows_init_0 2 rfl) rfl 0 rfl ?_
  refine V_iconst (pc := 5) (DCa dc_Rows_init_0 3 rfl) (by decide) ?_
  refine Q_anewa (C := RX5) (pc := 6) (DCa dc_Rows_init_0 4 rfl) (by decide) rfl rfl (tb2 210 rfl rfl) (by decide +kernel) (fun v1 h2 => ?_)
  refine Q_putf (k := 0) (pc := 9) (DCa dc_Rows_init_0 5 rfl) cls_4 (Nat.le_of_ble_eq_true rfl) fl_4_11 rfl rfl rfl (Or.inl rfl) (Or.inr ⟨Or.inr ⟨_, rfl⟩, rfl⟩) (fun h3 => ?_)
  refine V_aload_n (pc := 12) (DCa dc_Rows_init_0 6 rfl) rfl 0 rfl ?_
  refine V_bipush (pc := 13) (DCa dc_Rows_init_0 7 rfl) (by decide) ?_
  refine Q_newa (pc := 15) (DCa dc_Rows_init_0 8 rfl) nas_0 (fun v4 h5 => ?_)
  refine Q_putf (k := 3) (pc := 17) (DCa dc_Rows_init_0 9 rfl) cls_4 (Nat.le_of_ble_eq_true rfl) fl_4_17 rfl rfl rfl (Or.inr ⟨rfl, rfl, rfl⟩) (Or.inr ⟨Or.inr ⟨_, rfl⟩, rfl⟩) (fun h6 => ?_)
  refine V_aload_n (pc := 20) (DCa dc_Rows_init_0 10 rfl) rfl 0 rfl ?_
  refine V_bipush (pc := 21) (DCa dc_Rows_init_0 11 rfl) (by decide) ?_
  refine Q_newa (pc := 23) (DCa dc_Rows_init_0 12 rfl) nas_0 (fun v7 h8 => ?_)
  refine Q_putf (k := 4) (pc := 25) (DCa dc_Rows_init_0 13 rfl) cls_4 (Nat.le_of_ble_eq_true rfl) fl_4_21 rfl rfl rfl (Or.inr ⟨rfl, rfl, rfl⟩) (Or.inr ⟨Or.inr ⟨_, rfl⟩, rfl⟩) (fun h9 => ?_)
  refine V_aload_n (pc := 28) (DCa dc_Rows_init_0 14 rfl) rfl 0 rfl ?_
  refine V_iconst (pc := 29) (DCa dc_Rows_init_0 15 rfl) (by decide) ?_
  refine Q_newa (pc := 30) (DCa dc_Rows_init_0 16 rfl) nas_0 (fun v10 h11 => ?_)
  refine Q_putf (k := 5) (pc := 32) (DCa dc_Rows_init_0 17 rfl) cls_4 (Nat.le_of_ble_eq_true rfl) fl_4_24 rfl rfl rfl (Or.inl rfl) (Or.inr ⟨Or.inr ⟨_, rfl⟩, rfl⟩) (fun h12 => ?_)
  refine V_aload_n (pc := 35) (DCa dc_Rows_init_0 18 rfl) rfl 0 rfl ?_
  refine V_iconst (pc := 36) (DCa dc_Rows_init_0 19 rfl) (by decide) ?_
  refine Q_newa (pc := 37) (DCa dc_Rows_init_0 20 rfl) nas_0 (fun v13 h14 => ?_)
  refine Q_putf (k := 6) (pc := 39) (DCa dc_Rows_init_0 21 rfl) cls_4 (Nat.le_of_ble_eq_true rfl) fl_4_27 rfl rfl rfl (Or.inl rfl) (Or.inr ⟨Or.inr ⟨_, rfl⟩, rfl⟩) (fun h15 => ?_)
  exact V_return (pc := 42) (DCa dc_Rows_init_0 22 rfl) rfl
theorem sp_Rows_init (F : Nat) (l0 : Int) (h : Hp) : Sp yX4_init cX4_init 1 none 1 20 [(2, l0)] h (Rows_init F l0 h) := Sp_of (by decide +kernel) rfl rfl (Nat.le_of_ble_eq_true rfl) (v_Rows_init F l0 h)

-- TideRakes$Sand.<init>
def Sand_init (F : Nat) (l0 : Int) (h : Hp) : Option (Int × Hp) :=
  vc h l0 105 <|
  na h 0 0 fun v1 h2 =>
  pf h2 l0 105 4 v1 fun h3 =>
  na h3 0 0 fun v4 h5 =>
  pf h5 l0 105 5 v4 fun h6 =>
  some (0, h6)

theorem dc_Sand_init_0 : ∀ q ∈ ([(0, .aload_n 0, 1), (1, .invokespecial 3, 3), (4, .aload_n 0, 1), (5, .iconst 0, 1), (6, .newarray .int, 2), (8, .putfield 9, 3), (11, .aload_n 0, 1), (12, .iconst 0, 1), (13, .newarray .int, 2), (15, .putfield 15, 3), (18, .return_, 1)] : List (Nat × Instr × Nat)), decode cX5_init q.1 = .ok (q.2.1, q.2.2) := by decide +kernel
abbrev X_Sand_init : MX := (cX5_init, RX5, "<init>", 1, none, 1, 20)
theorem v_Sand_init (F : Nat) (l0 : Int) (h : Hp) : V X_Sand_init 0 [(0, 2, l0)] [] h (Sand_init F l0 h) := by
  unfold Sand_init
  refine V_aload_n (pc := 0) (DCa dc_Sand_init_0 0 rfl) rfl 0 rfl ?_
  refine Q_objinit (pc := 1) (DCa dc_Sand_init_0 1 rfl) (tb2 23 rfl rfl) oi_i oi_c ⟨Nat.le_of_ble_eq_true rfl, Nat.le_of_ble_eq_true rfl⟩ ?_
  refine V_aload_n (pc := 4) (DCa dc_Sand_init_0 2 rfl) rfl 0 rfl ?_
  refine V_iconst (pc := 5) (DCa dc_Sand_init_0 3 rfl) (by decide) ?_
  refine Q_newa (pc := 6) (DCa dc_Sand_init_0 4 rfl) nas_0 (fun v1 h2 => ?_)
  refine Q_putf (k := 4) (pc := 8) (DCa dc_Sand_init_0 5 rfl) cls_5 (Nat.le_of_ble_eq_true rfl) fl_5_9 rfl rfl rfl (Or.inl rfl) (Or.inr ⟨Or.inr ⟨_, rfl⟩, rfl⟩) (fun h3 => ?_)
  refine V_aload_n (pc := 11) (DCa dc_Sand_init_0 6 rfl) rfl 0 rfl ?_
  refine V_iconst (pc := 12) (DCa dc_Sand_init_0 7 rfl) (by decide) ?_
  refine Q_newa (pc := 13) (DCa dc_Sand_init_0 8 rfl) nas_0 (fun v4 h5 => ?_)
  refine Q_putf (k := 5) (pc := 15) (DCa dc_Sand_init_0 9 rfl) cls_5 (Nat.le_of_ble_eq_true rfl) fl_5_15 rfl rfl rfl (Or.inl rfl) (Or.inr ⟨Or.inr ⟨_, rfl⟩, rfl⟩) (fun h6 => ?_)
  exact V_return (pc := 18) (DCa dc_Sand_init_0 10 rfl) rfl
theorem sp_Sand_init (F : Nat) (l0 : Int) (h : Hp) : Sp yX5_init cX5_init 1 none 1 20 [(2, l0)] h (Sand_init F l0 h) := Sp_of (by decide +kernel) rfl rfl (Nat.le_of_ble_eq_true rfl) (v_Sand_init F l0 h)

-- TideRakes$Walker.<init>
def Walk_init (F : Nat) (l0 : Int) (h : Hp) : Option (Int × Hp) :=
  vc h l0 110 <|
  some (0, h)

theorem dc_Walk_init_0 : ∀ q ∈ ([(0, .aload_n 0, 1), (1, .invokespecial 1, 3), (4, .return_, 1)] : List (Nat × Instr × Nat)), decode cX10_init q.1 = .ok (q.2.1, q.2.2) := by decide +kernel
abbrev X_Walk_init : MX := (cX10_init, RX10, "<init>", 1, none, 1, 20)
theorem v_Walk_init (F : Nat) (l0 : Int) (h : Hp) : V X_Walk_init 0 [(0, 2, l0)] [] h (Walk_init F l0 h) := by
  unfold Walk_init
  refine V_aload_n (pc := 0) (DCa dc_Walk_init_0 0 rfl) rfl 0 rfl ?_
  refine Q_objinit (pc := 1) (DCa dc_Walk_init_0 1 rfl) (tb2 102 rfl rfl) oi_i oi_c ⟨Nat.le_of_ble_eq_true rfl, Nat.le_of_ble_eq_true rfl⟩ ?_
  exact V_return (pc := 4) (DCa dc_Walk_init_0 2 rfl) rfl
theorem sp_Walk_init (F : Nat) (l0 : Int) (h : Hp) : Sp yX10_init cX10_init 1 none 1 20 [(2, l0)] h (Walk_init F l0 h) := Sp_of (by decide +kernel) rfl rfl (Nat.le_of_ble_eq_true rfl) (v_Walk_init F l0 h)

-- TideRakes$Planner.<init>
def Plan_init_L112s (F : Nat)  (R112 : Int → Int → Hp → Option (Int × Hp)) (l0 l1 : Int) (h : Hp) : Option (Int × Hp) :=
  if l1 < 8 then
    (gf h l0 102 8 fun v38 =>
    no h 105 6 fun v39 h40 =>
    iv h40 v39 105 (Sand_init F v39 h40) fun r41 h42 =>
    ar h42 v38 5 l1 v39 105 fun h43 =>
    R112 l0 (w32 (l1 + 1)) h43)
  else
    (some (0, h))
def Plan_init_L112 (F : Nat)  : Nat → Int → Int → Hp → Option (Int × Hp)
  | 0 => fun _ _ _ => none
  | n + 1 => Plan_init_L112s F  (Plan_init_L112 F  n)
def Plan_init_L86s (F : Nat)  (R86 : Int → Int → Hp → Option (Int × Hp)) (l0 l1 : Int) (h : Hp) : Option (Int × Hp) :=
  if l1 < 3 then
    (gf h l0 102 0 fun v32 =>
    no h 104 7 fun v33 h34 =>
    iv h34 v33 104 (Rows_init F v33 h34) fun r35 h36 =>
    ar h36 v32 4 l1 v33 104 fun h37 =>
    R86 l0 (w32 (l1 + 1)) h37)
  else
    (Plan_init_L112 F F l0 0 h)
def Plan_init_L86 (F : Nat)  : Nat → Int → Int → Hp → Option (Int × Hp)
  | 0 => fun _ _ _ => none
  | n + 1 => Plan_init_L86s F  (Plan_init_L86 F  n)
def Plan_init (F : Nat) (l0 : Int) (h : Hp) : Option (Int × Hp) :=
  vc h l0 102 <|
  na h 4 3 fun v1 h2 =>
  pf h2 l0 102 0 v1 fun h3 =>
  na h3 2 3 fun v4 h5 =>
  pf h5 l0 102 1 v4 fun h6 =>
  no h6 104 7 fun v7 h8 =>
  iv h8 v7 104 (Rows_init F v7 h8) fun r9 h10 =>
  pf h10 l0 102 2 v7 fun h11 =>
  no h11 110 5 fun v12 h13 =>
  iv h13 v12 110 (Walk_init F v12 h13) fun r14 h15 =>
  pf h15 l0 102 3 v12 fun h16 =>
  na h16 0 8 fun v17 h18 =>
  pf h18 l0 102 4 v17 fun h19 =>
  na h19 0 256 fun v20 h21 =>
  pf h21 l0 102 5 v20 fun h22 =>
  na h22 0 256 fun v23 h24 =>
  pf h24 l0 102 7 v23 fun h25 =>
  na h25 5 8 fun v26 h27 =>
  pf h27 l0 102 8 v26 fun h28 =>
  na h28 0 17 fun v29 h30 =>
  pf h30 l0 102 9 v29 fun h31 =>
  Plan_init_L86 F F l0 0 h31

theorem dc_Plan_init_0 : ∀ q ∈ ([(0, .aload_n 0, 1), (1, .invokespecial 3, 3), (4, .aload_n 0, 1), (5, .iconst 3, 1), (6, .anewarray 9, 3), (9, .putfield 11, 3), (12, .aload_n 0, 1), (13, .iconst 3, 1), (14, .newarray .boolean, 2), (16, .putfield 17, 3), (19, .aload_n 0, 1), (20, .new 9, 3), (23, .dup, 1), (24, .invokespecial 21, 3), (27, .putfield 22, 3), (30, .aload_n 0, 1), (31, .new 26, 3), (34, .dup, 1), (35, .invokespecial 28, 3), (38, .putfield 29, 3), (41, .aload_n 0, 1), (42, .bipush 8, 2), (44, .newarray .int, 2), (46, .putfield 33, 3), (49, .aload_n 0, 1), (50, .sipush 256, 3), (53, .newarray .int, 2), (55, .putfield 37, 3), (58, .aload_n 0, 1), (59, .sipush 256, 3), (62, .newarray .int, 2), (64, .putfield 40, 3), (67, .aload_n 0, 1), (68, .bipush 8, 2), (70, .anewarray 43, 3), (73, .putfield 45, 3), (76, .aload_n 0, 1), (77, .bipush 17, 2), (79, .newarray .int, 2), (81, .putfield 49, 3), (84, .iconst 0, 1), (85, .istore_n 1, 1), (86, .iload_n 1, 1), (87, .iconst 3, 1), (88, .if_icmp .ge 22, 3), (91, .aload_n 0, 1), (92, .getfield 11, 3), (95, .iload_n 1, 1), (96, .new 9, 3), (99, .dup, 1)] : List (Nat × Instr × Nat)), decode cX2_init q.1 = .ok (q.2.1, q.2.2) := by decide +kernel
theorem dc_Plan_init_1 : ∀ q ∈ ([(100, .invokespecial 21, 3), (103, .aastore, 1), (104, .iinc 1 1, 3), (107, .goto (-21), 3), (110, .iconst 0, 1), (111, .istore_n 1, 1), (112, .iload_n 1, 1), (113, .bipush 8, 2), (115, .if_icmp .ge 22, 3), (118, .aload_n 0, 1), (119, .getfield 45, 3), (122, .iload_n 1, 1), (123, .new 43, 3), (126, .dup, 1), (127, .invokespecial 52, 3), (130, .aastore, 1), (131, .iinc 1 1, 3), (134, .goto (-22), 3), (137, .return_, 1)] : List (Nat × Instr × Nat)), decode cX2_init q.1 = .ok (q.2.1, q.2.2) := by decide +kernel
abbrev X_Plan_init : MX := (cX2_init, RX2, "<init>", 2, none, 2, 40)
theorem v_Plan_init_L112s (F : Nat)  (R112 : Int → Int → Hp → Option (Int × Hp)) (hR112 : ∀ (l0 l1 : Int) (h : Hp), V X_Plan_init 112 [(0, 2, l0), (1, 0, l1)] [] h (R112 l0 l1 h)) (l0 l1 : Int) (h : Hp) : V X_Plan_init 112 [(0, 2, l0), (1, 0, l1)] [] h (Plan_init_L112s F  R112 l0 l1 h) := by
  unfold Plan_init_L112s
  refine V_iload_n (pc := 112) (DCa dc_Plan_init_1 6 rfl) rfl 1 rfl ?_
  refine V_bipush (pc := 113) (DCa dc_Plan_init_1 7 rfl) (by decide) ?_
  refine V_icmp_ge (tgt := 137) (pc := 115) (DCa dc_Plan_init_1 8 rfl) (by decide) (fun _ => ?_) (fun _ => ?_)
  · refine V_aload_n (pc := 118) (DCa dc_Plan_init_1 9 rfl) rfl 0 rfl ?_
    refine Q_getf (k := 8) (pc := 119) (DCa dc_Plan_init_1 10 rfl) cls_2 (Nat.le_of_ble_eq_true rfl) fl_2_45 rfl rfl rfl (fun v38 => ?_)
    refine V_iload_n (pc := 122) (DCa dc_Plan_init_1 11 rfl) rfl 1 rfl ?_
    refine Q_new (pc := 123) (DCa dc_Plan_init_1 12 rfl) cls_5 (tb2 237 rfl rfl) rfl rfl (fun v39 h40 => ?_)
    refine V_dup (pc := 126) (DCa dc_Plan_init_1 13 rfl) rfl ?_
    refine Q_calliN (ci := 5) (host := "TideRakes") (st := [(2, v39), (0, l1), (2, v38)]) (pc := 127) (DCa dc_Plan_init_1 14 rfl) (sp_Sand_init F _ _) ce_Sand_init (by decide +kernel) rfl rfl ⟨Nat.le_of_ble_eq_true rfl, Nat.le_of_ble_eq_true rfl⟩ rfl (Nat.le_of_ble_eq_true rfl) (fun r41 h42 => ?_)
    refine Q_aastore (pc := 130) (DCa dc_Plan_init_1 15 rfl) (by decide) rfl cls_5 rfl rfl (fun h43 => ?_)
    refine V_iinc (ls' := [(0, 2, l0), (1, 0, w32 (l1 + 1))]) (pc := 131) (DCa dc_Plan_init_1 16 rfl) (Nat.le_of_ble_eq_true rfl) (by decide) 1 rfl rfl ?_
    refine V_goto (tgt := 112) (pc := 134) (DCa dc_Plan_init_1 17 rfl) (by decide) ?_
    exact hR112 _ _ _
  · exact V_return (pc := 137) (DCa dc_Plan_init_1 18 rfl) rfl
theorem v_Plan_init_L112 (F : Nat)  (n : Nat) : ∀ (l0 l1 : Int) (h : Hp), V X_Plan_init 112 [(0, 2, l0), (1, 0, l1)] [] h (Plan_init_L112 F  n l0 l1 h) := by
  induction n with
  | zero => intros; exact V_none
  | succ n ih => exact fun l0 l1 h => v_Plan_init_L112s F  _ ih l0 l1 h
theorem v_Plan_init_L86s (F : Nat)  (R86 : Int → Int → Hp → Option (Int × Hp)) (hR86 : ∀ (l0 l1 : Int) (h : Hp), V X_Plan_init 86 [(0, 2, l0), (1, 0, l1)] [] h (R86 l0 l1 h)) (l0 l1 : Int) (h : Hp) : V X_Plan_init 86 [(0, 2, l0), (1, 0, l1)] [] h (Plan_init_L86s F  R86 l0 l1 h) := by
  unfold Plan_init_L86s
  refine V_iload_n (pc := 86) (DCa dc_Plan_init_0 42 rfl) rfl 1 rfl ?_
  refine V_iconst (pc := 87) (DCa dc_Plan_init_0 43 rfl) (by decide) ?_
  refine V_icmp_ge (tgt := 110) (pc := 88) (DCa dc_Plan_init_0 44 rfl) (by decide) (fun _ => ?_) (fun _ => ?_)
  · refine V_aload_n (pc := 91) (DCa dc_Plan_init_0 45 rfl) rfl 0 rfl ?_
    refine Q_getf (k := 0) (pc := 92) (DCa dc_Plan_init_0 46 rfl) cls_2 (Nat.le_of_ble_eq_true rfl) fl_2_11 rfl rfl rfl (fun v32 => ?_)
    refine V_iload_n (pc := 95) (DCa dc_Plan_init_0 47 rfl) rfl 1 rfl ?_
    refine Q_new (pc := 96) (DCa dc_Plan_init_0 48 rfl) cls_4 (tb2 203 rfl rfl) rfl rfl (fun v33 h34 => ?_)
    refine V_dup (pc := 99) (DCa dc_Plan_init_0 49 rfl) rfl ?_
    refine Q_calliN (ci := 4) (host := "TideRakes") (st := [(2, v33), (0, l1), (2, v32)]) (pc := 100) (DCa dc_Plan_init_1 0 rfl) (sp_Rows_init F _ _) ce_Rows_init (by decide +kernel) rfl rfl ⟨Nat.le_of_ble_eq_true rfl, Nat.le_of_ble_eq_true rfl⟩ rfl (Nat.le_of_ble_eq_true rfl) (fun r35 h36 => ?_)
    refine Q_aastore (pc := 103) (DCa dc_Plan_init_1 1 rfl) (by decide) rfl cls_4 rfl rfl (fun h37 => ?_)
    refine V_iinc (ls' := [(0, 2, l0), (1, 0, w32 (l1 + 1))]) (pc := 104) (DCa dc_Plan_init_1 2 rfl) (Nat.le_of_ble_eq_true rfl) (by decide) 1 rfl rfl ?_
    refine V_goto (tgt := 86) (pc := 107) (DCa dc_Plan_init_1 3 rfl) (by decide) ?_
    exact hR86 _ _ _
  · refine V_iconst (pc := 110) (DCa dc_Plan_init_1 4 rfl) (by decide) ?_
    refine V_istore_n (ls' := [(0, 2, l0), (1, 0, 0)]) (pc := 111) (DCa dc_Plan_init_1 5 rfl) rfl (Nat.le_of_ble_eq_true rfl) rfl ?_
    exact v_Plan_init_L112 F F _ _ _
theorem v_Plan_init_L86 (F : Nat)  (n : Nat) : ∀ (l0 l1 : Int) (h : Hp), V X_Plan_init 86 [(0, 2, l0), (1, 0, l1)] [] h (Plan_init_L86 F  n l0 l1 h) := by
  induction n with
  | zero => intros; exact V_none
  | succ n ih => exact fun l0 l1 h => v_Plan_init_L86s F  _ ih l0 l1 h
theorem v_Plan_init (F : Nat) (l0 : Int) (h : Hp) : V X_Plan_init 0 [(0, 2, l0)] [] h (Plan_init F l0 h) := by
  unfold Plan_init
  refine V_aload_n (pc := 0) (DCa dc_Plan_init_0 0 rfl) rfl 0 rfl ?_
  refine Q_objinit (pc := 1) (DCa dc_Plan_init_0 1 rfl) (tb2 202 rfl rfl) oi_i oi_c ⟨Nat.le_of_ble_eq_true rfl, Nat.le_of_ble_eq_true rfl⟩ ?_
  refine V_aload_n (pc := 4) (DCa dc_Plan_init_0 2 rfl) rfl 0 rfl ?_
  refine V_iconst (pc := 5) (DCa dc_Plan_init_0 3 rfl) (by decide) ?_
  refine Q_anewa (C := RX4) (pc := 6) (DCa dc_Plan_init_0 4 rfl) (by decide) rfl rfl (tb2 203 rfl rfl) (by decide +kernel) (fun v1 h2 => ?_)
  refine Q_putf (k := 0) (pc := 9) (DCa dc_Plan_init_0 5 rfl) cls_2 (Nat.le_of_ble_eq_true rfl) fl_2_11 rfl rfl rfl (Or.inr ⟨rfl, rfl, rfl⟩) (Or.inr ⟨Or.inr ⟨_, rfl⟩, rfl⟩) (fun h3 => ?_)
  refine V_aload_n (pc := 12) (DCa dc_Plan_init_0 6 rfl) rfl 0 rfl ?_
  refine V_iconst (pc := 13) (DCa dc_Plan_init_0 7 rfl) (by decide) ?_
  refine Q_newa (pc := 14) (DCa dc_Plan_init_0 8 rfl) nas_2 (fun v4 h5 => ?_)
  refine Q_putf (k := 1) (pc := 16) (DCa dc_Plan_init_0 9 rfl) cls_2 (Nat.le_of_ble_eq_true rfl) fl_2_17 rfl rfl rfl (Or.inr ⟨rfl, rfl, rfl⟩) (Or.inr ⟨Or.inr ⟨_, rfl⟩, rfl⟩) (fun h6 => ?_)
  refine V_aload_n (pc := 19) (DCa dc_Plan_init_0 10 rfl) rfl 0 rfl ?_
  refine Q_new (pc := 20) (DCa dc_Plan_init_0 11 rfl) cls_4 (tb2 203 rfl rfl) rfl rfl (fun v7 h8 => ?_)
  refine V_dup (pc := 23) (DCa dc_Plan_init_0 12 rfl) rfl ?_
  refine Q_calliN (ci := 4) (host := "TideRakes") (st := [(2, v7), (2, l0)]) (pc := 24) (DCa dc_Plan_init_0 13 rfl) (sp_Rows_init F _ _) ce_Rows_init (by decide +kernel) rfl rfl ⟨Nat.le_of_ble_eq_true rfl, Nat.le_of_ble_eq_true rfl⟩ rfl (Nat.le_of_ble_eq_true rfl) (fun r9 h10 => ?_)
  refine Q_putf (k := 2) (pc := 27) (DCa dc_Plan_init_0 14 rfl) cls_2 (Nat.le_of_ble_eq_true rfl) fl_2_22 rfl rfl rfl (Or.inr ⟨rfl, rfl, rfl⟩) (Or.inr ⟨Or.inl ⟨_, rfl⟩, rfl⟩) (fun h11 => ?_)
  refine V_aload_n (pc := 30) (DCa dc_Plan_init_0 15 rfl) rfl 0 rfl ?_
  refine Q_new (pc := 31) (DCa dc_Plan_init_0 16 rfl) cls_10 (tb2 235 rfl rfl) rfl rfl (fun v12 h13 => ?_)
  refine V_dup (pc := 34) (DCa dc_Plan_init_0 17 rfl) rfl ?_
  refine Q_calliN (ci := 10) (host := "TideRakes") (st := [(2, v12), (2, l0)]) (pc := 35) (DCa dc_Plan_init_0 18 rfl) (sp_Walk_init F _ _) ce_Walk_init (by decide +kernel) rfl rfl ⟨Nat.le_of_ble_eq_true rfl, Nat.le_of_ble_eq_true rfl⟩ rfl (Nat.le_of_ble_eq_true rfl) (fun r14 h15 => ?_)
  refine Q_putf (k := 3) (pc := 38) (DCa dc_Plan_init_0 19 rfl) cls_2 (Nat.le_of_ble_eq_true rfl) fl_2_29 rfl rfl rfl (Or.inr ⟨rfl, rfl, rfl⟩) (Or.inr ⟨Or.inl ⟨_, rfl⟩, rfl⟩) (fun h16 => ?_)
  refine V_aload_n (pc := 41) (DCa dc_Plan_init_0 20 rfl) rfl 0 rfl ?_
  refine V_bipush (pc := 42) (DCa dc_Plan_init_0 21 rfl) (by decide) ?_
  refine Q_newa (pc := 44) (DCa dc_Plan_init_0 22 rfl) nas_0 (fun v17 h18 => ?_)
  refine Q_putf (k := 4) (pc := 46) (DCa dc_Plan_init_0 23 rfl) cls_2 (Nat.le_of_ble_eq_true rfl) fl_2_33 rfl rfl rfl (Or.inr ⟨rfl, rfl, rfl⟩) (Or.inr ⟨Or.inr ⟨_, rfl⟩, rfl⟩) (fun h19 => ?_)
  refine V_aload_n (pc := 49) (DCa dc_Plan_init_0 24 rfl) rfl 0 rfl ?_
  refine V_sipush (pc := 50) (DCa dc_Plan_init_0 25 rfl) (by decide) ?_
  refine Q_newa (pc := 53) (DCa dc_Plan_init_0 26 rfl) nas_0 (fun v20 h21 => ?_)
  refine Q_putf (k := 5) (pc := 55) (DCa dc_Plan_init_0 27 rfl) cls_2 (Nat.le_of_ble_eq_true rfl) fl_2_37 rfl rfl rfl (Or.inr ⟨rfl, rfl, rfl⟩) (Or.inr ⟨Or.inr ⟨_, rfl⟩, rfl⟩) (fun h22 => ?_)
  refine V_aload_n (pc := 58) (DCa dc_Plan_init_0 28 rfl) rfl 0 rfl ?_
  refine V_sipush (pc := 59) (DCa dc_Plan_init_0 29 rfl) (by decide) ?_
  refine Q_newa (pc := 62) (DCa dc_Plan_init_0 30 rfl) nas_0 (fun v23 h24 => ?_)
  refine Q_putf (k := 7) (pc := 64) (DCa dc_Plan_init_0 31 rfl) cls_2 (Nat.le_of_ble_eq_true rfl) fl_2_40 rfl rfl rfl (Or.inr ⟨rfl, rfl, rfl⟩) (Or.inr ⟨Or.inr ⟨_, rfl⟩, rfl⟩) (fun h25 => ?_)
  refine V_aload_n (pc := 67) (DCa dc_Plan_init_0 32 rfl) rfl 0 rfl ?_
  refine V_bipush (pc := 68) (DCa dc_Plan_init_0 33 rfl) (by decide) ?_
  refine Q_anewa (C := RX5) (pc := 70) (DCa dc_Plan_init_0 34 rfl) (by decide) rfl rfl (tb2 237 rfl rfl) (by decide +kernel) (fun v26 h27 => ?_)
  refine Q_putf (k := 8) (pc := 73) (DCa dc_Plan_init_0 35 rfl) cls_2 (Nat.le_of_ble_eq_true rfl) fl_2_45 rfl rfl rfl (Or.inr ⟨rfl, rfl, rfl⟩) (Or.inr ⟨Or.inr ⟨_, rfl⟩, rfl⟩) (fun h28 => ?_)
  refine V_aload_n (pc := 76) (DCa dc_Plan_init_0 36 rfl) rfl 0 rfl ?_
  refine V_bipush (pc := 77) (DCa dc_Plan_init_0 37 rfl) (by decide) ?_
  refine Q_newa (pc := 79) (DCa dc_Plan_init_0 38 rfl) nas_0 (fun v29 h30 => ?_)
  refine Q_putf (k := 9) (pc := 81) (DCa dc_Plan_init_0 39 rfl) cls_2 (Nat.le_of_ble_eq_true rfl) fl_2_49 rfl rfl rfl (Or.inr ⟨rfl, rfl, rfl⟩) (Or.inr ⟨Or.inr ⟨_, rfl⟩, rfl⟩) (fun h31 => ?_)
  refine V_iconst (pc := 84) (DCa dc_Plan_init_0 40 rfl) (by decide) ?_
  refine V_istore_n (ls' := [(0, 2, l0), (1, 0, 0)]) (pc := 85) (DCa dc_Plan_init_0 41 rfl) rfl (Nat.le_of_ble_eq_true rfl) rfl ?_
  exact v_Plan_init_L86 F F _ _ _
theorem sp_Plan_init (F : Nat) (l0 : Int) (h : Hp) : Sp yX2_init cX2_init 2 none 2 40 [(2, l0)] h (Plan_init F l0 h) := Sp_of (by decide +kernel) rfl rfl (Nat.le_of_ble_eq_true rfl) (v_Plan_init F l0 h)

-- TideRakes$Planner.forgetRows
def Plan_forgetRows_L2s (F : Nat)  (R2 : Int → Int → Hp → Option (Int × Hp)) (l0 l1 : Int) (h : Hp) : Option (Int × Hp) :=
  if l1 < 3 then
    (gf h l0 102 1 fun v1 =>
    az h v1 l1 0 fun h2 =>
    R2 l0 (w32 (l1 + 1)) h2)
  else
    (pz h l0 102 6 0 fun h3 =>
    some (0, h3))
def Plan_forgetRows_L2 (F : Nat)  : Nat → Int → Int → Hp → Option (Int × Hp)
  | 0 => fun _ _ _ => none
  | n + 1 => Plan_forgetRows_L2s F  (Plan_forgetRows_L2 F  n)
def Plan_forgetRows (F : Nat) (l0 : Int) (h : Hp) : Option (Int × Hp) :=
  Plan_forgetRows_L2 F F l0 0 h

theorem dc_Plan_forgetRows_0 : ∀ q ∈ ([(0, .iconst 0, 1), (1, .istore_n 1, 1), (2, .iload_n 1, 1), (3, .iconst 3, 1), (4, .if_icmp .ge 16, 3), (7, .aload_n 0, 1), (8, .getfield 17, 3), (11, .iload_n 1, 1), (12, .iconst 0, 1), (13, .bastore, 1), (14, .iinc 1 1, 3), (17, .goto (-15), 3), (20, .aload_n 0, 1), (21, .iconst 0, 1), (22, .putfield 53, 3), (25, .return_, 1)] : List (Nat × Instr × Nat)), decode cX2_forgetRows q.1 = .ok (q.2.1, q.2.2) := by decide +kernel
abbrev X_Plan_forgetRows : MX := (cX2_forgetRows, RX2, "forgetRows", 2, none, 1, 20)
theorem v_Plan_forgetRows_L2s (F : Nat)  (R2 : Int → Int → Hp → Option (Int × Hp)) (hR2 : ∀ (l0 l1 : Int) (h : Hp), V X_Plan_forgetRows 2 [(0, 2, l0), (1, 0, l1)] [] h (R2 l0 l1 h)) (l0 l1 : Int) (h : Hp) : V X_Plan_forgetRows 2 [(0, 2, l0), (1, 0, l1)] [] h (Plan_forgetRows_L2s F  R2 l0 l1 h) := by
  unfold Plan_forgetRows_L2s
  refine V_iload_n (pc := 2) (DCa dc_Plan_forgetRows_0 2 rfl) rfl 1 rfl ?_
  refine V_iconst (pc := 3) (DCa dc_Plan_forgetRows_0 3 rfl) (by decide) ?_
  refine V_icmp_ge (tgt := 20) (pc := 4) (DCa dc_Plan_forgetRows_0 4 rfl) (by decide) (fun _ => ?_) (fun _ => ?_)
  · refine V_aload_n (pc := 7) (DCa dc_Plan_forgetRows_0 5 rfl) rfl 0 rfl ?_
    refine Q_getf (k := 1) (pc := 8) (DCa dc_Plan_forgetRows_0 6 rfl) cls_2 (Nat.le_of_ble_eq_true rfl) fl_2_17 rfl rfl rfl (fun v1 => ?_)
    refine V_iload_n (pc := 11) (DCa dc_Plan_forgetRows_0 7 rfl) rfl 1 rfl ?_
    refine V_iconst (pc := 12) (DCa dc_Plan_forgetRows_0 8 rfl) (by decide) ?_
    refine Q_zastore (pc := 13) (DCa dc_Plan_forgetRows_0 9 rfl) (fun h2 => ?_)
    refine V_iinc (ls' := [(0, 2, l0), (1, 0, w32 (l1 + 1))]) (pc := 14) (DCa dc_Plan_forgetRows_0 10 rfl) (Nat.le_of_ble_eq_true rfl) (by decide) 1 rfl rfl ?_
    refine V_goto (tgt := 2) (pc := 17) (DCa dc_Plan_forgetRows_0 11 rfl) (by decide) ?_
    exact hR2 _ _ _
  · refine V_aload_n (pc := 20) (DCa dc_Plan_forgetRows_0 12 rfl) rfl 0 rfl ?_
    refine V_iconst (pc := 21) (DCa dc_Plan_forgetRows_0 13 rfl) (by decide) ?_
    refine Q_putz (k := 6) (pc := 22) (DCa dc_Plan_forgetRows_0 14 rfl) cls_2 (Nat.le_of_ble_eq_true rfl) fl_2_53 rfl rfl rfl (Or.inl rfl) rfl (fun h3 => ?_)
    exact V_return (pc := 25) (DCa dc_Plan_forgetRows_0 15 rfl) rfl
theorem v_Plan_forgetRows_L2 (F : Nat)  (n : Nat) : ∀ (l0 l1 : Int) (h : Hp), V X_Plan_forgetRows 2 [(0, 2, l0), (1, 0, l1)] [] h (Plan_forgetRows_L2 F  n l0 l1 h) := by
  induction n with
  | zero => intros; exact V_none
  | succ n ih => exact fun l0 l1 h => v_Plan_forgetRows_L2s F  _ ih l0 l1 h
theorem v_Plan_forgetRows (F : Nat) (l0 : Int) (h : Hp) : V X_Plan_forgetRows 0 [(0, 2, l0)] [] h (Plan_forgetRows F l0 h) := by
  unfold Plan_forgetRows
  refine V_iconst (pc := 0) (DCa dc_Plan_forgetRows_0 0 rfl) (by decide) ?_
  refine V_istore_n (ls' := [(0, 2, l0), (1, 0, 0)]) (pc := 1) (DCa dc_Plan_forgetRows_0 1 rfl) rfl (Nat.le_of_ble_eq_true rfl) rfl ?_
  exact v_Plan_forgetRows_L2 F F _ _ _
theorem sp_Plan_forgetRows (F : Nat) (l0 : Int) (h : Hp) : Sp yX2_forgetRows cX2_forgetRows 2 none 1 20 [(2, l0)] h (Plan_forgetRows F l0 h) := Sp_of (by decide +kernel) rfl rfl (Nat.le_of_ble_eq_true rfl) (v_Plan_forgetRows F l0 h)

-- TideRakes.roundedUp
def Tide_roundedUp (F : Nat) (l0 l1 : Int) (h : Hp) : Option (Int × Hp) :=
  if 0 < l1 then
    (dv (w32 ((w32 (l0 + l1)) - 1)) l1 fun v1 =>
    some (v1, h))
  else
    (some (l0, h))

theorem dc_Tide_roundedUp_0 : ∀ q ∈ ([(0, .iload_n 1, 1), (1, .ifCond .le 13, 3), (4, .iload_n 0, 1), (5, .iload_n 1, 1), (6, .iadd, 1), (7, .iconst 1, 1), (8, .isub, 1), (9, .iload_n 1, 1), (10, .idiv, 1), (11, .goto 4, 3), (14, .iload_n 0, 1), (15, .ireturn, 1)] : List (Nat × Instr × Nat)), decode cX11_roundedUp q.1 = .ok (q.2.1, q.2.2) := by decide +kernel
abbrev X_Tide_roundedUp : MX := (cX11_roundedUp, RX11, "roundedUp", 2, (some (.int)), 1, 20)
theorem v_Tide_roundedUp (F : Nat) (l0 l1 : Int) (h : Hp) : V X_Tide_roundedUp 0 [(0, 0, l0), (1, 0, l1)] [] h (Tide_roundedUp F l0 l1 h) := by
  unfold Tide_roundedUp
  refine V_iload_n (pc := 0) (DCa dc_Tide_roundedUp_0 0 rfl) rfl 1 rfl ?_
  refine V_if_le (tgt := 14) (pc := 1) (DCa dc_Tide_roundedUp_0 1 rfl) (by decide) (fun _ => ?_) (fun _ => ?_)
  · refine V_iload_n (pc := 4) (DCa dc_Tide_roundedUp_0 2 rfl) rfl 0 rfl ?_
    refine V_iload_n (pc := 5) (DCa dc_Tide_roundedUp_0 3 rfl) rfl 1 rfl ?_
    refine V_iadd (pc := 6) (DCa dc_Tide_roundedUp_0 4 rfl) ?_
    refine V_iconst (pc := 7) (DCa dc_Tide_roundedUp_0 5 rfl) (by decide) ?_
    refine V_isub (pc := 8) (DCa dc_Tide_roundedUp_0 6 rfl) ?_
    refine V_iload_n (pc := 9) (DCa dc_Tide_roundedUp_0 7 rfl) rfl 1 rfl ?_
    refine Q_idiv (pc := 10) (DCa dc_Tide_roundedUp_0 8 rfl) (fun v1 => ?_)
    refine V_goto (tgt := 15) (pc := 11) (DCa dc_Tide_roundedUp_0 9 rfl) (by decide) ?_
    exact V_ireturn (pc := 15) (DCa dc_Tide_roundedUp_0 11 rfl) rfl
  · refine V_iload_n (pc := 14) (DCa dc_Tide_roundedUp_0 10 rfl) rfl 0 rfl ?_
    exact V_ireturn (pc := 15) (DCa dc_Tide_roundedUp_0 11 rfl) rfl
theorem sp_Tide_roundedUp (F : Nat) (l0 l1 : Int) (h : Hp) : Sp yX11_roundedUp cX11_roundedUp 2 (some (.int)) 1 20 [(0, l0), (0, l1)] h (Tide_roundedUp F l0 l1 h) := Sp_of (by decide +kernel) rfl rfl (Nat.le_of_ble_eq_true rfl) (v_Tide_roundedUp F l0 l1 h)

-- TideRakes$Sand.startFrom
def Sand_startFrom (F : Nat) (l0 l1 : Int) (h : Hp) : Option (Int × Hp) :=
  if l1 < 0 then
    (some ((-2), h))
  else
    (gf h l0 105 5 fun v1 =>
    aln h v1 0 fun v2 =>
    if l1 < v2 then
      (gf h l0 105 5 fun v3 =>
      al h v3 0 l1 fun v4 =>
      some (v4, h))
    else
      (some ((-2), h)))

theorem dc_Sand_startFrom_0 : ∀ q ∈ ([(0, .iload_n 1, 1), (1, .ifCond .lt 21, 3), (4, .iload_n 1, 1), (5, .aload_n 0, 1), (6, .getfield 15, 3), (9, .arraylength, 1), (10, .if_icmp .ge 12, 3), (13, .aload_n 0, 1), (14, .getfield 15, 3), (17, .iload_n 1, 1), (18, .iaload, 1), (19, .goto 5, 3), (22, .bipush (-2), 2), (24, .ireturn, 1)] : List (Nat × Instr × Nat)), decode cX5_startFrom q.1 = .ok (q.2.1, q.2.2) := by decide +kernel
abbrev X_Sand_startFrom : MX := (cX5_startFrom, RX5, "startFrom", 2, (some (.int)), 1, 20)
theorem v_Sand_startFrom (F : Nat) (l0 l1 : Int) (h : Hp) : V X_Sand_startFrom 0 [(0, 2, l0), (1, 0, l1)] [] h (Sand_startFrom F l0 l1 h) := by
  unfold Sand_startFrom
  refine V_iload_n (pc := 0) (DCa dc_Sand_startFrom_0 0 rfl) rfl 1 rfl ?_
  refine V_if_lt (tgt := 22) (pc := 1) (DCa dc_Sand_startFrom_0 1 rfl) (by decide) (fun _ => ?_) (fun _ => ?_)
  · refine V_bipush (pc := 22) (DCa dc_Sand_startFrom_0 12 rfl) (by decide) ?_
    exact V_ireturn (pc := 24) (DCa dc_Sand_startFrom_0 13 rfl) rfl
  · refine V_iload_n (pc := 4) (DCa dc_Sand_startFrom_0 2 rfl) rfl 1 rfl ?_
    refine V_aload_n (pc := 5) (DCa dc_Sand_startFrom_0 3 rfl) rfl 0 rfl ?_
    refine Q_getf (k := 5) (pc := 6) (DCa dc_Sand_startFrom_0 4 rfl) cls_5 (Nat.le_of_ble_eq_true rfl) fl_5_15 rfl rfl rfl (fun v1 => ?_)
    refine Q_alen (pc := 9) (DCa dc_Sand_startFrom_0 5 rfl) (by decide) (fun v2 => ?_)
    refine V_icmp_ge (tgt := 22) (pc := 10) (DCa dc_Sand_startFrom_0 6 rfl) (by decide) (fun _ => ?_) (fun _ => ?_)
    · refine V_aload_n (pc := 13) (DCa dc_Sand_startFrom_0 7 rfl) rfl 0 rfl ?_
      refine Q_getf (k := 5) (pc := 14) (DCa dc_Sand_startFrom_0 8 rfl) cls_5 (Nat.le_of_ble_eq_true rfl) fl_5_15 rfl rfl rfl (fun v3 => ?_)
      refine V_iload_n (pc := 17) (DCa dc_Sand_startFrom_0 9 rfl) rfl 1 rfl ?_
      refine Q_iaload (pc := 18) (DCa dc_Sand_startFrom_0 10 rfl) (fun v4 => ?_)
      refine V_goto (tgt := 24) (pc := 19) (DCa dc_Sand_startFrom_0 11 rfl) (by decide) ?_
      exact V_ireturn (pc := 24) (DCa dc_Sand_startFrom_0 13 rfl) rfl
    · refine V_bipush (pc := 22) (DCa dc_Sand_startFrom_0 12 rfl) (by decide) ?_
      exact V_ireturn (pc := 24) (DCa dc_Sand_startFrom_0 13 rfl) rfl
theorem sp_Sand_startFrom (F : Nat) (l0 l1 : Int) (h : Hp) : Sp yX5_startFrom cX5_startFrom 2 (some (.int)) 1 20 [(2, l0), (0, l1)] h (Sand_startFrom F l0 l1 h) := Sp_of (by decide +kernel) rfl rfl (Nat.le_of_ble_eq_true rfl) (v_Sand_startFrom F l0 l1 h)

-- TideRakes$Rows.endFrom
def Rows_endFrom (F : Nat) (l0 l1 l2 : Int) (h : Hp) : Option (Int × Hp) :=
  gf h l0 104 0 fun v1 =>
  al h v1 5 l2 fun v2 =>
  gf h l0 104 2 fun v3 =>
  if v3 = 0 then
    (iv h v2 105 (Sand_startFrom F v2 l1 h) fun r4 h5 =>
    if r4 < 0 then
      (some (10000, h5))
    else
      (gf h5 v2 105 3 fun v6 =>
      some (w32 (r4 + v6), h5)))
  else
    (gf h v2 105 3 fun v7 =>
    cl (Tide_roundedUp F v7 3 h) fun r8 h9 =>
    lt (w32 (l1 + r8)) fun x10 =>
    if 600 < x10 then
      (some (10000, h9))
    else
      (some (x10, h9)))

theorem dc_Rows_endFrom_0 : ∀ q ∈ ([(0, .aload_n 0, 1), (1, .getfield 11, 3), (4, .iload_n 2, 1), (5, .aaload, 1), (6, .astore_n 3, 1), (7, .aload_n 0, 1), (8, .getfield 40, 3), (11, .ifCond .eq 32, 3), (14, .iload_n 1, 1), (15, .aload_n 3, 1), (16, .getfield 79, 3), (19, .iconst 3, 1), (20, .invokestatic 73, 3), (23, .iadd, 1), (24, .istore 4, 2), (26, .iload 4, 2), (28, .sipush 600, 3), (31, .if_icmp .le 9, 3), (34, .sipush 10000, 3), (37, .goto 5, 3), (40, .iload 4, 2), (42, .ireturn, 1), (43, .aload_n 3, 1), (44, .iload_n 1, 1), (45, .invokevirtual 82, 3), (48, .istore 4, 2), (50, .iload 4, 2), (52, .ifCond .ge 9, 3), (55, .sipush 10000, 3), (58, .goto 10, 3), (61, .iload 4, 2), (63, .aload_n 3, 1), (64, .getfield 79, 3), (67, .iadd, 1), (68, .ireturn, 1)] : List (Nat × Instr × Nat)), decode cX4_endFrom q.1 = .ok (q.2.1, q.2.2) := by decide +kernel
abbrev X_Rows_endFrom : MX := (cX4_endFrom, RX4, "endFrom", 5, (some (.int)), 2, 41)
theorem v_Rows_endFrom (F : Nat) (l0 l1 l2 : Int) (h : Hp) : V X_Rows_endFrom 0 [(0, 2, l0), (1, 0, l1), (2, 0, l2)] [] h (Rows_endFrom F l0 l1 l2 h) := by
  unfold Rows_endFrom
  refine V_aload_n (pc := 0) (DCa dc_Rows_endFrom_0 0 rfl) rfl 0 rfl ?_
  refine Q_getf (k := 0) (pc := 1) (DCa dc_Rows_endFrom_0 1 rfl) cls_4 (Nat.le_of_ble_eq_true rfl) fl_4_11 rfl rfl rfl (fun v1 => ?_)
  refine V_iload_n (pc := 4) (DCa dc_Rows_endFrom_0 2 rfl) rfl 2 rfl ?_
  refine Q_aaload (pc := 5) (DCa dc_Rows_endFrom_0 3 rfl) (by decide) rfl rfl (fun v2 => ?_)
  refine V_astore_n (ls' := [(0, 2, l0), (1, 0, l1), (2, 0, l2), (3, 2, v2)]) (pc := 6) (DCa dc_Rows_endFrom_0 4 rfl) rfl (Nat.le_of_ble_eq_true rfl) rfl ?_
  refine V_aload_n (pc := 7) (DCa dc_Rows_endFrom_0 5 rfl) rfl 0 rfl ?_
  refine Q_getf (k := 2) (pc := 8) (DCa dc_Rows_endFrom_0 6 rfl) cls_4 (Nat.le_of_ble_eq_true rfl) fl_4_40 rfl rfl rfl (fun v3 => ?_)
  refine V_if_eq (tgt := 43) (pc := 11) (DCa dc_Rows_endFrom_0 7 rfl) (by decide) (fun _ => ?_) (fun _ => ?_)
  · refine V_aload_n (pc := 43) (DCa dc_Rows_endFrom_0 22 rfl) rfl 3 rfl ?_
    refine V_iload_n (pc := 44) (DCa dc_Rows_endFrom_0 23 rfl) rfl 1 rfl ?_
    refine Q_callv (ci := 5) (st := []) (pc := 45) (DCa dc_Rows_endFrom_0 24 rfl) (sp_Sand_startFrom F _ _ _) ce_Sand_startFrom ml_4_82 rfl rfl ⟨Nat.le_of_ble_eq_true rfl, Nat.le_of_ble_eq_true rfl⟩ rfl (Nat.le_of_ble_eq_true rfl) (fun r4 h5 => ?_)
    refine V_istore (ls' := [(0, 2, l0), (1, 0, l1), (2, 0, l2), (3, 2, v2), (4, 0, r4)]) (pc := 48) (DCa dc_Rows_endFrom_0 25 rfl) (Nat.le_of_ble_eq_true rfl) rfl ?_
    refine V_iload (pc := 50) (DCa dc_Rows_endFrom_0 26 rfl) 4 rfl ?_
    refine V_if_ge (tgt := 61) (pc := 52) (DCa dc_Rows_endFrom_0 27 rfl) (by decide) (fun _ => ?_) (fun _ => ?_)
    · refine V_sipush (pc := 55) (DCa dc_Rows_endFrom_0 28 rfl) (by decide) ?_
      refine V_goto (tgt := 68) (pc := 58) (DCa dc_Rows_endFrom_0 29 rfl) (by decide) ?_
      exact V_ireturn (pc := 68) (DCa dc_Rows_endFrom_0 34 rfl) rfl
    · refine V_iload (pc := 61) (DCa dc_Rows_endFrom_0 30 rfl) 4 rfl ?_
      refine V_aload_n (pc := 63) (DCa dc_Rows_endFrom_0 31 rfl) rfl 3 rfl ?_
      refine Q_getf (k := 3) (pc := 64) (DCa dc_Rows_endFrom_0 32 rfl) cls_5 (Nat.le_of_ble_eq_true rfl) fl_4_79 rfl rfl rfl (fun v6 => ?_)
      refine V_iadd (pc := 67) (DCa dc_Rows_endFrom_0 33 rfl) ?_
      exact V_ireturn (pc := 68) (DCa dc_Rows_endFrom_0 34 rfl) rfl
  · refine V_iload_n (pc := 14) (DCa dc_Rows_endFrom_0 8 rfl) rfl 1 rfl ?_
    refine V_aload_n (pc := 15) (DCa dc_Rows_endFrom_0 9 rfl) rfl 3 rfl ?_
    refine Q_getf (k := 3) (pc := 16) (DCa dc_Rows_endFrom_0 10 rfl) cls_5 (Nat.le_of_ble_eq_true rfl) fl_4_79 rfl rfl rfl (fun v7 => ?_)
    refine V_iconst (pc := 19) (DCa dc_Rows_endFrom_0 11 rfl) (by decide) ?_
    refine Q_callsN (st := [(0, l1)]) (host := "TideRakes") (pc := 20) (DCa dc_Rows_endFrom_0 12 rfl) (sp_Tide_roundedUp F _ _ _) ce_Tide_roundedUp (by decide +kernel) rfl ⟨Nat.le_of_ble_eq_true rfl, Nat.le_of_ble_eq_true rfl⟩ rfl (Nat.le_of_ble_eq_true rfl) (fun r8 h9 => ?_)
    refine V_iadd (pc := 23) (DCa dc_Rows_endFrom_0 13 rfl) ?_
    refine Q_lt (fun x10 => ?_)
    refine V_istore (ls' := [(0, 2, l0), (1, 0, l1), (2, 0, l2), (3, 2, v2), (4, 0, x10)]) (pc := 24) (DCa dc_Rows_endFrom_0 14 rfl) (Nat.le_of_ble_eq_true rfl) rfl ?_
    refine V_iload (pc := 26) (DCa dc_Rows_endFrom_0 15 rfl) 4 rfl ?_
    refine V_sipush (pc := 28) (DCa dc_Rows_endFrom_0 16 rfl) (by decide) ?_
    refine V_icmp_le (tgt := 40) (pc := 31) (DCa dc_Rows_endFrom_0 17 rfl) (by decide) (fun _ => ?_) (fun _ => ?_)
    · refine V_sipush (pc := 34) (DCa dc_Rows_endFrom_0 18 rfl) (by decide) ?_
      refine V_goto (tgt := 42) (pc := 37) (DCa dc_Rows_endFrom_0 19 rfl) (by decide) ?_
      exact V_ireturn (pc := 42) (DCa dc_Rows_endFrom_0 21 rfl) rfl
    · refine V_iload (pc := 40) (DCa dc_Rows_endFrom_0 20 rfl) 4 rfl ?_
      exact V_ireturn (pc := 42) (DCa dc_Rows_endFrom_0 21 rfl) rfl
theorem sp_Rows_endFrom (F : Nat) (l0 l1 l2 : Int) (h : Hp) : Sp yX4_endFrom cX4_endFrom 5 (some (.int)) 2 41 [(2, l0), (0, l1), (0, l2)] h (Rows_endFrom F l0 l1 l2 h) := Sp_of (by decide +kernel) rfl rfl (Nat.le_of_ble_eq_true rfl) (v_Rows_endFrom F l0 l1 l2 h)

-- TideRakes$Rows.endOf
def Rows_endOf_B93 (F : Nat)  (l0 l2 l3 : Int) (h : Hp) : Option (Int × Hp) :=
  iv h l0 104 (Rows_endFrom F l0 l3 l2 h) fun r13 h14 =>
  some (r13, h14)
def Rows_endOf_L39s (F : Nat)  (R39 : Int → Int → Int → Int → Int → Hp → Option (Int × Hp)) (l0 l1 l2 l3 l4 : Int) (h : Hp) : Option (Int × Hp) :=
  gf h l0 104 1 fun v7 =>
  if l4 < v7 then
    (if (iand (ishr l1 l4) 1) = 0 then
      (R39 l0 l1 l2 l3 (w32 (l4 + 1)) h)
    else
      (gf h l0 104 5 fun v8 =>
      al h v8 0 (w32 ((w32 (l1 * 8)) + l4)) fun v9 =>
      gf h l0 104 3 fun v10 =>
      al h v10 0 (w32 ((w32 (l4 * 8)) + l2)) fun v11 =>
      lt (imin l3 (w32 (v9 + v11))) fun r12 =>
      R39 l0 l1 l2 r12 (w32 (l4 + 1)) h))
  else
    (Rows_endOf_B93 F l0 l2 l3 h)
def Rows_endOf_L39 (F : Nat)  : Nat → Int → Int → Int → Int → Int → Hp → Option (Int × Hp)
  | 0 => fun _ _ _ _ _ _ => none
  | n + 1 => Rows_endOf_L39s F  (Rows_endOf_L39 F  n)
def Rows_endOf (F : Nat) (l0 l1 l2 : Int) (h : Hp) : Option (Int × Hp) :=
  if l1 = 0 then
    (gf h l0 104 4 fun v1 =>
    al h v1 0 l2 fun v2 =>
    iv h l0 104 (Rows_endFrom F l0 v2 l2 h) fun r3 h4 =>
    some (r3, h4))
  else
    (gf h l0 104 6 fun v5 =>
    al h v5 0 l1 fun v6 =>
    if v6 < 10000 then
      (Rows_endOf_L39 F F l0 l1 l2 10000 0 h)
    else
      (some (10000, h)))

theorem dc_Rows_endOf_0 : ∀ q ∈ ([(0, .iload_n 1, 1), (1, .ifCond .ne 15, 3), (4, .aload_n 0, 1), (5, .aload_n 0, 1), (6, .getfield 21, 3), (9, .iload_n 2, 1), (10, .iaload, 1), (11, .iload_n 2, 1), (12, .invokevirtual 76, 3), (15, .ireturn, 1), (16, .aload_n 0, 1), (17, .getfield 27, 3), (20, .iload_n 1, 1), (21, .iaload, 1), (22, .sipush 10000, 3), (25, .if_icmp .lt 7, 3), (28, .sipush 10000, 3), (31, .ireturn, 1), (32, .sipush 10000, 3), (35, .istore_n 3, 1), (36, .iconst 0, 1), (37, .istore 4, 2), (39, .iload 4, 2), (41, .aload_n 0, 1), (42, .getfield 36, 3), (45, .if_icmp .ge 48, 3), (48, .iload_n 1, 1), (49, .iload 4, 2), (51, .ishr, 1), (52, .iconst 1, 1), (53, .iand, 1), (54, .ifCond .eq 33, 3), (57, .iload_n 3, 1), (58, .aload_n 0, 1), (59, .getfield 24, 3), (62, .iload_n 1, 1), (63, .bipush 8, 2), (65, .imul, 1), (66, .iload 4, 2), (68, .iadd, 1), (69, .iaload, 1), (70, .aload_n 0, 1), (71, .getfield 17, 3), (74, .iload 4, 2), (76, .bipush 8, 2), (78, .imul, 1), (79, .iload_n 2, 1), (80, .iadd, 1), (81, .iaload, 1), (82, .iadd, 1)] : List (Nat × Instr × Nat)), decode cX4_endOf q.1 = .ok (q.2.1, q.2.2) := by decide +kernel
theorem dc_Rows_endOf_1 : ∀ q ∈ ([(83, .invokestatic 30, 3), (86, .istore_n 3, 1), (87, .iinc 4 1, 3), (90, .goto (-51), 3), (93, .aload_n 0, 1), (94, .iload_n 3, 1), (95, .iload_n 2, 1), (96, .invokevirtual 76, 3), (99, .ireturn, 1)] : List (Nat × Instr × Nat)), decode cX4_endOf q.1 = .ok (q.2.1, q.2.2) := by decide +kernel
abbrev X_Rows_endOf : MX := (cX4_endOf, RX4, "endOf", 5, (some (.int)), 3, 65)
theorem v_Rows_endOf_B93 (F : Nat)  (l0 l2 l3 : Int) (h : Hp) : V X_Rows_endOf 93 [(0, 2, l0), (2, 0, l2), (3, 0, l3)] [] h (Rows_endOf_B93 F  l0 l2 l3 h) := by
  unfold Rows_endOf_B93
  refine V_aload_n (pc := 93) (DCa dc_Rows_endOf_1 4 rfl) rfl 0 rfl ?_
  refine V_iload_n (pc := 94) (DCa dc_Rows_endOf_1 5 rfl) rfl 2 rfl ?_
  refine V_iload_n (pc := 95) (DCa dc_Rows_endOf_1 6 rfl) rfl 1 rfl ?_
  refine Q_callv (ci := 4) (st := []) (pc := 96) (DCa dc_Rows_endOf_1 7 rfl) (sp_Rows_endFrom F _ _ _ _) ce_Rows_endFrom ml_4_76 rfl rfl ⟨Nat.le_of_ble_eq_true rfl, Nat.le_of_ble_eq_true rfl⟩ rfl (Nat.le_of_ble_eq_true rfl) (fun r13 h14 => ?_)
  exact V_ireturn (pc := 99) (DCa dc_Rows_endOf_1 8 rfl) rfl
theorem v_Rows_endOf_L39s (F : Nat)  (R39 : Int → Int → Int → Int → Int → Hp → Option (Int × Hp)) (hR39 : ∀ (l0 l1 l2 l3 l4 : Int) (h : Hp), V X_Rows_endOf 39 [(0, 2, l0), (1, 0, l1), (2, 0, l2), (3, 0, l3), (4, 0, l4)] [] h (R39 l0 l1 l2 l3 l4 h)) (l0 l1 l2 l3 l4 : Int) (h : Hp) : V X_Rows_endOf 39 [(0, 2, l0), (1, 0, l1), (2, 0, l2), (3, 0, l3), (4, 0, l4)] [] h (Rows_endOf_L39s F  R39 l0 l1 l2 l3 l4 h) := by
  unfold Rows_endOf_L39s
  refine V_iload (pc := 39) (DCa dc_Rows_endOf_0 22 rfl) 4 rfl ?_
  refine V_aload_n (pc := 41) (DCa dc_Rows_endOf_0 23 rfl) rfl 0 rfl ?_
  refine Q_getf (k := 1) (pc := 42) (DCa dc_Rows_endOf_0 24 rfl) cls_4 (Nat.le_of_ble_eq_true rfl) fl_4_36 rfl rfl rfl (fun v7 => ?_)
  refine V_icmp_ge (tgt := 93) (pc := 45) (DCa dc_Rows_endOf_0 25 rfl) (by decide) (fun _ => ?_) (fun _ => ?_)
  · refine V_iload_n (pc := 48) (DCa dc_Rows_endOf_0 26 rfl) rfl 1 rfl ?_
    refine V_iload (pc := 49) (DCa dc_Rows_endOf_0 27 rfl) 4 rfl ?_
    refine V_ishr (pc := 51) (DCa dc_Rows_endOf_0 28 rfl) ?_
    refine V_iconst (pc := 52) (DCa dc_Rows_endOf_0 29 rfl) (by decide) ?_
    refine V_iand (pc := 53) (DCa dc_Rows_endOf_0 30 rfl) ?_
    refine V_if_eq (tgt := 87) (pc := 54) (DCa dc_Rows_endOf_0 31 rfl) (by decide) (fun _ => ?_) (fun _ => ?_)
    · refine V_iinc (ls' := [(0, 2, l0), (1, 0, l1), (2, 0, l2), (3, 0, l3), (4, 0, w32 (l4 + 1))]) (pc := 87) (DCa dc_Rows_endOf_1 2 rfl) (Nat.le_of_ble_eq_true rfl) (by decide) 4 rfl rfl ?_
      refine V_goto (tgt := 39) (pc := 90) (DCa dc_Rows_endOf_1 3 rfl) (by decide) ?_
      exact hR39 _ _ _ _ _ _
    · refine V_iload_n (pc := 57) (DCa dc_Rows_endOf_0 32 rfl) rfl 3 rfl ?_
      refine V_aload_n (pc := 58) (DCa dc_Rows_endOf_0 33 rfl) rfl 0 rfl ?_
      refine Q_getf (k := 5) (pc := 59) (DCa dc_Rows_endOf_0 34 rfl) cls_4 (Nat.le_of_ble_eq_true rfl) fl_4_24 rfl rfl rfl (fun v8 => ?_)
      refine V_iload_n (pc := 62) (DCa dc_Rows_endOf_0 35 rfl) rfl 1 rfl ?_
      refine V_bipush (pc := 63) (DCa dc_Rows_endOf_0 36 rfl) (by decide) ?_
      refine V_imul (pc := 65) (DCa dc_Rows_endOf_0 37 rfl) ?_
      refine V_iload (pc := 66) (DCa dc_Rows_endOf_0 38 rfl) 4 rfl ?_
      refine V_iadd (pc := 68) (DCa dc_Rows_endOf_0 39 rfl) ?_
      refine Q_iaload (pc := 69) (DCa dc_Rows_endOf_0 40 rfl) (fun v9 => ?_)
      refine V_aload_n (pc := 70) (DCa dc_Rows_endOf_0 41 rfl) rfl 0 rfl ?_
      refine Q_getf (k := 3) (pc := 71) (DCa dc_Rows_endOf_0 42 rfl) cls_4 (Nat.le_of_ble_eq_true rfl) fl_4_17 rfl rfl rfl (fun v10 => ?_)
      refine V_iload (pc := 74) (DCa dc_Rows_endOf_0 43 rfl) 4 rfl ?_
      refine V_bipush (pc := 76) (DCa dc_Rows_endOf_0 44 rfl) (by decide) ?_
      refine V_imul (pc := 78) (DCa dc_Rows_endOf_0 45 rfl) ?_
      refine V_iload_n (pc := 79) (DCa dc_Rows_endOf_0 46 rfl) rfl 2 rfl ?_
      refine V_iadd (pc := 80) (DCa dc_Rows_endOf_0 47 rfl) ?_
      refine Q_iaload (pc := 81) (DCa dc_Rows_endOf_0 48 rfl) (fun v11 => ?_)
      refine V_iadd (pc := 82) (DCa dc_Rows_endOf_0 49 rfl) ?_
      refine V_mmin (pc := 83) (DCa dc_Rows_endOf_1 0 rfl) (tb5 60 rfl rfl) mt_smin mt_i mt_cmin ⟨Nat.le_of_ble_eq_true rfl, Nat.le_of_ble_eq_true rfl⟩ ?_
      refine Q_lt (fun r12 => ?_)
      refine V_istore_n (ls' := [(0, 2, l0), (1, 0, l1), (2, 0, l2), (3, 0, r12), (4, 0, l4)]) (pc := 86) (DCa dc_Rows_endOf_1 1 rfl) rfl (Nat.le_of_ble_eq_true rfl) rfl ?_
      refine V_iinc (ls' := [(0, 2, l0), (1, 0, l1), (2, 0, l2), (3, 0, r12), (4, 0, w32 (l4 + 1))]) (pc := 87) (DCa dc_Rows_endOf_1 2 rfl) (Nat.le_of_ble_eq_true rfl) (by decide) 4 rfl rfl ?_
      refine V_goto (tgt := 39) (pc := 90) (DCa dc_Rows_endOf_1 3 rfl) (by decide) ?_
      exact hR39 _ _ _ _ _ _
  · refine V_pick [0, 2, 3] rfl ?_
    exact v_Rows_endOf_B93 F _ _ _ _
theorem v_Rows_endOf_L39 (F : Nat)  (n : Nat) : ∀ (l0 l1 l2 l3 l4 : Int) (h : Hp), V X_Rows_endOf 39 [(0, 2, l0), (1, 0, l1), (2, 0, l2), (3, 0, l3), (4, 0, l4)] [] h (Rows_endOf_L39 F  n l0 l1 l2 l3 l4 h) := by
  induction n with
  | zero => intros; exact V_none
  | succ n ih => exact fun l0 l1 l2 l3 l4 h => v_Rows_endOf_L39s F  _ ih l0 l1 l2 l3 l4 h
theorem v_Rows_endOf (F : Nat) (l0 l1 l2 : Int) (h : Hp) : V X_Rows_endOf 0 [(0, 2, l0), (1, 0, l1), (2, 0, l2)] [] h (Rows_endOf F l0 l1 l2 h) := by
  unfold Rows_endOf
  refine V_iload_n (pc := 0) (DCa dc_Rows_endOf_0 0 rfl) rfl 1 rfl ?_
  refine V_if_ne (tgt := 16) (pc := 1) (DCa dc_Rows_endOf_0 1 rfl) (by decide) (fun _ => ?_) (fun _ => ?_)
  · refine V_aload_n (pc := 4) (DCa dc_Rows_endOf_0 2 rfl) rfl 0 rfl ?_
    refine V_aload_n (pc := 5) (DCa dc_Rows_endOf_0 3 rfl) rfl 0 rfl ?_
    refine Q_getf (k := 4) (pc := 6) (DCa dc_Rows_endOf_0 4 rfl) cls_4 (Nat.le_of_ble_eq_true rfl) fl_4_21 rfl rfl rfl (fun v1 => ?_)
    refine V_iload_n (pc := 9) (DCa dc_Rows_endOf_0 5 rfl) rfl 2 rfl ?_
    refine Q_iaload (pc := 10) (DCa dc_Rows_endOf_0 6 rfl) (fun v2 => ?_)
    refine V_iload_n (pc := 11) (DCa dc_Rows_endOf_0 7 rfl) rfl 2 rfl ?_
    refine Q_callv (ci := 4) (st := []) (pc := 12) (DCa dc_Rows_endOf_0 8 rfl) (sp_Rows_endFrom F _ _ _ _) ce_Rows_endFrom ml_4_76 rfl rfl ⟨Nat.le_of_ble_eq_true rfl, Nat.le_of_ble_eq_true rfl⟩ rfl (Nat.le_of_ble_eq_true rfl) (fun r3 h4 => ?_)
    exact V_ireturn (pc := 15) (DCa dc_Rows_endOf_0 9 rfl) rfl
  · refine V_aload_n (pc := 16) (DCa dc_Rows_endOf_0 10 rfl) rfl 0 rfl ?_
    refine Q_getf (k := 6) (pc := 17) (DCa dc_Rows_endOf_0 11 rfl) cls_4 (Nat.le_of_ble_eq_true rfl) fl_4_27 rfl rfl rfl (fun v5 => ?_)
    refine V_iload_n (pc := 20) (DCa dc_Rows_endOf_0 12 rfl) rfl 1 rfl ?_
    refine Q_iaload (pc := 21) (DCa dc_Rows_endOf_0 13 rfl) (fun v6 => ?_)
    refine V_sipush (pc := 22) (DCa dc_Rows_endOf_0 14 rfl) (by decide) ?_
    refine V_icmp_lt (tgt := 32) (pc := 25) (DCa dc_Rows_endOf_0 15 rfl) (by decide) (fun _ => ?_) (fun _ => ?_)
    · refine V_sipush (pc := 32) (DCa dc_Rows_endOf_0 18 rfl) (by decide) ?_
      refine V_istore_n (ls' := [(0, 2, l0), (1, 0, l1), (2, 0, l2), (3, 0, 10000)]) (pc := 35) (DCa dc_Rows_endOf_0 19 rfl) rfl (Nat.le_of_ble_eq_true rfl) rfl ?_
      refine V_iconst (pc := 36) (DCa dc_Rows_endOf_0 20 rfl) (by decide) ?_
      refine V_istore (ls' := [(0, 2, l0), (1, 0, l1), (2, 0, l2), (3, 0, 10000), (4, 0, 0)]) (pc := 37) (DCa dc_Rows_endOf_0 21 rfl) (Nat.le_of_ble_eq_true rfl) rfl ?_
      exact v_Rows_endOf_L39 F F _ _ _ _ _ _
    · refine V_sipush (pc := 28) (DCa dc_Rows_endOf_0 16 rfl) (by decide) ?_
      exact V_ireturn (pc := 31) (DCa dc_Rows_endOf_0 17 rfl) rfl
theorem sp_Rows_endOf (F : Nat) (l0 l1 l2 : Int) (h : Hp) : Sp yX4_endOf cX4_endOf 5 (some (.int)) 3 65 [(2, l0), (0, l1), (0, l2)] h (Rows_endOf F l0 l1 l2 h) := Sp_of (by decide +kernel) rfl rfl (Nat.le_of_ble_eq_true rfl) (v_Rows_endOf F l0 l1 l2 h)

-- TideRakes.far
def Tide_far (F : Nat) (l0 l1 l2 l3 : Int) (h : Hp) : Option (Int × Hp) :=
  lt (iabs (w32 (l0 - l2))) fun r1 =>
  lt (iabs (w32 (l1 - l3))) fun r2 =>
  some (w32 (r1 + r2), h)

theorem dc_Tide_far_0 : ∀ q ∈ ([(0, .iload_n 0, 1), (1, .iload_n 2, 1), (2, .isub, 1), (3, .invokestatic 356, 3), (6, .iload_n 1, 1), (7, .iload_n 3, 1), (8, .isub, 1), (9, .invokestatic 356, 3), (12, .iadd, 1), (13, .ireturn, 1)] : List (Nat × Instr × Nat)), decode cX11_far q.1 = .ok (q.2.1, q.2.2) := by decide +kernel
abbrev X_Tide_far : MX := (cX11_far, RX11, "far", 4, (some (.int)), 1, 20)
theorem v_Tide_far (F : Nat) (l0 l1 l2 l3 : Int) (h : Hp) : V X_Tide_far 0 [(0, 0, l0), (1, 0, l1), (2, 0, l2), (3, 0, l3)] [] h (Tide_far F l0 l1 l2 l3 h) := by
  unfold Tide_far
  refine V_iload_n (pc := 0) (DCa dc_Tide_far_0 0 rfl) rfl 0 rfl ?_
  refine V_iload_n (pc := 1) (DCa dc_Tide_far_0 1 rfl) rfl 2 rfl ?_
  refine V_isub (pc := 2) (DCa dc_Tide_far_0 2 rfl) ?_
  refine V_mabs (pc := 3) (DCa dc_Tide_far_0 3 rfl) (tb3 135 rfl rfl) mt_sabs mt_i mt_cabs ⟨Nat.le_of_ble_eq_true rfl, Nat.le_of_ble_eq_true rfl⟩ ?_
  refine Q_lt (fun r1 => ?_)
  refine V_iload_n (pc := 6) (DCa dc_Tide_far_0 4 rfl) rfl 1 rfl ?_
  refine V_iload_n (pc := 7) (DCa dc_Tide_far_0 5 rfl) rfl 3 rfl ?_
  refine V_isub (pc := 8) (DCa dc_Tide_far_0 6 rfl) ?_
  refine V_mabs (pc := 9) (DCa dc_Tide_far_0 7 rfl) (tb3 135 rfl rfl) mt_sabs mt_i mt_cabs ⟨Nat.le_of_ble_eq_true rfl, Nat.le_of_ble_eq_true rfl⟩ ?_
  refine Q_lt (fun r2 => ?_)
  refine V_iadd (pc := 12) (DCa dc_Tide_far_0 8 rfl) ?_
  exact V_ireturn (pc := 13) (DCa dc_Tide_far_0 9 rfl) rfl
theorem sp_Tide_far (F : Nat) (l0 l1 l2 l3 : Int) (h : Hp) : Sp yX11_far cX11_far 4 (some (.int)) 1 20 [(0, l0), (0, l1), (0, l2), (0, l3)] h (Tide_far F l0 l1 l2 l3 h) := Sp_of (by decide +kernel) rfl rfl (Nat.le_of_ble_eq_true rfl) (v_Tide_far F l0 l1 l2 l3 h)

-- TideRakes$Walker.comesTo
def Walk_comesTo (F : Nat) (l0 l1 : Int) (h : Hp) : Option (Int × Hp) :=
  gf h l0 110 3 fun v1 =>
  gf h l0 110 0 fun v2 =>
  gf h l0 110 1 fun v3 =>
  gf h l1 105 0 fun v4 =>
  gf h l1 105 1 fun v5 =>
  cl (Tide_far F v2 v3 v4 v5 h) fun r6 h7 =>
  gf h7 l0 110 2 fun v8 =>
  cl (Tide_roundedUp F r6 v8 h7) fun r9 h10 =>
  some (w32 (v1 + r9), h10)

theorem dc_Walk_comesTo_0 : ∀ q ∈ ([(0, .aload_n 0, 1), (1, .getfield 19, 3), (4, .aload_n 0, 1), (5, .getfield 7, 3), (8, .aload_n 0, 1), (9, .getfield 13, 3), (12, .aload_n 1, 1), (13, .getfield 36, 3), (16, .aload_n 1, 1), (17, .getfield 39, 3), (20, .invokestatic 40, 3), (23, .aload_n 0, 1), (24, .getfield 16, 3), (27, .invokestatic 46, 3), (30, .iadd, 1), (31, .ireturn, 1)] : List (Nat × Instr × Nat)), decode cX10_comesTo q.1 = .ok (q.2.1, q.2.2) := by decide +kernel
abbrev X_Walk_comesTo : MX := (cX10_comesTo, RX10, "comesTo", 2, (some (.int)), 2, 43)
theorem v_Walk_comesTo (F : Nat) (l0 l1 : Int) (h : Hp) : V X_Walk_comesTo 0 [(0, 2, l0), (1, 2, l1)] [] h (Walk_comesTo F l0 l1 h) := by
  unfold Walk_comesTo
  refine V_aload_n (pc := 0) (DCa dc_Walk_comesTo_0 0 rfl) rfl 0 rfl ?_
  refine Q_getf (k := 3) (pc := 1) (DCa dc_Walk_comesTo_0 1 rfl) cls_10 (Nat.le_of_ble_eq_true rfl) fl_10_19 rfl rfl rfl (fun v1 => ?_)
  refine V_aload_n (pc := 4) (DCa dc_Walk_comesTo_0 2 rfl) rfl 0 rfl ?_
  refine Q_getf (k := 0) (pc := 5) (DCa dc_Walk_comesTo_0 3 rfl) cls_10 (Nat.le_of_ble_eq_true rfl) fl_10_7 rfl rfl rfl (fun v2 => ?_)
  refine V_aload_n (pc := 8) (DCa dc_Walk_comesTo_0 4 rfl) rfl 0 rfl ?_
  refine Q_getf (k := 1) (pc := 9) (DCa dc_Walk_comesTo_0 5 rfl) cls_10 (Nat.le_of_ble_eq_true rfl) fl_10_13 rfl rfl rfl (fun v3 => ?_)
  refine V_aload_n (pc := 12) (DCa dc_Walk_comesTo_0 6 rfl) rfl 1 rfl ?_
  refine Q_getf (k := 0) (pc := 13) (DCa dc_Walk_comesTo_0 7 rfl) cls_5 (Nat.le_of_ble_eq_true rfl) fl_10_36 rfl rfl rfl (fun v4 => ?_)
  refine V_aload_n (pc := 16) (DCa dc_Walk_comesTo_0 8 rfl) rfl 1 rfl ?_
  refine Q_getf (k := 1) (pc := 17) (DCa dc_Walk_comesTo_0 9 rfl) cls_5 (Nat.le_of_ble_eq_true rfl) fl_10_39 rfl rfl rfl (fun v5 => ?_)
  refine Q_callsN (st := [(0, v1)]) (host := "TideRakes") (pc := 20) (DCa dc_Walk_comesTo_0 10 rfl) (sp_Tide_far F _ _ _ _ _) ce_Tide_far (by decide +kernel) rfl ⟨Nat.le_of_ble_eq_true rfl, Nat.le_of_ble_eq_true rfl⟩ rfl (Nat.le_of_ble_eq_true rfl) (fun r6 h7 => ?_)
  refine V_aload_n (pc := 23) (DCa dc_Walk_comesTo_0 11 rfl) rfl 0 rfl ?_
  refine Q_getf (k := 2) (pc := 24) (DCa dc_Walk_comesTo_0 12 rfl) cls_10 (Nat.le_of_ble_eq_true rfl) fl_10_16 rfl rfl rfl (fun v8 => ?_)
  refine Q_callsN (st := [(0, v1)]) (host := "TideRakes") (pc := 27) (DCa dc_Walk_comesTo_0 13 rfl) (sp_Tide_roundedUp F _ _ _) ce_Tide_roundedUp (by decide +kernel) rfl ⟨Nat.le_of_ble_eq_true rfl, Nat.le_of_ble_eq_true rfl⟩ rfl (Nat.le_of_ble_eq_true rfl) (fun r9 h10 => ?_)
  refine V_iadd (pc := 30) (DCa dc_Walk_comesTo_0 14 rfl) ?_
  exact V_ireturn (pc := 31) (DCa dc_Walk_comesTo_0 15 rfl) rfl
theorem sp_Walk_comesTo (F : Nat) (l0 l1 : Int) (h : Hp) : Sp yX10_comesTo cX10_comesTo 2 (some (.int)) 2 43 [(2, l0), (2, l1)] h (Walk_comesTo F l0 l1 h) := Sp_of (by decide +kernel) rfl rfl (Nat.le_of_ble_eq_true rfl) (v_Walk_comesTo F l0 l1 h)

-- TideRakes$Rows.measure
def Rows_measure_L31s (F : Nat) (R2 : Int → Int → Int → Hp → Option (Int × Hp)) (R31 : Int → Int → Int → Int → Int → Hp → Option (Int × Hp)) (l0 l1 l2 l3 l4 : Int) (h : Hp) : Option (Int × Hp) :=
  gf h l0 104 1 fun v8 =>
  if l4 < v8 then
    (gf h l0 104 0 fun v9 =>
    al h v9 5 l4 fun v10 =>
    gf h v10 105 0 fun v11 =>
    gf h l0 104 0 fun v12 =>
    al h v12 5 l4 fun v13 =>
    gf h v13 105 1 fun v14 =>
    gf h l3 105 0 fun v15 =>
    gf h l3 105 1 fun v16 =>
    cl (Tide_far F v11 v14 v15 v16 h) fun r17 h18 =>
    gf h18 l0 104 3 fun v19 =>
    gf h18 l1 110 2 fun v20 =>
    cl (Tide_roundedUp F r17 v20 h18) fun r21 h22 =>
    as h22 v19 0 (w32 ((w32 (l4 * 8)) + l2)) r21 fun h23 =>
    R31 l0 l1 l2 l3 (w32 (l4 + 1)) h23)
  else
    (R2 l0 l1 (w32 (l2 + 1)) h)
def Rows_measure_L31 (F : Nat) (R2 : Int → Int → Int → Hp → Option (Int × Hp)) : Nat → Int → Int → Int → Int → Int → Hp → Option (Int × Hp)
  | 0 => fun _ _ _ _ _ _ => none
  | n + 1 => Rows_measure_L31s F R2 (Rows_measure_L31 F R2 n)
def Rows_measure_L2s (F : Nat)  (R2 : Int → Int → Int → Hp → Option (Int × Hp)) (l0 l1 l2 : Int) (h : Hp) : Option (Int × Hp) :=
  gf h l0 104 1 fun v1 =>
  if l2 < v1 then
    (gf h l0 104 0 fun v2 =>
    al h v2 5 l2 fun v3 =>
    gf h l0 104 4 fun v4 =>
    iv h l1 110 (Walk_comesTo F l1 v3 h) fun r5 h6 =>
    as h6 v4 0 l2 r5 fun h7 =>
    Rows_measure_L31 F R2 F l0 l1 l2 v3 0 h7)
  else
    (some (0, h))
def Rows_measure_L2 (F : Nat)  : Nat → Int → Int → Int → Hp → Option (Int × Hp)
  | 0 => fun _ _ _ _ => none
  | n + 1 => Rows_measure_L2s F  (Rows_measure_L2 F  n)
def Rows_measure (F : Nat) (l0 l1 : Int) (h : Hp) : Option (Int × Hp) :=
  Rows_measure_L2 F F l0 l1 0 h

theorem dc_Rows_measure_0 : ∀ q ∈ ([(0, .iconst 0, 1), (1, .istore_n 2, 1), (2, .iload_n 2, 1), (3, .aload_n 0, 1), (4, .getfield 36, 3), (7, .if_icmp .ge 99, 3), (10, .aload_n 0, 1), (11, .getfield 11, 3), (14, .iload_n 2, 1), (15, .aaload, 1), (16, .astore_n 3, 1), (17, .aload_n 0, 1), (18, .getfield 21, 3), (21, .iload_n 2, 1), (22, .aload_n 1, 1), (23, .aload_n 3, 1), (24, .invokevirtual 56, 3), (27, .iastore, 1), (28, .iconst 0, 1), (29, .istore 4, 2), (31, .iload 4, 2), (33, .aload_n 0, 1), (34, .getfield 36, 3), (37, .if_icmp .ge 63, 3), (40, .aload_n 0, 1), (41, .getfield 11, 3), (44, .iload 4, 2), (46, .aaload, 1), (47, .getfield 60, 3), (50, .aload_n 0, 1), (51, .getfield 11, 3), (54, .iload 4, 2), (56, .aaload, 1), (57, .getfield 63, 3), (60, .aload_n 3, 1), (61, .getfield 60, 3), (64, .aload_n 3, 1), (65, .getfield 63, 3), (68, .invokestatic 66, 3), (71, .istore 5, 2), (73, .aload_n 0, 1), (74, .getfield 17, 3), (77, .iload 4, 2), (79, .bipush 8, 2), (81, .imul, 1), (82, .iload_n 2, 1), (83, .iadd, 1), (84, .iload 5, 2), (86, .aload_n 1, 1), (87, .getfield 70, 3)] : List (Nat × Instr × Nat)), decode cX4_measure q.1 = .ok (q.2.1, q.2.2) := by decide +kernel
theorem dc_Rows_measure_1 : ∀ q ∈ ([(90, .invokestatic 73, 3), (93, .iastore, 1), (94, .iinc 4 1, 3), (97, .goto (-66), 3), (100, .iinc 2 1, 3), (103, .goto (-101), 3), (106, .return_, 1)] : List (Nat × Instr × Nat)), decode cX4_measure q.1 = .ok (q.2.1, q.2.2) := by decide +kernel
abbrev X_Rows_measure : MX := (cX4_measure, RX4, "measure", 6, none, 3, 64)
theorem v_Rows_measure_L31s (F : Nat) (R2 : Int → Int → Int → Hp → Option (Int × Hp)) (hR2 : ∀ (l0 l1 l2 : Int) (h : Hp), V X_Rows_measure 2 [(0, 2, l0), (1, 2, l1), (2, 0, l2)] [] h (R2 l0 l1 l2 h)) (R31 : Int → Int → Int → Int → Int → Hp → Option (Int × Hp)) (hR31 : ∀ (l0 l1 l2 l3 l4 : Int) (h : Hp), V X_Rows_measure 31 [(0, 2, l0), (1, 2, l1), (2, 0, l2), (3, 2, l3), (4, 0, l4)] [] h (R31 l0 l1 l2 l3 l4 h)) (l0 l1 l2 l3 l4 : Int) (h : Hp) : V X_Rows_measure 31 [(0, 2, l0), (1, 2, l1), (2, 0, l2), (3, 2, l3), (4, 0, l4)] [] h (Rows_measure_L31s F R2 R31 l0 l1 l2 l3 l4 h) := by
  unfold Rows_measure_L31s
  refine V_iload (pc := 31) (DCa dc_Rows_measure_0 20 rfl) 4 rfl ?_
  refine V_aload_n (pc := 33) (DCa dc_Rows_measure_0 21 rfl) rfl 0 rfl ?_
  refine Q_getf (k := 1) (pc := 34) (DCa dc_Rows_measure_0 22 rfl) cls_4 (Nat.le_of_ble_eq_true rfl) fl_4_36 rfl rfl rfl (fun v8 => ?_)
  refine V_icmp_ge (tgt := 100) (pc := 37) (DCa dc_Rows_measure_0 23 rfl) (by decide) (fun _ => ?_) (fun _ => ?_)
  · refine V_aload_n (pc := 40) (DCa dc_Rows_measure_0 24 rfl) rfl 0 rfl ?_
    refine Q_getf (k := 0) (pc := 41) (DCa dc_Rows_measure_0 25 rfl) cls_4 (Nat.le_of_ble_eq_true rfl) fl_4_11 rfl rfl rfl (fun v9 => ?_)
    refine V_iload (pc := 44) (DCa dc_Rows_measure_0 26 rfl) 4 rfl ?_
    refine Q_aaload (pc := 46) (DCa dc_Rows_measure_0 27 rfl) (by decide) rfl rfl (fun v10 => ?_)
    refine Q_getf (k := 0) (pc := 47) (DCa dc_Rows_measure_0 28 rfl) cls_5 (Nat.le_of_ble_eq_true rfl) fl_4_60 rfl rfl rfl (fun v11 => ?_)
    refine V_aload_n (pc := 50) (DCa dc_Rows_measure_0 29 rfl) rfl 0 rfl ?_
    refine Q_getf (k := 0) (pc := 51) (DCa dc_Rows_measure_0 30 rfl) cls_4 (Nat.le_of_ble_eq_true rfl) fl_4_11 rfl rfl rfl (fun v12 => ?_)
    refine V_iload (pc := 54) (DCa dc_Rows_measure_0 31 rfl) 4 rfl ?_
    refine Q_aaload (pc := 56) (DCa dc_Rows_measure_0 32 rfl) (by decide) rfl rfl (fun v13 => ?_)
    refine Q_getf (k := 1) (pc := 57) (DCa dc_Rows_measure_0 33 rfl) cls_5 (Nat.le_of_ble_eq_true rfl) fl_4_63 rfl rfl rfl (fun v14 => ?_)
    refine V_aload_n (pc := 60) (DCa dc_Rows_measure_0 34 rfl) rfl 3 rfl ?_
    refine Q_getf (k := 0) (pc := 61) (DCa dc_Rows_measure_0 35 rfl) cls_5 (Nat.le_of_ble_eq_true rfl) fl_4_60 rfl rfl rfl (fun v15 => ?_)
    refine V_aload_n (pc := 64) (DCa dc_Rows_measure_0 36 rfl) rfl 3 rfl ?_
    refine Q_getf (k := 1) (pc := 65) (DCa dc_Rows_measure_0 37 rfl) cls_5 (Nat.le_of_ble_eq_true rfl) fl_4_63 rfl rfl rfl (fun v16 => ?_)
    refine Q_callsN (st := []) (host := "TideRakes") (pc := 68) (DCa dc_Rows_measure_0 38 rfl) (sp_Tide_far F _ _ _ _ _) ce_Tide_far (by decide +kernel) rfl ⟨Nat.le_of_ble_eq_true rfl, Nat.le_of_ble_eq_true rfl⟩ rfl (Nat.le_of_ble_eq_true rfl) (fun r17 h18 => ?_)
    refine V_istore (ls' := [(0, 2, l0), (1, 2, l1), (2, 0, l2), (3, 2, l3), (4, 0, l4), (5, 0, r17)]) (pc := 71) (DCa dc_Rows_measure_0 39 rfl) (Nat.le_of_ble_eq_true rfl) rfl ?_
    refine V_aload_n (pc := 73) (DCa dc_Rows_measure_0 40 rfl) rfl 0 rfl ?_
    refine Q_getf (k := 3) (pc := 74) (DCa dc_Rows_measure_0 41 rfl) cls_4 (Nat.le_of_ble_eq_true rfl) fl_4_17 rfl rfl rfl (fun v19 => ?_)
    refine V_iload (pc := 77) (DCa dc_Rows_measure_0 42 rfl) 4 rfl ?_
    refine V_bipush (pc := 79) (DCa dc_Rows_measure_0 43 rfl) (by decide) ?_
    refine V_imul (pc := 81) (DCa dc_Rows_measure_0 44 rfl) ?_
    refine V_iload_n (pc := 82) (DCa dc_Rows_measure_0 45 rfl) rfl 2 rfl ?_
    refine V_iadd (pc := 83) (DCa dc_Rows_measure_0 46 rfl) ?_
    refine V_iload (pc := 84) (DCa dc_Rows_measure_0 47 rfl) 5 rfl ?_
    refine V_aload_n (pc := 86) (DCa dc_Rows_measure_0 48 rfl) rfl 1 rfl ?_
    refine Q_getf (k := 2) (pc := 87) (DCa dc_Rows_measure_0 49 rfl) cls_10 (Nat.le_of_ble_eq_true rfl) fl_4_70 rfl rfl rfl (fun v20 => ?_)
    refine Q_callsN (st := [(0, w32 ((w32 (l4 * 8)) + l2)), (2, v19)]) (host := "TideRakes") (pc := 90) (DCa dc_Rows_measure_1 0 rfl) (sp_Tide_roundedUp F _ _ _) ce_Tide_roundedUp (by decide +kernel) rfl ⟨Nat.le_of_ble_eq_true rfl, Nat.le_of_ble_eq_true rfl⟩ rfl (Nat.le_of_ble_eq_true rfl) (fun r21 h22 => ?_)
    refine Q_iastore (pc := 93) (DCa dc_Rows_measure_1 1 rfl) (fun h23 => ?_)
    refine V_iinc (ls' := [(0, 2, l0), (1, 2, l1), (2, 0, l2), (3, 2, l3), (4, 0, w32 (l4 + 1)), (5, 0, r17)]) (pc := 94) (DCa dc_Rows_measure_1 2 rfl) (Nat.le_of_ble_eq_true rfl) (by decide) 4 rfl rfl ?_
    refine V_goto (tgt := 31) (pc := 97) (DCa dc_Rows_measure_1 3 rfl) (by decide) ?_
    refine V_pick [0, 1, 2, 3, 4] rfl ?_
    exact hR31 _ _ _ _ _ _
  · refine V_iinc (ls' := [(0, 2, l0), (1, 2, l1), (2, 0, w32 (l2 + 1)), (3, 2, l3), (4, 0, l4)]) (pc := 100) (DCa dc_Rows_measure_1 4 rfl) (Nat.le_of_ble_eq_true rfl) (by decide) 2 rfl rfl ?_
    refine V_goto (tgt := 2) (pc := 103) (DCa dc_Rows_measure_1 5 rfl) (by decide) ?_
    refine V_pick [0, 1, 2] rfl ?_
    exact hR2 _ _ _ _
theorem v_Rows_measure_L31 (F : Nat) (R2 : Int → Int → Int → Hp → Option (Int × Hp)) (hR2 : ∀ (l0 l1 l2 : Int) (h : Hp), V X_Rows_measure 2 [(0, 2, l0), (1, 2, l1), (2, 0, l2)] [] h (R2 l0 l1 l2 h)) (n : Nat) : ∀ (l0 l1 l2 l3 l4 : Int) (h : Hp), V X_Rows_measure 31 [(0, 2, l0), (1, 2, l1), (2, 0, l2), (3, 2, l3), (4, 0, l4)] [] h (Rows_measure_L31 F R2 n l0 l1 l2 l3 l4 h) := by
  induction n with
  | zero => intros; exact V_none
  | succ n ih => exact fun l0 l1 l2 l3 l4 h => v_Rows_measure_L31s F R2 hR2 _ ih l0 l1 l2 l3 l4 h
theorem v_Rows_measure_L2s (F : Nat)  (R2 : Int → Int → Int → Hp → Option (Int × Hp)) (hR2 : ∀ (l0 l1 l2 : Int) (h : Hp), V X_Rows_measure 2 [(0, 2, l0), (1, 2, l1), (2, 0, l2)] [] h (R2 l0 l1 l2 h)) (l0 l1 l2 : Int) (h : Hp) : V X_Rows_measure 2 [(0, 2, l0), (1, 2, l1), (2, 0, l2)] [] h (Rows_measure_L2s F  R2 l0 l1 l2 h) := by
  unfold Rows_measure_L2s
  refine V_iload_n (pc := 2) (DCa dc_Rows_measure_0 2 rfl) rfl 2 rfl ?_
  refine V_aload_n (pc := 3) (DCa dc_Rows_measure_0 3 rfl) rfl 0 rfl ?_
  refine Q_getf (k := 1) (pc := 4) (DCa dc_Rows_measure_0 4 rfl) cls_4 (Nat.le_of_ble_eq_true rfl) fl_4_36 rfl rfl rfl (fun v1 => ?_)
  refine V_icmp_ge (tgt := 106) (pc := 7) (DCa dc_Rows_measure_0 5 rfl) (by decide) (fun _ => ?_) (fun _ => ?_)
  · refine V_aload_n (pc := 10) (DCa dc_Rows_measure_0 6 rfl) rfl 0 rfl ?_
    refine Q_getf (k := 0) (pc := 11) (DCa dc_Rows_measure_0 7 rfl) cls_4 (Nat.le_of_ble_eq_true rfl) fl_4_11 rfl rfl rfl (fun v2 => ?_)
    refine V_iload_n (pc := 14) (DCa dc_Rows_measure_0 8 rfl) rfl 2 rfl ?_
    refine Q_aaload (pc := 15) (DCa dc_Rows_measure_0 9 rfl) (by decide) rfl rfl (fun v3 => ?_)
    refine V_astore_n (ls' := [(0, 2, l0), (1, 2, l1), (2, 0, l2), (3, 2, v3)]) (pc := 16) (DCa dc_Rows_measure_0 10 rfl) rfl (Nat.le_of_ble_eq_true rfl) rfl ?_
    refine V_aload_n (pc := 17) (DCa dc_Rows_measure_0 11 rfl) rfl 0 rfl ?_
    refine Q_getf (k := 4) (pc := 18) (DCa dc_Rows_measure_0 12 rfl) cls_4 (Nat.le_of_ble_eq_true rfl) fl_4_21 rfl rfl rfl (fun v4 => ?_)
    refine V_iload_n (pc := 21) (DCa dc_Rows_measure_0 13 rfl) rfl 2 rfl ?_
    refine V_aload_n (pc := 22) (DCa dc_Rows_measure_0 14 rfl) rfl 1 rfl ?_
    refine V_aload_n (pc := 23) (DCa dc_Rows_measure_0 15 rfl) rfl 3 rfl ?_
    refine Q_callv (ci := 10) (st := [(0, l2), (2, v4)]) (pc := 24) (DCa dc_Rows_measure_0 16 rfl) (sp_Walk_comesTo F _ _ _) ce_Walk_comesTo ml_4_56 rfl rfl ⟨Nat.le_of_ble_eq_true rfl, Nat.le_of_ble_eq_true rfl⟩ rfl (Nat.le_of_ble_eq_true rfl) (fun r5 h6 => ?_)
    refine Q_iastore (pc := 27) (DCa dc_Rows_measure_0 17 rfl) (fun h7 => ?_)
    refine V_iconst (pc := 28) (DCa dc_Rows_measure_0 18 rfl) (by decide) ?_
    refine V_istore (ls' := [(0, 2, l0), (1, 2, l1), (2, 0, l2), (3, 2, v3), (4, 0, 0)]) (pc := 29) (DCa dc_Rows_measure_0 19 rfl) (Nat.le_of_ble_eq_true rfl) rfl ?_
    exact v_Rows_measure_L31 F R2 hR2 F _ _ _ _ _ _
  · exact V_return (pc := 106) (DCa dc_Rows_measure_1 6 rfl) rfl
theorem v_Rows_measure_L2 (F : Nat)  (n : Nat) : ∀ (l0 l1 l2 : Int) (h : Hp), V X_Rows_measure 2 [(0, 2, l0), (1, 2, l1), (2, 0, l2)] [] h (Rows_measure_L2 F  n l0 l1 l2 h) := by
  induction n with
  | zero => intros; exact V_none
  | succ n ih => exact fun l0 l1 l2 h => v_Rows_measure_L2s F  _ ih l0 l1 l2 h
theorem v_Rows_measure (F : Nat) (l0 l1 : Int) (h : Hp) : V X_Rows_measure 0 [(0, 2, l0), (1, 2, l1)] [] h (Rows_measure F l0 l1 h) := by
  unfold Rows_measure
  refine V_iconst (pc := 0) (DCa dc_Rows_measure_0 0 rfl) (by decide) ?_
  refine V_istore_n (ls' := [(0, 2, l0), (1, 2, l1), (2, 0, 0)]) (pc := 1) (DCa dc_Rows_measure_0 1 rfl) rfl (Nat.le_of_ble_eq_true rfl) rfl ?_
  exact v_Rows_measure_L2 F F _ _ _ _
theorem sp_Rows_measure (F : Nat) (l0 l1 : Int) (h : Hp) : Sp yX4_measure cX4_measure 6 none 3 64 [(2, l0), (2, l1)] h (Rows_measure F l0 l1 h) := Sp_of (by decide +kernel) rfl rfl (Nat.le_of_ble_eq_true rfl) (v_Rows_measure F l0 l1 h)
