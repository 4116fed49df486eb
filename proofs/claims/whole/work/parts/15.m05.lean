-- TideRakes.mixed
def Tide_mixed (F : Nat) (l0 l1 : Int) (h : Hp) : Option (Int × Hp) :=
  lt (w32 ((w32 ((ixor l0 l1) * 1103515245)) + 12345)) fun x1 =>
  some (ixor x1 (iushr x1 15), h)

theorem dc_Tide_mixed_0 : ∀ q ∈ ([(0, .iload_n 0, 1), (1, .iload_n 1, 1), (2, .ixor, 1), (3, .ldc_w 346, 3), (6, .imul, 1), (7, .sipush 12345, 3), (10, .iadd, 1), (11, .istore_n 2, 1), (12, .iload_n 2, 1), (13, .iload_n 2, 1), (14, .bipush 15, 2), (16, .iushr, 1), (17, .ixor, 1), (18, .ireturn, 1)] : List (Nat × Instr × Nat)), decode cX11_mixed q.1 = .ok (q.2.1, q.2.2) := by decide +kernel
abbrev X_Tide_mixed : MX := (cX11_mixed, RX11, "mixed", 3, (some (.int)), 1, 20)
theorem v_Tide_mixed (F : Nat) (l0 l1 : Int) (h : Hp) : V X_Tide_mixed 0 [(0, 0, l0), (1, 0, l1)] [] h (Tide_mixed F l0 l1 h) := by
  unfold Tide_mixed
  refine V_iload_n (pc := 0) (DCa dc_Tide_mixed_0 0 rfl) rfl 0 rfl ?_
  refine V_iload_n (pc := 1) (DCa dc_Tide_mixed_0 1 rfl) rfl 1 rfl ?_
  refine V_ixor (pc := 2) (DCa dc_Tide_mixed_0 2 rfl) ?_
  refine V_ldcw (v := 1103515245) (x := 1103515245) (pc := 3) (DCa dc_Tide_mixed_0 3 rfl) (tb5 222 rfl rfl) rfl ?_
  refine V_imul (pc := 6) (DCa dc_Tide_mixed_0 4 rfl) ?_
  refine V_sipush (pc := 7) (DCa dc_Tide_mixed_0 5 rfl) (by decide) ?_
  refine V_iadd (pc := 10) (DCa dc_Tide_mixed_0 6 rfl) ?_
  refine Q_lt (fun x1 => ?_)
  refine V_istore_n (ls' := [(0, 0, l0), (1, 0, l1), (2, 0, x1)]) (pc := 11) (DCa dc_Tide_mixed_0 7 rfl) rfl (Nat.le_of_ble_eq_true rfl) rfl ?_
  refine V_iload_n (pc := 12) (DCa dc_Tide_mixed_0 8 rfl) rfl 2 rfl ?_
  refine V_iload_n (pc := 13) (DCa dc_Tide_mixed_0 9 rfl) rfl 2 rfl ?_
  refine V_bipush (pc := 14) (DCa dc_Tide_mixed_0 10 rfl) (by decide) ?_
  refine V_iushr (pc := 16) (DCa dc_Tide_mixed_0 11 rfl) ?_
  refine V_ixor (pc := 17) (DCa dc_Tide_mixed_0 12 rfl) ?_
  exact V_ireturn (pc := 18) (DCa dc_Tide_mixed_0 13 rfl) rfl
theorem sp_Tide_mixed (F : Nat) (l0 l1 : Int) (h : Hp) : Sp yX11_mixed cX11_mixed 3 (some (.int)) 1 20 [(0, l0), (0, l1)] h (Tide_mixed F l0 l1 h) := Sp_of (by decide +kernel) rfl rfl (Nat.le_of_ble_eq_true rfl) (v_Tide_mixed F l0 l1 h)

-- TideRakes.isRunOver
def Tide_isRunOver_L3s (F : Nat)  (R3 : Int → Int → Int → Int → Int → Hp → Option (Int × Hp)) (l0 l1 l2 l4 l5 : Int) (h : Hp) : Option (Int × Hp) :=
  if l4 < l5 then
    (rz 0 h)
  else
    (gf h l0 111 13 fun v1 =>
    al h v1 0 l5 fun v2 =>
    if 0 < v2 then
      (cl (Tide_mixed F l1 (w32 ((w32 (8 * l5)) + l2)) h) fun r3 h4 =>
      dm (iushr r3 1) 100 fun v5 =>
      if v5 < v2 then
        (rz 1 h4)
      else
        (R3 l0 l1 l2 l4 (w32 (l5 + 1)) h4))
    else
      (R3 l0 l1 l2 l4 (w32 (l5 + 1)) h))
def Tide_isRunOver_L3 (F : Nat)  : Nat → Int → Int → Int → Int → Int → Hp → Option (Int × Hp)
  | 0 => fun _ _ _ _ _ _ => none
  | n + 1 => Tide_isRunOver_L3s F  (Tide_isRunOver_L3 F  n)
def Tide_isRunOver (F : Nat) (l0 l1 l2 l3 l4 : Int) (h : Hp) : Option (Int × Hp) :=
  Tide_isRunOver_L3 F F l0 l1 l2 l4 l3 h

theorem dc_Tide_isRunOver_0 : ∀ q ∈ ([(0, .iload_n 3, 1), (1, .istore 5, 2), (3, .iload 5, 2), (5, .iload 4, 2), (7, .if_icmp .gt 46, 3), (10, .aload_n 0, 1), (11, .getfield 74, 3), (14, .iload 5, 2), (16, .iaload, 1), (17, .istore 6, 2), (19, .iload 6, 2), (21, .ifCond .le 26, 3), (24, .iload_n 1, 1), (25, .bipush 8, 2), (27, .iload 5, 2), (29, .imul, 1), (30, .iload_n 2, 1), (31, .iadd, 1), (32, .invokestatic 332, 3), (35, .iconst 1, 1), (36, .iushr, 1), (37, .bipush 100, 2), (39, .irem, 1), (40, .iload 6, 2), (42, .if_icmp .ge 5, 3), (45, .iconst 1, 1), (46, .ireturn, 1), (47, .iinc 5 1, 3), (50, .goto (-47), 3), (53, .iconst 0, 1), (54, .ireturn, 1)] : List (Nat × Instr × Nat)), decode cX11_isRunOver q.1 = .ok (q.2.1, q.2.2) := by decide +kernel
abbrev X_Tide_isRunOver : MX := (cX11_isRunOver, RX11, "isRunOver", 7, (some (.boolean)), 2, 42)
theorem v_Tide_isRunOver_L3s (F : Nat)  (R3 : Int → Int → Int → Int → Int → Hp → Option (Int × Hp)) (hR3 : ∀ (l0 l1 l2 l4 l5 : Int) (h : Hp), V X_Tide_isRunOver 3 [(0, 2, l0), (1, 0, l1), (2, 0, l2), (4, 0, l4), (5, 0, l5)] [] h (R3 l0 l1 l2 l4 l5 h)) (l0 l1 l2 l4 l5 : Int) (h : Hp) : V X_Tide_isRunOver 3 [(0, 2, l0), (1, 0, l1), (2, 0, l2), (4, 0, l4), (5, 0, l5)] [] h (Tide_isRunOver_L3s F  R3 l0 l1 l2 l4 l5 h) := by
  unfold Tide_isRunOver_L3s
  refine V_iload (pc := 3) (DCa dc_Tide_isRunOver_0 2 rfl) 4 rfl ?_
  refine V_iload (pc := 5) (DCa dc_Tide_isRunOver_0 3 rfl) 3 rfl ?_
  refine V_icmp_gt (tgt := 53) (pc := 7) (DCa dc_Tide_isRunOver_0 4 rfl) (by decide) (fun _ => ?_) (fun _ => ?_)
  · refine V_iconst (pc := 53) (DCa dc_Tide_isRunOver_0 29 rfl) (by decide) ?_
    exact V_zreturn (pc := 54) (DCa dc_Tide_isRunOver_0 30 rfl) rfl
  · refine V_aload_n (pc := 10) (DCa dc_Tide_isRunOver_0 5 rfl) rfl 0 rfl ?_
    refine Q_getf (k := 13) (pc := 11) (DCa dc_Tide_isRunOver_0 6 rfl) cls_11 (Nat.le_of_ble_eq_true rfl) fl_11_74 rfl rfl rfl (fun v1 => ?_)
    refine V_iload (pc := 14) (DCa dc_Tide_isRunOver_0 7 rfl) 4 rfl ?_
    refine Q_iaload (pc := 16) (DCa dc_Tide_isRunOver_0 8 rfl) (fun v2 => ?_)
    refine V_istore (ls' := [(0, 2, l0), (1, 0, l1), (2, 0, l2), (4, 0, l4), (5, 0, l5), (6, 0, v2)]) (pc := 17) (DCa dc_Tide_isRunOver_0 9 rfl) (Nat.le_of_ble_eq_true rfl) rfl ?_
    refine V_iload (pc := 19) (DCa dc_Tide_isRunOver_0 10 rfl) 5 rfl ?_
    refine V_if_le (tgt := 47) (pc := 21) (DCa dc_Tide_isRunOver_0 11 rfl) (by decide) (fun _ => ?_) (fun _ => ?_)
    · refine V_iload_n (pc := 24) (DCa dc_Tide_isRunOver_0 12 rfl) rfl 1 rfl ?_
      refine V_bipush (pc := 25) (DCa dc_Tide_isRunOver_0 13 rfl) (by decide) ?_
      refine V_iload (pc := 27) (DCa dc_Tide_isRunOver_0 14 rfl) 4 rfl ?_
      refine V_imul (pc := 29) (DCa dc_Tide_isRunOver_0 15 rfl) ?_
      refine V_iload_n (pc := 30) (DCa dc_Tide_isRunOver_0 16 rfl) rfl 2 rfl ?_
      refine V_iadd (pc := 31) (DCa dc_Tide_isRunOver_0 17 rfl) ?_
      refine Q_calls (st := []) (pc := 32) (DCa dc_Tide_isRunOver_0 18 rfl) (sp_Tide_mixed F _ _ _) ce_Tide_mixed ml_11_332 rfl ⟨Nat.le_of_ble_eq_true rfl, Nat.le_of_ble_eq_true rfl⟩ rfl (Nat.le_of_ble_eq_true rfl) (fun r3 h4 => ?_)
      refine V_iconst (pc := 35) (DCa dc_Tide_isRunOver_0 19 rfl) (by decide) ?_
      refine V_iushr (pc := 36) (DCa dc_Tide_isRunOver_0 20 rfl) ?_
      refine V_bipush (pc := 37) (DCa dc_Tide_isRunOver_0 21 rfl) (by decide) ?_
      refine Q_irem (pc := 39) (DCa dc_Tide_isRunOver_0 22 rfl) (fun v5 => ?_)
      refine V_iload (pc := 40) (DCa dc_Tide_isRunOver_0 23 rfl) 5 rfl ?_
      refine V_icmp_ge (tgt := 47) (pc := 42) (DCa dc_Tide_isRunOver_0 24 rfl) (by decide) (fun _ => ?_) (fun _ => ?_)
      · refine V_iconst (pc := 45) (DCa dc_Tide_isRunOver_0 25 rfl) (by decide) ?_
        exact V_zreturn (pc := 46) (DCa dc_Tide_isRunOver_0 26 rfl) rfl
      · refine V_iinc (ls' := [(0, 2, l0), (1, 0, l1), (2, 0, l2), (4, 0, l4), (5, 0, w32 (l5 + 1)), (6, 0, v2)]) (pc := 47) (DCa dc_Tide_isRunOver_0 27 rfl) (Nat.le_of_ble_eq_true rfl) (by decide) 4 rfl rfl ?_
        refine V_goto (tgt := 3) (pc := 50) (DCa dc_Tide_isRunOver_0 28 rfl) (by decide) ?_
        refine V_pick [0, 1, 2, 3, 4] rfl ?_
        exact hR3 _ _ _ _ _ _
    · refine V_iinc (ls' := [(0, 2, l0), (1, 0, l1), (2, 0, l2), (4, 0, l4), (5, 0, w32 (l5 + 1)), (6, 0, v2)]) (pc := 47) (DCa dc_Tide_isRunOver_0 27 rfl) (Nat.le_of_ble_eq_true rfl) (by decide) 4 rfl rfl ?_
      refine V_goto (tgt := 3) (pc := 50) (DCa dc_Tide_isRunOver_0 28 rfl) (by decide) ?_
      refine V_pick [0, 1, 2, 3, 4] rfl ?_
      exact hR3 _ _ _ _ _ _
theorem v_Tide_isRunOver_L3 (F : Nat)  (n : Nat) : ∀ (l0 l1 l2 l4 l5 : Int) (h : Hp), V X_Tide_isRunOver 3 [(0, 2, l0), (1, 0, l1), (2, 0, l2), (4, 0, l4), (5, 0, l5)] [] h (Tide_isRunOver_L3 F  n l0 l1 l2 l4 l5 h) := by
  induction n with
  | zero => intros; exact V_none
  | succ n ih => exact fun l0 l1 l2 l4 l5 h => v_Tide_isRunOver_L3s F  _ ih l0 l1 l2 l4 l5 h
theorem v_Tide_isRunOver (F : Nat) (l0 l1 l2 l3 l4 : Int) (h : Hp) : V X_Tide_isRunOver 0 [(0, 2, l0), (1, 0, l1), (2, 0, l2), (3, 0, l3), (4, 0, l4)] [] h (Tide_isRunOver F l0 l1 l2 l3 l4 h) := by
  unfold Tide_isRunOver
  refine V_iload_n (pc := 0) (DCa dc_Tide_isRunOver_0 0 rfl) rfl 3 rfl ?_
  refine V_istore (ls' := [(0, 2, l0), (1, 0, l1), (2, 0, l2), (3, 0, l3), (4, 0, l4), (5, 0, l3)]) (pc := 1) (DCa dc_Tide_isRunOver_0 1 rfl) (Nat.le_of_ble_eq_true rfl) rfl ?_
  refine V_pick [0, 1, 2, 4, 5] rfl ?_
  exact v_Tide_isRunOver_L3 F F _ _ _ _ _ _
theorem sp_Tide_isRunOver (F : Nat) (l0 l1 l2 l3 l4 : Int) (h : Hp) : Sp yX11_isRunOver cX11_isRunOver 7 (some (.boolean)) 2 42 [(2, l0), (0, l1), (0, l2), (0, l3), (0, l4)] h (Tide_isRunOver F l0 l1 l2 l3 l4 h) := Sp_of (by decide +kernel) rfl rfl (Nat.le_of_ble_eq_true rfl) (v_Tide_isRunOver F l0 l1 l2 l3 l4 h)

-- TideRakes.letDogsRunOver
def Tide_letDogsRunOver_L46s (F : Nat)  (R46 : Int → Int → Int → Int → Int → Int → Hp → Option (Int × Hp)) (l0 l1 l2 l3 l4 l5 : Int) (h : Hp) : Option (Int × Hp) :=
  if l5 < l3 then
    (if l5 < 50 then
      (gf h l0 111 12 fun v9 =>
      al h v9 0 l5 fun v10 =>
      iv h l0 111 (Tide_isRunOver F l0 v10 l1 l4 l2 h) fun r11 h12 =>
      if r11 = 0 then
        (R46 l0 l1 l2 l3 l4 (w32 (l5 + 1)) h12)
      else
        (gf h12 l0 111 11 fun v13 =>
        al h12 v13 0 l5 fun v14 =>
        as h12 v13 0 l5 (ixor v14 (ishl 1 l1)) fun h15 =>
        R46 l0 l1 l2 l3 l4 (w32 (l5 + 1)) h15))
    else
      (some (0, h)))
  else
    (some (0, h))
def Tide_letDogsRunOver_L46 (F : Nat)  : Nat → Int → Int → Int → Int → Int → Int → Hp → Option (Int × Hp)
  | 0 => fun _ _ _ _ _ _ _ => none
  | n + 1 => Tide_letDogsRunOver_L46s F  (Tide_letDogsRunOver_L46 F  n)
def Tide_letDogsRunOver_L14s (F : Nat)  (R14 : Int → Int → Int → Int → Int → Int → Hp → Option (Int × Hp)) (l0 l1 l2 l3 l4 l5 : Int) (h : Hp) : Option (Int × Hp) :=
  if l2 < l5 then
    (Tide_letDogsRunOver_L46 F F l0 l1 l2 l3 l4 0 h)
  else
    (gf h l0 111 13 fun v4 =>
    gf h l0 111 4 fun v5 =>
    iv h v5 107 (Shor_dogTells F v5 l1 l5 h) fun r6 h7 =>
    as h7 v4 0 l5 r6 fun h8 =>
    R14 l0 l1 l2 l3 l4 (w32 (l5 + 1)) h8)
def Tide_letDogsRunOver_L14 (F : Nat)  : Nat → Int → Int → Int → Int → Int → Int → Hp → Option (Int × Hp)
  | 0 => fun _ _ _ _ _ _ _ => none
  | n + 1 => Tide_letDogsRunOver_L14s F  (Tide_letDogsRunOver_L14 F  n)
def Tide_letDogsRunOver (F : Nat) (l0 l1 l2 l3 : Int) (h : Hp) : Option (Int × Hp) :=
  gf h l0 111 5 fun v1 =>
  iv h v1 108 (Stan_visibleFrom F v1 l1 h) fun r2 h3 =>
  Tide_letDogsRunOver_L14 F F l0 l1 l2 l3 r2 r2 h3

theorem dc_Tide_letDogsRunOver_0 : ∀ q ∈ ([(0, .aload_n 0, 1), (1, .getfield 34, 3), (4, .iload_n 1, 1), (5, .invokevirtual 339, 3), (8, .istore 4, 2), (10, .iload 4, 2), (12, .istore 5, 2), (14, .iload 5, 2), (16, .iload_n 2, 1), (17, .if_icmp .gt 26, 3), (20, .aload_n 0, 1), (21, .getfield 74, 3), (24, .iload 5, 2), (26, .aload_n 0, 1), (27, .getfield 27, 3), (30, .iload_n 1, 1), (31, .iload 5, 2), (33, .invokevirtual 261, 3), (36, .iastore, 1), (37, .iinc 5 1, 3), (40, .goto (-26), 3), (43, .iconst 0, 1), (44, .istore 5, 2), (46, .iload 5, 2), (48, .iload_n 3, 1), (49, .if_icmp .ge 47, 3), (52, .iload 5, 2), (54, .bipush 50, 2), (56, .if_icmp .ge 40, 3), (59, .aload_n 0, 1), (60, .aload_n 0, 1), (61, .getfield 71, 3), (64, .iload 5, 2), (66, .iaload, 1), (67, .iload_n 1, 1), (68, .iload 4, 2), (70, .iload_n 2, 1), (71, .invokevirtual 342, 3), (74, .ifCond .eq 16, 3), (77, .aload_n 0, 1), (78, .getfield 67, 3), (81, .iload 5, 2), (83, .dup2, 1), (84, .iaload, 1), (85, .iconst 1, 1), (86, .iload_n 1, 1), (87, .ishl, 1), (88, .ixor, 1), (89, .iastore, 1), (90, .iinc 5 1, 3)] : List (Nat × Instr × Nat)), decode cX11_letDogsRunOver q.1 = .ok (q.2.1, q.2.2) := by decide +kernel
theorem dc_Tide_letDogsRunOver_1 : ∀ q ∈ ([(93, .goto (-47), 3), (96, .return_, 1)] : List (Nat × Instr × Nat)), decode cX11_letDogsRunOver q.1 = .ok (q.2.1, q.2.2) := by decide +kernel
abbrev X_Tide_letDogsRunOver : MX := (cX11_letDogsRunOver, RX11, "letDogsRunOver", 6, none, 5, 115)
theorem v_Tide_letDogsRunOver_L46s (F : Nat)  (R46 : Int → Int → Int → Int → Int → Int → Hp → Option (Int × Hp)) (hR46 : ∀ (l0 l1 l2 l3 l4 l5 : Int) (h : Hp), V X_Tide_letDogsRunOver 46 [(0, 2, l0), (1, 0, l1), (2, 0, l2), (3, 0, l3), (4, 0, l4), (5, 0, l5)] [] h (R46 l0 l1 l2 l3 l4 l5 h)) (l0 l1 l2 l3 l4 l5 : Int) (h : Hp) : V X_Tide_letDogsRunOver 46 [(0, 2, l0), (1, 0, l1), (2, 0, l2), (3, 0, l3), (4, 0, l4), (5, 0, l5)] [] h (Tide_letDogsRunOver_L46s F  R46 l0 l1 l2 l3 l4 l5 h) := by
  unfold Tide_letDogsRunOver_L46s
  refine V_iload (pc := 46) (DCa dc_Tide_letDogsRunOver_0 23 rfl) 5 rfl ?_
  refine V_iload_n (pc := 48) (DCa dc_Tide_letDogsRunOver_0 24 rfl) rfl 3 rfl ?_
  refine V_icmp_ge (tgt := 96) (pc := 49) (DCa dc_Tide_letDogsRunOver_0 25 rfl) (by decide) (fun _ => ?_) (fun _ => ?_)
  · refine V_iload (pc := 52) (DCa dc_Tide_letDogsRunOver_0 26 rfl) 5 rfl ?_
    refine V_bipush (pc := 54) (DCa dc_Tide_letDogsRunOver_0 27 rfl) (by decide) ?_
    refine V_icmp_ge (tgt := 96) (pc := 56) (DCa dc_Tide_letDogsRunOver_0 28 rfl) (by decide) (fun _ => ?_) (fun _ => ?_)
    · refine V_aload_n (pc := 59) (DCa dc_Tide_letDogsRunOver_0 29 rfl) rfl 0 rfl ?_
      refine V_aload_n (pc := 60) (DCa dc_Tide_letDogsRunOver_0 30 rfl) rfl 0 rfl ?_
      refine Q_getf (k := 12) (pc := 61) (DCa dc_Tide_letDogsRunOver_0 31 rfl) cls_11 (Nat.le_of_ble_eq_true rfl) fl_11_71 rfl rfl rfl (fun v9 => ?_)
      refine V_iload (pc := 64) (DCa dc_Tide_letDogsRunOver_0 32 rfl) 5 rfl ?_
      refine Q_iaload (pc := 66) (DCa dc_Tide_letDogsRunOver_0 33 rfl) (fun v10 => ?_)
      refine V_iload_n (pc := 67) (DCa dc_Tide_letDogsRunOver_0 34 rfl) rfl 1 rfl ?_
      refine V_iload (pc := 68) (DCa dc_Tide_letDogsRunOver_0 35 rfl) 4 rfl ?_
      refine V_iload_n (pc := 70) (DCa dc_Tide_letDogsRunOver_0 36 rfl) rfl 2 rfl ?_
      refine Q_callv (ci := 11) (st := []) (pc := 71) (DCa dc_Tide_letDogsRunOver_0 37 rfl) (sp_Tide_isRunOver F _ _ _ _ _ _) ce_Tide_isRunOver ml_11_342 rfl rfl ⟨Nat.le_of_ble_eq_true rfl, Nat.le_of_ble_eq_true rfl⟩ rfl (Nat.le_of_ble_eq_true rfl) (fun r11 h12 => ?_)
      refine V_if_eq (tgt := 90) (pc := 74) (DCa dc_Tide_letDogsRunOver_0 38 rfl) (by decide) (fun _ => ?_) (fun _ => ?_)
      · refine V_iinc (ls' := [(0, 2, l0), (1, 0, l1), (2, 0, l2), (3, 0, l3), (4, 0, l4), (5, 0, w32 (l5 + 1))]) (pc := 90) (DCa dc_Tide_letDogsRunOver_0 49 rfl) (Nat.le_of_ble_eq_true rfl) (by decide) 5 rfl rfl ?_
        refine V_goto (tgt := 46) (pc := 93) (DCa dc_Tide_letDogsRunOver_1 0 rfl) (by decide) ?_
        exact hR46 _ _ _ _ _ _ _
      · refine V_aload_n (pc := 77) (DCa dc_Tide_letDogsRunOver_0 39 rfl) rfl 0 rfl ?_
        refine Q_getf (k := 11) (pc := 78) (DCa dc_Tide_letDogsRunOver_0 40 rfl) cls_11 (Nat.le_of_ble_eq_true rfl) fl_11_67 rfl rfl rfl (fun v13 => ?_)
        refine V_iload (pc := 81) (DCa dc_Tide_letDogsRunOver_0 41 rfl) 5 rfl ?_
        refine V_dup2 (pc := 83) (DCa dc_Tide_letDogsRunOver_0 42 rfl) rfl rfl ?_
        refine Q_iaload (pc := 84) (DCa dc_Tide_letDogsRunOver_0 43 rfl) (fun v14 => ?_)
        refine V_iconst (pc := 85) (DCa dc_Tide_letDogsRunOver_0 44 rfl) (by decide) ?_
        refine V_iload_n (pc := 86) (DCa dc_Tide_letDogsRunOver_0 45 rfl) rfl 1 rfl ?_
        refine V_ishl (pc := 87) (DCa dc_Tide_letDogsRunOver_0 46 rfl) ?_
        refine V_ixor (pc := 88) (DCa dc_Tide_letDogsRunOver_0 47 rfl) ?_
        refine Q_iastore (pc := 89) (DCa dc_Tide_letDogsRunOver_0 48 rfl) (fun h15 => ?_)
        refine V_iinc (ls' := [(0, 2, l0), (1, 0, l1), (2, 0, l2), (3, 0, l3), (4, 0, l4), (5, 0, w32 (l5 + 1))]) (pc := 90) (DCa dc_Tide_letDogsRunOver_0 49 rfl) (Nat.le_of_ble_eq_true rfl) (by decide) 5 rfl rfl ?_
        refine V_goto (tgt := 46) (pc := 93) (DCa dc_Tide_letDogsRunOver_1 0 rfl) (by decide) ?_
        exact hR46 _ _ _ _ _ _ _
    · exact V_return (pc := 96) (DCa dc_Tide_letDogsRunOver_1 1 rfl) rfl
  · exact V_return (pc := 96) (DCa dc_Tide_letDogsRunOver_1 1 rfl) rfl
theorem v_Tide_letDogsRunOver_L46 (F : Nat)  (n : Nat) : ∀ (l0 l1 l2 l3 l4 l5 : Int) (h : Hp), V X_Tide_letDogsRunOver 46 [(0, 2, l0), (1, 0, l1), (2, 0, l2), (3, 0, l3), (4, 0, l4), (5, 0, l5)] [] h (Tide_letDogsRunOver_L46 F  n l0 l1 l2 l3 l4 l5 h) := by
  induction n with
  | zero => intros; exact V_none
  | succ n ih => exact fun l0 l1 l2 l3 l4 l5 h => v_Tide_letDogsRunOver_L46s F  _ ih l0 l1 l2 l3 l4 l5 h
theorem v_Tide_letDogsRunOver_L14s (F : Nat)  (R14 : Int → Int → Int → Int → Int → Int → Hp → Option (Int × Hp)) (hR14 : ∀ (l0 l1 l2 l3 l4 l5 : Int) (h : Hp), V X_Tide_letDogsRunOver 14 [(0, 2, l0), (1, 0, l1), (2, 0, l2), (3, 0, l3), (4, 0, l4), (5, 0, l5)] [] h (R14 l0 l1 l2 l3 l4 l5 h)) (l0 l1 l2 l3 l4 l5 : Int) (h : Hp) : V X_Tide_letDogsRunOver 14 [(0, 2, l0), (1, 0, l1), (2, 0, l2), (3, 0, l3), (4, 0, l4), (5, 0, l5)] [] h (Tide_letDogsRunOver_L14s F  R14 l0 l1 l2 l3 l4 l5 h) := by
  unfold Tide_letDogsRunOver_L14s
  refine V_iload (pc := 14) (DCa dc_Tide_letDogsRunOver_0 7 rfl) 5 rfl ?_
  refine V_iload_n (pc := 16) (DCa dc_Tide_letDogsRunOver_0 8 rfl) rfl 2 rfl ?_
  refine V_icmp_gt (tgt := 43) (pc := 17) (DCa dc_Tide_letDogsRunOver_0 9 rfl) (by decide) (fun _ => ?_) (fun _ => ?_)
  · refine V_iconst (pc := 43) (DCa dc_Tide_letDogsRunOver_0 21 rfl) (by decide) ?_
    refine V_istore (ls' := [(0, 2, l0), (1, 0, l1), (2, 0, l2), (3, 0, l3), (4, 0, l4), (5, 0, 0)]) (pc := 44) (DCa dc_Tide_letDogsRunOver_0 22 rfl) (Nat.le_of_ble_eq_true rfl) rfl ?_
    exact v_Tide_letDogsRunOver_L46 F F _ _ _ _ _ _ _
  · refine V_aload_n (pc := 20) (DCa dc_Tide_letDogsRunOver_0 10 rfl) rfl 0 rfl ?_
    refine Q_getf (k := 13) (pc := 21) (DCa dc_Tide_letDogsRunOver_0 11 rfl) cls_11 (Nat.le_of_ble_eq_true rfl) fl_11_74 rfl rfl rfl (fun v4 => ?_)
    refine V_iload (pc := 24) (DCa dc_Tide_letDogsRunOver_0 12 rfl) 5 rfl ?_
    refine V_aload_n (pc := 26) (DCa dc_Tide_letDogsRunOver_0 13 rfl) rfl 0 rfl ?_
    refine Q_getf (k := 4) (pc := 27) (DCa dc_Tide_letDogsRunOver_0 14 rfl) cls_11 (Nat.le_of_ble_eq_true rfl) fl_11_27 rfl rfl rfl (fun v5 => ?_)
    refine V_iload_n (pc := 30) (DCa dc_Tide_letDogsRunOver_0 15 rfl) rfl 1 rfl ?_
    refine V_iload (pc := 31) (DCa dc_Tide_letDogsRunOver_0 16 rfl) 5 rfl ?_
    refine Q_callv (ci := 7) (st := [(0, l5), (2, v4)]) (pc := 33) (DCa dc_Tide_letDogsRunOver_0 17 rfl) (sp_Shor_dogTells F _ _ _ _) ce_Shor_dogTells ml_11_261 rfl rfl ⟨Nat.le_of_ble_eq_true rfl, Nat.le_of_ble_eq_true rfl⟩ rfl (Nat.le_of_ble_eq_true rfl) (fun r6 h7 => ?_)
    refine Q_iastore (pc := 36) (DCa dc_Tide_letDogsRunOver_0 18 rfl) (fun h8 => ?_)
    refine V_iinc (ls' := [(0, 2, l0), (1, 0, l1), (2, 0, l2), (3, 0, l3), (4, 0, l4), (5, 0, w32 (l5 + 1))]) (pc := 37) (DCa dc_Tide_letDogsRunOver_0 19 rfl) (Nat.le_of_ble_eq_true rfl) (by decide) 5 rfl rfl ?_
    refine V_goto (tgt := 14) (pc := 40) (DCa dc_Tide_letDogsRunOver_0 20 rfl) (by decide) ?_
    exact hR14 _ _ _ _ _ _ _
theorem v_Tide_letDogsRunOver_L14 (F : Nat)  (n : Nat) : ∀ (l0 l1 l2 l3 l4 l5 : Int) (h : Hp), V X_Tide_letDogsRunOver 14 [(0, 2, l0), (1, 0, l1), (2, 0, l2), (3, 0, l3), (4, 0, l4), (5, 0, l5)] [] h (Tide_letDogsRunOver_L14 F  n l0 l1 l2 l3 l4 l5 h) := by
  induction n with
  | zero => intros; exact V_none
  | succ n ih => exact fun l0 l1 l2 l3 l4 l5 h => v_Tide_letDogsRunOver_L14s F  _ ih l0 l1 l2 l3 l4 l5 h
theorem v_Tide_letDogsRunOver (F : Nat) (l0 l1 l2 l3 : Int) (h : Hp) : V X_Tide_letDogsRunOver 0 [(0, 2, l0), (1, 0, l1), (2, 0, l2), (3, 0, l3)] [] h (Tide_letDogsRunOver F l0 l1 l2 l3 h) := by
  unfold Tide_letDogsRunOver
  refine V_aload_n (pc := 0) (DCa dc_Tide_letDogsRunOver_0 0 rfl) rfl 0 rfl ?_
  refine Q_getf (k := 5) (pc := 1) (DCa dc_Tide_letDogsRunOver_0 1 rfl) cls_11 (Nat.le_of_ble_eq_true rfl) fl_11_34 rfl rfl rfl (fun v1 => ?_)
  refine V_iload_n (pc := 4) (DCa dc_Tide_letDogsRunOver_0 2 rfl) rfl 1 rfl ?_
  refine Q_callv (ci := 8) (st := []) (pc := 5) (DCa dc_Tide_letDogsRunOver_0 3 rfl) (sp_Stan_visibleFrom F _ _ _) ce_Stan_visibleFrom ml_11_339 rfl rfl ⟨Nat.le_of_ble_eq_true rfl, Nat.le_of_ble_eq_true rfl⟩ rfl (Nat.le_of_ble_eq_true rfl) (fun r2 h3 => ?_)
  refine V_istore (ls' := [(0, 2, l0), (1, 0, l1), (2, 0, l2), (3, 0, l3), (4, 0, r2)]) (pc := 8) (DCa dc_Tide_letDogsRunOver_0 4 rfl) (Nat.le_of_ble_eq_true rfl) rfl ?_
  refine V_iload (pc := 10) (DCa dc_Tide_letDogsRunOver_0 5 rfl) 4 rfl ?_
  refine V_istore (ls' := [(0, 2, l0), (1, 0, l1), (2, 0, l2), (3, 0, l3), (4, 0, r2), (5, 0, r2)]) (pc := 12) (DCa dc_Tide_letDogsRunOver_0 6 rfl) (Nat.le_of_ble_eq_true rfl) rfl ?_
  exact v_Tide_letDogsRunOver_L14 F F _ _ _ _ _ _ _
theorem sp_Tide_letDogsRunOver (F : Nat) (l0 l1 l2 l3 : Int) (h : Hp) : Sp yX11_letDogsRunOver cX11_letDogsRunOver 6 none 5 115 [(2, l0), (0, l1), (0, l2), (0, l3)] h (Tide_letDogsRunOver F l0 l1 l2 l3 h) := Sp_of (by decide +kernel) rfl rfl (Nat.le_of_ble_eq_true rfl) (v_Tide_letDogsRunOver F l0 l1 l2 l3 h)

-- TideRakes.letDogsRun
def Tide_letDogsRun_L71s (F : Nat)  (R71 : Int → Int → Int → Int → Int → Hp → Option (Int × Hp)) (l0 l1 l2 l3 l4 : Int) (h : Hp) : Option (Int × Hp) :=
  gf h l0 111 4 fun v14 =>
  gf h v14 107 0 fun v15 =>
  gf h v15 106 4 fun v16 =>
  if l4 < v16 then
    (if (iand (ishr l3 l4) 1) = 0 then
      (R71 l0 l1 l2 l3 (w32 (l4 + 1)) h)
    else
      (iv h l0 111 (Tide_letDogsRunOver F l0 l4 l1 l2 h) fun r17 h18 =>
      R71 l0 l1 l2 l3 (w32 (l4 + 1)) h18))
  else
    (some (0, h))
def Tide_letDogsRun_L71 (F : Nat)  : Nat → Int → Int → Int → Int → Int → Hp → Option (Int × Hp)
  | 0 => fun _ _ _ _ _ _ => none
  | n + 1 => Tide_letDogsRun_L71s F  (Tide_letDogsRun_L71 F  n)
def Tide_letDogsRun_L16s (F : Nat)  (R16 : Int → Int → Int → Int → Int → Hp → Option (Int × Hp)) (l0 l1 l2 l3 l4 : Int) (h : Hp) : Option (Int × Hp) :=
  if l4 < l2 then
    (if l4 < 50 then
      (gf h l0 111 11 fun v5 =>
      as h v5 0 l4 l3 fun h6 =>
      gf h6 l0 111 12 fun v7 =>
      gf h6 l0 111 4 fun v8 =>
      gf h6 v8 107 0 fun v9 =>
      gf h6 v9 106 13 fun v10 =>
      cl (Tide_mixed F (w32 (v10 + l4)) 29 h6) fun r11 h12 =>
      as h12 v7 0 l4 r11 fun h13 =>
      R16 l0 l1 l2 l3 (w32 (l4 + 1)) h13)
    else
      (Tide_letDogsRun_L71 F F l0 l1 l2 l3 0 h))
  else
    (Tide_letDogsRun_L71 F F l0 l1 l2 l3 0 h)
def Tide_letDogsRun_L16 (F : Nat)  : Nat → Int → Int → Int → Int → Int → Hp → Option (Int × Hp)
  | 0 => fun _ _ _ _ _ _ => none
  | n + 1 => Tide_letDogsRun_L16s F  (Tide_letDogsRun_L16 F  n)
def Tide_letDogsRun (F : Nat) (l0 l1 l2 : Int) (h : Hp) : Option (Int × Hp) :=
  gf h l0 111 5 fun v1 =>
  gf h l0 111 4 fun v2 =>
  iv h v1 108 (Stan_visible F v1 v2 l1 h) fun r3 h4 =>
  Tide_letDogsRun_L16 F F l0 l1 l2 r3 0 h4

theorem dc_Tide_letDogsRun_0 : ∀ q ∈ ([(0, .aload_n 0, 1), (1, .getfield 34, 3), (4, .aload_n 0, 1), (5, .getfield 27, 3), (8, .iload_n 1, 1), (9, .invokevirtual 194, 3), (12, .istore_n 3, 1), (13, .iconst 0, 1), (14, .istore 4, 2), (16, .iload 4, 2), (18, .iload_n 2, 1), (19, .if_icmp .ge 49, 3), (22, .iload 4, 2), (24, .bipush 50, 2), (26, .if_icmp .ge 42, 3), (29, .aload_n 0, 1), (30, .getfield 67, 3), (33, .iload 4, 2), (35, .iload_n 3, 1), (36, .iastore, 1), (37, .aload_n 0, 1), (38, .getfield 71, 3), (41, .iload 4, 2), (43, .aload_n 0, 1), (44, .getfield 27, 3), (47, .getfield 77, 3), (50, .getfield 329, 3), (53, .iload 4, 2), (55, .iadd, 1), (56, .bipush 29, 2), (58, .invokestatic 332, 3), (61, .iastore, 1), (62, .iinc 4 1, 3), (65, .goto (-49), 3), (68, .iconst 0, 1), (69, .istore 4, 2), (71, .iload 4, 2), (73, .aload_n 0, 1), (74, .getfield 27, 3), (77, .getfield 77, 3), (80, .getfield 233, 3), (83, .if_icmp .ge 26, 3), (86, .iload_n 3, 1), (87, .iload 4, 2), (89, .ishr, 1), (90, .iconst 1, 1), (91, .iand, 1), (92, .ifCond .eq 11, 3), (95, .aload_n 0, 1), (96, .iload 4, 2)] : List (Nat × Instr × Nat)), decode cX11_letDogsRun q.1 = .ok (q.2.1, q.2.2) := by decide +kernel
theorem dc_Tide_letDogsRun_1 : ∀ q ∈ ([(98, .iload_n 1, 1), (99, .iload_n 2, 1), (100, .invokevirtual 335, 3), (103, .iinc 4 1, 3), (106, .goto (-35), 3), (109, .return_, 1)] : List (Nat × Instr × Nat)), decode cX11_letDogsRun q.1 = .ok (q.2.1, q.2.2) := by decide +kernel
abbrev X_Tide_letDogsRun : MX := (cX11_letDogsRun, RX11, "letDogsRun", 5, none, 6, 140)
theorem v_Tide_letDogsRun_L71s (F : Nat)  (R71 : Int → Int → Int → Int → Int → Hp → Option (Int × Hp)) (hR71 : ∀ (l0 l1 l2 l3 l4 : Int) (h : Hp), V X_Tide_letDogsRun 71 [(0, 2, l0), (1, 0, l1), (2, 0, l2), (3, 0, l3), (4, 0, l4)] [] h (R71 l0 l1 l2 l3 l4 h)) (l0 l1 l2 l3 l4 : Int) (h : Hp) : V X_Tide_letDogsRun 71 [(0, 2, l0), (1, 0, l1), (2, 0, l2), (3, 0, l3), (4, 0, l4)] [] h (Tide_letDogsRun_L71s F  R71 l0 l1 l2 l3 l4 h) := by
  unfold Tide_letDogsRun_L71s
  refine V_iload (pc := 71) (DCa dc_Tide_letDogsRun_0 36 rfl) 4 rfl ?_
  refine V_aload_n (pc := 73) (DCa dc_Tide_letDogsRun_0 37 rfl) rfl 0 rfl ?_
  refine Q_getf (k := 4) (pc := 74) (DCa dc_Tide_letDogsRun_0 38 rfl) cls_11 (Nat.le_of_ble_eq_true rfl) fl_11_27 rfl rfl rfl (fun v14 => ?_)
  refine Q_getf (k := 0) (pc := 77) (DCa dc_Tide_letDogsRun_0 39 rfl) cls_7 (Nat.le_of_ble_eq_true rfl) fl_11_77 rfl rfl rfl (fun v15 => ?_)
  refine Q_getf (k := 4) (pc := 80) (DCa dc_Tide_letDogsRun_0 40 rfl) cls_6 (Nat.le_of_ble_eq_true rfl) fl_11_233 rfl rfl rfl (fun v16 => ?_)
  refine V_icmp_ge (tgt := 109) (pc := 83) (DCa dc_Tide_letDogsRun_0 41 rfl) (by decide) (fun _ => ?_) (fun _ => ?_)
  · refine V_iload_n (pc := 86) (DCa dc_Tide_letDogsRun_0 42 rfl) rfl 3 rfl ?_
    refine V_iload (pc := 87) (DCa dc_Tide_letDogsRun_0 43 rfl) 4 rfl ?_
    refine V_ishr (pc := 89) (DCa dc_Tide_letDogsRun_0 44 rfl) ?_
    refine V_iconst (pc := 90) (DCa dc_Tide_letDogsRun_0 45 rfl) (by decide) ?_
    refine V_iand (pc := 91) (DCa dc_Tide_letDogsRun_0 46 rfl) ?_
    refine V_if_eq (tgt := 103) (pc := 92) (DCa dc_Tide_letDogsRun_0 47 rfl) (by decide) (fun _ => ?_) (fun _ => ?_)
    · refine V_iinc (ls' := [(0, 2, l0), (1, 0, l1), (2, 0, l2), (3, 0, l3), (4, 0, w32 (l4 + 1))]) (pc := 103) (DCa dc_Tide_letDogsRun_1 3 rfl) (Nat.le_of_ble_eq_true rfl) (by decide) 4 rfl rfl ?_
      refine V_goto (tgt := 71) (pc := 106) (DCa dc_Tide_letDogsRun_1 4 rfl) (by decide) ?_
      exact hR71 _ _ _ _ _ _
    · refine V_aload_n (pc := 95) (DCa dc_Tide_letDogsRun_0 48 rfl) rfl 0 rfl ?_
      refine V_iload (pc := 96) (DCa dc_Tide_letDogsRun_0 49 rfl) 4 rfl ?_
      refine V_iload_n (pc := 98) (DCa dc_Tide_letDogsRun_1 0 rfl) rfl 1 rfl ?_
      refine V_iload_n (pc := 99) (DCa dc_Tide_letDogsRun_1 1 rfl) rfl 2 rfl ?_
      refine Q_callv (ci := 11) (st := []) (pc := 100) (DCa dc_Tide_letDogsRun_1 2 rfl) (sp_Tide_letDogsRunOver F _ _ _ _ _) ce_Tide_letDogsRunOver ml_11_335 rfl rfl ⟨Nat.le_of_ble_eq_true rfl, Nat.le_of_ble_eq_true rfl⟩ rfl (Nat.le_of_ble_eq_true rfl) (fun r17 h18 => ?_)
      refine V_iinc (ls' := [(0, 2, l0), (1, 0, l1), (2, 0, l2), (3, 0, l3), (4, 0, w32 (l4 + 1))]) (pc := 103) (DCa dc_Tide_letDogsRun_1 3 rfl) (Nat.le_of_ble_eq_true rfl) (by decide) 4 rfl rfl ?_
      refine V_goto (tgt := 71) (pc := 106) (DCa dc_Tide_letDogsRun_1 4 rfl) (by decide) ?_
      exact hR71 _ _ _ _ _ _
  · exact V_return (pc := 109) (DCa dc_Tide_letDogsRun_1 5 rfl) rfl
theorem v_Tide_letDogsRun_L71 (F : Nat)  (n : Nat) : ∀ (l0 l1 l2 l3 l4 : Int) (h : Hp), V X_Tide_letDogsRun 71 [(0, 2, l0), (1, 0, l1), (2, 0, l2), (3, 0, l3), (4, 0, l4)] [] h (Tide_letDogsRun_L71 F  n l0 l1 l2 l3 l4 h) := by
  induction n with
  | zero => intros; exact V_none
  | succ n ih => exact fun l0 l1 l2 l3 l4 h => v_Tide_letDogsRun_L71s F  _ ih l0 l1 l2 l3 l4 h
theorem v_Tide_letDogsRun_L16s (F : Nat)  (R16 : Int → Int → Int → Int → Int → Hp → Option (Int × Hp)) (hR16 : ∀ (l0 l1 l2 l3 l4 : Int) (h : Hp), V X_Tide_letDogsRun 16 [(0, 2, l0), (1, 0, l1), (2, 0, l2), (3, 0, l3), (4, 0, l4)] [] h (R16 l0 l1 l2 l3 l4 h)) (l0 l1 l2 l3 l4 : Int) (h : Hp) : V X_Tide_letDogsRun 16 [(0, 2, l0), (1, 0, l1), (2, 0, l2), (3, 0, l3), (4, 0, l4)] [] h (Tide_letDogsRun_L16s F  R16 l0 l1 l2 l3 l4 h) := by
  unfold Tide_letDogsRun_L16s
  refine V_iload (pc := 16) (DCa dc_Tide_letDogsRun_0 9 rfl) 4 rfl ?_
  refine V_iload_n (pc := 18) (DCa dc_Tide_letDogsRun_0 10 rfl) rfl 2 rfl ?_
  refine V_icmp_ge (tgt := 68) (pc := 19) (DCa dc_Tide_letDogsRun_0 11 rfl) (by decide) (fun _ => ?_) (fun _ => ?_)
  · refine V_iload (pc := 22) (DCa dc_Tide_letDogsRun_0 12 rfl) 4 rfl ?_
    refine V_bipush (pc := 24) (DCa dc_Tide_letDogsRun_0 13 rfl) (by decide) ?_
    refine V_icmp_ge (tgt := 68) (pc := 26) (DCa dc_Tide_letDogsRun_0 14 rfl) (by decide) (fun _ => ?_) (fun _ => ?_)
    · refine V_aload_n (pc := 29) (DCa dc_Tide_letDogsRun_0 15 rfl) rfl 0 rfl ?_
      refine Q_getf (k := 11) (pc := 30) (DCa dc_Tide_letDogsRun_0 16 rfl) cls_11 (Nat.le_of_ble_eq_true rfl) fl_11_67 rfl rfl rfl (fun v5 => ?_)
      refine V_iload (pc := 33) (DCa dc_Tide_letDogsRun_0 17 rfl) 4 rfl ?_
      refine V_iload_n (pc := 35) (DCa dc_Tide_letDogsRun_0 18 rfl) rfl 3 rfl ?_
      refine Q_iastore (pc := 36) (DCa dc_Tide_letDogsRun_0 19 rfl) (fun h6 => ?_)
      refine V_aload_n (pc := 37) (DCa dc_Tide_letDogsRun_0 20 rfl) rfl 0 rfl ?_
      refine Q_getf (k := 12) (pc := 38) (DCa dc_Tide_letDogsRun_0 21 rfl) cls_11 (Nat.le_of_ble_eq_true rfl) fl_11_71 rfl rfl rfl (fun v7 => ?_)
      refine V_iload (pc := 41) (DCa dc_Tide_letDogsRun_0 22 rfl) 4 rfl ?_
      refine V_aload_n (pc := 43) (DCa dc_Tide_letDogsRun_0 23 rfl) rfl 0 rfl ?_
      refine Q_getf (k := 4) (pc := 44) (DCa dc_Tide_letDogsRun_0 24 rfl) cls_11 (Nat.le_of_ble_eq_true rfl) fl_11_27 rfl rfl rfl (fun v8 => ?_)
      refine Q_getf (k := 0) (pc := 47) (DCa dc_Tide_letDogsRun_0 25 rfl) cls_7 (Nat.le_of_ble_eq_true rfl) fl_11_77 rfl rfl rfl (fun v9 => ?_)
      refine Q_getf (k := 13) (pc := 50) (DCa dc_Tide_letDogsRun_0 26 rfl) cls_6 (Nat.le_of_ble_eq_true rfl) fl_11_329 rfl rfl rfl (fun v10 => ?_)
      refine V_iload (pc := 53) (DCa dc_Tide_letDogsRun_0 27 rfl) 4 rfl ?_
      refine V_iadd (pc := 55) (DCa dc_Tide_letDogsRun_0 28 rfl) ?_
      refine V_bipush (pc := 56) (DCa dc_Tide_letDogsRun_0 29 rfl) (by decide) ?_
      refine Q_calls (st := [(0, l4), (2, v7)]) (pc := 58) (DCa dc_Tide_letDogsRun_0 30 rfl) (sp_Tide_mixed F _ _ _) ce_Tide_mixed ml_11_332 rfl ⟨Nat.le_of_ble_eq_true rfl, Nat.le_of_ble_eq_true rfl⟩ rfl (Nat.le_of_ble_eq_true rfl) (fun r11 h12 => ?_)
      refine Q_iastore (pc := 61) (DCa dc_Tide_letDogsRun_0 31 rfl) (fun h13 => ?_)
      refine V_iinc (ls' := [(0, 2, l0), (1, 0, l1), (2, 0, l2), (3, 0, l3), (4, 0, w32 (l4 + 1))]) (pc := 62) (DCa dc_Tide_letDogsRun_0 32 rfl) (Nat.le_of_ble_eq_true rfl) (by decide) 4 rfl rfl ?_
      refine V_goto (tgt := 16) (pc := 65) (DCa dc_Tide_letDogsRun_0 33 rfl) (by decide) ?_
      exact hR16 _ _ _ _ _ _
    · refine V_iconst (pc := 68) (DCa dc_Tide_letDogsRun_0 34 rfl) (by decide) ?_
      refine V_istore (ls' := [(0, 2, l0), (1, 0, l1), (2, 0, l2), (3, 0, l3), (4, 0, 0)]) (pc := 69) (DCa dc_Tide_letDogsRun_0 35 rfl) (Nat.le_of_ble_eq_true rfl) rfl ?_
      exact v_Tide_letDogsRun_L71 F F _ _ _ _ _ _
  · refine V_iconst (pc := 68) (DCa dc_Tide_letDogsRun_0 34 rfl) (by decide) ?_
    refine V_istore (ls' := [(0, 2, l0), (1, 0, l1), (2, 0, l2), (3, 0, l3), (4, 0, 0)]) (pc := 69) (DCa dc_Tide_letDogsRun_0 35 rfl) (Nat.le_of_ble_eq_true rfl) rfl ?_
    exact v_Tide_letDogsRun_L71 F F _ _ _ _ _ _
theorem v_Tide_letDogsRun_L16 (F : Nat)  (n : Nat) : ∀ (l0 l1 l2 l3 l4 : Int) (h : Hp), V X_Tide_letDogsRun 16 [(0, 2, l0), (1, 0, l1), (2, 0, l2), (3, 0, l3), (4, 0, l4)] [] h (Tide_letDogsRun_L16 F  n l0 l1 l2 l3 l4 h) := by
  induction n with
  | zero => intros; exact V_none
  | succ n ih => exact fun l0 l1 l2 l3 l4 h => v_Tide_letDogsRun_L16s F  _ ih l0 l1 l2 l3 l4 h
theorem v_Tide_letDogsRun (F : Nat) (l0 l1 l2 : Int) (h : Hp) : V X_Tide_letDogsRun 0 [(0, 2, l0), (1, 0, l1), (2, 0, l2)] [] h (Tide_letDogsRun F l0 l1 l2 h) := by
  unfold Tide_letDogsRun
  refine V_aload_n (pc := 0) (DCa dc_Tide_letDogsRun_0 0 rfl) rfl 0 rfl ?_
  refine Q_getf (k := 5) (pc := 1) (DCa dc_Tide_letDogsRun_0 1 rfl) cls_11 (Nat.le_of_ble_eq_true rfl) fl_11_34 rfl rfl rfl (fun v1 => ?_)
  refine V_aload_n (pc := 4) (DCa dc_Tide_letDogsRun_0 2 rfl) rfl 0 rfl ?_
  refine Q_getf (k := 4) (pc := 5) (DCa dc_Tide_letDogsRun_0 3 rfl) cls_11 (Nat.le_of_ble_eq_true rfl) fl_11_27 rfl rfl rfl (fun v2 => ?_)
  refine V_iload_n (pc := 8) (DCa dc_Tide_letDogsRun_0 4 rfl) rfl 1 rfl ?_
  refine Q_callv (ci := 8) (st := []) (pc := 9) (DCa dc_Tide_letDogsRun_0 5 rfl) (sp_Stan_visible F _ _ _ _) ce_Stan_visible ml_11_194 rfl rfl ⟨Nat.le_of_ble_eq_true rfl, Nat.le_of_ble_eq_true rfl⟩ rfl (Nat.le_of_ble_eq_true rfl) (fun r3 h4 => ?_)
  refine V_istore_n (ls' := [(0, 2, l0), (1, 0, l1), (2, 0, l2), (3, 0, r3)]) (pc := 12) (DCa dc_Tide_letDogsRun_0 6 rfl) rfl (Nat.le_of_ble_eq_true rfl) rfl ?_
  refine V_iconst (pc := 13) (DCa dc_Tide_letDogsRun_0 7 rfl) (by decide) ?_
  refine V_istore (ls' := [(0, 2, l0), (1, 0, l1), (2, 0, l2), (3, 0, r3), (4, 0, 0)]) (pc := 14) (DCa dc_Tide_letDogsRun_0 8 rfl) (Nat.le_of_ble_eq_true rfl) rfl ?_
  exact v_Tide_letDogsRun_L16 F F _ _ _ _ _ _
theorem sp_Tide_letDogsRun (F : Nat) (l0 l1 l2 : Int) (h : Hp) : Sp yX11_letDogsRun cX11_letDogsRun 5 none 6 140 [(2, l0), (0, l1), (0, l2)] h (Tide_letDogsRun F l0 l1 l2 h) := Sp_of (by decide +kernel) rfl rfl (Nat.le_of_ble_eq_true rfl) (v_Tide_letDogsRun F l0 l1 l2 h)

-- TideRakes.hopes
def Tide_hopes_L36s (F : Nat)  (R36 : Int → Int → Int → Int → Int → Int → Hp → Option (Int × Hp)) (l0 l1 l2 l3 l4 l5 : Int) (h : Hp) : Option (Int × Hp) :=
  if l5 < l3 then
    (gf h l0 111 4 fun v5 =>
    gf h v5 107 4 fun v6 =>
    gf h l0 111 11 fun v7 =>
    al h v7 0 l5 fun v8 =>
    al h v6 0 v8 fun v9 =>
    gf h l0 111 4 fun v10 =>
    gf h v10 107 2 fun v11 =>
    al h v11 0 l1 fun v12 =>
    if (w32 (v9 * v12)) < l2 then
      (R36 l0 l1 l2 l3 l4 (w32 (l5 + 1)) h)
    else
      (R36 l0 l1 l2 l3 (w32 (l4 + 1)) (w32 (l5 + 1)) h))
  else
    (some (l4, h))
def Tide_hopes_L36 (F : Nat)  : Nat → Int → Int → Int → Int → Int → Int → Hp → Option (Int × Hp)
  | 0 => fun _ _ _ _ _ _ _ => none
  | n + 1 => Tide_hopes_L36s F  (Tide_hopes_L36 F  n)
def Tide_hopes (F : Nat) (l0 l1 l2 l3 : Int) (h : Hp) : Option (Int × Hp) :=
  cl (Tide_isMinute F l1 h) fun r1 h2 =>
  if r1 = 0 then
    (some ((-1), h2))
  else
    (if l2 < 0 then
      (some ((-1), h2))
    else
      (if l3 < 1 then
        (some ((-1), h2))
      else
        (if 50 < l3 then
          (some ((-1), h2))
        else
          (iv h2 l0 111 (Tide_letDogsRun F l0 l1 l3 h2) fun r3 h4 =>
          Tide_hopes_L36 F F l0 l1 l2 l3 0 0 h4))))

theorem dc_Tide_hopes_0 : ∀ q ∈ ([(0, .iload_n 1, 1), (1, .invokestatic 154, 3), (4, .ifCond .eq 18, 3), (7, .iload_n 2, 1), (8, .ifCond .lt 14, 3), (11, .iload_n 3, 1), (12, .iconst 1, 1), (13, .if_icmp .lt 9, 3), (16, .iload_n 3, 1), (17, .bipush 50, 2), (19, .if_icmp .le 5, 3), (22, .iconst (-1), 1), (23, .ireturn, 1), (24, .aload_n 0, 1), (25, .iload_n 1, 1), (26, .iload_n 3, 1), (27, .invokevirtual 257, 3), (30, .iconst 0, 1), (31, .istore 4, 2), (33, .iconst 0, 1), (34, .istore 5, 2), (36, .iload 5, 2), (38, .iload_n 3, 1), (39, .if_icmp .ge 41, 3), (42, .aload_n 0, 1), (43, .getfield 27, 3), (46, .getfield 223, 3), (49, .aload_n 0, 1), (50, .getfield 67, 3), (53, .iload 5, 2), (55, .iaload, 1), (56, .iaload, 1), (57, .aload_n 0, 1), (58, .getfield 27, 3), (61, .getfield 160, 3), (64, .iload_n 1, 1), (65, .iaload, 1), (66, .imul, 1), (67, .iload_n 2, 1), (68, .if_icmp .lt 6, 3), (71, .iinc 4 1, 3), (74, .iinc 5 1, 3), (77, .goto (-41), 3), (80, .iload 4, 2), (82, .ireturn, 1)] : List (Nat × Instr × Nat)), decode cX11_hopes q.1 = .ok (q.2.1, q.2.2) := by decide +kernel
abbrev X_Tide_hopes : MX := (cX11_hopes, RX11, "hopes", 6, (some (.int)), 7, 164)
theorem v_Tide_hopes_L36s (F : Nat)  (R36 : Int → Int → Int → Int → Int → Int → Hp → Option (Int × Hp)) (hR36 : ∀ (l0 l1 l2 l3 l4 l5 : Int) (h : Hp), V X_Tide_hopes 36 [(0, 2, l0), (1, 0, l1), (2, 0, l2), (3, 0, l3), (4, 0, l4), (5, 0, l5)] [] h (R36 l0 l1 l2 l3 l4 l5 h)) (l0 l1 l2 l3 l4 l5 : Int) (h : Hp) : V X_Tide_hopes 36 [(0, 2, l0), (1, 0, l1), (2, 0, l2), (3, 0, l3), (4, 0, l4), (5, 0, l5)] [] h (Tide_hopes_L36s F  R36 l0 l1 l2 l3 l4 l5 h) := by
  unfold Tide_hopes_L36s
  refine V_iload (pc := 36) (DCa dc_Tide_hopes_0 21 rfl) 5 rfl ?_
  refine V_iload_n (pc := 38) (DCa dc_Tide_hopes_0 22 rfl) rfl 3 rfl ?_
  refine V_icmp_ge (tgt := 80) (pc := 39) (DCa dc_Tide_hopes_0 23 rfl) (by decide) (fun _ => ?_) (fun _ => ?_)
  · refine V_aload_n (pc := 42) (DCa dc_Tide_hopes_0 24 rfl) rfl 0 rfl ?_
    refine Q_getf (k := 4) (pc := 43) (DCa dc_Tide_hopes_0 25 rfl) cls_11 (Nat.le_of_ble_eq_true rfl) fl_11_27 rfl rfl rfl (fun v5 => ?_)
    refine Q_getf (k := 4) (pc := 46) (DCa dc_Tide_hopes_0 26 rfl) cls_7 (Nat.le_of_ble_eq_true rfl) fl_11_223 rfl rfl rfl (fun v6 => ?_)
    refine V_aload_n (pc := 49) (DCa dc_Tide_hopes_0 27 rfl) rfl 0 rfl ?_
    refine Q_getf (k := 11) (pc := 50) (DCa dc_Tide_hopes_0 28 rfl) cls_11 (Nat.le_of_ble_eq_true rfl) fl_11_67 rfl rfl rfl (fun v7 => ?_)
    refine V_iload (pc := 53) (DCa dc_Tide_hopes_0 29 rfl) 5 rfl ?_
    refine Q_iaload (pc := 55) (DCa dc_Tide_hopes_0 30 rfl) (fun v8 => ?_)
    refine Q_iaload (pc := 56) (DCa dc_Tide_hopes_0 31 rfl) (fun v9 => ?_)
    refine V_aload_n (pc := 57) (DCa dc_Tide_hopes_0 32 rfl) rfl 0 rfl ?_
    refine Q_getf (k := 4) (pc := 58) (DCa dc_Tide_hopes_0 33 rfl) cls_11 (Nat.le_of_ble_eq_true rfl) fl_11_27 rfl rfl rfl (fun v10 => ?_)
    refine Q_getf (k := 2) (pc := 61) (DCa dc_Tide_hopes_0 34 rfl) cls_7 (Nat.le_of_ble_eq_true rfl) fl_11_160 rfl rfl rfl (fun v11 => ?_)
    refine V_iload_n (pc := 64) (DCa dc_Tide_hopes_0 35 rfl) rfl 1 rfl ?_
    refine Q_iaload (pc := 65) (DCa dc_Tide_hopes_0 36 rfl) (fun v12 => ?_)
    refine V_imul (pc := 66) (DCa dc_Tide_hopes_0 37 rfl) ?_
    refine V_iload_n (pc := 67) (DCa dc_Tide_hopes_0 38 rfl) rfl 2 rfl ?_
    refine V_icmp_lt (tgt := 74) (pc := 68) (DCa dc_Tide_hopes_0 39 rfl) (by decide) (fun _ => ?_) (fun _ => ?_)
    · refine V_iinc (ls' := [(0, 2, l0), (1, 0, l1), (2, 0, l2), (3, 0, l3), (4, 0, l4), (5, 0, w32 (l5 + 1))]) (pc := 74) (DCa dc_Tide_hopes_0 41 rfl) (Nat.le_of_ble_eq_true rfl) (by decide) 5 rfl rfl ?_
      refine V_goto (tgt := 36) (pc := 77) (DCa dc_Tide_hopes_0 42 rfl) (by decide) ?_
      exact hR36 _ _ _ _ _ _ _
    · refine V_iinc (ls' := [(0, 2, l0), (1, 0, l1), (2, 0, l2), (3, 0, l3), (4, 0, w32 (l4 + 1)), (5, 0, l5)]) (pc := 71) (DCa dc_Tide_hopes_0 40 rfl) (Nat.le_of_ble_eq_true rfl) (by decide) 4 rfl rfl ?_
      refine V_iinc (ls' := [(0, 2, l0), (1, 0, l1), (2, 0, l2), (3, 0, l3), (4, 0, w32 (l4 + 1)), (5, 0, w32 (l5 + 1))]) (pc := 74) (DCa dc_Tide_hopes_0 41 rfl) (Nat.le_of_ble_eq_true rfl) (by decide) 5 rfl rfl ?_
      refine V_goto (tgt := 36) (pc := 77) (DCa dc_Tide_hopes_0 42 rfl) (by decide) ?_
      exact hR36 _ _ _ _ _ _ _
  · refine V_iload (pc := 80) (DCa dc_Tide_hopes_0 43 rfl) 4 rfl ?_
    exact V_ireturn (pc := 82) (DCa dc_Tide_hopes_0 44 rfl) rfl
theorem v_Tide_hopes_L36 (F : Nat)  (n : Nat) : ∀ (l0 l1 l2 l3 l4 l5 : Int) (h : Hp), V X_Tide_hopes 36 [(0, 2, l0), (1, 0, l1), (2, 0, l2), (3, 0, l3), (4, 0, l4), (5, 0, l5)] [] h (Tide_hopes_L36 F  n l0 l1 l2 l3 l4 l5 h) := by
  induction n with
  | zero => intros; exact V_none
  | succ n ih => exact fun l0 l1 l2 l3 l4 l5 h => v_Tide_hopes_L36s F  _ ih l0 l1 l2 l3 l4 l5 h
theorem v_Tide_hopes (F : Nat) (l0 l1 l2 l3 : Int) (h : Hp) : V X_Tide_hopes 0 [(0, 2, l0), (1, 0, l1), (2, 0, l2), (3, 0, l3)] [] h (Tide_hopes F l0 l1 l2 l3 h) := by
  unfold Tide_hopes
  refine V_iload_n (pc := 0) (DCa dc_Tide_hopes_0 0 rfl) rfl 1 rfl ?_
  refine Q_calls (st := []) (pc := 1) (DCa dc_Tide_hopes_0 1 rfl) (sp_Tide_isMinute F _ _) ce_Tide_isMinute ml_11_154 rfl ⟨Nat.le_of_ble_eq_true rfl, Nat.le_of_ble_eq_true rfl⟩ rfl (Nat.le_of_ble_eq_true rfl) (fun r1 h2 => ?_)
  refine V_if_eq (tgt := 22) (pc := 4) (DCa dc_Tide_hopes_0 2 rfl) (by decide) (fun _ => ?_) (fun _ => ?_)
  · refine V_iconst (pc := 22) (DCa dc_Tide_hopes_0 11 rfl) (by decide) ?_
    exact V_ireturn (pc := 23) (DCa dc_Tide_hopes_0 12 rfl) rfl
  · refine V_iload_n (pc := 7) (DCa dc_Tide_hopes_0 3 rfl) rfl 2 rfl ?_
    refine V_if_lt (tgt := 22) (pc := 8) (DCa dc_Tide_hopes_0 4 rfl) (by decide) (fun _ => ?_) (fun _ => ?_)
    · refine V_iconst (pc := 22) (DCa dc_Tide_hopes_0 11 rfl) (by decide) ?_
      exact V_ireturn (pc := 23) (DCa dc_Tide_hopes_0 12 rfl) rfl
    · refine V_iload_n (pc := 11) (DCa dc_Tide_hopes_0 5 rfl) rfl 3 rfl ?_
      refine V_iconst (pc := 12) (DCa dc_Tide_hopes_0 6 rfl) (by decide) ?_
      refine V_icmp_lt (tgt := 22) (pc := 13) (DCa dc_Tide_hopes_0 7 rfl) (by decide) (fun _ => ?_) (fun _ => ?_)
      · refine V_iconst (pc := 22) (DCa dc_Tide_hopes_0 11 rfl) (by decide) ?_
        exact V_ireturn (pc := 23) (DCa dc_Tide_hopes_0 12 rfl) rfl
      · refine V_iload_n (pc := 16) (DCa dc_Tide_hopes_0 8 rfl) rfl 3 rfl ?_
        refine V_bipush (pc := 17) (DCa dc_Tide_hopes_0 9 rfl) (by decide) ?_
        refine V_icmp_le (tgt := 24) (pc := 19) (DCa dc_Tide_hopes_0 10 rfl) (by decide) (fun _ => ?_) (fun _ => ?_)
        · refine V_iconst (pc := 22) (DCa dc_Tide_hopes_0 11 rfl) (by decide) ?_
          exact V_ireturn (pc := 23) (DCa dc_Tide_hopes_0 12 rfl) rfl
        · refine V_aload_n (pc := 24) (DCa dc_Tide_hopes_0 13 rfl) rfl 0 rfl ?_
          refine V_iload_n (pc := 25) (DCa dc_Tide_hopes_0 14 rfl) rfl 1 rfl ?_
          refine V_iload_n (pc := 26) (DCa dc_Tide_hopes_0 15 rfl) rfl 3 rfl ?_
          refine Q_callv (ci := 11) (st := []) (pc := 27) (DCa dc_Tide_hopes_0 16 rfl) (sp_Tide_letDogsRun F _ _ _ _) ce_Tide_letDogsRun ml_11_257 rfl rfl ⟨Nat.le_of_ble_eq_true rfl, Nat.le_of_ble_eq_true rfl⟩ rfl (Nat.le_of_ble_eq_true rfl) (fun r3 h4 => ?_)
          refine V_iconst (pc := 30) (DCa dc_Tide_hopes_0 17 rfl) (by decide) ?_
          refine V_istore (ls' := [(0, 2, l0), (1, 0, l1), (2, 0, l2), (3, 0, l3), (4, 0, 0)]) (pc := 31) (DCa dc_Tide_hopes_0 18 rfl) (Nat.le_of_ble_eq_true rfl) rfl ?_
          refine V_iconst (pc := 33) (DCa dc_Tide_hopes_0 19 rfl) (by decide) ?_
          refine V_istore (ls' := [(0, 2, l0), (1, 0, l1), (2, 0, l2), (3, 0, l3), (4, 0, 0), (5, 0, 0)]) (pc := 34) (DCa dc_Tide_hopes_0 20 rfl) (Nat.le_of_ble_eq_true rfl) rfl ?_
          exact v_Tide_hopes_L36 F F _ _ _ _ _ _ _
theorem sp_Tide_hopes (F : Nat) (l0 l1 l2 l3 : Int) (h : Hp) : Sp yX11_hopes cX11_hopes 6 (some (.int)) 7 164 [(2, l0), (0, l1), (0, l2), (0, l3)] h (Tide_hopes F l0 l1 l2 l3 h) := Sp_of (by decide +kernel) rfl rfl (Nat.le_of_ble_eq_true rfl) (v_Tide_hopes F l0 l1 l2 l3 h)

-- TideRakes.hope
def Tide_hope_L31s (F : Nat)  (R31 : Int → Int → Int → Int → Int → Hp → Option (Int × Hp)) (l0 l1 l2 l3 l4 : Int) (h : Hp) : Option (Int × Hp) :=
  if l4 < l2 then
    (gf h l0 111 4 fun v5 =>
    gf h v5 107 4 fun v6 =>
    gf h l0 111 11 fun v7 =>
    al h v7 0 l4 fun v8 =>
    al h v6 0 v8 fun v9 =>
    lt (w32 (l3 + v9)) fun x10 =>
    R31 l0 l1 l2 x10 (w32 (l4 + 1)) h)
  else
    (gf h l0 111 4 fun v11 =>
    gf h v11 107 2 fun v12 =>
    al h v12 0 l1 fun v13 =>
    some (w32 (l3 * v13), h))
def Tide_hope_L31 (F : Nat)  : Nat → Int → Int → Int → Int → Int → Hp → Option (Int × Hp)
  | 0 => fun _ _ _ _ _ _ => none
  | n + 1 => Tide_hope_L31s F  (Tide_hope_L31 F  n)
def Tide_hope (F : Nat) (l0 l1 l2 : Int) (h : Hp) : Option (Int × Hp) :=
  cl (Tide_isMinute F l1 h) fun r1 h2 =>
  if r1 = 0 then
    (some ((-1), h2))
  else
    (if l2 < 1 then
      (some ((-1), h2))
    else
      (if 50 < l2 then
        (some ((-1), h2))
      else
        (iv h2 l0 111 (Tide_letDogsRun F l0 l1 l2 h2) fun r3 h4 =>
        Tide_hope_L31 F F l0 l1 l2 0 0 h4)))

theorem dc_Tide_hope_0 : ∀ q ∈ ([(0, .iload_n 1, 1), (1, .invokestatic 154, 3), (4, .ifCond .eq 14, 3), (7, .iload_n 2, 1), (8, .iconst 1, 1), (9, .if_icmp .lt 9, 3), (12, .iload_n 2, 1), (13, .bipush 50, 2), (15, .if_icmp .le 5, 3), (18, .iconst (-1), 1), (19, .ireturn, 1), (20, .aload_n 0, 1), (21, .iload_n 1, 1), (22, .iload_n 2, 1), (23, .invokevirtual 257, 3), (26, .iconst 0, 1), (27, .istore_n 3, 1), (28, .iconst 0, 1), (29, .istore 4, 2), (31, .iload 4, 2), (33, .iload_n 2, 1), (34, .if_icmp .ge 27, 3), (37, .iload_n 3, 1), (38, .aload_n 0, 1), (39, .getfield 27, 3), (42, .getfield 223, 3), (45, .aload_n 0, 1), (46, .getfield 67, 3), (49, .iload 4, 2), (51, .iaload, 1), (52, .iaload, 1), (53, .iadd, 1), (54, .istore_n 3, 1), (55, .iinc 4 1, 3), (58, .goto (-27), 3), (61, .iload_n 3, 1), (62, .aload_n 0, 1), (63, .getfield 27, 3), (66, .getfield 160, 3), (69, .iload_n 1, 1), (70, .iaload, 1), (71, .imul, 1), (72, .ireturn, 1)] : List (Nat × Instr × Nat)), decode cX11_hope q.1 = .ok (q.2.1, q.2.2) := by decide +kernel
abbrev X_Tide_hope : MX := (cX11_hope, RX11, "hope", 5, (some (.int)), 7, 164)
theorem v_Tide_hope_L31s (F : Nat)  (R31 : Int → Int → Int → Int → Int → Hp → Option (Int × Hp)) (hR31 : ∀ (l0 l1 l2 l3 l4 : Int) (h : Hp), V X_Tide_hope 31 [(0, 2, l0), (1, 0, l1), (2, 0, l2), (3, 0, l3), (4, 0, l4)] [] h (R31 l0 l1 l2 l3 l4 h)) (l0 l1 l2 l3 l4 : Int) (h : Hp) : V X_Tide_hope 31 [(0, 2, l0), (1, 0, l1), (2, 0, l2), (3, 0, l3), (4, 0, l4)] [] h (Tide_hope_L31s F  R31 l0 l1 l2 l3 l4 h) := by
  unfold Tide_hope_L31s
  refine V_iload (pc := 31) (DCa dc_Tide_hope_0 19 rfl) 4 rfl ?_
  refine V_iload_n (pc := 33) (DCa dc_Tide_hope_0 20 rfl) rfl 2 rfl ?_
  refine V_icmp_ge (tgt := 61) (pc := 34) (DCa dc_Tide_hope_0 21 rfl) (by decide) (fun _ => ?_) (fun _ => ?_)
  · refine V_iload_n (pc := 37) (DCa dc_Tide_hope_0 22 rfl) rfl 3 rfl ?_
    refine V_aload_n (pc := 38) (DCa dc_Tide_hope_0 23 rfl) rfl 0 rfl ?_
    refine Q_getf (k := 4) (pc := 39) (DCa dc_Tide_hope_0 24 rfl) cls_11 (Nat.le_of_ble_eq_true rfl) fl_11_27 rfl rfl rfl (fun v5 => ?_)
    refine Q_getf (k := 4) (pc := 42) (DCa dc_Tide_hope_0 25 rfl) cls_7 (Nat.le_of_ble_eq_true rfl) fl_11_223 rfl rfl rfl (fun v6 => ?_)
    refine V_aload_n (pc := 45) (DCa dc_Tide_hope_0 26 rfl) rfl 0 rfl ?_
    refine Q_getf (k := 11) (pc := 46) (DCa dc_Tide_hope_0 27 rfl) cls_11 (Nat.le_of_ble_eq_true rfl) fl_11_67 rfl rfl rfl (fun v7 => ?_)
    refine V_iload (pc := 49) (DCa dc_Tide_hope_0 28 rfl) 4 rfl ?_
    refine Q_iaload (pc := 51) (DCa dc_Tide_hope_0 29 rfl) (fun v8 => ?_)
    refine Q_iaload (pc := 52) (DCa dc_Tide_hope_0 30 rfl) (fun v9 => ?_)
    refine V_iadd (pc := 53) (DCa dc_Tide_hope_0 31 rfl) ?_
    refine Q_lt (fun x10 => ?_)
    refine V_istore_n (ls' := [(0, 2, l0), (1, 0, l1), (2, 0, l2), (3, 0, x10), (4, 0, l4)]) (pc := 54) (DCa dc_Tide_hope_0 32 rfl) rfl (Nat.le_of_ble_eq_true rfl) rfl ?_
    refine V_iinc (ls' := [(0, 2, l0), (1, 0, l1), (2, 0, l2), (3, 0, x10), (4, 0, w32 (l4 + 1))]) (pc := 55) (DCa dc_Tide_hope_0 33 rfl) (Nat.le_of_ble_eq_true rfl) (by decide) 4 rfl rfl ?_
    refine V_goto (tgt := 31) (pc := 58) (DCa dc_Tide_hope_0 34 rfl) (by decide) ?_
    exact hR31 _ _ _ _ _ _
  · refine V_iload_n (pc := 61) (DCa dc_Tide_hope_0 35 rfl) rfl 3 rfl ?_
    refine V_aload_n (pc := 62) (DCa dc_Tide_hope_0 36 rfl) rfl 0 rfl ?_
    refine Q_getf (k := 4) (pc := 63) (DCa dc_Tide_hope_0 37 rfl) cls_11 (Nat.le_of_ble_eq_true rfl) fl_11_27 rfl rfl rfl (fun v11 => ?_)
    refine Q_getf (k := 2) (pc := 66) (DCa dc_Tide_hope_0 38 rfl) cls_7 (Nat.le_of_ble_eq_true rfl) fl_11_160 rfl rfl rfl (fun v12 => ?_)
    refine V_iload_n (pc := 69) (DCa dc_Tide_hope_0 39 rfl) rfl 1 rfl ?_
    refine Q_iaload (pc := 70) (DCa dc_Tide_hope_0 40 rfl) (fun v13 => ?_)
    refine V_imul (pc := 71) (DCa dc_Tide_hope_0 41 rfl) ?_
    exact V_ireturn (pc := 72) (DCa dc_Tide_hope_0 42 rfl) rfl
theorem v_Tide_hope_L31 (F : Nat)  (n : Nat) : ∀ (l0 l1 l2 l3 l4 : Int) (h : Hp), V X_Tide_hope 31 [(0, 2, l0), (1, 0, l1), (2, 0, l2), (3, 0, l3), (4, 0, l4)] [] h (Tide_hope_L31 F  n l0 l1 l2 l3 l4 h) := by
  induction n with
  | zero => intros; exact V_none
  | succ n ih => exact fun l0 l1 l2 l3 l4 h => v_Tide_hope_L31s F  _ ih l0 l1 l2 l3 l4 h
theorem v_Tide_hope (F : Nat) (l0 l1 l2 : Int) (h : Hp) : V X_Tide_hope 0 [(0, 2, l0), (1, 0, l1), (2, 0, l2)] [] h (Tide_hope F l0 l1 l2 h) := by
  unfold Tide_hope
  refine V_iload_n (pc := 0) (DCa dc_Tide_hope_0 0 rfl) rfl 1 rfl ?_
  refine Q_calls (st := []) (pc := 1) (DCa dc_Tide_hope_0 1 rfl) (sp_Tide_isMinute F _ _) ce_Tide_isMinute ml_11_154 rfl ⟨Nat.le_of_ble_eq_true rfl, Nat.le_of_ble_eq_true rfl⟩ rfl (Nat.le_of_ble_eq_true rfl) (fun r1 h2 => ?_)
  refine V_if_eq (tgt := 18) (pc := 4) (DCa dc_Tide_hope_0 2 rfl) (by decide) (fun _ => ?_) (fun _ => ?_)
  · refine V_iconst (pc := 18) (DCa dc_Tide_hope_0 9 rfl) (by decide) ?_
    exact V_ireturn (pc := 19) (DCa dc_Tide_hope_0 10 rfl) rfl
  · refine V_iload_n (pc := 7) (DCa dc_Tide_hope_0 3 rfl) rfl 2 rfl ?_
    refine V_iconst (pc := 8) (DCa dc_Tide_hope_0 4 rfl) (by decide) ?_
    refine V_icmp_lt (tgt := 18) (pc := 9) (DCa dc_Tide_hope_0 5 rfl) (by decide) (fun _ => ?_) (fun _ => ?_)
    · refine V_iconst (pc := 18) (DCa dc_Tide_hope_0 9 rfl) (by decide) ?_
      exact V_ireturn (pc := 19) (DCa dc_Tide_hope_0 10 rfl) rfl
    · refine V_iload_n (pc := 12) (DCa dc_Tide_hope_0 6 rfl) rfl 2 rfl ?_
      refine V_bipush (pc := 13) (DCa dc_Tide_hope_0 7 rfl) (by decide) ?_
      refine V_icmp_le (tgt := 20) (pc := 15) (DCa dc_Tide_hope_0 8 rfl) (by decide) (fun _ => ?_) (fun _ => ?_)
      · refine V_iconst (pc := 18) (DCa dc_Tide_hope_0 9 rfl) (by decide) ?_
        exact V_ireturn (pc := 19) (DCa dc_Tide_hope_0 10 rfl) rfl
      · refine V_aload_n (pc := 20) (DCa dc_Tide_hope_0 11 rfl) rfl 0 rfl ?_
        refine V_iload_n (pc := 21) (DCa dc_Tide_hope_0 12 rfl) rfl 1 rfl ?_
        refine V_iload_n (pc := 22) (DCa dc_Tide_hope_0 13 rfl) rfl 2 rfl ?_
        refine Q_callv (ci := 11) (st := []) (pc := 23) (DCa dc_Tide_hope_0 14 rfl) (sp_Tide_letDogsRun F _ _ _ _) ce_Tide_letDogsRun ml_11_257 rfl rfl ⟨Nat.le_of_ble_eq_true rfl, Nat.le_of_ble_eq_true rfl⟩ rfl (Nat.le_of_ble_eq_true rfl) (fun r3 h4 => ?_)
        refine V_iconst (pc := 26) (DCa dc_Tide_hope_0 15 rfl) (by decide) ?_
        refine V_istore_n (ls' := [(0, 2, l0), (1, 0, l1), (2, 0, l2), (3, 0, 0)]) (pc := 27) (DCa dc_Tide_hope_0 16 rfl) rfl (Nat.le_of_ble_eq_true rfl) rfl ?_
        refine V_iconst (pc := 28) (DCa dc_Tide_hope_0 17 rfl) (by decide) ?_
        refine V_istore (ls' := [(0, 2, l0), (1, 0, l1), (2, 0, l2), (3, 0, 0), (4, 0, 0)]) (pc := 29) (DCa dc_Tide_hope_0 18 rfl) (Nat.le_of_ble_eq_true rfl) rfl ?_
        exact v_Tide_hope_L31 F F _ _ _ _ _ _
theorem sp_Tide_hope (F : Nat) (l0 l1 l2 : Int) (h : Hp) : Sp yX11_hope cX11_hope 5 (some (.int)) 7 164 [(2, l0), (0, l1), (0, l2)] h (Tide_hope F l0 l1 l2 h) := Sp_of (by decide +kernel) rfl rfl (Nat.le_of_ble_eq_true rfl) (v_Tide_hope F l0 l1 l2 h)

-- TideRakes.dog
def Tide_dog (F : Nat) (l0 l1 l2 : Int) (h : Hp) : Option (Int × Hp) :=
  iv h l0 111 (Tide_isPart F l0 l1 h) fun r1 h2 =>
  if r1 = 0 then
    (some ((-1), h2))
  else
    (cl (Tide_isMinute F l2 h2) fun r3 h4 =>
    if r3 = 0 then
      (some ((-1), h4))
    else
      (gf h4 l0 111 4 fun v5 =>
      iv h4 v5 107 (Shor_dogTells F v5 l1 l2 h4) fun r6 h7 =>
      some (r6, h7)))

theorem dc_Tide_dog_0 : ∀ q ∈ ([(0, .aload_n 0, 1), (1, .iload_n 1, 1), (2, .invokevirtual 102, 3), (5, .ifCond .eq 22, 3), (8, .iload_n 2, 1), (9, .invokestatic 154, 3), (12, .ifCond .eq 15, 3), (15, .aload_n 0, 1), (16, .getfield 27, 3), (19, .iload_n 1, 1), (20, .iload_n 2, 1), (21, .invokevirtual 261, 3), (24, .goto 4, 3), (27, .iconst (-1), 1), (28, .ireturn, 1)] : List (Nat × Instr × Nat)), decode cX11_dog q.1 = .ok (q.2.1, q.2.2) := by decide +kernel
abbrev X_Tide_dog : MX := (cX11_dog, RX11, "dog", 3, (some (.int)), 5, 115)
theorem v_Tide_dog (F : Nat) (l0 l1 l2 : Int) (h : Hp) : V X_Tide_dog 0 [(0, 2, l0), (1, 0, l1), (2, 0, l2)] [] h (Tide_dog F l0 l1 l2 h) := by
  unfold Tide_dog
  refine V_aload_n (pc := 0) (DCa dc_Tide_dog_0 0 rfl) rfl 0 rfl ?_
  refine V_iload_n (pc := 1) (DCa dc_Tide_dog_0 1 rfl) rfl 1 rfl ?_
  refine Q_callv (ci := 11) (st := []) (pc := 2) (DCa dc_Tide_dog_0 2 rfl) (sp_Tide_isPart F _ _ _) ce_Tide_isPart ml_11_102 rfl rfl ⟨Nat.le_of_ble_eq_true rfl, Nat.le_of_ble_eq_true rfl⟩ rfl (Nat.le_of_ble_eq_true rfl) (fun r1 h2 => ?_)
  refine V_if_eq (tgt := 27) (pc := 5) (DCa dc_Tide_dog_0 3 rfl) (by decide) (fun _ => ?_) (fun _ => ?_)
  · refine V_iconst (pc := 27) (DCa dc_Tide_dog_0 13 rfl) (by decide) ?_
    exact V_ireturn (pc := 28) (DCa dc_Tide_dog_0 14 rfl) rfl
  · refine V_iload_n (pc := 8) (DCa dc_Tide_dog_0 4 rfl) rfl 2 rfl ?_
    refine Q_calls (st := []) (pc := 9) (DCa dc_Tide_dog_0 5 rfl) (sp_Tide_isMinute F _ _) ce_Tide_isMinute ml_11_154 rfl ⟨Nat.le_of_ble_eq_true rfl, Nat.le_of_ble_eq_true rfl⟩ rfl (Nat.le_of_ble_eq_true rfl) (fun r3 h4 => ?_)
    refine V_if_eq (tgt := 27) (pc := 12) (DCa dc_Tide_dog_0 6 rfl) (by decide) (fun _ => ?_) (fun _ => ?_)
    · refine V_iconst (pc := 27) (DCa dc_Tide_dog_0 13 rfl) (by decide) ?_
      exact V_ireturn (pc := 28) (DCa dc_Tide_dog_0 14 rfl) rfl
    · refine V_aload_n (pc := 15) (DCa dc_Tide_dog_0 7 rfl) rfl 0 rfl ?_
      refine Q_getf (k := 4) (pc := 16) (DCa dc_Tide_dog_0 8 rfl) cls_11 (Nat.le_of_ble_eq_true rfl) fl_11_27 rfl rfl rfl (fun v5 => ?_)
      refine V_iload_n (pc := 19) (DCa dc_Tide_dog_0 9 rfl) rfl 1 rfl ?_
      refine V_iload_n (pc := 20) (DCa dc_Tide_dog_0 10 rfl) rfl 2 rfl ?_
      refine Q_callv (ci := 7) (st := []) (pc := 21) (DCa dc_Tide_dog_0 11 rfl) (sp_Shor_dogTells F _ _ _ _) ce_Shor_dogTells ml_11_261 rfl rfl ⟨Nat.le_of_ble_eq_true rfl, Nat.le_of_ble_eq_true rfl⟩ rfl (Nat.le_of_ble_eq_true rfl) (fun r6 h7 => ?_)
      refine V_goto (tgt := 28) (pc := 24) (DCa dc_Tide_dog_0 12 rfl) (by decide) ?_
      exact V_ireturn (pc := 28) (DCa dc_Tide_dog_0 14 rfl) rfl
theorem sp_Tide_dog (F : Nat) (l0 l1 l2 : Int) (h : Hp) : Sp yX11_dog cX11_dog 3 (some (.int)) 5 115 [(2, l0), (0, l1), (0, l2)] h (Tide_dog F l0 l1 l2 h) := Sp_of (by decide +kernel) rfl rfl (Nat.le_of_ble_eq_true rfl) (v_Tide_dog F l0 l1 l2 h)

-- TideRakes.error
def Tide_error (F : Nat) (l0 l1 l2 : Int) (h : Hp) : Option (Int × Hp) :=
  iv h l0 111 (Tide_isPart F l0 l1 h) fun r1 h2 =>
  if r1 = 0 then
    (some ((-1), h2))
  else
    (if l2 = 0 then
      (gf h2 l0 111 4 fun v3 =>
      gf h2 v3 107 5 fun v4 =>
      al h2 v4 0 l1 fun v5 =>
      some (v5, h2))
    else
      (gf h2 l0 111 4 fun v6 =>
      gf h2 v6 107 6 fun v7 =>
      al h2 v7 0 l1 fun v8 =>
      some (v8, h2)))

theorem dc_Tide_error_0 : ∀ q ∈ ([(0, .aload_n 0, 1), (1, .iload_n 1, 1), (2, .invokevirtual 102, 3), (5, .ifCond .ne 5, 3), (8, .iconst (-1), 1), (9, .ireturn, 1), (10, .iload_n 2, 1), (11, .ifCond .eq 15, 3), (14, .aload_n 0, 1), (15, .getfield 27, 3), (18, .getfield 265, 3), (21, .iload_n 1, 1), (22, .iaload, 1), (23, .goto 12, 3), (26, .aload_n 0, 1), (27, .getfield 27, 3), (30, .getfield 268, 3), (33, .iload_n 1, 1), (34, .iaload, 1), (35, .ireturn, 1)] : List (Nat × Instr × Nat)), decode cX11_error q.1 = .ok (q.2.1, q.2.2) := by decide +kernel
abbrev X_Tide_error : MX := (cX11_error, RX11, "error", 3, (some (.int)), 2, 41)
theorem v_Tide_error (F : Nat) (l0 l1 l2 : Int) (h : Hp) : V X_Tide_error 0 [(0, 2, l0), (1, 0, l1), (2, 0, l2)] [] h (Tide_error F l0 l1 l2 h) := by
  unfold Tide_error
  refine V_aload_n (pc := 0) (DCa dc_Tide_error_0 0 rfl) rfl 0 rfl ?_
  refine V_iload_n (pc := 1) (DCa dc_Tide_error_0 1 rfl) rfl 1 rfl ?_
  refine Q_callv (ci := 11) (st := []) (pc := 2) (DCa dc_Tide_error_0 2 rfl) (sp_Tide_isPart F _ _ _) ce_Tide_isPart ml_11_102 rfl rfl ⟨Nat.le_of_ble_eq_true rfl, Nat.le_of_ble_eq_true rfl⟩ rfl (Nat.le_of_ble_eq_true rfl) (fun r1 h2 => ?_)
  refine V_if_ne (tgt := 10) (pc := 5) (DCa dc_Tide_error_0 3 rfl) (by decide) (fun _ => ?_) (fun _ => ?_)
  · refine V_iconst (pc := 8) (DCa dc_Tide_error_0 4 rfl) (by decide) ?_
    exact V_ireturn (pc := 9) (DCa dc_Tide_error_0 5 rfl) rfl
  · refine V_iload_n (pc := 10) (DCa dc_Tide_error_0 6 rfl) rfl 2 rfl ?_
    refine V_if_eq (tgt := 26) (pc := 11) (DCa dc_Tide_error_0 7 rfl) (by decide) (fun _ => ?_) (fun _ => ?_)
    · refine V_aload_n (pc := 26) (DCa dc_Tide_error_0 14 rfl) rfl 0 rfl ?_
      refine Q_getf (k := 4) (pc := 27) (DCa dc_Tide_error_0 15 rfl) cls_11 (Nat.le_of_ble_eq_true rfl) fl_11_27 rfl rfl rfl (fun v3 => ?_)
      refine Q_getf (k := 5) (pc := 30) (DCa dc_Tide_error_0 16 rfl) cls_7 (Nat.le_of_ble_eq_true rfl) fl_11_268 rfl rfl rfl (fun v4 => ?_)
      refine V_iload_n (pc := 33) (DCa dc_Tide_error_0 17 rfl) rfl 1 rfl ?_
      refine Q_iaload (pc := 34) (DCa dc_Tide_error_0 18 rfl) (fun v5 => ?_)
      exact V_ireturn (pc := 35) (DCa dc_Tide_error_0 19 rfl) rfl
    · refine V_aload_n (pc := 14) (DCa dc_Tide_error_0 8 rfl) rfl 0 rfl ?_
      refine Q_getf (k := 4) (pc := 15) (DCa dc_Tide_error_0 9 rfl) cls_11 (Nat.le_of_ble_eq_true rfl) fl_11_27 rfl rfl rfl (fun v6 => ?_)
      refine Q_getf (k := 6) (pc := 18) (DCa dc_Tide_error_0 10 rfl) cls_7 (Nat.le_of_ble_eq_true rfl) fl_11_265 rfl rfl rfl (fun v7 => ?_)
      refine V_iload_n (pc := 21) (DCa dc_Tide_error_0 11 rfl) rfl 1 rfl ?_
      refine Q_iaload (pc := 22) (DCa dc_Tide_error_0 12 rfl) (fun v8 => ?_)
      refine V_goto (tgt := 35) (pc := 23) (DCa dc_Tide_error_0 13 rfl) (by decide) ?_
      exact V_ireturn (pc := 35) (DCa dc_Tide_error_0 19 rfl) rfl
theorem sp_Tide_error (F : Nat) (l0 l1 l2 : Int) (h : Hp) : Sp yX11_error cX11_error 3 (some (.int)) 2 41 [(2, l0), (0, l1), (0, l2)] h (Tide_error F l0 l1 l2 h) := Sp_of (by decide +kernel) rfl rfl (Nat.le_of_ble_eq_true rfl) (v_Tide_error F l0 l1 l2 h)

-- TideRakes.fails
def Tide_fails_L10s (F : Nat)  (R10 : Int → Int → Int → Int → Hp → Option (Int × Hp)) (l0 l1 l2 l3 : Int) (h : Hp) : Option (Int × Hp) :=
  gf h l0 111 4 fun v1 =>
  gf h v1 107 0 fun v2 =>
  gf h v2 106 4 fun v3 =>
  if l3 < v3 then
    (gf h l0 111 4 fun v4 =>
    gf h v4 107 5 fun v5 =>
    al h v5 0 l3 fun v6 =>
    if l1 < v6 then
      (lt (ior l2 (ishl 1 l3)) fun x7 =>
      R10 l0 l1 x7 (w32 (l3 + 1)) h)
    else
      (R10 l0 l1 l2 (w32 (l3 + 1)) h))
  else
    (some (l2, h))
def Tide_fails_L10 (F : Nat)  : Nat → Int → Int → Int → Int → Hp → Option (Int × Hp)
  | 0 => fun _ _ _ _ _ => none
  | n + 1 => Tide_fails_L10s F  (Tide_fails_L10 F  n)
def Tide_fails (F : Nat) (l0 l1 : Int) (h : Hp) : Option (Int × Hp) :=
  if l1 < 0 then
    (some ((-1), h))
  else
    (Tide_fails_L10 F F l0 l1 0 0 h)

theorem dc_Tide_fails_0 : ∀ q ∈ ([(0, .iload_n 1, 1), (1, .ifCond .ge 5, 3), (4, .iconst (-1), 1), (5, .ireturn, 1), (6, .iconst 0, 1), (7, .istore_n 2, 1), (8, .iconst 0, 1), (9, .istore_n 3, 1), (10, .iload_n 3, 1), (11, .aload_n 0, 1), (12, .getfield 27, 3), (15, .getfield 77, 3), (18, .getfield 233, 3), (21, .if_icmp .ge 28, 3), (24, .aload_n 0, 1), (25, .getfield 27, 3), (28, .getfield 268, 3), (31, .iload_n 3, 1), (32, .iaload, 1), (33, .iload_n 1, 1), (34, .if_icmp .le 9, 3), (37, .iload_n 2, 1), (38, .iconst 1, 1), (39, .iload_n 3, 1), (40, .ishl, 1), (41, .ior, 1), (42, .istore_n 2, 1), (43, .iinc 3 1, 3), (46, .goto (-36), 3), (49, .iload_n 2, 1), (50, .ireturn, 1)] : List (Nat × Instr × Nat)), decode cX11_fails q.1 = .ok (q.2.1, q.2.2) := by decide +kernel
abbrev X_Tide_fails : MX := (cX11_fails, RX11, "fails", 4, (some (.int)), 1, 20)
theorem v_Tide_fails_L10s (F : Nat)  (R10 : Int → Int → Int → Int → Hp → Option (Int × Hp)) (hR10 : ∀ (l0 l1 l2 l3 : Int) (h : Hp), V X_Tide_fails 10 [(0, 2, l0), (1, 0, l1), (2, 0, l2), (3, 0, l3)] [] h (R10 l0 l1 l2 l3 h)) (l0 l1 l2 l3 : Int) (h : Hp) : V X_Tide_fails 10 [(0, 2, l0), (1, 0, l1), (2, 0, l2), (3, 0, l3)] [] h (Tide_fails_L10s F  R10 l0 l1 l2 l3 h) := by
  unfold Tide_fails_L10s
  refine V_iload_n (pc := 10) (DCa dc_Tide_fails_0 8 rfl) rfl 3 rfl ?_
  refine V_aload_n (pc := 11) (DCa dc_Tide_fails_0 9 rfl) rfl 0 rfl ?_
  refine Q_getf (k := 4) (pc := 12) (DCa dc_Tide_fails_0 10 rfl) cls_11 (Nat.le_of_ble_eq_true rfl) fl_11_27 rfl rfl rfl (fun v1 => ?_)
  refine Q_getf (k := 0) (pc := 15) (DCa dc_Tide_fails_0 11 rfl) cls_7 (Nat.le_of_ble_eq_true rfl) fl_11_77 rfl rfl rfl (fun v2 => ?_)
  refine Q_getf (k := 4) (pc := 18) (DCa dc_Tide_fails_0 12 rfl) cls_6 (Nat.le_of_ble_eq_true rfl) fl_11_233 rfl rfl rfl (fun v3 => ?_)
  refine V_icmp_ge (tgt := 49) (pc := 21) (DCa dc_Tide_fails_0 13 rfl) (by decide) (fun _ => ?_) (fun _ => ?_)
  · refine V_aload_n (pc := 24) (DCa dc_Tide_fails_0 14 rfl) rfl 0 rfl ?_
    refine Q_getf (k := 4) (pc := 25) (DCa dc_Tide_fails_0 15 rfl) cls_11 (Nat.le_of_ble_eq_true rfl) fl_11_27 rfl rfl rfl (fun v4 => ?_)
    refine Q_getf (k := 5) (pc := 28) (DCa dc_Tide_fails_0 16 rfl) cls_7 (Nat.le_of_ble_eq_true rfl) fl_11_268 rfl rfl rfl (fun v5 => ?_)
    refine V_iload_n (pc := 31) (DCa dc_Tide_fails_0 17 rfl) rfl 3 rfl ?_
    refine Q_iaload (pc := 32) (DCa dc_Tide_fails_0 18 rfl) (fun v6 => ?_)
    refine V_iload_n (pc := 33) (DCa dc_Tide_fails_0 19 rfl) rfl 1 rfl ?_
    refine V_icmp_le (tgt := 43) (pc := 34) (DCa dc_Tide_fails_0 20 rfl) (by decide) (fun _ => ?_) (fun _ => ?_)
    · refine V_iload_n (pc := 37) (DCa dc_Tide_fails_0 21 rfl) rfl 2 rfl ?_
      refine V_iconst (pc := 38) (DCa dc_Tide_fails_0 22 rfl) (by decide) ?_
      refine V_iload_n (pc := 39) (DCa dc_Tide_fails_0 23 rfl) rfl 3 rfl ?_
      refine V_ishl (pc := 40) (DCa dc_Tide_fails_0 24 rfl) ?_
      refine V_ior (pc := 41) (DCa dc_Tide_fails_0 25 rfl) ?_
      refine Q_lt (fun x7 => ?_)
      refine V_istore_n (ls' := [(0, 2, l0), (1, 0, l1), (2, 0, x7), (3, 0, l3)]) (pc := 42) (DCa dc_Tide_fails_0 26 rfl) rfl (Nat.le_of_ble_eq_true rfl) rfl ?_
      refine V_iinc (ls' := [(0, 2, l0), (1, 0, l1), (2, 0, x7), (3, 0, w32 (l3 + 1))]) (pc := 43) (DCa dc_Tide_fails_0 27 rfl) (Nat.le_of_ble_eq_true rfl) (by decide) 3 rfl rfl ?_
      refine V_goto (tgt := 10) (pc := 46) (DCa dc_Tide_fails_0 28 rfl) (by decide) ?_
      exact hR10 _ _ _ _ _
    · refine V_iinc (ls' := [(0, 2, l0), (1, 0, l1), (2, 0, l2), (3, 0, w32 (l3 + 1))]) (pc := 43) (DCa dc_Tide_fails_0 27 rfl) (Nat.le_of_ble_eq_true rfl) (by decide) 3 rfl rfl ?_
      refine V_goto (tgt := 10) (pc := 46) (DCa dc_Tide_fails_0 28 rfl) (by decide) ?_
      exact hR10 _ _ _ _ _
  · refine V_iload_n (pc := 49) (DCa dc_Tide_fails_0 29 rfl) rfl 2 rfl ?_
    exact V_ireturn (pc := 50) (DCa dc_Tide_fails_0 30 rfl) rfl
theorem v_Tide_fails_L10 (F : Nat)  (n : Nat) : ∀ (l0 l1 l2 l3 : Int) (h : Hp), V X_Tide_fails 10 [(0, 2, l0), (1, 0, l1), (2, 0, l2), (3, 0, l3)] [] h (Tide_fails_L10 F  n l0 l1 l2 l3 h) := by
  induction n with
  | zero => intros; exact V_none
  | succ n ih => exact fun l0 l1 l2 l3 h => v_Tide_fails_L10s F  _ ih l0 l1 l2 l3 h
theorem v_Tide_fails (F : Nat) (l0 l1 : Int) (h : Hp) : V X_Tide_fails 0 [(0, 2, l0), (1, 0, l1)] [] h (Tide_fails F l0 l1 h) := by
  unfold Tide_fails
  refine V_iload_n (pc := 0) (DCa dc_Tide_fails_0 0 rfl) rfl 1 rfl ?_
  refine V_if_ge (tgt := 6) (pc := 1) (DCa dc_Tide_fails_0 1 rfl) (by decide) (fun _ => ?_) (fun _ => ?_)
  · refine V_iconst (pc := 4) (DCa dc_Tide_fails_0 2 rfl) (by decide) ?_
    exact V_ireturn (pc := 5) (DCa dc_Tide_fails_0 3 rfl) rfl
  · refine V_iconst (pc := 6) (DCa dc_Tide_fails_0 4 rfl) (by decide) ?_
    refine V_istore_n (ls' := [(0, 2, l0), (1, 0, l1), (2, 0, 0)]) (pc := 7) (DCa dc_Tide_fails_0 5 rfl) rfl (Nat.le_of_ble_eq_true rfl) rfl ?_
    refine V_iconst (pc := 8) (DCa dc_Tide_fails_0 6 rfl) (by decide) ?_
    refine V_istore_n (ls' := [(0, 2, l0), (1, 0, l1), (2, 0, 0), (3, 0, 0)]) (pc := 9) (DCa dc_Tide_fails_0 7 rfl) rfl (Nat.le_of_ble_eq_true rfl) rfl ?_
    exact v_Tide_fails_L10 F F _ _ _ _ _
theorem sp_Tide_fails (F : Nat) (l0 l1 : Int) (h : Hp) : Sp yX11_fails cX11_fails 4 (some (.int)) 1 20 [(2, l0), (0, l1)] h (Tide_fails F l0 l1 h) := Sp_of (by decide +kernel) rfl rfl (Nat.le_of_ble_eq_true rfl) (v_Tide_fails F l0 l1 h)

-- TideRakes.tell
def Tide_tell (F : Nat) (l0 l1 l2 l3 : Int) (h : Hp) : Option (Int × Hp) :=
  iv h l0 111 (Tide_isPart F l0 l1 h) fun r1 h2 =>
  if r1 = 0 then
    (some ((-1), h2))
  else
    (cl (Tide_isMinute F l2 h2) fun r3 h4 =>
    if r3 = 0 then
      (some ((-1), h4))
    else
      (gf h4 l0 111 10 fun v5 =>
      iv h4 v5 109 (Told_add F v5 l1 l2 l3 h4) fun r6 h7 =>
      some (r6, h7)))

theorem dc_Tide_tell_0 : ∀ q ∈ ([(0, .aload_n 0, 1), (1, .iload_n 1, 1), (2, .invokevirtual 102, 3), (5, .ifCond .eq 23, 3), (8, .iload_n 2, 1), (9, .invokestatic 154, 3), (12, .ifCond .eq 16, 3), (15, .aload_n 0, 1), (16, .getfield 63, 3), (19, .iload_n 1, 1), (20, .iload_n 2, 1), (21, .iload_n 3, 1), (22, .invokevirtual 271, 3), (25, .goto 4, 3), (28, .iconst (-1), 1), (29, .ireturn, 1)] : List (Nat × Instr × Nat)), decode cX11_tell q.1 = .ok (q.2.1, q.2.2) := by decide +kernel
abbrev X_Tide_tell : MX := (cX11_tell, RX11, "tell", 4, (some (.int)), 2, 43)
theorem v_Tide_tell (F : Nat) (l0 l1 l2 l3 : Int) (h : Hp) : V X_Tide_tell 0 [(0, 2, l0), (1, 0, l1), (2, 0, l2), (3, 0, l3)] [] h (Tide_tell F l0 l1 l2 l3 h) := by
  unfold Tide_tell
  refine V_aload_n (pc := 0) (DCa dc_Tide_tell_0 0 rfl) rfl 0 rfl ?_
  refine V_iload_n (pc := 1) (DCa dc_Tide_tell_0 1 rfl) rfl 1 rfl ?_
  refine Q_callv (ci := 11) (st := []) (pc := 2) (DCa dc_Tide_tell_0 2 rfl) (sp_Tide_isPart F _ _ _) ce_Tide_isPart ml_11_102 rfl rfl ⟨Nat.le_of_ble_eq_true rfl, Nat.le_of_ble_eq_true rfl⟩ rfl (Nat.le_of_ble_eq_true rfl) (fun r1 h2 => ?_)
  refine V_if_eq (tgt := 28) (pc := 5) (DCa dc_Tide_tell_0 3 rfl) (by decide) (fun _ => ?_) (fun _ => ?_)
  · refine V_iconst (pc := 28) (DCa dc_Tide_tell_0 14 rfl) (by decide) ?_
    exact V_ireturn (pc := 29) (DCa dc_Tide_tell_0 15 rfl) rfl
  · refine V_iload_n (pc := 8) (DCa dc_Tide_tell_0 4 rfl) rfl 2 rfl ?_
    refine Q_calls (st := []) (pc := 9) (DCa dc_Tide_tell_0 5 rfl) (sp_Tide_isMinute F _ _) ce_Tide_isMinute ml_11_154 rfl ⟨Nat.le_of_ble_eq_true rfl, Nat.le_of_ble_eq_true rfl⟩ rfl (Nat.le_of_ble_eq_true rfl) (fun r3 h4 => ?_)
    refine V_if_eq (tgt := 28) (pc := 12) (DCa dc_Tide_tell_0 6 rfl) (by decide) (fun _ => ?_) (fun _ => ?_)
    · refine V_iconst (pc := 28) (DCa dc_Tide_tell_0 14 rfl) (by decide) ?_
      exact V_ireturn (pc := 29) (DCa dc_Tide_tell_0 15 rfl) rfl
    · refine V_aload_n (pc := 15) (DCa dc_Tide_tell_0 7 rfl) rfl 0 rfl ?_
      refine Q_getf (k := 10) (pc := 16) (DCa dc_Tide_tell_0 8 rfl) cls_11 (Nat.le_of_ble_eq_true rfl) fl_11_63 rfl rfl rfl (fun v5 => ?_)
      refine V_iload_n (pc := 19) (DCa dc_Tide_tell_0 9 rfl) rfl 1 rfl ?_
      refine V_iload_n (pc := 20) (DCa dc_Tide_tell_0 10 rfl) rfl 2 rfl ?_
      refine V_iload_n (pc := 21) (DCa dc_Tide_tell_0 11 rfl) rfl 3 rfl ?_
      refine Q_callv (ci := 9) (st := []) (pc := 22) (DCa dc_Tide_tell_0 12 rfl) (sp_Told_add F _ _ _ _ _) ce_Told_add ml_11_271 rfl rfl ⟨Nat.le_of_ble_eq_true rfl, Nat.le_of_ble_eq_true rfl⟩ rfl (Nat.le_of_ble_eq_true rfl) (fun r6 h7 => ?_)
      refine V_goto (tgt := 29) (pc := 25) (DCa dc_Tide_tell_0 13 rfl) (by decide) ?_
      exact V_ireturn (pc := 29) (DCa dc_Tide_tell_0 15 rfl) rfl
theorem sp_Tide_tell (F : Nat) (l0 l1 l2 l3 : Int) (h : Hp) : Sp yX11_tell cX11_tell 4 (some (.int)) 2 43 [(2, l0), (0, l1), (0, l2), (0, l3)] h (Tide_tell F l0 l1 l2 l3 h) := Sp_of (by decide +kernel) rfl rfl (Nat.le_of_ble_eq_true rfl) (v_Tide_tell F l0 l1 l2 l3 h)

-- TideRakes.forget
def Tide_forget (F : Nat) (l0 : Int) (h : Hp) : Option (Int × Hp) :=
  gf h l0 111 10 fun v1 =>
  gf h v1 109 4 fun v2 =>
  gf h l0 111 10 fun v3 =>
  pf h v3 109 4 0 fun h4 =>
  some (v2, h4)

theorem dc_Tide_forget_0 : ∀ q ∈ ([(0, .aload_n 0, 1), (1, .getfield 63, 3), (4, .getfield 275, 3), (7, .istore_n 1, 1), (8, .aload_n 0, 1), (9, .getfield 63, 3), (12, .iconst 0, 1), (13, .putfield 275, 3), (16, .iload_n 1, 1), (17, .ireturn, 1)] : List (Nat × Instr × Nat)), decode cX11_forget q.1 = .ok (q.2.1, q.2.2) := by decide +kernel
abbrev X_Tide_forget : MX := (cX11_forget, RX11, "forget", 2, (some (.int)), 1, 20)
theorem v_Tide_forget (F : Nat) (l0 : Int) (h : Hp) : V X_Tide_forget 0 [(0, 2, l0)] [] h (Tide_forget F l0 h) := by
  unfold Tide_forget
  refine V_aload_n (pc := 0) (DCa dc_Tide_forget_0 0 rfl) rfl 0 rfl ?_
  refine Q_getf (k := 10) (pc := 1) (DCa dc_Tide_forget_0 1 rfl) cls_11 (Nat.le_of_ble_eq_true rfl) fl_11_63 rfl rfl rfl (fun v1 => ?_)
  refine Q_getf (k := 4) (pc := 4) (DCa dc_Tide_forget_0 2 rfl) cls_9 (Nat.le_of_ble_eq_true rfl) fl_11_275 rfl rfl rfl (fun v2 => ?_)
  refine V_istore_n (ls' := [(0, 2, l0), (1, 0, v2)]) (pc := 7) (DCa dc_Tide_forget_0 3 rfl) rfl (Nat.le_of_ble_eq_true rfl) rfl ?_
  refine V_aload_n (pc := 8) (DCa dc_Tide_forget_0 4 rfl) rfl 0 rfl ?_
  refine Q_getf (k := 10) (pc := 9) (DCa dc_Tide_forget_0 5 rfl) cls_11 (Nat.le_of_ble_eq_true rfl) fl_11_63 rfl rfl rfl (fun v3 => ?_)
  refine V_iconst (pc := 12) (DCa dc_Tide_forget_0 6 rfl) (by decide) ?_
  refine Q_putf (k := 4) (pc := 13) (DCa dc_Tide_forget_0 7 rfl) cls_9 (Nat.le_of_ble_eq_true rfl) fl_11_275 rfl rfl rfl (Or.inl rfl) (Or.inl ⟨rfl, rfl⟩) (fun h4 => ?_)
  refine V_iload_n (pc := 16) (DCa dc_Tide_forget_0 8 rfl) rfl 1 rfl ?_
  exact V_ireturn (pc := 17) (DCa dc_Tide_forget_0 9 rfl) rfl
theorem sp_Tide_forget (F : Nat) (l0 : Int) (h : Hp) : Sp yX11_forget cX11_forget 2 (some (.int)) 1 20 [(2, l0)] h (Tide_forget F l0 h) := Sp_of (by decide +kernel) rfl rfl (Nat.le_of_ble_eq_true rfl) (v_Tide_forget F l0 h)

-- TideRakes.late
def Tide_late (F : Nat) (l0 l1 l2 : Int) (h : Hp) : Option (Int × Hp) :=
  if l1 < 0 then
    (some ((-1), h))
  else
    (gf h l0 111 10 fun v1 =>
    gf h v1 109 4 fun v2 =>
    if v2 < l1 then
      (some ((-1), h))
    else
      (if l2 < (-1) then
        (some ((-1), h))
      else
        (gf h l0 111 5 fun v3 =>
        gf h v3 108 8 fun v4 =>
        if 30 < v4 then
          (some ((-2), h))
        else
          (gf h l0 111 10 fun v5 =>
          gf h l0 111 4 fun v6 =>
          gf h l0 111 5 fun v7 =>
          iv h v5 109 (Told_way F v5 v6 v7 l1 l2 h) fun r8 h9 =>
          some (r8, h9)))))

theorem dc_Tide_late_0 : ∀ q ∈ ([(0, .iload_n 1, 1), (1, .ifCond .lt 19, 3), (4, .iload_n 1, 1), (5, .aload_n 0, 1), (6, .getfield 63, 3), (9, .getfield 275, 3), (12, .if_icmp .gt 8, 3), (15, .iload_n 2, 1), (16, .iconst (-1), 1), (17, .if_icmp .ge 5, 3), (20, .iconst (-1), 1), (21, .ireturn, 1), (22, .aload_n 0, 1), (23, .getfield 34, 3), (26, .getfield 278, 3), (29, .bipush 30, 2), (31, .if_icmp .le 8, 3), (34, .bipush (-2), 2), (36, .goto 20, 3), (39, .aload_n 0, 1), (40, .getfield 63, 3), (43, .aload_n 0, 1), (44, .getfield 27, 3), (47, .aload_n 0, 1), (48, .getfield 34, 3), (51, .iload_n 1, 1), (52, .iload_n 2, 1), (53, .invokevirtual 281, 3), (56, .ireturn, 1)] : List (Nat × Instr × Nat)), decode cX11_late q.1 = .ok (q.2.1, q.2.2) := by decide +kernel
abbrev X_Tide_late : MX := (cX11_late, RX11, "late", 3, (some (.int)), 7, 169)
theorem v_Tide_late (F : Nat) (l0 l1 l2 : Int) (h : Hp) : V X_Tide_late 0 [(0, 2, l0), (1, 0, l1), (2, 0, l2)] [] h (Tide_late F l0 l1 l2 h) := by
  unfold Tide_late
  refine V_iload_n (pc := 0) (DCa dc_Tide_late_0 0 rfl) rfl 1 rfl ?_
  refine V_if_lt (tgt := 20) (pc := 1) (DCa dc_Tide_late_0 1 rfl) (by decide) (fun _ => ?_) (fun _ => ?_)
  · refine V_iconst (pc := 20) (DCa dc_Tide_late_0 10 rfl) (by decide) ?_
    exact V_ireturn (pc := 21) (DCa dc_Tide_late_0 11 rfl) rfl
  · refine V_iload_n (pc := 4) (DCa dc_Tide_late_0 2 rfl) rfl 1 rfl ?_
    refine V_aload_n (pc := 5) (DCa dc_Tide_late_0 3 rfl) rfl 0 rfl ?_
    refine Q_getf (k := 10) (pc := 6) (DCa dc_Tide_late_0 4 rfl) cls_11 (Nat.le_of_ble_eq_true rfl) fl_11_63 rfl rfl rfl (fun v1 => ?_)
    refine Q_getf (k := 4) (pc := 9) (DCa dc_Tide_late_0 5 rfl) cls_9 (Nat.le_of_ble_eq_true rfl) fl_11_275 rfl rfl rfl (fun v2 => ?_)
    refine V_icmp_gt (tgt := 20) (pc := 12) (DCa dc_Tide_late_0 6 rfl) (by decide) (fun _ => ?_) (fun _ => ?_)
    · refine V_iconst (pc := 20) (DCa dc_Tide_late_0 10 rfl) (by decide) ?_
      exact V_ireturn (pc := 21) (DCa dc_Tide_late_0 11 rfl) rfl
    · refine V_iload_n (pc := 15) (DCa dc_Tide_late_0 7 rfl) rfl 2 rfl ?_
      refine V_iconst (pc := 16) (DCa dc_Tide_late_0 8 rfl) (by decide) ?_
      refine V_icmp_ge (tgt := 22) (pc := 17) (DCa dc_Tide_late_0 9 rfl) (by decide) (fun _ => ?_) (fun _ => ?_)
      · refine V_iconst (pc := 20) (DCa dc_Tide_late_0 10 rfl) (by decide) ?_
        exact V_ireturn (pc := 21) (DCa dc_Tide_late_0 11 rfl) rfl
      · refine V_aload_n (pc := 22) (DCa dc_Tide_late_0 12 rfl) rfl 0 rfl ?_
        refine Q_getf (k := 5) (pc := 23) (DCa dc_Tide_late_0 13 rfl) cls_11 (Nat.le_of_ble_eq_true rfl) fl_11_34 rfl rfl rfl (fun v3 => ?_)
        refine Q_getf (k := 8) (pc := 26) (DCa dc_Tide_late_0 14 rfl) cls_8 (Nat.le_of_ble_eq_true rfl) fl_11_278 rfl rfl rfl (fun v4 => ?_)
        refine V_bipush (pc := 29) (DCa dc_Tide_late_0 15 rfl) (by decide) ?_
        refine V_icmp_le (tgt := 39) (pc := 31) (DCa dc_Tide_late_0 16 rfl) (by decide) (fun _ => ?_) (fun _ => ?_)
        · refine V_bipush (pc := 34) (DCa dc_Tide_late_0 17 rfl) (by decide) ?_
          refine V_goto (tgt := 56) (pc := 36) (DCa dc_Tide_late_0 18 rfl) (by decide) ?_
          exact V_ireturn (pc := 56) (DCa dc_Tide_late_0 28 rfl) rfl
        · refine V_aload_n (pc := 39) (DCa dc_Tide_late_0 19 rfl) rfl 0 rfl ?_
          refine Q_getf (k := 10) (pc := 40) (DCa dc_Tide_late_0 20 rfl) cls_11 (Nat.le_of_ble_eq_true rfl) fl_11_63 rfl rfl rfl (fun v5 => ?_)
          refine V_aload_n (pc := 43) (DCa dc_Tide_late_0 21 rfl) rfl 0 rfl ?_
          refine Q_getf (k := 4) (pc := 44) (DCa dc_Tide_late_0 22 rfl) cls_11 (Nat.le_of_ble_eq_true rfl) fl_11_27 rfl rfl rfl (fun v6 => ?_)
          refine V_aload_n (pc := 47) (DCa dc_Tide_late_0 23 rfl) rfl 0 rfl ?_
          refine Q_getf (k := 5) (pc := 48) (DCa dc_Tide_late_0 24 rfl) cls_11 (Nat.le_of_ble_eq_true rfl) fl_11_34 rfl rfl rfl (fun v7 => ?_)
          refine V_iload_n (pc := 51) (DCa dc_Tide_late_0 25 rfl) rfl 1 rfl ?_
          refine V_iload_n (pc := 52) (DCa dc_Tide_late_0 26 rfl) rfl 2 rfl ?_
          refine Q_callv (ci := 9) (st := []) (pc := 53) (DCa dc_Tide_late_0 27 rfl) (sp_Told_way F _ _ _ _ _ _) ce_Told_way ml_11_281 rfl rfl ⟨Nat.le_of_ble_eq_true rfl, Nat.le_of_ble_eq_true rfl⟩ rfl (Nat.le_of_ble_eq_true rfl) (fun r8 h9 => ?_)
          exact V_ireturn (pc := 56) (DCa dc_Tide_late_0 28 rfl) rfl
theorem sp_Tide_late (F : Nat) (l0 l1 l2 : Int) (h : Hp) : Sp yX11_late cX11_late 3 (some (.int)) 7 169 [(2, l0), (0, l1), (0, l2)] h (Tide_late F l0 l1 l2 h) := Sp_of (by decide +kernel) rfl rfl (Nat.le_of_ble_eq_true rfl) (v_Tide_late F l0 l1 l2 h)

-- TideRakes.heldSlots
def Tide_heldSlots_L4s (F : Nat)  (R4 : Int → Int → Int → Hp → Option (Int × Hp)) (l0 l1 l2 : Int) (h : Hp) : Option (Int × Hp) :=
  if l2 < 3 then
    (gf h l0 111 8 fun v1 =>
    al h v1 2 l2 fun v2 =>
    if v2 = 0 then
      (R4 l0 l1 (w32 (l2 + 1)) h)
    else
      (R4 l0 (w32 (l1 + 1)) (w32 (l2 + 1)) h))
  else
    (some (l1, h))
def Tide_heldSlots_L4 (F : Nat)  : Nat → Int → Int → Int → Hp → Option (Int × Hp)
  | 0 => fun _ _ _ _ => none
  | n + 1 => Tide_heldSlots_L4s F  (Tide_heldSlots_L4 F  n)
def Tide_heldSlots (F : Nat) (l0 : Int) (h : Hp) : Option (Int × Hp) :=
  Tide_heldSlots_L4 F F l0 0 0 h

theorem dc_Tide_heldSlots_0 : ∀ q ∈ ([(0, .iconst 0, 1), (1, .istore_n 1, 1), (2, .iconst 0, 1), (3, .istore_n 2, 1), (4, .iload_n 2, 1), (5, .iconst 3, 1), (6, .if_icmp .ge 21, 3), (9, .aload_n 0, 1), (10, .getfield 49, 3), (13, .iload_n 2, 1), (14, .baload, 1), (15, .ifCond .eq 6, 3), (18, .iinc 1 1, 3), (21, .iinc 2 1, 3), (24, .goto (-20), 3), (27, .iload_n 1, 1), (28, .ireturn, 1)] : List (Nat × Instr × Nat)), decode cX11_heldSlots q.1 = .ok (q.2.1, q.2.2) := by decide +kernel
abbrev X_Tide_heldSlots : MX := (cX11_heldSlots, RX11, "heldSlots", 3, (some (.int)), 1, 20)
theorem v_Tide_heldSlots_L4s (F : Nat)  (R4 : Int → Int → Int → Hp → Option (Int × Hp)) (hR4 : ∀ (l0 l1 l2 : Int) (h : Hp), V X_Tide_heldSlots 4 [(0, 2, l0), (1, 0, l1), (2, 0, l2)] [] h (R4 l0 l1 l2 h)) (l0 l1 l2 : Int) (h : Hp) : V X_Tide_heldSlots 4 [(0, 2, l0), (1, 0, l1), (2, 0, l2)] [] h (Tide_heldSlots_L4s F  R4 l0 l1 l2 h) := by
  unfold Tide_heldSlots_L4s
  refine V_iload_n (pc := 4) (DCa dc_Tide_heldSlots_0 4 rfl) rfl 2 rfl ?_
  refine V_iconst (pc := 5) (DCa dc_Tide_heldSlots_0 5 rfl) (by decide) ?_
  refine V_icmp_ge (tgt := 27) (pc := 6) (DCa dc_Tide_heldSlots_0 6 rfl) (by decide) (fun _ => ?_) (fun _ => ?_)
  · refine V_aload_n (pc := 9) (DCa dc_Tide_heldSlots_0 7 rfl) rfl 0 rfl ?_
    refine Q_getf (k := 8) (pc := 10) (DCa dc_Tide_heldSlots_0 8 rfl) cls_11 (Nat.le_of_ble_eq_true rfl) fl_11_49 rfl rfl rfl (fun v1 => ?_)
    refine V_iload_n (pc := 13) (DCa dc_Tide_heldSlots_0 9 rfl) rfl 2 rfl ?_
    refine Q_zaload (pc := 14) (DCa dc_Tide_heldSlots_0 10 rfl) (fun v2 => ?_)
    refine V_if_eq (tgt := 21) (pc := 15) (DCa dc_Tide_heldSlots_0 11 rfl) (by decide) (fun _ => ?_) (fun _ => ?_)
    · refine V_iinc (ls' := [(0, 2, l0), (1, 0, l1), (2, 0, w32 (l2 + 1))]) (pc := 21) (DCa dc_Tide_heldSlots_0 13 rfl) (Nat.le_of_ble_eq_true rfl) (by decide) 2 rfl rfl ?_
      refine V_goto (tgt := 4) (pc := 24) (DCa dc_Tide_heldSlots_0 14 rfl) (by decide) ?_
      exact hR4 _ _ _ _
    · refine V_iinc (ls' := [(0, 2, l0), (1, 0, w32 (l1 + 1)), (2, 0, l2)]) (pc := 18) (DCa dc_Tide_heldSlots_0 12 rfl) (Nat.le_of_ble_eq_true rfl) (by decide) 1 rfl rfl ?_
      refine V_iinc (ls' := [(0, 2, l0), (1, 0, w32 (l1 + 1)), (2, 0, w32 (l2 + 1))]) (pc := 21) (DCa dc_Tide_heldSlots_0 13 rfl) (Nat.le_of_ble_eq_true rfl) (by decide) 2 rfl rfl ?_
      refine V_goto (tgt := 4) (pc := 24) (DCa dc_Tide_heldSlots_0 14 rfl) (by decide) ?_
      exact hR4 _ _ _ _
  · refine V_iload_n (pc := 27) (DCa dc_Tide_heldSlots_0 15 rfl) rfl 1 rfl ?_
    exact V_ireturn (pc := 28) (DCa dc_Tide_heldSlots_0 16 rfl) rfl
theorem v_Tide_heldSlots_L4 (F : Nat)  (n : Nat) : ∀ (l0 l1 l2 : Int) (h : Hp), V X_Tide_heldSlots 4 [(0, 2, l0), (1, 0, l1), (2, 0, l2)] [] h (Tide_heldSlots_L4 F  n l0 l1 l2 h) := by
  induction n with
  | zero => intros; exact V_none
  | succ n ih => exact fun l0 l1 l2 h => v_Tide_heldSlots_L4s F  _ ih l0 l1 l2 h
theorem v_Tide_heldSlots (F : Nat) (l0 : Int) (h : Hp) : V X_Tide_heldSlots 0 [(0, 2, l0)] [] h (Tide_heldSlots F l0 h) := by
  unfold Tide_heldSlots
  refine V_iconst (pc := 0) (DCa dc_Tide_heldSlots_0 0 rfl) (by decide) ?_
  refine V_istore_n (ls' := [(0, 2, l0), (1, 0, 0)]) (pc := 1) (DCa dc_Tide_heldSlots_0 1 rfl) rfl (Nat.le_of_ble_eq_true rfl) rfl ?_
  refine V_iconst (pc := 2) (DCa dc_Tide_heldSlots_0 2 rfl) (by decide) ?_
  refine V_istore_n (ls' := [(0, 2, l0), (1, 0, 0), (2, 0, 0)]) (pc := 3) (DCa dc_Tide_heldSlots_0 3 rfl) rfl (Nat.le_of_ble_eq_true rfl) rfl ?_
  exact v_Tide_heldSlots_L4 F F _ _ _ _
theorem sp_Tide_heldSlots (F : Nat) (l0 : Int) (h : Hp) : Sp yX11_heldSlots cX11_heldSlots 3 (some (.int)) 1 20 [(2, l0)] h (Tide_heldSlots F l0 h) := Sp_of (by decide +kernel) rfl rfl (Nat.le_of_ble_eq_true rfl) (v_Tide_heldSlots F l0 h)

-- TideRakes.count
def Tide_count (F : Nat) (l0 l1 : Int) (h : Hp) : Option (Int × Hp) :=
  tsw l1 0 11 (fun i => match i with
    | 0 => (gf h l0 111 4 fun v1 =>
    gf h v1 107 0 fun v2 =>
    gf h v2 106 4 fun v3 =>
    some (v3, h))
    | 1 => (gf h l0 111 4 fun v4 =>
    gf h v4 107 0 fun v5 =>
    gf h v5 106 8 fun v6 =>
    some (v6, h))
    | 2 => (gf h l0 111 4 fun v7 =>
    gf h v7 107 0 fun v8 =>
    gf h v8 106 9 fun v9 =>
    some (v9, h))
    | 3 => (gf h l0 111 4 fun v10 =>
    gf h v10 107 0 fun v11 =>
    gf h v11 106 10 fun v12 =>
    some (v12, h))
    | 4 => (gf h l0 111 5 fun v13 =>
    iv h v13 108 (Stan_neverDone F v13 h) fun r14 h15 =>
    cl (Intg_bitCount F r14 h15) fun r16 h17 =>
    some (w32 (8 - r16), h17))
    | 5 => (gf h l0 111 5 fun v18 =>
    iv h v18 108 (Stan_crossedSet F v18 h) fun r19 h20 =>
    cl (Intg_bitCount F r19 h20) fun r21 h22 =>
    some (r21, h22))
    | 6 => (gf h l0 111 5 fun v23 =>
    gf h v23 108 8 fun v24 =>
    some (v24, h))
    | 7 => (gf h l0 111 1 fun v25 =>
    some (v25, h))
    | 8 => (gf h l0 111 6 fun v26 =>
    gf h v26 101 2 fun v27 =>
    some (v27, h))
    | 9 => (gf h l0 111 10 fun v28 =>
    gf h v28 109 4 fun v29 =>
    some (v29, h))
    | _ => (iv h l0 111 (Tide_heldSlots F l0 h) fun r30 h31 =>
    some (r30, h31)))
    (some ((-1), h))

theorem dc_Tide_count_0 : ∀ q ∈ ([(0, .iload_n 1, 1), (1, .tableswitch 162 0 10 #[59, 70, 81, 92, 103, 117, 128, 136, 141, 149, 157], 59), (60, .aload_n 0, 1), (61, .getfield 27, 3), (64, .getfield 77, 3), (67, .getfield 233, 3), (70, .ireturn, 1), (71, .aload_n 0, 1), (72, .getfield 27, 3), (75, .getfield 77, 3), (78, .getfield 292, 3), (81, .ireturn, 1), (82, .aload_n 0, 1), (83, .getfield 27, 3), (86, .getfield 77, 3), (89, .getfield 295, 3), (92, .ireturn, 1), (93, .aload_n 0, 1), (94, .getfield 27, 3), (97, .getfield 77, 3), (100, .getfield 298, 3), (103, .ireturn, 1), (104, .bipush 8, 2), (106, .aload_n 0, 1), (107, .getfield 34, 3), (110, .invokevirtual 301, 3), (113, .invokestatic 305, 3), (116, .isub, 1), (117, .ireturn, 1), (118, .aload_n 0, 1), (119, .getfield 34, 3), (122, .invokevirtual 310, 3), (125, .invokestatic 305, 3), (128, .ireturn, 1), (129, .aload_n 0, 1), (130, .getfield 34, 3), (133, .getfield 278, 3), (136, .ireturn, 1), (137, .aload_n 0, 1), (138, .getfield 89, 3), (141, .ireturn, 1), (142, .aload_n 0, 1), (143, .getfield 41, 3), (146, .getfield 291, 3), (149, .ireturn, 1), (150, .aload_n 0, 1), (151, .getfield 63, 3), (154, .getfield 275, 3), (157, .ireturn, 1), (158, .aload_n 0, 1)] : List (Nat × Instr × Nat)), decode cX11_count q.1 = .ok (q.2.1, q.2.2) := by decide +kernel
theorem dc_Tide_count_1 : ∀ q ∈ ([(159, .invokevirtual 313, 3), (162, .ireturn, 1), (163, .iconst (-1), 1), (164, .ireturn, 1)] : List (Nat × Instr × Nat)), decode cX11_count q.1 = .ok (q.2.1, q.2.2) := by decide +kernel
abbrev X_Tide_count : MX := (cX11_count, RX11, "count", 2, (some (.int)), 2, 42)
theorem v_Tide_count (F : Nat) (l0 l1 : Int) (h : Hp) : V X_Tide_count 0 [(0, 2, l0), (1, 0, l1)] [] h (Tide_count F l0 l1 h) := by
  unfold Tide_count
  refine V_iload_n (pc := 0) (DCa dc_Tide_count_0 0 rfl) rfl 1 rfl ?_
  refine V_table (tgt := 163) (pc := 1) (DCa dc_Tide_count_0 1 rfl) (by decide) (by decide) ?_ (fun i hi _ => ?_)
  · refine V_iconst (pc := 163) (DCa dc_Tide_count_1 2 rfl) (by decide) ?_
    exact V_ireturn (pc := 164) (DCa dc_Tide_count_1 3 rfl) rfl
  · match i, hi with
    | 0, _ =>
      refine ⟨_, 60, rfl, by decide, ?_⟩
      refine V_aload_n (pc := 60) (DCa dc_Tide_count_0 2 rfl) rfl 0 rfl ?_
      refine Q_getf (k := 4) (pc := 61) (DCa dc_Tide_count_0 3 rfl) cls_11 (Nat.le_of_ble_eq_true rfl) fl_11_27 rfl rfl rfl (fun v1 => ?_)
      refine Q_getf (k := 0) (pc := 64) (DCa dc_Tide_count_0 4 rfl) cls_7 (Nat.le_of_ble_eq_true rfl) fl_11_77 rfl rfl rfl (fun v2 => ?_)
      refine Q_getf (k := 4) (pc := 67) (DCa dc_Tide_count_0 5 rfl) cls_6 (Nat.le_of_ble_eq_true rfl) fl_11_233 rfl rfl rfl (fun v3 => ?_)
      exact V_ireturn (pc := 70) (DCa dc_Tide_count_0 6 rfl) rfl
    | 1, _ =>
      refine ⟨_, 71, rfl, by decide, ?_⟩
      refine V_aload_n (pc := 71) (DCa dc_Tide_count_0 7 rfl) rfl 0 rfl ?_
      refine Q_getf (k := 4) (pc := 72) (DCa dc_Tide_count_0 8 rfl) cls_11 (Nat.le_of_ble_eq_true rfl) fl_11_27 rfl rfl rfl (fun v4 => ?_)
      refine Q_getf (k := 0) (pc := 75) (DCa dc_Tide_count_0 9 rfl) cls_7 (Nat.le_of_ble_eq_true rfl) fl_11_77 rfl rfl rfl (fun v5 => ?_)
      refine Q_getf (k := 8) (pc := 78) (DCa dc_Tide_count_0 10 rfl) cls_6 (Nat.le_of_ble_eq_true rfl) fl_11_292 rfl rfl rfl (fun v6 => ?_)
      exact V_ireturn (pc := 81) (DCa dc_Tide_count_0 11 rfl) rfl
    | 2, _ =>
      refine ⟨_, 82, rfl, by decide, ?_⟩
      refine V_aload_n (pc := 82) (DCa dc_Tide_count_0 12 rfl) rfl 0 rfl ?_
      refine Q_getf (k := 4) (pc := 83) (DCa dc_Tide_count_0 13 rfl) cls_11 (Nat.le_of_ble_eq_true rfl) fl_11_27 rfl rfl rfl (fun v7 => ?_)
      refine Q_getf (k := 0) (pc := 86) (DCa dc_Tide_count_0 14 rfl) cls_7 (Nat.le_of_ble_eq_true rfl) fl_11_77 rfl rfl rfl (fun v8 => ?_)
      refine Q_getf (k := 9) (pc := 89) (DCa dc_Tide_count_0 15 rfl) cls_6 (Nat.le_of_ble_eq_true rfl) fl_11_295 rfl rfl rfl (fun v9 => ?_)
      exact V_ireturn (pc := 92) (DCa dc_Tide_count_0 16 rfl) rfl
    | 3, _ =>
      refine ⟨_, 93, rfl, by decide, ?_⟩
      refine V_aload_n (pc := 93) (DCa dc_Tide_count_0 17 rfl) rfl 0 rfl ?_
      refine Q_getf (k := 4) (pc := 94) (DCa dc_Tide_count_0 18 rfl) cls_11 (Nat.le_of_ble_eq_true rfl) fl_11_27 rfl rfl rfl (fun v10 => ?_)
      refine Q_getf (k := 0) (pc := 97) (DCa dc_Tide_count_0 19 rfl) cls_7 (Nat.le_of_ble_eq_true rfl) fl_11_77 rfl rfl rfl (fun v11 => ?_)
      refine Q_getf (k := 10) (pc := 100) (DCa dc_Tide_count_0 20 rfl) cls_6 (Nat.le_of_ble_eq_true rfl) fl_11_298 rfl rfl rfl (fun v12 => ?_)
      exact V_ireturn (pc := 103) (DCa dc_Tide_count_0 21 rfl) rfl
    | 4, _ =>
      refine ⟨_, 104, rfl, by decide, ?_⟩
      refine V_bipush (pc := 104) (DCa dc_Tide_count_0 22 rfl) (by decide) ?_
      refine V_aload_n (pc := 106) (DCa dc_Tide_count_0 23 rfl) rfl 0 rfl ?_
      refine Q_getf (k := 5) (pc := 107) (DCa dc_Tide_count_0 24 rfl) cls_11 (Nat.le_of_ble_eq_true rfl) fl_11_34 rfl rfl rfl (fun v13 => ?_)
      refine Q_callv (ci := 8) (st := [(0, 8)]) (pc := 110) (DCa dc_Tide_count_0 25 rfl) (sp_Stan_neverDone F _ _) ce_Stan_neverDone ml_11_301 rfl rfl ⟨Nat.le_of_ble_eq_true rfl, Nat.le_of_ble_eq_true rfl⟩ rfl (Nat.le_of_ble_eq_true rfl) (fun r14 h15 => ?_)
      refine Q_calls (st := [(0, 8)]) (pc := 113) (DCa dc_Tide_count_0 26 rfl) (sp_Intg_bitCount F _ _) ce_Intg_bitCount ml_11_305 rfl ⟨Nat.le_of_ble_eq_true rfl, Nat.le_of_ble_eq_true rfl⟩ rfl (Nat.le_of_ble_eq_true rfl) (fun r16 h17 => ?_)
      refine V_isub (pc := 116) (DCa dc_Tide_count_0 27 rfl) ?_
      exact V_ireturn (pc := 117) (DCa dc_Tide_count_0 28 rfl) rfl
    | 5, _ =>
      refine ⟨_, 118, rfl, by decide, ?_⟩
      refine V_aload_n (pc := 118) (DCa dc_Tide_count_0 29 rfl) rfl 0 rfl ?_
      refine Q_getf (k := 5) (pc := 119) (DCa dc_Tide_count_0 30 rfl) cls_11 (Nat.le_of_ble_eq_true rfl) fl_11_34 rfl rfl rfl (fun v18 => ?_)
      refine Q_callv (ci := 8) (st := []) (pc := 122) (DCa dc_Tide_count_0 31 rfl) (sp_Stan_crossedSet F _ _) ce_Stan_crossedSet ml_11_310 rfl rfl ⟨Nat.le_of_ble_eq_true rfl, Nat.le_of_ble_eq_true rfl⟩ rfl (Nat.le_of_ble_eq_true rfl) (fun r19 h20 => ?_)
      refine Q_calls (st := []) (pc := 125) (DCa dc_Tide_count_0 32 rfl) (sp_Intg_bitCount F _ _) ce_Intg_bitCount ml_11_305 rfl ⟨Nat.le_of_ble_eq_true rfl, Nat.le_of_ble_eq_true rfl⟩ rfl (Nat.le_of_ble_eq_true rfl) (fun r21 h22 => ?_)
      exact V_ireturn (pc := 128) (DCa dc_Tide_count_0 33 rfl) rfl
    | 6, _ =>
      refine ⟨_, 129, rfl, by decide, ?_⟩
      refine V_aload_n (pc := 129) (DCa dc_Tide_count_0 34 rfl) rfl 0 rfl ?_
      refine Q_getf (k := 5) (pc := 130) (DCa dc_Tide_count_0 35 rfl) cls_11 (Nat.le_of_ble_eq_true rfl) fl_11_34 rfl rfl rfl (fun v23 => ?_)
      refine Q_getf (k := 8) (pc := 133) (DCa dc_Tide_count_0 36 rfl) cls_8 (Nat.le_of_ble_eq_true rfl) fl_11_278 rfl rfl rfl (fun v24 => ?_)
      exact V_ireturn (pc := 136) (DCa dc_Tide_count_0 37 rfl) rfl
    | 7, _ =>
      refine ⟨_, 137, rfl, by decide, ?_⟩
      refine V_aload_n (pc := 137) (DCa dc_Tide_count_0 38 rfl) rfl 0 rfl ?_
      refine Q_getf (k := 1) (pc := 138) (DCa dc_Tide_count_0 39 rfl) cls_11 (Nat.le_of_ble_eq_true rfl) fl_11_89 rfl rfl rfl (fun v25 => ?_)
      exact V_ireturn (pc := 141) (DCa dc_Tide_count_0 40 rfl) rfl
    | 8, _ =>
      refine ⟨_, 142, rfl, by decide, ?_⟩
      refine V_aload_n (pc := 142) (DCa dc_Tide_count_0 41 rfl) rfl 0 rfl ?_
      refine Q_getf (k := 6) (pc := 143) (DCa dc_Tide_count_0 42 rfl) cls_11 (Nat.le_of_ble_eq_true rfl) fl_11_41 rfl rfl rfl (fun v26 => ?_)
      refine Q_getf (k := 2) (pc := 146) (DCa dc_Tide_count_0 43 rfl) cls_1 (Nat.le_of_ble_eq_true rfl) fl_11_291 rfl rfl rfl (fun v27 => ?_)
      exact V_ireturn (pc := 149) (DCa dc_Tide_count_0 44 rfl) rfl
    | 9, _ =>
      refine ⟨_, 150, rfl, by decide, ?_⟩
      refine V_aload_n (pc := 150) (DCa dc_Tide_count_0 45 rfl) rfl 0 rfl ?_
      refine Q_getf (k := 10) (pc := 151) (DCa dc_Tide_count_0 46 rfl) cls_11 (Nat.le_of_ble_eq_true rfl) fl_11_63 rfl rfl rfl (fun v28 => ?_)
      refine Q_getf (k := 4) (pc := 154) (DCa dc_Tide_count_0 47 rfl) cls_9 (Nat.le_of_ble_eq_true rfl) fl_11_275 rfl rfl rfl (fun v29 => ?_)
      exact V_ireturn (pc := 157) (DCa dc_Tide_count_0 48 rfl) rfl
    | 10, _ =>
      refine ⟨_, 158, rfl, by decide, ?_⟩
      refine V_aload_n (pc := 158) (DCa dc_Tide_count_0 49 rfl) rfl 0 rfl ?_
      refine Q_callv (ci := 11) (st := []) (pc := 159) (DCa dc_Tide_count_1 0 rfl) (sp_Tide_heldSlots F _ _) ce_Tide_heldSlots ml_11_313 rfl rfl ⟨Nat.le_of_ble_eq_true rfl, Nat.le_of_ble_eq_true rfl⟩ rfl (Nat.le_of_ble_eq_true rfl) (fun r30 h31 => ?_)
      exact V_ireturn (pc := 162) (DCa dc_Tide_count_1 1 rfl) rfl
    | k + 11, hi => exact absurd hi (by omega)
theorem sp_Tide_count (F : Nat) (l0 l1 : Int) (h : Hp) : Sp yX11_count cX11_count 2 (some (.int)) 2 42 [(2, l0), (0, l1)] h (Tide_count F l0 l1 h) := Sp_of (by decide +kernel) rfl rfl (Nat.le_of_ble_eq_true rfl) (v_Tide_count F l0 l1 h)

-- TideRakes.beginDay
def Tide_beginDay_B57 (F : Nat)  (l0 : Int) (h : Hp) : Option (Int × Hp) :=
  gf h l0 111 9 fun v15 =>
  iv h v15 102 (Plan_forgetRows F v15 h) fun r16 h17 =>
  gf h17 l0 111 9 fun v18 =>
  iv h17 v18 102 (Plan_forgetSizes F v18 h17) fun r19 h20 =>
  some (0, h20)
def Tide_beginDay_L39s (F : Nat)  (R39 : Int → Int → Hp → Option (Int × Hp)) (l0 l1 : Int) (h : Hp) : Option (Int × Hp) :=
  if l1 < 3 then
    (gf h l0 111 8 fun v13 =>
    az h v13 l1 0 fun h14 =>
    R39 l0 (w32 (l1 + 1)) h14)
  else
    (Tide_beginDay_B57 F l0 h)
def Tide_beginDay_L39 (F : Nat)  : Nat → Int → Int → Hp → Option (Int × Hp)
  | 0 => fun _ _ _ => none
  | n + 1 => Tide_beginDay_L39s F  (Tide_beginDay_L39 F  n)
def Tide_beginDay (F : Nat) (l0 : Int) (h : Hp) : Option (Int × Hp) :=
  gf h l0 111 4 fun v1 =>
  iv h v1 107 (Shor_settle F v1 h) fun r2 h3 =>
  gf h3 l0 111 5 fun v4 =>
  gf h3 l0 111 4 fun v5 =>
  gf h3 v5 107 0 fun v6 =>
  iv h3 v4 108 (Stan_begin F v4 v6 h3) fun r7 h8 =>
  gf h8 l0 111 6 fun v9 =>
  pf h8 v9 101 2 0 fun h10 =>
  gf h10 l0 111 10 fun v11 =>
  pf h10 v11 109 4 0 fun h12 =>
  Tide_beginDay_L39 F F l0 0 h12

theorem dc_Tide_beginDay_0 : ∀ q ∈ ([(0, .aload_n 0, 1), (1, .getfield 27, 3), (4, .invokevirtual 316, 3), (7, .aload_n 0, 1), (8, .getfield 34, 3), (11, .aload_n 0, 1), (12, .getfield 27, 3), (15, .getfield 77, 3), (18, .invokevirtual 319, 3), (21, .aload_n 0, 1), (22, .getfield 41, 3), (25, .iconst 0, 1), (26, .putfield 291, 3), (29, .aload_n 0, 1), (30, .getfield 63, 3), (33, .iconst 0, 1), (34, .putfield 275, 3), (37, .iconst 0, 1), (38, .istore_n 1, 1), (39, .iload_n 1, 1), (40, .iconst 3, 1), (41, .if_icmp .ge 16, 3), (44, .aload_n 0, 1), (45, .getfield 49, 3), (48, .iload_n 1, 1), (49, .iconst 0, 1), (50, .bastore, 1), (51, .iinc 1 1, 3), (54, .goto (-15), 3), (57, .aload_n 0, 1), (58, .getfield 56, 3), (61, .invokevirtual 191, 3), (64, .aload_n 0, 1), (65, .getfield 56, 3), (68, .invokevirtual 323, 3), (71, .return_, 1)] : List (Nat × Instr × Nat)), decode cX11_beginDay q.1 = .ok (q.2.1, q.2.2) := by decide +kernel
abbrev X_Tide_beginDay : MX := (cX11_beginDay, RX11, "beginDay", 2, none, 7, 164)
theorem v_Tide_beginDay_B57 (F : Nat)  (l0 : Int) (h : Hp) : V X_Tide_beginDay 57 [(0, 2, l0)] [] h (Tide_beginDay_B57 F  l0 h) := by
  unfold Tide_beginDay_B57
  refine V_aload_n (pc := 57) (DCa dc_Tide_beginDay_0 29 rfl) rfl 0 rfl ?_
  refine Q_getf (k := 9) (pc := 58) (DCa dc_Tide_beginDay_0 30 rfl) cls_11 (Nat.le_of_ble_eq_true rfl) fl_11_56 rfl rfl rfl (fun v15 => ?_)
  refine Q_callv (ci := 2) (st := []) (pc := 61) (DCa dc_Tide_beginDay_0 31 rfl) (sp_Plan_forgetRows F _ _) ce_Plan_forgetRows ml_11_191 rfl rfl ⟨Nat.le_of_ble_eq_true rfl, Nat.le_of_ble_eq_true rfl⟩ rfl (Nat.le_of_ble_eq_true rfl) (fun r16 h17 => ?_)
  refine V_aload_n (pc := 64) (DCa dc_Tide_beginDay_0 32 rfl) rfl 0 rfl ?_
  refine Q_getf (k := 9) (pc := 65) (DCa dc_Tide_beginDay_0 33 rfl) cls_11 (Nat.le_of_ble_eq_true rfl) fl_11_56 rfl rfl rfl (fun v18 => ?_)
  refine Q_callv (ci := 2) (st := []) (pc := 68) (DCa dc_Tide_beginDay_0 34 rfl) (sp_Plan_forgetSizes F _ _) ce_Plan_forgetSizes ml_11_323 rfl rfl ⟨Nat.le_of_ble_eq_true rfl, Nat.le_of_ble_eq_true rfl⟩ rfl (Nat.le_of_ble_eq_true rfl) (fun r19 h20 => ?_)
  exact V_return (pc := 71) (DCa dc_Tide_beginDay_0 35 rfl) rfl
theorem v_Tide_beginDay_L39s (F : Nat)  (R39 : Int → Int → Hp → Option (Int × Hp)) (hR39 : ∀ (l0 l1 : Int) (h : Hp), V X_Tide_beginDay 39 [(0, 2, l0), (1, 0, l1)] [] h (R39 l0 l1 h)) (l0 l1 : Int) (h : Hp) : V X_Tide_beginDay 39 [(0, 2, l0), (1, 0, l1)] [] h (Tide_beginDay_L39s F  R39 l0 l1 h) := by
  unfold Tide_beginDay_L39s
  refine V_iload_n (pc := 39) (DCa dc_Tide_beginDay_0 19 rfl) rfl 1 rfl ?_
  refine V_iconst (pc := 40) (DCa dc_Tide_beginDay_0 20 rfl) (by decide) ?_
  refine V_icmp_ge (tgt := 57) (pc := 41) (DCa dc_Tide_beginDay_0 21 rfl) (by decide) (fun _ => ?_) (fun _ => ?_)
  · refine V_aload_n (pc := 44) (DCa dc_Tide_beginDay_0 22 rfl) rfl 0 rfl ?_
    refine Q_getf (k := 8) (pc := 45) (DCa dc_Tide_beginDay_0 23 rfl) cls_11 (Nat.le_of_ble_eq_true rfl) fl_11_49 rfl rfl rfl (fun v13 => ?_)
    refine V_iload_n (pc := 48) (DCa dc_Tide_beginDay_0 24 rfl) rfl 1 rfl ?_
    refine V_iconst (pc := 49) (DCa dc_Tide_beginDay_0 25 rfl) (by decide) ?_
    refine Q_zastore (pc := 50) (DCa dc_Tide_beginDay_0 26 rfl) (fun h14 => ?_)
    refine V_iinc (ls' := [(0, 2, l0), (1, 0, w32 (l1 + 1))]) (pc := 51) (DCa dc_Tide_beginDay_0 27 rfl) (Nat.le_of_ble_eq_true rfl) (by decide) 1 rfl rfl ?_
    refine V_goto (tgt := 39) (pc := 54) (DCa dc_Tide_beginDay_0 28 rfl) (by decide) ?_
    exact hR39 _ _ _
  · refine V_pick [0] rfl ?_
    exact v_Tide_beginDay_B57 F _ _
theorem v_Tide_beginDay_L39 (F : Nat)  (n : Nat) : ∀ (l0 l1 : Int) (h : Hp), V X_Tide_beginDay 39 [(0, 2, l0), (1, 0, l1)] [] h (Tide_beginDay_L39 F  n l0 l1 h) := by
  induction n with
  | zero => intros; exact V_none
  | succ n ih => exact fun l0 l1 h => v_Tide_beginDay_L39s F  _ ih l0 l1 h
theorem v_Tide_beginDay (F : Nat) (l0 : Int) (h : Hp) : V X_Tide_beginDay 0 [(0, 2, l0)] [] h (Tide_beginDay F l0 h) := by
  unfold Tide_beginDay
  refine V_aload_n (pc := 0) (DCa dc_Tide_beginDay_0 0 rfl) rfl 0 rfl ?_
  refine Q_getf (k := 4) (pc := 1) (DCa dc_Tide_beginDay_0 1 rfl) cls_11 (Nat.le_of_ble_eq_true rfl) fl_11_27 rfl rfl rfl (fun v1 => ?_)
  refine Q_callv (ci := 7) (st := []) (pc := 4) (DCa dc_Tide_beginDay_0 2 rfl) (sp_Shor_settle F _ _) ce_Shor_settle ml_11_316 rfl rfl ⟨Nat.le_of_ble_eq_true rfl, Nat.le_of_ble_eq_true rfl⟩ rfl (Nat.le_of_ble_eq_true rfl) (fun r2 h3 => ?_)
  refine V_aload_n (pc := 7) (DCa dc_Tide_beginDay_0 3 rfl) rfl 0 rfl ?_
  refine Q_getf (k := 5) (pc := 8) (DCa dc_Tide_beginDay_0 4 rfl) cls_11 (Nat.le_of_ble_eq_true rfl) fl_11_34 rfl rfl rfl (fun v4 => ?_)
  refine V_aload_n (pc := 11) (DCa dc_Tide_beginDay_0 5 rfl) rfl 0 rfl ?_
  refine Q_getf (k := 4) (pc := 12) (DCa dc_Tide_beginDay_0 6 rfl) cls_11 (Nat.le_of_ble_eq_true rfl) fl_11_27 rfl rfl rfl (fun v5 => ?_)
  refine Q_getf (k := 0) (pc := 15) (DCa dc_Tide_beginDay_0 7 rfl) cls_7 (Nat.le_of_ble_eq_true rfl) fl_11_77 rfl rfl rfl (fun v6 => ?_)
  refine Q_callv (ci := 8) (st := []) (pc := 18) (DCa dc_Tide_beginDay_0 8 rfl) (sp_Stan_begin F _ _ _) ce_Stan_begin ml_11_319 rfl rfl ⟨Nat.le_of_ble_eq_true rfl, Nat.le_of_ble_eq_true rfl⟩ rfl (Nat.le_of_ble_eq_true rfl) (fun r7 h8 => ?_)
  refine V_aload_n (pc := 21) (DCa dc_Tide_beginDay_0 9 rfl) rfl 0 rfl ?_
  refine Q_getf (k := 6) (pc := 22) (DCa dc_Tide_beginDay_0 10 rfl) cls_11 (Nat.le_of_ble_eq_true rfl) fl_11_41 rfl rfl rfl (fun v9 => ?_)
  refine V_iconst (pc := 25) (DCa dc_Tide_beginDay_0 11 rfl) (by decide) ?_
  refine Q_putf (k := 2) (pc := 26) (DCa dc_Tide_beginDay_0 12 rfl) cls_1 (Nat.le_of_ble_eq_true rfl) fl_11_291 rfl rfl rfl (Or.inl rfl) (Or.inl ⟨rfl, rfl⟩) (fun h10 => ?_)
  refine V_aload_n (pc := 29) (DCa dc_Tide_beginDay_0 13 rfl) rfl 0 rfl ?_
  refine Q_getf (k := 10) (pc := 30) (DCa dc_Tide_beginDay_0 14 rfl) cls_11 (Nat.le_of_ble_eq_true rfl) fl_11_63 rfl rfl rfl (fun v11 => ?_)
  refine V_iconst (pc := 33) (DCa dc_Tide_beginDay_0 15 rfl) (by decide) ?_
  refine Q_putf (k := 4) (pc := 34) (DCa dc_Tide_beginDay_0 16 rfl) cls_9 (Nat.le_of_ble_eq_true rfl) fl_11_275 rfl rfl rfl (Or.inl rfl) (Or.inl ⟨rfl, rfl⟩) (fun h12 => ?_)
  refine V_iconst (pc := 37) (DCa dc_Tide_beginDay_0 17 rfl) (by decide) ?_
  refine V_istore_n (ls' := [(0, 2, l0), (1, 0, 0)]) (pc := 38) (DCa dc_Tide_beginDay_0 18 rfl) rfl (Nat.le_of_ble_eq_true rfl) rfl ?_
  exact v_Tide_beginDay_L39 F F _ _ _
theorem sp_Tide_beginDay (F : Nat) (l0 : Int) (h : Hp) : Sp yX11_beginDay cX11_beginDay 2 none 7 164 [(2, l0)] h (Tide_beginDay F l0 h) := Sp_of (by decide +kernel) rfl rfl (Nat.le_of_ble_eq_true rfl) (v_Tide_beginDay F l0 h)

-- TideRakes.isSlot
def Tide_isSlot (F : Nat) (l0 : Int) (h : Hp) : Option (Int × Hp) :=
  if l0 < 0 then
    (rz 0 h)
  else
    (if l0 < 3 then
      (rz 1 h)
    else
      (rz 0 h))

theorem dc_Tide_isSlot_0 : ∀ q ∈ ([(0, .iload_n 0, 1), (1, .ifCond .lt 12, 3), (4, .iload_n 0, 1), (5, .iconst 3, 1), (6, .if_icmp .ge 7, 3), (9, .iconst 1, 1), (10, .goto 4, 3), (13, .iconst 0, 1), (14, .ireturn, 1)] : List (Nat × Instr × Nat)), decode cX11_isSlot q.1 = .ok (q.2.1, q.2.2) := by decide +kernel
abbrev X_Tide_isSlot : MX := (cX11_isSlot, RX11, "isSlot", 1, (some (.boolean)), 1, 20)
theorem v_Tide_isSlot (F : Nat) (l0 : Int) (h : Hp) : V X_Tide_isSlot 0 [(0, 0, l0)] [] h (Tide_isSlot F l0 h) := by
  unfold Tide_isSlot
  refine V_iload_n (pc := 0) (DCa dc_Tide_isSlot_0 0 rfl) rfl 0 rfl ?_
  refine V_if_lt (tgt := 13) (pc := 1) (DCa dc_Tide_isSlot_0 1 rfl) (by decide) (fun _ => ?_) (fun _ => ?_)
  · refine V_iconst (pc := 13) (DCa dc_Tide_isSlot_0 7 rfl) (by decide) ?_
    exact V_zreturn (pc := 14) (DCa dc_Tide_isSlot_0 8 rfl) rfl
  · refine V_iload_n (pc := 4) (DCa dc_Tide_isSlot_0 2 rfl) rfl 0 rfl ?_
    refine V_iconst (pc := 5) (DCa dc_Tide_isSlot_0 3 rfl) (by decide) ?_
    refine V_icmp_ge (tgt := 13) (pc := 6) (DCa dc_Tide_isSlot_0 4 rfl) (by decide) (fun _ => ?_) (fun _ => ?_)
    · refine V_iconst (pc := 9) (DCa dc_Tide_isSlot_0 5 rfl) (by decide) ?_
      refine V_goto (tgt := 14) (pc := 10) (DCa dc_Tide_isSlot_0 6 rfl) (by decide) ?_
      exact V_zreturn (pc := 14) (DCa dc_Tide_isSlot_0 8 rfl) rfl
    · refine V_iconst (pc := 13) (DCa dc_Tide_isSlot_0 7 rfl) (by decide) ?_
      exact V_zreturn (pc := 14) (DCa dc_Tide_isSlot_0 8 rfl) rfl
theorem sp_Tide_isSlot (F : Nat) (l0 : Int) (h : Hp) : Sp yX11_isSlot cX11_isSlot 1 (some (.boolean)) 1 20 [(0, l0)] h (Tide_isSlot F l0 h) := Sp_of (by decide +kernel) rfl rfl (Nat.le_of_ble_eq_true rfl) (v_Tide_isSlot F l0 h)

-- TideRakesModel.begins
def Mod_begins_L68s (F : Nat)  (R68 : Int → Int → Hp → Option (Int × Hp)) (l0 l1 : Int) (h : Hp) : Option (Int × Hp) :=
  gf h l0 112 27 fun v9 =>
  gf h l0 112 18 fun v10 =>
  al h v9 0 v10 fun v11 =>
  if l1 < v11 then
    (gf h l0 112 63 fun v12 =>
    gf h l0 112 28 fun v13 =>
    gf h l0 112 18 fun v14 =>
    al h v13 0 (w32 ((w32 (3 * v14)) + l1)) fun v15 =>
    as h v12 0 (w32 (32 + l1)) v15 fun h16 =>
    gf h16 l0 112 63 fun v17 =>
    gf h16 l0 112 29 fun v18 =>
    gf h16 l0 112 18 fun v19 =>
    al h16 v18 0 (w32 ((w32 (3 * v19)) + l1)) fun v20 =>
    as h16 v17 0 (w32 (35 + l1)) v20 fun h21 =>
    R68 l0 (w32 (l1 + 1)) h21)
  else
    (some (0, h))
def Mod_begins_L68 (F : Nat)  : Nat → Int → Int → Hp → Option (Int × Hp)
  | 0 => fun _ _ _ => none
  | n + 1 => Mod_begins_L68s F  (Mod_begins_L68 F  n)
def Mod_begins_L24s (F : Nat)  (R24 : Int → Int → Hp → Option (Int × Hp)) (l0 l1 : Int) (h : Hp) : Option (Int × Hp) :=
  if l1 < 8 then
    (gf h l0 112 63 fun v3 =>
    as h v3 0 l1 (-2) fun h4 =>
    gf h4 l0 112 63 fun v5 =>
    as h4 v5 0 (w32 (16 + l1)) (-2) fun h6 =>
    gf h6 l0 112 63 fun v7 =>
    as h6 v7 0 (w32 (24 + l1)) (-2) fun h8 =>
    R24 l0 (w32 (l1 + 1)) h8)
  else
    (Mod_begins_L68 F F l0 0 h)
def Mod_begins_L24 (F : Nat)  : Nat → Int → Int → Hp → Option (Int × Hp)
  | 0 => fun _ _ _ => none
  | n + 1 => Mod_begins_L24s F  (Mod_begins_L24 F  n)
def Mod_begins_L2s (F : Nat)  (R2 : Int → Int → Hp → Option (Int × Hp)) (l0 l1 : Int) (h : Hp) : Option (Int × Hp) :=
  if l1 < 140 then
    (gf h l0 112 63 fun v1 =>
    as h v1 0 l1 0 fun h2 =>
    R2 l0 (w32 (l1 + 1)) h2)
  else
    (Mod_begins_L24 F F l0 0 h)
def Mod_begins_L2 (F : Nat)  : Nat → Int → Int → Hp → Option (Int × Hp)
  | 0 => fun _ _ _ => none
  | n + 1 => Mod_begins_L2s F  (Mod_begins_L2 F  n)
def Mod_begins (F : Nat) (l0 : Int) (h : Hp) : Option (Int × Hp) :=
  Mod_begins_L2 F F l0 0 h

theorem dc_Mod_begins_0 : ∀ q ∈ ([(0, .iconst 0, 1), (1, .istore_n 1, 1), (2, .iload_n 1, 1), (3, .sipush 140, 3), (6, .if_icmp .ge 16, 3), (9, .aload_n 0, 1), (10, .getfield 155, 3), (13, .iload_n 1, 1), (14, .iconst 0, 1), (15, .iastore, 1), (16, .iinc 1 1, 3), (19, .goto (-17), 3), (22, .iconst 0, 1), (23, .istore_n 1, 1), (24, .iload_n 1, 1), (25, .bipush 8, 2), (27, .if_icmp .ge 39, 3), (30, .aload_n 0, 1), (31, .getfield 155, 3), (34, .iload_n 1, 1), (35, .bipush (-2), 2), (37, .iastore, 1), (38, .aload_n 0, 1), (39, .getfield 155, 3), (42, .bipush 16, 2), (44, .iload_n 1, 1), (45, .iadd, 1), (46, .bipush (-2), 2), (48, .iastore, 1), (49, .aload_n 0, 1), (50, .getfield 155, 3), (53, .bipush 24, 2), (55, .iload_n 1, 1), (56, .iadd, 1), (57, .bipush (-2), 2), (59, .iastore, 1), (60, .iinc 1 1, 3), (63, .goto (-39), 3), (66, .iconst 0, 1), (67, .istore_n 1, 1), (68, .iload_n 1, 1), (69, .aload_n 0, 1), (70, .getfield 58, 3), (73, .aload_n 0, 1), (74, .getfield 281, 3), (77, .iaload, 1), (78, .if_icmp .ge 53, 3), (81, .aload_n 0, 1), (82, .getfield 155, 3), (85, .bipush 32, 2)] : List (Nat × Instr × Nat)), decode cX12_begins q.1 = .ok (q.2.1, q.2.2) := by decide +kernel
theorem dc_Mod_begins_1 : ∀ q ∈ ([(87, .iload_n 1, 1), (88, .iadd, 1), (89, .aload_n 0, 1), (90, .getfield 61, 3), (93, .iconst 3, 1), (94, .aload_n 0, 1), (95, .getfield 281, 3), (98, .imul, 1), (99, .iload_n 1, 1), (100, .iadd, 1), (101, .iaload, 1), (102, .iastore, 1), (103, .aload_n 0, 1), (104, .getfield 155, 3), (107, .bipush 35, 2), (109, .iload_n 1, 1), (110, .iadd, 1), (111, .aload_n 0, 1), (112, .getfield 64, 3), (115, .iconst 3, 1), (116, .aload_n 0, 1), (117, .getfield 281, 3), (120, .imul, 1), (121, .iload_n 1, 1), (122, .iadd, 1), (123, .iaload, 1), (124, .iastore, 1), (125, .iinc 1 1, 3), (128, .goto (-60), 3), (131, .return_, 1)] : List (Nat × Instr × Nat)), decode cX12_begins q.1 = .ok (q.2.1, q.2.2) := by decide +kernel
abbrev X_Mod_begins : MX := (cX12_begins, RX12, "begins", 2, none, 1, 20)
theorem v_Mod_begins_L68s (F : Nat)  (R68 : Int → Int → Hp → Option (Int × Hp)) (hR68 : ∀ (l0 l1 : Int) (h : Hp), V X_Mod_begins 68 [(0, 2, l0), (1, 0, l1)] [] h (R68 l0 l1 h)) (l0 l1 : Int) (h : Hp) : V X_Mod_begins 68 [(0, 2, l0), (1, 0, l1)] [] h (Mod_begins_L68s F  R68 l0 l1 h) := by
  unfold Mod_begins_L68s
  refine V_iload_n (pc := 68) (DCa dc_Mod_begins_0 40 rfl) rfl 1 rfl ?_
  refine V_aload_n (pc := 69) (DCa dc_Mod_begins_0 41 rfl) rfl 0 rfl ?_
  refine Q_getf (k := 27) (pc := 70) (DCa dc_Mod_begins_0 42 rfl) cls_12 (Nat.le_of_ble_eq_true rfl) fl_12_58 rfl rfl rfl (fun v9 => ?_)
  refine V_aload_n (pc := 73) (DCa dc_Mod_begins_0 43 rfl) rfl 0 rfl ?_
  refine Q_getf (k := 18) (pc := 74) (DCa dc_Mod_begins_0 44 rfl) cls_12 (Nat.le_of_ble_eq_true rfl) fl_12_281 rfl rfl rfl (fun v10 => ?_)
  refine Q_iaload (pc := 77) (DCa dc_Mod_begins_0 45 rfl) (fun v11 => ?_)
  refine V_icmp_ge (tgt := 131) (pc := 78) (DCa dc_Mod_begins_0 46 rfl) (by decide) (fun _ => ?_) (fun _ => ?_)
  · refine V_aload_n (pc := 81) (DCa dc_Mod_begins_0 47 rfl) rfl 0 rfl ?_
    refine Q_getf (k := 63) (pc := 82) (DCa dc_Mod_begins_0 48 rfl) cls_12 (Nat.le_of_ble_eq_true rfl) fl_12_155 rfl rfl rfl (fun v12 => ?_)
    refine V_bipush (pc := 85) (DCa dc_Mod_begins_0 49 rfl) (by decide) ?_
    refine V_iload_n (pc := 87) (DCa dc_Mod_begins_1 0 rfl) rfl 1 rfl ?_
    refine V_iadd (pc := 88) (DCa dc_Mod_begins_1 1 rfl) ?_
    refine V_aload_n (pc := 89) (DCa dc_Mod_begins_1 2 rfl) rfl 0 rfl ?_
    refine Q_getf (k := 28) (pc := 90) (DCa dc_Mod_begins_1 3 rfl) cls_12 (Nat.le_of_ble_eq_true rfl) fl_12_61 rfl rfl rfl (fun v13 => ?_)
    refine V_iconst (pc := 93) (DCa dc_Mod_begins_1 4 rfl) (by decide) ?_
    refine V_aload_n (pc := 94) (DCa dc_Mod_begins_1 5 rfl) rfl 0 rfl ?_
    refine Q_getf (k := 18) (pc := 95) (DCa dc_Mod_begins_1 6 rfl) cls_12 (Nat.le_of_ble_eq_true rfl) fl_12_281 rfl rfl rfl (fun v14 => ?_)
    refine V_imul (pc := 98) (DCa dc_Mod_begins_1 7 rfl) ?_
    refine V_iload_n (pc := 99) (DCa dc_Mod_begins_1 8 rfl) rfl 1 rfl ?_
    refine V_iadd (pc := 100) (DCa dc_Mod_begins_1 9 rfl) ?_
    refine Q_iaload (pc := 101) (DCa dc_Mod_begins_1 10 rfl) (fun v15 => ?_)
    refine Q_iastore (pc := 102) (DCa dc_Mod_begins_1 11 rfl) (fun h16 => ?_)
    refine V_aload_n (pc := 103) (DCa dc_Mod_begins_1 12 rfl) rfl 0 rfl ?_
    refine Q_getf (k := 63) (pc := 104) (DCa dc_Mod_begins_1 13 rfl) cls_12 (Nat.le_of_ble_eq_true rfl) fl_12_155 rfl rfl rfl (fun v17 => ?_)
    refine V_bipush (pc := 107) (DCa dc_Mod_begins_1 14 rfl) (by decide) ?_
    refine V_iload_n (pc := 109) (DCa dc_Mod_begins_1 15 rfl) rfl 1 rfl ?_
    refine V_iadd (pc := 110) (DCa dc_Mod_begins_1 16 rfl) ?_
    refine V_aload_n (pc := 111) (DCa dc_Mod_begins_1 17 rfl) rfl 0 rfl ?_
    refine Q_getf (k := 29) (pc := 112) (DCa dc_Mod_begins_1 18 rfl) cls_12 (Nat.le_of_ble_eq_true rfl) fl_12_64 rfl rfl rfl (fun v18 => ?_)
    refine V_iconst (pc := 115) (DCa dc_Mod_begins_1 19 rfl) (by decide) ?_
    refine V_aload_n (pc := 116) (DCa dc_Mod_begins_1 20 rfl) rfl 0 rfl ?_
    refine Q_getf (k := 18) (pc := 117) (DCa dc_Mod_begins_1 21 rfl) cls_12 (Nat.le_of_ble_eq_true rfl) fl_12_281 rfl rfl rfl (fun v19 => ?_)
    refine V_imul (pc := 120) (DCa dc_Mod_begins_1 22 rfl) ?_
    refine V_iload_n (pc := 121) (DCa dc_Mod_begins_1 23 rfl) rfl 1 rfl ?_
    refine V_iadd (pc := 122) (DCa dc_Mod_begins_1 24 rfl) ?_
    refine Q_iaload (pc := 123) (DCa dc_Mod_begins_1 25 rfl) (fun v20 => ?_)
    refine Q_iastore (pc := 124) (DCa dc_Mod_begins_1 26 rfl) (fun h21 => ?_)
    refine V_iinc (ls' := [(0, 2, l0), (1, 0, w32 (l1 + 1))]) (pc := 125) (DCa dc_Mod_begins_1 27 rfl) (Nat.le_of_ble_eq_true rfl) (by decide) 1 rfl rfl ?_
    refine V_goto (tgt := 68) (pc := 128) (DCa dc_Mod_begins_1 28 rfl) (by decide) ?_
    exact hR68 _ _ _
  · exact V_return (pc := 131) (DCa dc_Mod_begins_1 29 rfl) rfl
theorem v_Mod_begins_L68 (F : Nat)  (n : Nat) : ∀ (l0 l1 : Int) (h : Hp), V X_Mod_begins 68 [(0, 2, l0), (1, 0, l1)] [] h (Mod_begins_L68 F  n l0 l1 h) := by
  induction n with
  | zero => intros; exact V_none
  | succ n ih => exact fun l0 l1 h => v_Mod_begins_L68s F  _ ih l0 l1 h
theorem v_Mod_begins_L24s (F : Nat)  (R24 : Int → Int → Hp → Option (Int × Hp)) (hR24 : ∀ (l0 l1 : Int) (h : Hp), V X_Mod_begins 24 [(0, 2, l0), (1, 0, l1)] [] h (R24 l0 l1 h)) (l0 l1 : Int) (h : Hp) : V X_Mod_begins 24 [(0, 2, l0), (1, 0, l1)] [] h (Mod_begins_L24s F  R24 l0 l1 h) := by
  unfold Mod_begins_L24s
  refine V_iload_n (pc := 24) (DCa dc_Mod_begins_0 14 rfl) rfl 1 rfl ?_
  refine V_bipush (pc := 25) (DCa dc_Mod_begins_0 15 rfl) (by decide) ?_
  refine V_icmp_ge (tgt := 66) (pc := 27) (DCa dc_Mod_begins_0 16 rfl) (by decide) (fun _ => ?_) (fun _ => ?_)
  · refine V_aload_n (pc := 30) (DCa dc_Mod_begins_0 17 rfl) rfl 0 rfl ?_
    refine Q_getf (k := 63) (pc := 31) (DCa dc_Mod_begins_0 18 rfl) cls_12 (Nat.le_of_ble_eq_true rfl) fl_12_155 rfl rfl rfl (fun v3 => ?_)
    refine V_iload_n (pc := 34) (DCa dc_Mod_begins_0 19 rfl) rfl 1 rfl ?_
    refine V_bipush (pc := 35) (DCa dc_Mod_begins_0 20 rfl) (by decide) ?_
    refine Q_iastore (pc := 37) (DCa dc_Mod_begins_0 21 rfl) (fun h4 => ?_)
    refine V_aload_n (pc := 38) (DCa dc_Mod_begins_0 22 rfl) rfl 0 rfl ?_
    refine Q_getf (k := 63) (pc := 39) (DCa dc_Mod_begins_0 23 rfl) cls_12 (Nat.le_of_ble_eq_true rfl) fl_12_155 rfl rfl rfl (fun v5 => ?_)
    refine V_bipush (pc := 42) (DCa dc_Mod_begins_0 24 rfl) (by decide) ?_
    refine V_iload_n (pc := 44) (DCa dc_Mod_begins_0 25 rfl) rfl 1 rfl ?_
    refine V_iadd (pc := 45) (DCa dc_Mod_begins_0 26 rfl) ?_
    refine V_bipush (pc := 46) (DCa dc_Mod_begins_0 27 rfl) (by decide) ?_
    refine Q_iastore (pc := 48) (DCa dc_Mod_begins_0 28 rfl) (fun h6 => ?_)
    refine V_aload_n (pc := 49) (DCa dc_Mod_begins_0 29 rfl) rfl 0 rfl ?_
    refine Q_getf (k := 63) (pc := 50) (DCa dc_Mod_begins_0 30 rfl) cls_12 (Nat.le_of_ble_eq_true rfl) fl_12_155 rfl rfl rfl (fun v7 => ?_)
    refine V_bipush (pc := 53) (DCa dc_Mod_begins_0 31 rfl) (by decide) ?_
    refine V_iload_n (pc := 55) (DCa dc_Mod_begins_0 32 rfl) rfl 1 rfl ?_
    refine V_iadd (pc := 56) (DCa dc_Mod_begins_0 33 rfl) ?_
    refine V_bipush (pc := 57) (DCa dc_Mod_begins_0 34 rfl) (by decide) ?_
    refine Q_iastore (pc := 59) (DCa dc_Mod_begins_0 35 rfl) (fun h8 => ?_)
    refine V_iinc (ls' := [(0, 2, l0), (1, 0, w32 (l1 + 1))]) (pc := 60) (DCa dc_Mod_begins_0 36 rfl) (Nat.le_of_ble_eq_true rfl) (by decide) 1 rfl rfl ?_
    refine V_goto (tgt := 24) (pc := 63) (DCa dc_Mod_begins_0 37 rfl) (by decide) ?_
    exact hR24 _ _ _
  · refine V_iconst (pc := 66) (DCa dc_Mod_begins_0 38 rfl) (by decide) ?_
    refine V_istore_n (ls' := [(0, 2, l0), (1, 0, 0)]) (pc := 67) (DCa dc_Mod_begins_0 39 rfl) rfl (Nat.le_of_ble_eq_true rfl) rfl ?_
    exact v_Mod_begins_L68 F F _ _ _
theorem v_Mod_begins_L24 (F : Nat)  (n : Nat) : ∀ (l0 l1 : Int) (h : Hp), V X_Mod_begins 24 [(0, 2, l0), (1, 0, l1)] [] h (Mod_begins_L24 F  n l0 l1 h) := by
  induction n with
  | zero => intros; exact V_none
  | succ n ih => exact fun l0 l1 h => v_Mod_begins_L24s F  _ ih l0 l1 h
theorem v_Mod_begins_L2s (F : Nat)  (R2 : Int → Int → Hp → Option (Int × Hp)) (hR2 : ∀ (l0 l1 : Int) (h : Hp), V X_Mod_begins 2 [(0, 2, l0), (1, 0, l1)] [] h (R2 l0 l1 h)) (l0 l1 : Int) (h : Hp) : V X_Mod_begins 2 [(0, 2, l0), (1, 0, l1)] [] h (Mod_begins_L2s F  R2 l0 l1 h) := by
  unfold Mod_begins_L2s
  refine V_iload_n (pc := 2) (DCa dc_Mod_begins_0 2 rfl) rfl 1 rfl ?_
  refine V_sipush (pc := 3) (DCa dc_Mod_begins_0 3 rfl) (by decide) ?_
  refine V_icmp_ge (tgt := 22) (pc := 6) (DCa dc_Mod_begins_0 4 rfl) (by decide) (fun _ => ?_) (fun _ => ?_)
  · refine V_aload_n (pc := 9) (DCa dc_Mod_begins_0 5 rfl) rfl 0 rfl ?_
    refine Q_getf (k := 63) (pc := 10) (DCa dc_Mod_begins_0 6 rfl) cls_12 (Nat.le_of_ble_eq_true rfl) fl_12_155 rfl rfl rfl (fun v1 => ?_)
    refine V_iload_n (pc := 13) (DCa dc_Mod_begins_0 7 rfl) rfl 1 rfl ?_
    refine V_iconst (pc := 14) (DCa dc_Mod_begins_0 8 rfl) (by decide) ?_
    refine Q_iastore (pc := 15) (DCa dc_Mod_begins_0 9 rfl) (fun h2 => ?_)
    refine V_iinc (ls' := [(0, 2, l0), (1, 0, w32 (l1 + 1))]) (pc := 16) (DCa dc_Mod_begins_0 10 rfl) (Nat.le_of_ble_eq_true rfl) (by decide) 1 rfl rfl ?_
    refine V_goto (tgt := 2) (pc := 19) (DCa dc_Mod_begins_0 11 rfl) (by decide) ?_
    exact hR2 _ _ _
  · refine V_iconst (pc := 22) (DCa dc_Mod_begins_0 12 rfl) (by decide) ?_
    refine V_istore_n (ls' := [(0, 2, l0), (1, 0, 0)]) (pc := 23) (DCa dc_Mod_begins_0 13 rfl) rfl (Nat.le_of_ble_eq_true rfl) rfl ?_
    exact v_Mod_begins_L24 F F _ _ _
theorem v_Mod_begins_L2 (F : Nat)  (n : Nat) : ∀ (l0 l1 : Int) (h : Hp), V X_Mod_begins 2 [(0, 2, l0), (1, 0, l1)] [] h (Mod_begins_L2 F  n l0 l1 h) := by
  induction n with
  | zero => intros; exact V_none
  | succ n ih => exact fun l0 l1 h => v_Mod_begins_L2s F  _ ih l0 l1 h
theorem v_Mod_begins (F : Nat) (l0 : Int) (h : Hp) : V X_Mod_begins 0 [(0, 2, l0)] [] h (Mod_begins F l0 h) := by
  unfold Mod_begins
  refine V_iconst (pc := 0) (DCa dc_Mod_begins_0 0 rfl) (by decide) ?_
  refine V_istore_n (ls' := [(0, 2, l0), (1, 0, 0)]) (pc := 1) (DCa dc_Mod_begins_0 1 rfl) rfl (Nat.le_of_ble_eq_true rfl) rfl ?_
  exact v_Mod_begins_L2 F F _ _ _
theorem sp_Mod_begins (F : Nat) (l0 : Int) (h : Hp) : Sp yX12_begins cX12_begins 2 none 1 20 [(2, l0)] h (Mod_begins F l0 h) := Sp_of (by decide +kernel) rfl rfl (Nat.le_of_ble_eq_true rfl) (v_Mod_begins F l0 h)

-- TideRakesModel.keepsRow
def Mod_keepsRow_L2s (F : Nat)  (R2 : Int → Int → Hp → Option (Int × Hp)) (l0 l1 : Int) (h : Hp) : Option (Int × Hp) :=
  if l1 < 140 then
    (gf h l0 112 62 fun v1 =>
    gf h l0 112 63 fun v2 =>
    al h v2 0 l1 fun v3 =>
    as h v1 0 l1 v3 fun h4 =>
    R2 l0 (w32 (l1 + 1)) h4)
  else
    (some (0, h))
def Mod_keepsRow_L2 (F : Nat)  : Nat → Int → Int → Hp → Option (Int × Hp)
  | 0 => fun _ _ _ => none
  | n + 1 => Mod_keepsRow_L2s F  (Mod_keepsRow_L2 F  n)
def Mod_keepsRow (F : Nat) (l0 : Int) (h : Hp) : Option (Int × Hp) :=
  Mod_keepsRow_L2 F F l0 0 h

theorem dc_Mod_keepsRow_0 : ∀ q ∈ ([(0, .iconst 0, 1), (1, .istore_n 1, 1), (2, .iload_n 1, 1), (3, .sipush 140, 3), (6, .if_icmp .ge 21, 3), (9, .aload_n 0, 1), (10, .getfield 152, 3), (13, .iload_n 1, 1), (14, .aload_n 0, 1), (15, .getfield 155, 3), (18, .iload_n 1, 1), (19, .iaload, 1), (20, .iastore, 1), (21, .iinc 1 1, 3), (24, .goto (-22), 3), (27, .return_, 1)] : List (Nat × Instr × Nat)), decode cX12_keepsRow q.1 = .ok (q.2.1, q.2.2) := by decide +kernel
abbrev X_Mod_keepsRow : MX := (cX12_keepsRow, RX12, "keepsRow", 2, none, 1, 20)
theorem v_Mod_keepsRow_L2s (F : Nat)  (R2 : Int → Int → Hp → Option (Int × Hp)) (hR2 : ∀ (l0 l1 : Int) (h : Hp), V X_Mod_keepsRow 2 [(0, 2, l0), (1, 0, l1)] [] h (R2 l0 l1 h)) (l0 l1 : Int) (h : Hp) : V X_Mod_keepsRow 2 [(0, 2, l0), (1, 0, l1)] [] h (Mod_keepsRow_L2s F  R2 l0 l1 h) := by
  unfold Mod_keepsRow_L2s
  refine V_iload_n (pc := 2) (DCa dc_Mod_keepsRow_0 2 rfl) rfl 1 rfl ?_
  refine V_sipush (pc := 3) (DCa dc_Mod_keepsRow_0 3 rfl) (by decide) ?_
  refine V_icmp_ge (tgt := 27) (pc := 6) (DCa dc_Mod_keepsRow_0 4 rfl) (by decide) (fun _ => ?_) (fun _ => ?_)
  · refine V_aload_n (pc := 9) (DCa dc_Mod_keepsRow_0 5 rfl) rfl 0 rfl ?_
    refine Q_getf (k := 62) (pc := 10) (DCa dc_Mod_keepsRow_0 6 rfl) cls_12 (Nat.le_of_ble_eq_true rfl) fl_12_152 rfl rfl rfl (fun v1 => ?_)
    refine V_iload_n (pc := 13) (DCa dc_Mod_keepsRow_0 7 rfl) rfl 1 rfl ?_
    refine V_aload_n (pc := 14) (DCa dc_Mod_keepsRow_0 8 rfl) rfl 0 rfl ?_
    refine Q_getf (k := 63) (pc := 15) (DCa dc_Mod_keepsRow_0 9 rfl) cls_12 (Nat.le_of_ble_eq_true rfl) fl_12_155 rfl rfl rfl (fun v2 => ?_)
    refine V_iload_n (pc := 18) (DCa dc_Mod_keepsRow_0 10 rfl) rfl 1 rfl ?_
    refine Q_iaload (pc := 19) (DCa dc_Mod_keepsRow_0 11 rfl) (fun v3 => ?_)
    refine Q_iastore (pc := 20) (DCa dc_Mod_keepsRow_0 12 rfl) (fun h4 => ?_)
    refine V_iinc (ls' := [(0, 2, l0), (1, 0, w32 (l1 + 1))]) (pc := 21) (DCa dc_Mod_keepsRow_0 13 rfl) (Nat.le_of_ble_eq_true rfl) (by decide) 1 rfl rfl ?_
    refine V_goto (tgt := 2) (pc := 24) (DCa dc_Mod_keepsRow_0 14 rfl) (by decide) ?_
    exact hR2 _ _ _
  · exact V_return (pc := 27) (DCa dc_Mod_keepsRow_0 15 rfl) rfl
theorem v_Mod_keepsRow_L2 (F : Nat)  (n : Nat) : ∀ (l0 l1 : Int) (h : Hp), V X_Mod_keepsRow 2 [(0, 2, l0), (1, 0, l1)] [] h (Mod_keepsRow_L2 F  n l0 l1 h) := by
  induction n with
  | zero => intros; exact V_none
  | succ n ih => exact fun l0 l1 h => v_Mod_keepsRow_L2s F  _ ih l0 l1 h
theorem v_Mod_keepsRow (F : Nat) (l0 : Int) (h : Hp) : V X_Mod_keepsRow 0 [(0, 2, l0)] [] h (Mod_keepsRow F l0 h) := by
  unfold Mod_keepsRow
  refine V_iconst (pc := 0) (DCa dc_Mod_keepsRow_0 0 rfl) (by decide) ?_
  refine V_istore_n (ls' := [(0, 2, l0), (1, 0, 0)]) (pc := 1) (DCa dc_Mod_keepsRow_0 1 rfl) rfl (Nat.le_of_ble_eq_true rfl) rfl ?_
  exact v_Mod_keepsRow_L2 F F _ _ _
theorem sp_Mod_keepsRow (F : Nat) (l0 : Int) (h : Hp) : Sp yX12_keepsRow cX12_keepsRow 2 none 1 20 [(2, l0)] h (Mod_keepsRow F l0 h) := Sp_of (by decide +kernel) rfl rfl (Nat.le_of_ble_eq_true rfl) (v_Mod_keepsRow F l0 h)

-- TideRakesModel.in
def Mod_in (F : Nat) (l0 l1 l2 : Int) (h : Hp) : Option (Int × Hp) :=
  if l0 < l1 then
    (rz 0 h)
  else
    (if l2 < l0 then
      (rz 0 h)
    else
      (rz 1 h))

theorem dc_Mod_in_0 : ∀ q ∈ ([(0, .iload_n 0, 1), (1, .iload_n 1, 1), (2, .if_icmp .lt 12, 3), (5, .iload_n 0, 1), (6, .iload_n 2, 1), (7, .if_icmp .gt 7, 3), (10, .iconst 1, 1), (11, .goto 4, 3), (14, .iconst 0, 1), (15, .ireturn, 1)] : List (Nat × Instr × Nat)), decode cX12_in q.1 = .ok (q.2.1, q.2.2) := by decide +kernel
abbrev X_Mod_in : MX := (cX12_in, RX12, "in", 3, (some (.boolean)), 1, 20)
theorem v_Mod_in (F : Nat) (l0 l1 l2 : Int) (h : Hp) : V X_Mod_in 0 [(0, 0, l0), (1, 0, l1), (2, 0, l2)] [] h (Mod_in F l0 l1 l2 h) := by
  unfold Mod_in
  refine V_iload_n (pc := 0) (DCa dc_Mod_in_0 0 rfl) rfl 0 rfl ?_
  refine V_iload_n (pc := 1) (DCa dc_Mod_in_0 1 rfl) rfl 1 rfl ?_
  refine V_icmp_lt (tgt := 14) (pc := 2) (DCa dc_Mod_in_0 2 rfl) (by decide) (fun _ => ?_) (fun _ => ?_)
  · refine V_iconst (pc := 14) (DCa dc_Mod_in_0 8 rfl) (by decide) ?_
    exact V_zreturn (pc := 15) (DCa dc_Mod_in_0 9 rfl) rfl
  · refine V_iload_n (pc := 5) (DCa dc_Mod_in_0 3 rfl) rfl 0 rfl ?_
    refine V_iload_n (pc := 6) (DCa dc_Mod_in_0 4 rfl) rfl 2 rfl ?_
    refine V_icmp_gt (tgt := 14) (pc := 7) (DCa dc_Mod_in_0 5 rfl) (by decide) (fun _ => ?_) (fun _ => ?_)
    · refine V_iconst (pc := 14) (DCa dc_Mod_in_0 8 rfl) (by decide) ?_
      exact V_zreturn (pc := 15) (DCa dc_Mod_in_0 9 rfl) rfl
    · refine V_iconst (pc := 10) (DCa dc_Mod_in_0 6 rfl) (by decide) ?_
      refine V_goto (tgt := 15) (pc := 11) (DCa dc_Mod_in_0 7 rfl) (by decide) ?_
      exact V_zreturn (pc := 15) (DCa dc_Mod_in_0 9 rfl) rfl
theorem sp_Mod_in (F : Nat) (l0 l1 l2 : Int) (h : Hp) : Sp yX12_in cX12_in 3 (some (.boolean)) 1 20 [(0, l0), (0, l1), (0, l2)] h (Mod_in F l0 l1 l2 h) := Sp_of (by decide +kernel) rfl rfl (Nat.le_of_ble_eq_true rfl) (v_Mod_in F l0 l1 l2 h)

-- TideRakesModel.isHolding
def Mod_isHolding (F : Nat) (l0 l1 l2 : Int) (h : Hp) : Option (Int × Hp) :=
  gf h l0 112 59 fun v1 =>
  al h v1 0 (w32 ((w32 (600 * l1)) + l2)) fun v2 =>
  gf h l0 112 31 fun v3 =>
  gf h l0 112 18 fun v4 =>
  al h v3 0 v4 fun v5 =>
  gf h l0 112 32 fun v6 =>
  gf h l0 112 18 fun v7 =>
  al h v6 0 v7 fun v8 =>
  cl (Mod_in F v2 v5 v8 h) fun r9 h10 =>
  rz r9 h10

theorem dc_Mod_isHolding_0 : ∀ q ∈ ([(0, .aload_n 0, 1), (1, .getfield 143, 3), (4, .sipush 600, 3), (7, .iload_n 1, 1), (8, .imul, 1), (9, .iload_n 2, 1), (10, .iadd, 1), (11, .iaload, 1), (12, .aload_n 0, 1), (13, .getfield 70, 3), (16, .aload_n 0, 1), (17, .getfield 281, 3), (20, .iaload, 1), (21, .aload_n 0, 1), (22, .getfield 73, 3), (25, .aload_n 0, 1), (26, .getfield 281, 3), (29, .iaload, 1), (30, .invokestatic 355, 3), (33, .ireturn, 1)] : List (Nat × Instr × Nat)), decode cX12_isHolding q.1 = .ok (q.2.1, q.2.2) := by decide +kernel
abbrev X_Mod_isHolding : MX := (cX12_isHolding, RX12, "isHolding", 3, (some (.boolean)), 2, 42)
theorem v_Mod_isHolding (F : Nat) (l0 l1 l2 : Int) (h : Hp) : V X_Mod_isHolding 0 [(0, 2, l0), (1, 0, l1), (2, 0, l2)] [] h (Mod_isHolding F l0 l1 l2 h) := by
  unfold Mod_isHolding
  refine V_aload_n (pc := 0) (DCa dc_Mod_isHolding_0 0 rfl) rfl 0 rfl ?_
  refine Q_getf (k := 59) (pc := 1) (DCa dc_Mod_isHolding_0 1 rfl) cls_12 (Nat.le_of_ble_eq_true rfl) fl_12_143 rfl rfl rfl (fun v1 => ?_)
  refine V_sipush (pc := 4) (DCa dc_Mod_isHolding_0 2 rfl) (by decide) ?_
  refine V_iload_n (pc := 7) (DCa dc_Mod_isHolding_0 3 rfl) rfl 1 rfl ?_
  refine V_imul (pc := 8) (DCa dc_Mod_isHolding_0 4 rfl) ?_
  refine V_iload_n (pc := 9) (DCa dc_Mod_isHolding_0 5 rfl) rfl 2 rfl ?_
  refine V_iadd (pc := 10) (DCa dc_Mod_isHolding_0 6 rfl) ?_
  refine Q_iaload (pc := 11) (DCa dc_Mod_isHolding_0 7 rfl) (fun v2 => ?_)
  refine V_aload_n (pc := 12) (DCa dc_Mod_isHolding_0 8 rfl) rfl 0 rfl ?_
  refine Q_getf (k := 31) (pc := 13) (DCa dc_Mod_isHolding_0 9 rfl) cls_12 (Nat.le_of_ble_eq_true rfl) fl_12_70 rfl rfl rfl (fun v3 => ?_)
  refine V_aload_n (pc := 16) (DCa dc_Mod_isHolding_0 10 rfl) rfl 0 rfl ?_
  refine Q_getf (k := 18) (pc := 17) (DCa dc_Mod_isHolding_0 11 rfl) cls_12 (Nat.le_of_ble_eq_true rfl) fl_12_281 rfl rfl rfl (fun v4 => ?_)
  refine Q_iaload (pc := 20) (DCa dc_Mod_isHolding_0 12 rfl) (fun v5 => ?_)
  refine V_aload_n (pc := 21) (DCa dc_Mod_isHolding_0 13 rfl) rfl 0 rfl ?_
  refine Q_getf (k := 32) (pc := 22) (DCa dc_Mod_isHolding_0 14 rfl) cls_12 (Nat.le_of_ble_eq_true rfl) fl_12_73 rfl rfl rfl (fun v6 => ?_)
  refine V_aload_n (pc := 25) (DCa dc_Mod_isHolding_0 15 rfl) rfl 0 rfl ?_
  refine Q_getf (k := 18) (pc := 26) (DCa dc_Mod_isHolding_0 16 rfl) cls_12 (Nat.le_of_ble_eq_true rfl) fl_12_281 rfl rfl rfl (fun v7 => ?_)
  refine Q_iaload (pc := 29) (DCa dc_Mod_isHolding_0 17 rfl) (fun v8 => ?_)
  refine Q_calls (st := []) (pc := 30) (DCa dc_Mod_isHolding_0 18 rfl) (sp_Mod_in F _ _ _ _) ce_Mod_in ml_12_355 rfl ⟨Nat.le_of_ble_eq_true rfl, Nat.le_of_ble_eq_true rfl⟩ rfl (Nat.le_of_ble_eq_true rfl) (fun r9 h10 => ?_)
  exact V_zreturn (pc := 33) (DCa dc_Mod_isHolding_0 19 rfl) rfl
theorem sp_Mod_isHolding (F : Nat) (l0 l1 l2 : Int) (h : Hp) : Sp yX12_isHolding cX12_isHolding 3 (some (.boolean)) 2 42 [(2, l0), (0, l1), (0, l2)] h (Mod_isHolding F l0 l1 l2 h) := Sp_of (by decide +kernel) rfl rfl (Nat.le_of_ble_eq_true rfl) (v_Mod_isHolding F l0 l1 l2 h)

-- TideRakesModel.setsOf
def Mod_setsOf (F : Nat) (l0 l1 l2 l3 l4 l5 : Int) (h : Hp) : Option (Int × Hp) :=
  gf h l0 112 49 fun v1 =>
  as h v1 0 0 l1 fun h2 =>
  gf h2 l0 112 49 fun v3 =>
  as h2 v3 0 1 l2 fun h4 =>
  gf h4 l0 112 49 fun v5 =>
  as h4 v5 0 2 l3 fun h6 =>
  gf h6 l0 112 49 fun v7 =>
  as h6 v7 0 3 l4 fun h8 =>
  gf h8 l0 112 49 fun v9 =>
  as h8 v9 0 4 l5 fun h10 =>
  some (0, h10)

theorem dc_Mod_setsOf_0 : ∀ q ∈ ([(0, .aload_n 0, 1), (1, .getfield 116, 3), (4, .iconst 0, 1), (5, .iload_n 1, 1), (6, .iastore, 1), (7, .aload_n 0, 1), (8, .getfield 116, 3), (11, .iconst 1, 1), (12, .iload_n 2, 1), (13, .iastore, 1), (14, .aload_n 0, 1), (15, .getfield 116, 3), (18, .iconst 2, 1), (19, .iload_n 3, 1), (20, .iastore, 1), (21, .aload_n 0, 1), (22, .getfield 116, 3), (25, .iconst 3, 1), (26, .iload 4, 2), (28, .iastore, 1), (29, .aload_n 0, 1), (30, .getfield 116, 3), (33, .iconst 4, 1), (34, .iload 5, 2), (36, .iastore, 1), (37, .return_, 1)] : List (Nat × Instr × Nat)), decode cX12_setsOf q.1 = .ok (q.2.1, q.2.2) := by decide +kernel
abbrev X_Mod_setsOf : MX := (cX12_setsOf, RX12, "setsOf", 6, none, 1, 20)
theorem v_Mod_setsOf (F : Nat) (l0 l1 l2 l3 l4 l5 : Int) (h : Hp) : V X_Mod_setsOf 0 [(0, 2, l0), (1, 0, l1), (2, 0, l2), (3, 0, l3), (4, 0, l4), (5, 0, l5)] [] h (Mod_setsOf F l0 l1 l2 l3 l4 l5 h) := by
  unfold Mod_setsOf
  refine V_aload_n (pc := 0) (DCa dc_Mod_setsOf_0 0 rfl) rfl 0 rfl ?_
  refine Q_getf (k := 49) (pc := 1) (DCa dc_Mod_setsOf_0 1 rfl) cls_12 (Nat.le_of_ble_eq_true rfl) fl_12_116 rfl rfl rfl (fun v1 => ?_)
  refine V_iconst (pc := 4) (DCa dc_Mod_setsOf_0 2 rfl) (by decide) ?_
  refine V_iload_n (pc := 5) (DCa dc_Mod_setsOf_0 3 rfl) rfl 1 rfl ?_
  refine Q_iastore (pc := 6) (DCa dc_Mod_setsOf_0 4 rfl) (fun h2 => ?_)
  refine V_aload_n (pc := 7) (DCa dc_Mod_setsOf_0 5 rfl) rfl 0 rfl ?_
  refine Q_getf (k := 49) (pc := 8) (DCa dc_Mod_setsOf_0 6 rfl) cls_12 (Nat.le_of_ble_eq_true rfl) fl_12_116 rfl rfl rfl (fun v3 => ?_)
  refine V_iconst (pc := 11) (DCa dc_Mod_setsOf_0 7 rfl) (by decide) ?_
  refine V_iload_n (pc := 12) (DCa dc_Mod_setsOf_0 8 rfl) rfl 2 rfl ?_
  refine Q_iastore (pc := 13) (DCa dc_Mod_setsOf_0 9 rfl) (fun h4 => ?_)
  refine V_aload_n (pc := 14) (DCa dc_Mod_setsOf_0 10 rfl) rfl 0 rfl ?_
  refine Q_getf (k := 49) (pc := 15) (DCa dc_Mod_setsOf_0 11 rfl) cls_12 (Nat.le_of_ble_eq_true rfl) fl_12_116 rfl rfl rfl (fun v5 => ?_)
  refine V_iconst (pc := 18) (DCa dc_Mod_setsOf_0 12 rfl) (by decide) ?_
  refine V_iload_n (pc := 19) (DCa dc_Mod_setsOf_0 13 rfl) rfl 3 rfl ?_
  refine Q_iastore (pc := 20) (DCa dc_Mod_setsOf_0 14 rfl) (fun h6 => ?_)
  refine V_aload_n (pc := 21) (DCa dc_Mod_setsOf_0 15 rfl) rfl 0 rfl ?_
  refine Q_getf (k := 49) (pc := 22) (DCa dc_Mod_setsOf_0 16 rfl) cls_12 (Nat.le_of_ble_eq_true rfl) fl_12_116 rfl rfl rfl (fun v7 => ?_)
  refine V_iconst (pc := 25) (DCa dc_Mod_setsOf_0 17 rfl) (by decide) ?_
  refine V_iload (pc := 26) (DCa dc_Mod_setsOf_0 18 rfl) 4 rfl ?_
  refine Q_iastore (pc := 28) (DCa dc_Mod_setsOf_0 19 rfl) (fun h8 => ?_)
  refine V_aload_n (pc := 29) (DCa dc_Mod_setsOf_0 20 rfl) rfl 0 rfl ?_
  refine Q_getf (k := 49) (pc := 30) (DCa dc_Mod_setsOf_0 21 rfl) cls_12 (Nat.le_of_ble_eq_true rfl) fl_12_116 rfl rfl rfl (fun v9 => ?_)
  refine V_iconst (pc := 33) (DCa dc_Mod_setsOf_0 22 rfl) (by decide) ?_
  refine V_iload (pc := 34) (DCa dc_Mod_setsOf_0 23 rfl) 5 rfl ?_
  refine Q_iastore (pc := 36) (DCa dc_Mod_setsOf_0 24 rfl) (fun h10 => ?_)
  exact V_return (pc := 37) (DCa dc_Mod_setsOf_0 25 rfl) rfl
theorem sp_Mod_setsOf (F : Nat) (l0 l1 l2 l3 l4 l5 : Int) (h : Hp) : Sp yX12_setsOf cX12_setsOf 6 none 1 20 [(2, l0), (0, l1), (0, l2), (0, l3), (0, l4), (0, l5)] h (Mod_setsOf F l0 l1 l2 l3 l4 l5 h) := Sp_of (by decide +kernel) rfl rfl (Nat.le_of_ble_eq_true rfl) (v_Mod_setsOf F l0 l1 l2 l3 l4 l5 h)

-- TideRakesModel.termOf
def Mod_termOf_B104 (F : Nat) (R5 : Int → Int → Int → Int → Hp → Option (Int × Hp)) (l0 l2 l3 l4 l5 l6 l7 : Int) (h : Hp) : Option (Int × Hp) :=
  gf h l0 112 50 fun v19 =>
  if l5 = 2 then
    (as h v19 0 (w32 (l3 - 1)) (w32 (l6 + l7)) fun h20 =>
    R5 l0 l2 l3 (w32 (l4 + 1)) h20)
  else
    (if l5 = 3 then
      (as h v19 0 (w32 (l3 - 1)) (w32 (l6 - l7)) fun h21 =>
      R5 l0 l2 l3 (w32 (l4 + 1)) h21)
    else
      (if l5 = 4 then
        (as h v19 0 (w32 (l3 - 1)) (w32 (l6 * l7)) fun h22 =>
        R5 l0 l2 l3 (w32 (l4 + 1)) h22)
      else
        (dv l6 l7 fun v23 =>
        as h v19 0 (w32 (l3 - 1)) v23 fun h24 =>
        R5 l0 l2 l3 (w32 (l4 + 1)) h24)))
def Mod_termOf_L5s (F : Nat)  (R5 : Int → Int → Int → Int → Hp → Option (Int × Hp)) (l0 l2 l3 l4 : Int) (h : Hp) : Option (Int × Hp) :=
  if l4 < l2 then
    (gf h l0 112 45 fun v1 =>
    al h v1 0 l4 fun v2 =>
    if v2 < 2 then
      (gf h l0 112 50 fun v3 =>
      if v2 = 0 then
        (gf h l0 112 46 fun v4 =>
        al h v4 0 l4 fun v5 =>
        as h v3 0 l3 v5 fun h6 =>
        R5 l0 l2 (w32 (l3 + 1)) (w32 (l4 + 1)) h6)
      else
        (gf h l0 112 49 fun v7 =>
        gf h l0 112 46 fun v8 =>
        al h v8 0 l4 fun v9 =>
        al h v7 0 v9 fun v10 =>
        as h v3 0 l3 v10 fun h11 =>
        R5 l0 l2 (w32 (l3 + 1)) (w32 (l4 + 1)) h11))
    else
      (gf h l0 112 50 fun v12 =>
      al h v12 0 (w32 ((w32 (l3 + (-1))) - 1)) fun v13 =>
      gf h l0 112 50 fun v14 =>
      al h v14 0 (w32 (l3 + (-1))) fun v15 =>
      if v2 = 5 then
        (if v15 = 0 then
          (pz h l0 112 51 1 fun h16 =>
          some (0, h16))
        else
          (Mod_termOf_B104 F R5 l0 l2 (w32 (l3 + (-1))) l4 v2 v13 v15 h))
      else
        (Mod_termOf_B104 F R5 l0 l2 (w32 (l3 + (-1))) l4 v2 v13 v15 h)))
  else
    (gf h l0 112 50 fun v17 =>
    al h v17 0 0 fun v18 =>
    some (v18, h))
def Mod_termOf_L5 (F : Nat)  : Nat → Int → Int → Int → Int → Hp → Option (Int × Hp)
  | 0 => fun _ _ _ _ _ => none
  | n + 1 => Mod_termOf_L5s F  (Mod_termOf_L5 F  n)
def Mod_termOf (F : Nat) (l0 l1 l2 : Int) (h : Hp) : Option (Int × Hp) :=
  Mod_termOf_L5 F F l0 l2 0 l1 h

theorem dc_Mod_termOf_0 : ∀ q ∈ ([(0, .iconst 0, 1), (1, .istore_n 3, 1), (2, .iload_n 1, 1), (3, .istore 4, 2), (5, .iload 4, 2), (7, .iload_n 2, 1), (8, .if_icmp .ge 157, 3), (11, .aload_n 0, 1), (12, .getfield 107, 3), (15, .iload 4, 2), (17, .iaload, 1), (18, .istore 5, 2), (20, .iload 5, 2), (22, .iconst 2, 1), (23, .if_icmp .ge 42, 3), (26, .aload_n 0, 1), (27, .getfield 119, 3), (30, .iload_n 3, 1), (31, .iload 5, 2), (33, .ifCond .ne 13, 3), (36, .aload_n 0, 1), (37, .getfield 110, 3), (40, .iload 4, 2), (42, .iaload, 1), (43, .goto 15, 3), (46, .aload_n 0, 1), (47, .getfield 116, 3), (50, .aload_n 0, 1), (51, .getfield 110, 3), (54, .iload 4, 2), (56, .iaload, 1), (57, .iaload, 1), (58, .iastore, 1), (59, .iinc 3 1, 3), (62, .goto 97, 3), (65, .iinc 3 (-1), 3), (68, .aload_n 0, 1), (69, .getfield 119, 3), (72, .iload_n 3, 1), (73, .iconst 1, 1), (74, .isub, 1), (75, .iaload, 1), (76, .istore 6, 2), (78, .aload_n 0, 1), (79, .getfield 119, 3), (82, .iload_n 3, 1), (83, .iaload, 1), (84, .istore 7, 2), (86, .iload 5, 2), (88, .iconst 5, 1)] : List (Nat × Instr × Nat)), decode cX12_termOf q.1 = .ok (q.2.1, q.2.2) := by decide +kernel
theorem dc_Mod_termOf_1 : ∀ q ∈ ([(89, .if_icmp .ne 15, 3), (92, .iload 7, 2), (94, .ifCond .ne 10, 3), (97, .aload_n 0, 1), (98, .iconst 1, 1), (99, .putfield 351, 3), (102, .iconst 0, 1), (103, .ireturn, 1), (104, .aload_n 0, 1), (105, .getfield 119, 3), (108, .iload_n 3, 1), (109, .iconst 1, 1), (110, .isub, 1), (111, .iload 5, 2), (113, .iconst 2, 1), (114, .if_icmp .ne 11, 3), (117, .iload 6, 2), (119, .iload 7, 2), (121, .iadd, 1), (122, .goto 36, 3), (125, .iload 5, 2), (127, .iconst 3, 1), (128, .if_icmp .ne 11, 3), (131, .iload 6, 2), (133, .iload 7, 2), (135, .isub, 1), (136, .goto 22, 3), (139, .iload 5, 2), (141, .iconst 4, 1), (142, .if_icmp .ne 11, 3), (145, .iload 6, 2), (147, .iload 7, 2), (149, .imul, 1), (150, .goto 8, 3), (153, .iload 6, 2), (155, .iload 7, 2), (157, .idiv, 1), (158, .iastore, 1), (159, .iinc 4 1, 3), (162, .goto (-157), 3), (165, .aload_n 0, 1), (166, .getfield 119, 3), (169, .iconst 0, 1), (170, .iaload, 1), (171, .ireturn, 1)] : List (Nat × Instr × Nat)), decode cX12_termOf q.1 = .ok (q.2.1, q.2.2) := by decide +kernel
abbrev X_Mod_termOf : MX := (cX12_termOf, RX12, "termOf", 8, (some (.int)), 1, 20)
theorem v_Mod_termOf_B104 (F : Nat) (R5 : Int → Int → Int → Int → Hp → Option (Int × Hp)) (hR5 : ∀ (l0 l2 l3 l4 : Int) (h : Hp), V X_Mod_termOf 5 [(0, 2, l0), (2, 0, l2), (3, 0, l3), (4, 0, l4)] [] h (R5 l0 l2 l3 l4 h)) (l0 l2 l3 l4 l5 l6 l7 : Int) (h : Hp) : V X_Mod_termOf 104 [(0, 2, l0), (2, 0, l2), (3, 0, l3), (4, 0, l4), (5, 0, l5), (6, 0, l6), (7, 0, l7)] [] h (Mod_termOf_B104 F R5 l0 l2 l3 l4 l5 l6 l7 h) := by
  unfold Mod_termOf_B104
  refine V_aload_n (pc := 104) (DCa dc_Mod_termOf_1 8 rfl) rfl 0 rfl ?_
  refine Q_getf (k := 50) (pc := 105) (DCa dc_Mod_termOf_1 9 rfl) cls_12 (Nat.le_of_ble_eq_true rfl) fl_12_119 rfl rfl rfl (fun v19 => ?_)
  refine V_iload_n (pc := 108) (DCa dc_Mod_termOf_1 10 rfl) rfl 2 rfl ?_
  refine V_iconst (pc := 109) (DCa dc_Mod_termOf_1 11 rfl) (by decide) ?_
  refine V_isub (pc := 110) (DCa dc_Mod_termOf_1 12 rfl) ?_
  refine V_iload (pc := 111) (DCa dc_Mod_termOf_1 13 rfl) 4 rfl ?_
  refine V_iconst (pc := 113) (DCa dc_Mod_termOf_1 14 rfl) (by decide) ?_
  refine V_icmp_ne (tgt := 125) (pc := 114) (DCa dc_Mod_termOf_1 15 rfl) (by decide) (fun _ => ?_) (fun _ => ?_)
  · refine V_iload (pc := 117) (DCa dc_Mod_termOf_1 16 rfl) 5 rfl ?_
    refine V_iload (pc := 119) (DCa dc_Mod_termOf_1 17 rfl) 6 rfl ?_
    refine V_iadd (pc := 121) (DCa dc_Mod_termOf_1 18 rfl) ?_
    refine V_goto (tgt := 158) (pc := 122) (DCa dc_Mod_termOf_1 19 rfl) (by decide) ?_
    refine Q_iastore (pc := 158) (DCa dc_Mod_termOf_1 37 rfl) (fun h20 => ?_)
    refine V_iinc (ls' := [(0, 2, l0), (2, 0, l2), (3, 0, l3), (4, 0, w32 (l4 + 1)), (5, 0, l5), (6, 0, l6), (7, 0, l7)]) (pc := 159) (DCa dc_Mod_termOf_1 38 rfl) (Nat.le_of_ble_eq_true rfl) (by decide) 3 rfl rfl ?_
    refine V_goto (tgt := 5) (pc := 162) (DCa dc_Mod_termOf_1 39 rfl) (by decide) ?_
    refine V_pick [0, 1, 2, 3] rfl ?_
    exact hR5 _ _ _ _ _
  · refine V_iload (pc := 125) (DCa dc_Mod_termOf_1 20 rfl) 4 rfl ?_
    refine V_iconst (pc := 127) (DCa dc_Mod_termOf_1 21 rfl) (by decide) ?_
    refine V_icmp_ne (tgt := 139) (pc := 128) (DCa dc_Mod_termOf_1 22 rfl) (by decide) (fun _ => ?_) (fun _ => ?_)
    · refine V_iload (pc := 131) (DCa dc_Mod_termOf_1 23 rfl) 5 rfl ?_
      refine V_iload (pc := 133) (DCa dc_Mod_termOf_1 24 rfl) 6 rfl ?_
      refine V_isub (pc := 135) (DCa dc_Mod_termOf_1 25 rfl) ?_
      refine V_goto (tgt := 158) (pc := 136) (DCa dc_Mod_termOf_1 26 rfl) (by decide) ?_
      refine Q_iastore (pc := 158) (DCa dc_Mod_termOf_1 37 rfl) (fun h21 => ?_)
      refine V_iinc (ls' := [(0, 2, l0), (2, 0, l2), (3, 0, l3), (4, 0, w32 (l4 + 1)), (5, 0, l5), (6, 0, l6), (7, 0, l7)]) (pc := 159) (DCa dc_Mod_termOf_1 38 rfl) (Nat.le_of_ble_eq_true rfl) (by decide) 3 rfl rfl ?_
      refine V_goto (tgt := 5) (pc := 162) (DCa dc_Mod_termOf_1 39 rfl) (by decide) ?_
      refine V_pick [0, 1, 2, 3] rfl ?_
      exact hR5 _ _ _ _ _
    · refine V_iload (pc := 139) (DCa dc_Mod_termOf_1 27 rfl) 4 rfl ?_
      refine V_iconst (pc := 141) (DCa dc_Mod_termOf_1 28 rfl) (by decide) ?_
      refine V_icmp_ne (tgt := 153) (pc := 142) (DCa dc_Mod_termOf_1 29 rfl) (by decide) (fun _ => ?_) (fun _ => ?_)
      · refine V_iload (pc := 145) (DCa dc_Mod_termOf_1 30 rfl) 5 rfl ?_
        refine V_iload (pc := 147) (DCa dc_Mod_termOf_1 31 rfl) 6 rfl ?_
        refine V_imul (pc := 149) (DCa dc_Mod_termOf_1 32 rfl) ?_
        refine V_goto (tgt := 158) (pc := 150) (DCa dc_Mod_termOf_1 33 rfl) (by decide) ?_
        refine Q_iastore (pc := 158) (DCa dc_Mod_termOf_1 37 rfl) (fun h22 => ?_)
        refine V_iinc (ls' := [(0, 2, l0), (2, 0, l2), (3, 0, l3), (4, 0, w32 (l4 + 1)), (5, 0, l5), (6, 0, l6), (7, 0, l7)]) (pc := 159) (DCa dc_Mod_termOf_1 38 rfl) (Nat.le_of_ble_eq_true rfl) (by decide) 3 rfl rfl ?_
        refine V_goto (tgt := 5) (pc := 162) (DCa dc_Mod_termOf_1 39 rfl) (by decide) ?_
        refine V_pick [0, 1, 2, 3] rfl ?_
        exact hR5 _ _ _ _ _
      · refine V_iload (pc := 153) (DCa dc_Mod_termOf_1 34 rfl) 5 rfl ?_
        refine V_iload (pc := 155) (DCa dc_Mod_termOf_1 35 rfl) 6 rfl ?_
        refine Q_idiv (pc := 157) (DCa dc_Mod_termOf_1 36 rfl) (fun v23 => ?_)
        refine Q_iastore (pc := 158) (DCa dc_Mod_termOf_1 37 rfl) (fun h24 => ?_)
        refine V_iinc (ls' := [(0, 2, l0), (2, 0, l2), (3, 0, l3), (4, 0, w32 (l4 + 1)), (5, 0, l5), (6, 0, l6), (7, 0, l7)]) (pc := 159) (DCa dc_Mod_termOf_1 38 rfl) (Nat.le_of_ble_eq_true rfl) (by decide) 3 rfl rfl ?_
        refine V_goto (tgt := 5) (pc := 162) (DCa dc_Mod_termOf_1 39 rfl) (by decide) ?_
        refine V_pick [0, 1, 2, 3] rfl ?_
        exact hR5 _ _ _ _ _
theorem v_Mod_termOf_L5s (F : Nat)  (R5 : Int → Int → Int → Int → Hp → Option (Int × Hp)) (hR5 : ∀ (l0 l2 l3 l4 : Int) (h : Hp), V X_Mod_termOf 5 [(0, 2, l0), (2, 0, l2), (3, 0, l3), (4, 0, l4)] [] h (R5 l0 l2 l3 l4 h)) (l0 l2 l3 l4 : Int) (h : Hp) : V X_Mod_termOf 5 [(0, 2, l0), (2, 0, l2), (3, 0, l3), (4, 0, l4)] [] h (Mod_termOf_L5s F  R5 l0 l2 l3 l4 h) := by
  unfold Mod_termOf_L5s
  refine V_iload (pc := 5) (DCa dc_Mod_termOf_0 4 rfl) 3 rfl ?_
  refine V_iload_n (pc := 7) (DCa dc_Mod_termOf_0 5 rfl) rfl 1 rfl ?_
  refine V_icmp_ge (tgt := 165) (pc := 8) (DCa dc_Mod_termOf_0 6 rfl) (by decide) (fun _ => ?_) (fun _ => ?_)
  · refine V_aload_n (pc := 11) (DCa dc_Mod_termOf_0 7 rfl) rfl 0 rfl ?_
    refine Q_getf (k := 45) (pc := 12) (DCa dc_Mod_termOf_0 8 rfl) cls_12 (Nat.le_of_ble_eq_true rfl) fl_12_107 rfl rfl rfl (fun v1 => ?_)
    refine V_iload (pc := 15) (DCa dc_Mod_termOf_0 9 rfl) 3 rfl ?_
    refine Q_iaload (pc := 17) (DCa dc_Mod_termOf_0 10 rfl) (fun v2 => ?_)
    refine V_istore (ls' := [(0, 2, l0), (2, 0, l2), (3, 0, l3), (4, 0, l4), (5, 0, v2)]) (pc := 18) (DCa dc_Mod_termOf_0 11 rfl) (Nat.le_of_ble_eq_true rfl) rfl ?_
    refine V_iload (pc := 20) (DCa dc_Mod_termOf_0 12 rfl) 4 rfl ?_
    refine V_iconst (pc := 22) (DCa dc_Mod_termOf_0 13 rfl) (by decide) ?_
    refine V_icmp_ge (tgt := 65) (pc := 23) (DCa dc_Mod_termOf_0 14 rfl) (by decide) (fun _ => ?_) (fun _ => ?_)
    · refine V_aload_n (pc := 26) (DCa dc_Mod_termOf_0 15 rfl) rfl 0 rfl ?_
      refine Q_getf (k := 50) (pc := 27) (DCa dc_Mod_termOf_0 16 rfl) cls_12 (Nat.le_of_ble_eq_true rfl) fl_12_119 rfl rfl rfl (fun v3 => ?_)
      refine V_iload_n (pc := 30) (DCa dc_Mod_termOf_0 17 rfl) rfl 2 rfl ?_
      refine V_iload (pc := 31) (DCa dc_Mod_termOf_0 18 rfl) 4 rfl ?_
      refine V_if_ne (tgt := 46) (pc := 33) (DCa dc_Mod_termOf_0 19 rfl) (by decide) (fun _ => ?_) (fun _ => ?_)
      · refine V_aload_n (pc := 36) (DCa dc_Mod_termOf_0 20 rfl) rfl 0 rfl ?_
        refine Q_getf (k := 46) (pc := 37) (DCa dc_Mod_termOf_0 21 rfl) cls_12 (Nat.le_of_ble_eq_true rfl) fl_12_110 rfl rfl rfl (fun v4 => ?_)
        refine V_iload (pc := 40) (DCa dc_Mod_termOf_0 22 rfl) 3 rfl ?_
        refine Q_iaload (pc := 42) (DCa dc_Mod_termOf_0 23 rfl) (fun v5 => ?_)
        refine V_goto (tgt := 58) (pc := 43) (DCa dc_Mod_termOf_0 24 rfl) (by decide) ?_
        refine Q_iastore (pc := 58) (DCa dc_Mod_termOf_0 32 rfl) (fun h6 => ?_)
        refine V_iinc (ls' := [(0, 2, l0), (2, 0, l2), (3, 0, w32 (l3 + 1)), (4, 0, l4), (5, 0, v2)]) (pc := 59) (DCa dc_Mod_termOf_0 33 rfl) (Nat.le_of_ble_eq_true rfl) (by decide) 2 rfl rfl ?_
        refine V_goto (tgt := 159) (pc := 62) (DCa dc_Mod_termOf_0 34 rfl) (by decide) ?_
        refine V_iinc (ls' := [(0, 2, l0), (2, 0, l2), (3, 0, w32 (l3 + 1)), (4, 0, w32 (l4 + 1)), (5, 0, v2)]) (pc := 159) (DCa dc_Mod_termOf_1 38 rfl) (Nat.le_of_ble_eq_true rfl) (by decide) 3 rfl rfl ?_
        refine V_goto (tgt := 5) (pc := 162) (DCa dc_Mod_termOf_1 39 rfl) (by decide) ?_
        refine V_pick [0, 1, 2, 3] rfl ?_
        exact hR5 _ _ _ _ _
      · refine V_aload_n (pc := 46) (DCa dc_Mod_termOf_0 25 rfl) rfl 0 rfl ?_
        refine Q_getf (k := 49) (pc := 47) (DCa dc_Mod_termOf_0 26 rfl) cls_12 (Nat.le_of_ble_eq_true rfl) fl_12_116 rfl rfl rfl (fun v7 => ?_)
        refine V_aload_n (pc := 50) (DCa dc_Mod_termOf_0 27 rfl) rfl 0 rfl ?_
        refine Q_getf (k := 46) (pc := 51) (DCa dc_Mod_termOf_0 28 rfl) cls_12 (Nat.le_of_ble_eq_true rfl) fl_12_110 rfl rfl rfl (fun v8 => ?_)
        refine V_iload (pc := 54) (DCa dc_Mod_termOf_0 29 rfl) 3 rfl ?_
        refine Q_iaload (pc := 56) (DCa dc_Mod_termOf_0 30 rfl) (fun v9 => ?_)
        refine Q_iaload (pc := 57) (DCa dc_Mod_termOf_0 31 rfl) (fun v10 => ?_)
        refine Q_iastore (pc := 58) (DCa dc_Mod_termOf_0 32 rfl) (fun h11 => ?_)
        refine V_iinc (ls' := [(0, 2, l0), (2, 0, l2), (3, 0, w32 (l3 + 1)), (4, 0, l4), (5, 0, v2)]) (pc := 59) (DCa dc_Mod_termOf_0 33 rfl) (Nat.le_of_ble_eq_true rfl) (by decide) 2 rfl rfl ?_
        refine V_goto (tgt := 159) (pc := 62) (DCa dc_Mod_termOf_0 34 rfl) (by decide) ?_
        refine V_iinc (ls' := [(0, 2, l0), (2, 0, l2), (3, 0, w32 (l3 + 1)), (4, 0, w32 (l4 + 1)), (5, 0, v2)]) (pc := 159) (DCa dc_Mod_termOf_1 38 rfl) (Nat.le_of_ble_eq_true rfl) (by decide) 3 rfl rfl ?_
        refine V_goto (tgt := 5) (pc := 162) (DCa dc_Mod_termOf_1 39 rfl) (by decide) ?_
        refine V_pick [0, 1, 2, 3] rfl ?_
        exact hR5 _ _ _ _ _
    · refine V_iinc (ls' := [(0, 2, l0), (2, 0, l2), (3, 0, w32 (l3 + (-1))), (4, 0, l4), (5, 0, v2)]) (pc := 65) (DCa dc_Mod_termOf_0 35 rfl) (Nat.le_of_ble_eq_true rfl) (by decide) 2 rfl rfl ?_
      refine V_aload_n (pc := 68) (DCa dc_Mod_termOf_0 36 rfl) rfl 0 rfl ?_
      refine Q_getf (k := 50) (pc := 69) (DCa dc_Mod_termOf_0 37 rfl) cls_12 (Nat.le_of_ble_eq_true rfl) fl_12_119 rfl rfl rfl (fun v12 => ?_)
      refine V_iload_n (pc := 72) (DCa dc_Mod_termOf_0 38 rfl) rfl 2 rfl ?_
      refine V_iconst (pc := 73) (DCa dc_Mod_termOf_0 39 rfl) (by decide) ?_
      refine V_isub (pc := 74) (DCa dc_Mod_termOf_0 40 rfl) ?_
      refine Q_iaload (pc := 75) (DCa dc_Mod_termOf_0 41 rfl) (fun v13 => ?_)
      refine V_istore (ls' := [(0, 2, l0), (2, 0, l2), (3, 0, w32 (l3 + (-1))), (4, 0, l4), (5, 0, v2), (6, 0, v13)]) (pc := 76) (DCa dc_Mod_termOf_0 42 rfl) (Nat.le_of_ble_eq_true rfl) rfl ?_
      refine V_aload_n (pc := 78) (DCa dc_Mod_termOf_0 43 rfl) rfl 0 rfl ?_
      refine Q_getf (k := 50) (pc := 79) (DCa dc_Mod_termOf_0 44 rfl) cls_12 (Nat.le_of_ble_eq_true rfl) fl_12_119 rfl rfl rfl (fun v14 => ?_)
      refine V_iload_n (pc := 82) (DCa dc_Mod_termOf_0 45 rfl) rfl 2 rfl ?_
      refine Q_iaload (pc := 83) (DCa dc_Mod_termOf_0 46 rfl) (fun v15 => ?_)
      refine V_istore (ls' := [(0, 2, l0), (2, 0, l2), (3, 0, w32 (l3 + (-1))), (4, 0, l4), (5, 0, v2), (6, 0, v13), (7, 0, v15)]) (pc := 84) (DCa dc_Mod_termOf_0 47 rfl) (Nat.le_of_ble_eq_true rfl) rfl ?_
      refine V_iload (pc := 86) (DCa dc_Mod_termOf_0 48 rfl) 4 rfl ?_
      refine V_iconst (pc := 88) (DCa dc_Mod_termOf_0 49 rfl) (by decide) ?_
      refine V_icmp_ne (tgt := 104) (pc := 89) (DCa dc_Mod_termOf_1 0 rfl) (by decide) (fun _ => ?_) (fun _ => ?_)
      · refine V_iload (pc := 92) (DCa dc_Mod_termOf_1 1 rfl) 6 rfl ?_
        refine V_if_ne (tgt := 104) (pc := 94) (DCa dc_Mod_termOf_1 2 rfl) (by decide) (fun _ => ?_) (fun _ => ?_)
        · refine V_aload_n (pc := 97) (DCa dc_Mod_termOf_1 3 rfl) rfl 0 rfl ?_
          refine V_iconst (pc := 98) (DCa dc_Mod_termOf_1 4 rfl) (by decide) ?_
          refine Q_putz (k := 51) (pc := 99) (DCa dc_Mod_termOf_1 5 rfl) cls_12 (Nat.le_of_ble_eq_true rfl) fl_12_351 rfl rfl rfl (Or.inl rfl) rfl (fun h16 => ?_)
          refine V_iconst (pc := 102) (DCa dc_Mod_termOf_1 6 rfl) (by decide) ?_
          exact V_ireturn (pc := 103) (DCa dc_Mod_termOf_1 7 rfl) rfl
        · exact v_Mod_termOf_B104 F R5 hR5 _ _ _ _ _ _ _ _
      · exact v_Mod_termOf_B104 F R5 hR5 _ _ _ _ _ _ _ _
  · refine V_aload_n (pc := 165) (DCa dc_Mod_termOf_1 40 rfl) rfl 0 rfl ?_
    refine Q_getf (k := 50) (pc := 166) (DCa dc_Mod_termOf_1 41 rfl) cls_12 (Nat.le_of_ble_eq_true rfl) fl_12_119 rfl rfl rfl (fun v17 => ?_)
    refine V_iconst (pc := 169) (DCa dc_Mod_termOf_1 42 rfl) (by decide) ?_
    refine Q_iaload (pc := 170) (DCa dc_Mod_termOf_1 43 rfl) (fun v18 => ?_)
    exact V_ireturn (pc := 171) (DCa dc_Mod_termOf_1 44 rfl) rfl
theorem v_Mod_termOf_L5 (F : Nat)  (n : Nat) : ∀ (l0 l2 l3 l4 : Int) (h : Hp), V X_Mod_termOf 5 [(0, 2, l0), (2, 0, l2), (3, 0, l3), (4, 0, l4)] [] h (Mod_termOf_L5 F  n l0 l2 l3 l4 h) := by
  induction n with
  | zero => intros; exact V_none
  | succ n ih => exact fun l0 l2 l3 l4 h => v_Mod_termOf_L5s F  _ ih l0 l2 l3 l4 h
theorem v_Mod_termOf (F : Nat) (l0 l1 l2 : Int) (h : Hp) : V X_Mod_termOf 0 [(0, 2, l0), (1, 0, l1), (2, 0, l2)] [] h (Mod_termOf F l0 l1 l2 h) := by
  unfold Mod_termOf
  refine V_iconst (pc := 0) (DCa dc_Mod_termOf_0 0 rfl) (by decide) ?_
  refine V_istore_n (ls' := [(0, 2, l0), (1, 0, l1), (2, 0, l2), (3, 0, 0)]) (pc := 1) (DCa dc_Mod_termOf_0 1 rfl) rfl (Nat.le_of_ble_eq_true rfl) rfl ?_
  refine V_iload_n (pc := 2) (DCa dc_Mod_termOf_0 2 rfl) rfl 1 rfl ?_
  refine V_istore (ls' := [(0, 2, l0), (1, 0, l1), (2, 0, l2), (3, 0, 0), (4, 0, l1)]) (pc := 3) (DCa dc_Mod_termOf_0 3 rfl) (Nat.le_of_ble_eq_true rfl) rfl ?_
  refine V_pick [0, 2, 3, 4] rfl ?_
  exact v_Mod_termOf_L5 F F _ _ _ _ _
theorem sp_Mod_termOf (F : Nat) (l0 l1 l2 : Int) (h : Hp) : Sp yX12_termOf cX12_termOf 8 (some (.int)) 1 20 [(2, l0), (0, l1), (0, l2)] h (Mod_termOf F l0 l1 l2 h) := Sp_of (by decide +kernel) rfl rfl (Nat.le_of_ble_eq_true rfl) (v_Mod_termOf F l0 l1 l2 h)

-- TideRakesModel.tells
def Mod_tells_B144 (F : Nat)  (l0 l3 l4 l6 : Int) (h : Hp) : Option (Int × Hp) :=
  gf h l0 112 42 fun v27 =>
  al h v27 0 l6 fun v28 =>
  gf h l0 112 43 fun v29 =>
  al h v29 0 l6 fun v30 =>
  iv h l0 112 (Mod_termOf F l0 v28 v30 h) fun r31 h32 =>
  gf h32 l0 112 51 fun v33 =>
  if v33 = 0 then
    (if r31 < l3 then
      (some (l3, h32))
    else
      (if l4 < r31 then
        (some (l4, h32))
      else
        (some (r31, h32))))
  else
    (some (0, h32))
def Mod_tells_L63s (F : Nat)  (R63 : Int → Int → Int → Int → Int → Hp → Option (Int × Hp)) (l0 l3 l4 l5 l6 : Int) (h : Hp) : Option (Int × Hp) :=
  gf h l0 112 37 fun v10 =>
  al h v10 0 l5 fun v11 =>
  if l6 < v11 then
    (gf h l0 112 39 fun v12 =>
    al h v12 2 l6 fun v13 =>
    if v13 = 0 then
      (Mod_tells_B144 F l0 l3 l4 l6 h)
    else
      (gf h l0 112 40 fun v14 =>
      al h v14 0 l6 fun v15 =>
      gf h l0 112 41 fun v16 =>
      al h v16 0 l6 fun v17 =>
      iv h l0 112 (Mod_termOf F l0 v15 v17 h) fun r18 h19 =>
      gf h19 l0 112 41 fun v20 =>
      al h19 v20 0 l6 fun v21 =>
      gf h19 l0 112 42 fun v22 =>
      al h19 v22 0 l6 fun v23 =>
      iv h19 l0 112 (Mod_termOf F l0 v21 v23 h19) fun r24 h25 =>
      gf h25 l0 112 51 fun v26 =>
      if v26 = 0 then
        (if r18 < r24 then
          (Mod_tells_B144 F l0 l3 l4 l6 h25)
        else
          (R63 l0 l3 l4 l5 (w32 (l6 + 1)) h25))
      else
        (some (0, h25))))
  else
    (some (0, h))
def Mod_tells_L63 (F : Nat)  : Nat → Int → Int → Int → Int → Int → Hp → Option (Int × Hp)
  | 0 => fun _ _ _ _ _ _ => none
  | n + 1 => Mod_tells_L63s F  (Mod_tells_L63 F  n)
def Mod_tells (F : Nat) (l0 l1 l2 l3 l4 : Int) (h : Hp) : Option (Int × Hp) :=
  gf h l0 112 18 fun v1 =>
  lt (w32 ((w32 (5 * v1)) + l1)) fun x2 =>
  gf h l0 112 36 fun v3 =>
  al h v3 0 x2 fun v4 =>
  gf h l0 112 37 fun v5 =>
  al h v5 0 x2 fun v6 =>
  if v4 = v6 then
    (if l2 < l3 then
      (some (l3, h))
    else
      (if l4 < l2 then
        (some (l4, h))
      else
        (some (l2, h))))
  else
    (pz h l0 112 51 0 fun h7 =>
    gf h7 l0 112 36 fun v8 =>
    al h7 v8 0 x2 fun v9 =>
    Mod_tells_L63 F F l0 l3 l4 x2 v9 h7)

theorem dc_Mod_tells_0 : ∀ q ∈ ([(0, .iconst 5, 1), (1, .aload_n 0, 1), (2, .getfield 281, 3), (5, .imul, 1), (6, .iload_n 1, 1), (7, .iadd, 1), (8, .istore 5, 2), (10, .aload_n 0, 1), (11, .getfield 85, 3), (14, .iload 5, 2), (16, .iaload, 1), (17, .aload_n 0, 1), (18, .getfield 88, 3), (21, .iload 5, 2), (23, .iaload, 1), (24, .if_icmp .ne 25, 3), (27, .iload_n 2, 1), (28, .iload_n 3, 1), (29, .if_icmp .ge 7, 3), (32, .iload_n 3, 1), (33, .goto 15, 3), (36, .iload_n 2, 1), (37, .iload 4, 2), (39, .if_icmp .le 8, 3), (42, .iload 4, 2), (44, .goto 4, 3), (47, .iload_n 2, 1), (48, .ireturn, 1), (49, .aload_n 0, 1), (50, .iconst 0, 1), (51, .putfield 351, 3), (54, .aload_n 0, 1), (55, .getfield 85, 3), (58, .iload 5, 2), (60, .iaload, 1), (61, .istore 6, 2), (63, .iload 6, 2), (65, .aload_n 0, 1), (66, .getfield 88, 3), (69, .iload 5, 2), (71, .iaload, 1), (72, .if_icmp .ge 134, 3), (75, .aload_n 0, 1), (76, .getfield 91, 3), (79, .iload 6, 2), (81, .baload, 1), (82, .ifCond .eq 62, 3), (85, .aload_n 0, 1), (86, .aload_n 0, 1), (87, .getfield 95, 3)] : List (Nat × Instr × Nat)), decode cX12_tells q.1 = .ok (q.2.1, q.2.2) := by decide +kernel
theorem dc_Mod_tells_1 : ∀ q ∈ ([(90, .iload 6, 2), (92, .iaload, 1), (93, .aload_n 0, 1), (94, .getfield 98, 3), (97, .iload 6, 2), (99, .iaload, 1), (100, .invokevirtual 359, 3), (103, .istore 7, 2), (105, .aload_n 0, 1), (106, .aload_n 0, 1), (107, .getfield 98, 3), (110, .iload 6, 2), (112, .iaload, 1), (113, .aload_n 0, 1), (114, .getfield 101, 3), (117, .iload 6, 2), (119, .iaload, 1), (120, .invokevirtual 359, 3), (123, .istore 8, 2), (125, .aload_n 0, 1), (126, .getfield 351, 3), (129, .ifCond .eq 5, 3), (132, .iconst 0, 1), (133, .ireturn, 1), (134, .iload 7, 2), (136, .iload 8, 2), (138, .if_icmp .lt 6, 3), (141, .goto 59, 3), (144, .aload_n 0, 1), (145, .aload_n 0, 1), (146, .getfield 101, 3), (149, .iload 6, 2), (151, .iaload, 1), (152, .aload_n 0, 1), (153, .getfield 104, 3), (156, .iload 6, 2), (158, .iaload, 1), (159, .invokevirtual 359, 3), (162, .istore 7, 2), (164, .aload_n 0, 1), (165, .getfield 351, 3), (168, .ifCond .eq 7, 3), (171, .iconst 0, 1), (172, .goto 27, 3), (175, .iload 7, 2), (177, .iload_n 3, 1), (178, .if_icmp .ge 7, 3), (181, .iload_n 3, 1), (182, .goto 17, 3), (185, .iload 7, 2)] : List (Nat × Instr × Nat)), decode cX12_tells q.1 = .ok (q.2.1, q.2.2) := by decide +kernel
theorem dc_Mod_tells_2 : ∀ q ∈ ([(187, .iload 4, 2), (189, .if_icmp .le 8, 3), (192, .iload 4, 2), (194, .goto 5, 3), (197, .iload 7, 2), (199, .ireturn, 1), (200, .iinc 6 1, 3), (203, .goto (-140), 3), (206, .iconst 0, 1), (207, .ireturn, 1)] : List (Nat × Instr × Nat)), decode cX12_tells q.1 = .ok (q.2.1, q.2.2) := by decide +kernel
abbrev X_Mod_tells : MX := (cX12_tells, RX12, "tells", 9, (some (.int)), 2, 47)
theorem v_Mod_tells_B144 (F : Nat)  (l0 l3 l4 l6 : Int) (h : Hp) : V X_Mod_tells 144 [(0, 2, l0), (3, 0, l3), (4, 0, l4), (6, 0, l6)] [] h (Mod_tells_B144 F  l0 l3 l4 l6 h) := by
  unfold Mod_tells_B144
  refine V_aload_n (pc := 144) (DCa dc_Mod_tells_1 28 rfl) rfl 0 rfl ?_
  refine V_aload_n (pc := 145) (DCa dc_Mod_tells_1 29 rfl) rfl 0 rfl ?_
  refine Q_getf (k := 42) (pc := 146) (DCa dc_Mod_tells_1 30 rfl) cls_12 (Nat.le_of_ble_eq_true rfl) fl_12_101 rfl rfl rfl (fun v27 => ?_)
  refine V_iload (pc := 149) (DCa dc_Mod_tells_1 31 rfl) 3 rfl ?_
  refine Q_iaload (pc := 151) (DCa dc_Mod_tells_1 32 rfl) (fun v28 => ?_)
  refine V_aload_n (pc := 152) (DCa dc_Mod_tells_1 33 rfl) rfl 0 rfl ?_
  refine Q_getf (k := 43) (pc := 153) (DCa dc_Mod_tells_1 34 rfl) cls_12 (Nat.le_of_ble_eq_true rfl) fl_12_104 rfl rfl rfl (fun v29 => ?_)
  refine V_iload (pc := 156) (DCa dc_Mod_tells_1 35 rfl) 3 rfl ?_
  refine Q_iaload (pc := 158) (DCa dc_Mod_tells_1 36 rfl) (fun v30 => ?_)
  refine Q_callv (ci := 12) (st := []) (pc := 159) (DCa dc_Mod_tells_1 37 rfl) (sp_Mod_termOf F _ _ _ _) ce_Mod_termOf ml_12_359 rfl rfl ⟨Nat.le_of_ble_eq_true rfl, Nat.le_of_ble_eq_true rfl⟩ rfl (Nat.le_of_ble_eq_true rfl) (fun r31 h32 => ?_)
  refine V_istore (ls' := [(0, 2, l0), (3, 0, l3), (4, 0, l4), (6, 0, l6), (7, 0, r31)]) (pc := 162) (DCa dc_Mod_tells_1 38 rfl) (Nat.le_of_ble_eq_true rfl) rfl ?_
  refine V_aload_n (pc := 164) (DCa dc_Mod_tells_1 39 rfl) rfl 0 rfl ?_
  refine Q_getf (k := 51) (pc := 165) (DCa dc_Mod_tells_1 40 rfl) cls_12 (Nat.le_of_ble_eq_true rfl) fl_12_351 rfl rfl rfl (fun v33 => ?_)
  refine V_if_eq (tgt := 175) (pc := 168) (DCa dc_Mod_tells_1 41 rfl) (by decide) (fun _ => ?_) (fun _ => ?_)
  · refine V_iload (pc := 175) (DCa dc_Mod_tells_1 44 rfl) 4 rfl ?_
    refine V_iload_n (pc := 177) (DCa dc_Mod_tells_1 45 rfl) rfl 1 rfl ?_
    refine V_icmp_ge (tgt := 185) (pc := 178) (DCa dc_Mod_tells_1 46 rfl) (by decide) (fun _ => ?_) (fun _ => ?_)
    · refine V_iload_n (pc := 181) (DCa dc_Mod_tells_1 47 rfl) rfl 1 rfl ?_
      refine V_goto (tgt := 199) (pc := 182) (DCa dc_Mod_tells_1 48 rfl) (by decide) ?_
      exact V_ireturn (pc := 199) (DCa dc_Mod_tells_2 5 rfl) rfl
    · refine V_iload (pc := 185) (DCa dc_Mod_tells_1 49 rfl) 4 rfl ?_
      refine V_iload (pc := 187) (DCa dc_Mod_tells_2 0 rfl) 2 rfl ?_
      refine V_icmp_le (tgt := 197) (pc := 189) (DCa dc_Mod_tells_2 1 rfl) (by decide) (fun _ => ?_) (fun _ => ?_)
      · refine V_iload (pc := 192) (DCa dc_Mod_tells_2 2 rfl) 2 rfl ?_
        refine V_goto (tgt := 199) (pc := 194) (DCa dc_Mod_tells_2 3 rfl) (by decide) ?_
        exact V_ireturn (pc := 199) (DCa dc_Mod_tells_2 5 rfl) rfl
      · refine V_iload (pc := 197) (DCa dc_Mod_tells_2 4 rfl) 4 rfl ?_
        exact V_ireturn (pc := 199) (DCa dc_Mod_tells_2 5 rfl) rfl
  · refine V_iconst (pc := 171) (DCa dc_Mod_tells_1 42 rfl) (by decide) ?_
    refine V_goto (tgt := 199) (pc := 172) (DCa dc_Mod_tells_1 43 rfl) (by decide) ?_
    exact V_ireturn (pc := 199) (DCa dc_Mod_tells_2 5 rfl) rfl
theorem v_Mod_tells_L63s (F : Nat)  (R63 : Int → Int → Int → Int → Int → Hp → Option (Int × Hp)) (hR63 : ∀ (l0 l3 l4 l5 l6 : Int) (h : Hp), V X_Mod_tells 63 [(0, 2, l0), (3, 0, l3), (4, 0, l4), (5, 0, l5), (6, 0, l6)] [] h (R63 l0 l3 l4 l5 l6 h)) (l0 l3 l4 l5 l6 : Int) (h : Hp) : V X_Mod_tells 63 [(0, 2, l0), (3, 0, l3), (4, 0, l4), (5, 0, l5), (6, 0, l6)] [] h (Mod_tells_L63s F  R63 l0 l3 l4 l5 l6 h) := by
  unfold Mod_tells_L63s
  refine V_iload (pc := 63) (DCa dc_Mod_tells_0 36 rfl) 4 rfl ?_
  refine V_aload_n (pc := 65) (DCa dc_Mod_tells_0 37 rfl) rfl 0 rfl ?_
  refine Q_getf (k := 37) (pc := 66) (DCa dc_Mod_tells_0 38 rfl) cls_12 (Nat.le_of_ble_eq_true rfl) fl_12_88 rfl rfl rfl (fun v10 => ?_)
  refine V_iload (pc := 69) (DCa dc_Mod_tells_0 39 rfl) 3 rfl ?_
  refine Q_iaload (pc := 71) (DCa dc_Mod_tells_0 40 rfl) (fun v11 => ?_)
  refine V_icmp_ge (tgt := 206) (pc := 72) (DCa dc_Mod_tells_0 41 rfl) (by decide) (fun _ => ?_) (fun _ => ?_)
  · refine V_aload_n (pc := 75) (DCa dc_Mod_tells_0 42 rfl) rfl 0 rfl ?_
    refine Q_getf (k := 39) (pc := 76) (DCa dc_Mod_tells_0 43 rfl) cls_12 (Nat.le_of_ble_eq_true rfl) fl_12_91 rfl rfl rfl (fun v12 => ?_)
    refine V_iload (pc := 79) (DCa dc_Mod_tells_0 44 rfl) 4 rfl ?_
    refine Q_zaload (pc := 81) (DCa dc_Mod_tells_0 45 rfl) (fun v13 => ?_)
    refine V_if_eq (tgt := 144) (pc := 82) (DCa dc_Mod_tells_0 46 rfl) (by decide) (fun _ => ?_) (fun _ => ?_)
    · refine V_pick [0, 1, 2, 4] rfl ?_
      exact v_Mod_tells_B144 F _ _ _ _ _
    · refine V_aload_n (pc := 85) (DCa dc_Mod_tells_0 47 rfl) rfl 0 rfl ?_
      refine V_aload_n (pc := 86) (DCa dc_Mod_tells_0 48 rfl) rfl 0 rfl ?_
      refine Q_getf (k := 40) (pc := 87) (DCa dc_Mod_tells_0 49 rfl) cls_12 (Nat.le_of_ble_eq_true rfl) fl_12_95 rfl rfl rfl (fun v14 => ?_)
      refine V_iload (pc := 90) (DCa dc_Mod_tells_1 0 rfl) 4 rfl ?_
      refine Q_iaload (pc := 92) (DCa dc_Mod_tells_1 1 rfl) (fun v15 => ?_)
      refine V_aload_n (pc := 93) (DCa dc_Mod_tells_1 2 rfl) rfl 0 rfl ?_
      refine Q_getf (k := 41) (pc := 94) (DCa dc_Mod_tells_1 3 rfl) cls_12 (Nat.le_of_ble_eq_true rfl) fl_12_98 rfl rfl rfl (fun v16 => ?_)
      refine V_iload (pc := 97) (DCa dc_Mod_tells_1 4 rfl) 4 rfl ?_
      refine Q_iaload (pc := 99) (DCa dc_Mod_tells_1 5 rfl) (fun v17 => ?_)
      refine Q_callv (ci := 12) (st := []) (pc := 100) (DCa dc_Mod_tells_1 6 rfl) (sp_Mod_termOf F _ _ _ _) ce_Mod_termOf ml_12_359 rfl rfl ⟨Nat.le_of_ble_eq_true rfl, Nat.le_of_ble_eq_true rfl⟩ rfl (Nat.le_of_ble_eq_true rfl) (fun r18 h19 => ?_)
      refine V_istore (ls' := [(0, 2, l0), (3, 0, l3), (4, 0, l4), (5, 0, l5), (6, 0, l6), (7, 0, r18)]) (pc := 103) (DCa dc_Mod_tells_1 7 rfl) (Nat.le_of_ble_eq_true rfl) rfl ?_
      refine V_aload_n (pc := 105) (DCa dc_Mod_tells_1 8 rfl) rfl 0 rfl ?_
      refine V_aload_n (pc := 106) (DCa dc_Mod_tells_1 9 rfl) rfl 0 rfl ?_
      refine Q_getf (k := 41) (pc := 107) (DCa dc_Mod_tells_1 10 rfl) cls_12 (Nat.le_of_ble_eq_true rfl) fl_12_98 rfl rfl rfl (fun v20 => ?_)
      refine V_iload (pc := 110) (DCa dc_Mod_tells_1 11 rfl) 4 rfl ?_
      refine Q_iaload (pc := 112) (DCa dc_Mod_tells_1 12 rfl) (fun v21 => ?_)
      refine V_aload_n (pc := 113) (DCa dc_Mod_tells_1 13 rfl) rfl 0 rfl ?_
      refine Q_getf (k := 42) (pc := 114) (DCa dc_Mod_tells_1 14 rfl) cls_12 (Nat.le_of_ble_eq_true rfl) fl_12_101 rfl rfl rfl (fun v22 => ?_)
      refine V_iload (pc := 117) (DCa dc_Mod_tells_1 15 rfl) 4 rfl ?_
      refine Q_iaload (pc := 119) (DCa dc_Mod_tells_1 16 rfl) (fun v23 => ?_)
      refine Q_callv (ci := 12) (st := []) (pc := 120) (DCa dc_Mod_tells_1 17 rfl) (sp_Mod_termOf F _ _ _ _) ce_Mod_termOf ml_12_359 rfl rfl ⟨Nat.le_of_ble_eq_true rfl, Nat.le_of_ble_eq_true rfl⟩ rfl (Nat.le_of_ble_eq_true rfl) (fun r24 h25 => ?_)
      refine V_istore (ls' := [(0, 2, l0), (3, 0, l3), (4, 0, l4), (5, 0, l5), (6, 0, l6), (7, 0, r18), (8, 0, r24)]) (pc := 123) (DCa dc_Mod_tells_1 18 rfl) (Nat.le_of_ble_eq_true rfl) rfl ?_
      refine V_aload_n (pc := 125) (DCa dc_Mod_tells_1 19 rfl) rfl 0 rfl ?_
      refine Q_getf (k := 51) (pc := 126) (DCa dc_Mod_tells_1 20 rfl) cls_12 (Nat.le_of_ble_eq_true rfl) fl_12_351 rfl rfl rfl (fun v26 => ?_)
      refine V_if_eq (tgt := 134) (pc := 129) (DCa dc_Mod_tells_1 21 rfl) (by decide) (fun _ => ?_) (fun _ => ?_)
      · refine V_iload (pc := 134) (DCa dc_Mod_tells_1 24 rfl) 5 rfl ?_
        refine V_iload (pc := 136) (DCa dc_Mod_tells_1 25 rfl) 6 rfl ?_
        refine V_icmp_lt (tgt := 144) (pc := 138) (DCa dc_Mod_tells_1 26 rfl) (by decide) (fun _ => ?_) (fun _ => ?_)
        · refine V_pick [0, 1, 2, 4] rfl ?_
          exact v_Mod_tells_B144 F _ _ _ _ _
        · refine V_goto (tgt := 200) (pc := 141) (DCa dc_Mod_tells_1 27 rfl) (by decide) ?_
          refine V_iinc (ls' := [(0, 2, l0), (3, 0, l3), (4, 0, l4), (5, 0, l5), (6, 0, w32 (l6 + 1)), (7, 0, r18), (8, 0, r24)]) (pc := 200) (DCa dc_Mod_tells_2 6 rfl) (Nat.le_of_ble_eq_true rfl) (by decide) 4 rfl rfl ?_
          refine V_goto (tgt := 63) (pc := 203) (DCa dc_Mod_tells_2 7 rfl) (by decide) ?_
          refine V_pick [0, 1, 2, 3, 4] rfl ?_
          exact hR63 _ _ _ _ _ _
      · refine V_iconst (pc := 132) (DCa dc_Mod_tells_1 22 rfl) (by decide) ?_
        exact V_ireturn (pc := 133) (DCa dc_Mod_tells_1 23 rfl) rfl
  · refine V_iconst (pc := 206) (DCa dc_Mod_tells_2 8 rfl) (by decide) ?_
    exact V_ireturn (pc := 207) (DCa dc_Mod_tells_2 9 rfl) rfl
theorem v_Mod_tells_L63 (F : Nat)  (n : Nat) : ∀ (l0 l3 l4 l5 l6 : Int) (h : Hp), V X_Mod_tells 63 [(0, 2, l0), (3, 0, l3), (4, 0, l4), (5, 0, l5), (6, 0, l6)] [] h (Mod_tells_L63 F  n l0 l3 l4 l5 l6 h) := by
  induction n with
  | zero => intros; exact V_none
  | succ n ih => exact fun l0 l3 l4 l5 l6 h => v_Mod_tells_L63s F  _ ih l0 l3 l4 l5 l6 h
theorem v_Mod_tells (F : Nat) (l0 l1 l2 l3 l4 : Int) (h : Hp) : V X_Mod_tells 0 [(0, 2, l0), (1, 0, l1), (2, 0, l2), (3, 0, l3), (4, 0, l4)] [] h (Mod_tells F l0 l1 l2 l3 l4 h) := by
  unfold Mod_tells
  refine V_iconst (pc := 0) (DCa dc_Mod_tells_0 0 rfl) (by decide) ?_
  refine V_aload_n (pc := 1) (DCa dc_Mod_tells_0 1 rfl) rfl 0 rfl ?_
  refine Q_getf (k := 18) (pc := 2) (DCa dc_Mod_tells_0 2 rfl) cls_12 (Nat.le_of_ble_eq_true rfl) fl_12_281 rfl rfl rfl (fun v1 => ?_)
  refine V_imul (pc := 5) (DCa dc_Mod_tells_0 3 rfl) ?_
  refine V_iload_n (pc := 6) (DCa dc_Mod_tells_0 4 rfl) rfl 1 rfl ?_
  refine V_iadd (pc := 7) (DCa dc_Mod_tells_0 5 rfl) ?_
  refine Q_lt (fun x2 => ?_)
  refine V_istore (ls' := [(0, 2, l0), (1, 0, l1), (2, 0, l2), (3, 0, l3), (4, 0, l4), (5, 0, x2)]) (pc := 8) (DCa dc_Mod_tells_0 6 rfl) (Nat.le_of_ble_eq_true rfl) rfl ?_
  refine V_aload_n (pc := 10) (DCa dc_Mod_tells_0 7 rfl) rfl 0 rfl ?_
  refine Q_getf (k := 36) (pc := 11) (DCa dc_Mod_tells_0 8 rfl) cls_12 (Nat.le_of_ble_eq_true rfl) fl_12_85 rfl rfl rfl (fun v3 => ?_)
  refine V_iload (pc := 14) (DCa dc_Mod_tells_0 9 rfl) 5 rfl ?_
  refine Q_iaload (pc := 16) (DCa dc_Mod_tells_0 10 rfl) (fun v4 => ?_)
  refine V_aload_n (pc := 17) (DCa dc_Mod_tells_0 11 rfl) rfl 0 rfl ?_
  refine Q_getf (k := 37) (pc := 18) (DCa dc_Mod_tells_0 12 rfl) cls_12 (Nat.le_of_ble_eq_true rfl) fl_12_88 rfl rfl rfl (fun v5 => ?_)
  refine V_iload (pc := 21) (DCa dc_Mod_tells_0 13 rfl) 5 rfl ?_
  refine Q_iaload (pc := 23) (DCa dc_Mod_tells_0 14 rfl) (fun v6 => ?_)
  refine V_icmp_ne (tgt := 49) (pc := 24) (DCa dc_Mod_tells_0 15 rfl) (by decide) (fun _ => ?_) (fun _ => ?_)
  · refine V_iload_n (pc := 27) (DCa dc_Mod_tells_0 16 rfl) rfl 2 rfl ?_
    refine V_iload_n (pc := 28) (DCa dc_Mod_tells_0 17 rfl) rfl 3 rfl ?_
    refine V_icmp_ge (tgt := 36) (pc := 29) (DCa dc_Mod_tells_0 18 rfl) (by decide) (fun _ => ?_) (fun _ => ?_)
    · refine V_iload_n (pc := 32) (DCa dc_Mod_tells_0 19 rfl) rfl 3 rfl ?_
      refine V_goto (tgt := 48) (pc := 33) (DCa dc_Mod_tells_0 20 rfl) (by decide) ?_
      exact V_ireturn (pc := 48) (DCa dc_Mod_tells_0 27 rfl) rfl
    · refine V_iload_n (pc := 36) (DCa dc_Mod_tells_0 21 rfl) rfl 2 rfl ?_
      refine V_iload (pc := 37) (DCa dc_Mod_tells_0 22 rfl) 4 rfl ?_
      refine V_icmp_le (tgt := 47) (pc := 39) (DCa dc_Mod_tells_0 23 rfl) (by decide) (fun _ => ?_) (fun _ => ?_)
      · refine V_iload (pc := 42) (DCa dc_Mod_tells_0 24 rfl) 4 rfl ?_
        refine V_goto (tgt := 48) (pc := 44) (DCa dc_Mod_tells_0 25 rfl) (by decide) ?_
        exact V_ireturn (pc := 48) (DCa dc_Mod_tells_0 27 rfl) rfl
      · refine V_iload_n (pc := 47) (DCa dc_Mod_tells_0 26 rfl) rfl 2 rfl ?_
        exact V_ireturn (pc := 48) (DCa dc_Mod_tells_0 27 rfl) rfl
  · refine V_aload_n (pc := 49) (DCa dc_Mod_tells_0 28 rfl) rfl 0 rfl ?_
    refine V_iconst (pc := 50) (DCa dc_Mod_tells_0 29 rfl) (by decide) ?_
    refine Q_putz (k := 51) (pc := 51) (DCa dc_Mod_tells_0 30 rfl) cls_12 (Nat.le_of_ble_eq_true rfl) fl_12_351 rfl rfl rfl (Or.inl rfl) rfl (fun h7 => ?_)
    refine V_aload_n (pc := 54) (DCa dc_Mod_tells_0 31 rfl) rfl 0 rfl ?_
    refine Q_getf (k := 36) (pc := 55) (DCa dc_Mod_tells_0 32 rfl) cls_12 (Nat.le_of_ble_eq_true rfl) fl_12_85 rfl rfl rfl (fun v8 => ?_)
    refine V_iload (pc := 58) (DCa dc_Mod_tells_0 33 rfl) 5 rfl ?_
    refine Q_iaload (pc := 60) (DCa dc_Mod_tells_0 34 rfl) (fun v9 => ?_)
    refine V_istore (ls' := [(0, 2, l0), (1, 0, l1), (2, 0, l2), (3, 0, l3), (4, 0, l4), (5, 0, x2), (6, 0, v9)]) (pc := 61) (DCa dc_Mod_tells_0 35 rfl) (Nat.le_of_ble_eq_true rfl) rfl ?_
    refine V_pick [0, 3, 4, 5, 6] rfl ?_
    exact v_Mod_tells_L63 F F _ _ _ _ _ _
theorem sp_Mod_tells (F : Nat) (l0 l1 l2 l3 l4 : Int) (h : Hp) : Sp yX12_tells cX12_tells 9 (some (.int)) 2 47 [(2, l0), (0, l1), (0, l2), (0, l3), (0, l4)] h (Mod_tells F l0 l1 l2 l3 l4 h) := Sp_of (by decide +kernel) rfl rfl (Nat.le_of_ble_eq_true rfl) (v_Mod_tells F l0 l1 l2 l3 l4 h)

-- TideRakesModel.laysPart
def Mod_laysPart_B183 (F : Nat) (R132 : Int → Int → Int → Hp → Option (Int × Hp)) (l0 l1 l2 l3 s0 s1 s2 : Int) (h : Hp) : Option (Int × Hp) :=
  as h s2 0 s1 s0 fun h31 =>
  gf h31 l0 112 61 fun v32 =>
  gf h31 l0 112 60 fun v33 =>
  al h31 v33 0 l3 fun v34 =>
  gf h31 l0 112 57 fun v35 =>
  al h31 v35 0 l1 fun v36 =>
  if v34 < v36 then
    (gf h31 l0 112 61 fun v37 =>
    al h31 v37 0 (w32 ((w32 ((w32 (601 * l1)) + l2)) + 1)) fun v38 =>
    as h31 v32 0 (w32 ((w32 (601 * l1)) + l2)) v38 fun h39 =>
    R132 l0 l1 (w32 (l2 + (-1))) h39)
  else
    (as h31 v32 0 (w32 ((w32 (601 * l1)) + l2)) l2 fun h40 =>
    R132 l0 l1 (w32 (l2 + (-1))) h40)
def Mod_laysPart_L132s (F : Nat)  (R132 : Int → Int → Int → Hp → Option (Int × Hp)) (l0 l1 l2 : Int) (h : Hp) : Option (Int × Hp) :=
  if l2 < 0 then
    (some (0, h))
  else
    (lt (w32 ((w32 (600 * l1)) + l2)) fun x25 =>
    gf h l0 112 60 fun v26 =>
    iv h l0 112 (Mod_isHolding F l0 l1 l2 h) fun r27 h28 =>
    if r27 = 0 then
      (Mod_laysPart_B183 F R132 l0 l1 l2 x25 0 x25 v26 h28)
    else
      (if l2 = 599 then
        (Mod_laysPart_B183 F R132 l0 l1 l2 x25 1 x25 v26 h28)
      else
        (gf h28 l0 112 60 fun v29 =>
        al h28 v29 0 (w32 (x25 + 1)) fun v30 =>
        Mod_laysPart_B183 F R132 l0 l1 l2 x25 (w32 (v30 + 1)) x25 v26 h28)))
def Mod_laysPart_L132 (F : Nat)  : Nat → Int → Int → Int → Hp → Option (Int × Hp)
  | 0 => fun _ _ _ _ => none
  | n + 1 => Mod_laysPart_L132s F  (Mod_laysPart_L132 F  n)
def Mod_laysPart_B112 (F : Nat)  (l0 l1 : Int) (h : Hp) : Option (Int × Hp) :=
  gf h l0 112 61 fun v23 =>
  as h v23 0 (w32 ((w32 (601 * l1)) + 600)) (-2) fun h24 =>
  Mod_laysPart_L132 F F l0 l1 599 h24
def Mod_laysPart_L44s (F : Nat)  (R44 : Int → Int → Int → Hp → Option (Int × Hp)) (l0 l1 l2 : Int) (h : Hp) : Option (Int × Hp) :=
  if l2 < 600 then
    (gf h l0 112 59 fun v13 =>
    gf h l0 112 52 fun v14 =>
    al h v14 0 l2 fun v15 =>
    gf h l0 112 58 fun v16 =>
    al h v16 0 l1 fun v17 =>
    if v15 < v17 then
      (if l2 = 0 then
        (as h v13 0 (w32 ((w32 (600 * l1)) + l2)) 1 fun h18 =>
        R44 l0 l1 (w32 (l2 + 1)) h18)
      else
        (gf h l0 112 59 fun v19 =>
        al h v19 0 (w32 ((w32 ((w32 (600 * l1)) + l2)) - 1)) fun v20 =>
        as h v13 0 (w32 ((w32 (600 * l1)) + l2)) (w32 (v20 + 1)) fun h21 =>
        R44 l0 l1 (w32 (l2 + 1)) h21))
    else
      (as h v13 0 (w32 ((w32 (600 * l1)) + l2)) 0 fun h22 =>
      R44 l0 l1 (w32 (l2 + 1)) h22))
  else
    (Mod_laysPart_B112 F l0 l1 h)
def Mod_laysPart_L44 (F : Nat)  : Nat → Int → Int → Int → Hp → Option (Int × Hp)
  | 0 => fun _ _ _ _ => none
  | n + 1 => Mod_laysPart_L44s F  (Mod_laysPart_L44 F  n)
def Mod_laysPart (F : Nat) (l0 l1 : Int) (h : Hp) : Option (Int × Hp) :=
  gf h l0 112 55 fun v1 =>
  al h v1 0 l1 fun v2 =>
  gf h l0 112 56 fun v3 =>
  al h v3 0 l1 fun v4 =>
  iv h l0 112 (Mod_setsOf F l0 v2 v4 0 0 0 h) fun r5 h6 =>
  gf h6 l0 112 58 fun v7 =>
  gf h6 l0 112 56 fun v8 =>
  al h6 v8 0 l1 fun v9 =>
  iv h6 l0 112 (Mod_tells F l0 0 v9 (-9999) 9999 h6) fun r10 h11 =>
  as h11 v7 0 l1 r10 fun h12 =>
  Mod_laysPart_L44 F F l0 l1 0 h12

theorem dc_Mod_laysPart_0 : ∀ q ∈ ([(0, .aload_n 0, 1), (1, .aload_n 0, 1), (2, .getfield 131, 3), (5, .iload_n 1, 1), (6, .iaload, 1), (7, .aload_n 0, 1), (8, .getfield 134, 3), (11, .iload_n 1, 1), (12, .iaload, 1), (13, .iconst 0, 1), (14, .iconst 0, 1), (15, .iconst 0, 1), (16, .invokevirtual 362, 3), (19, .aload_n 0, 1), (20, .getfield 140, 3), (23, .iload_n 1, 1), (24, .aload_n 0, 1), (25, .iconst 0, 1), (26, .aload_n 0, 1), (27, .getfield 134, 3), (30, .iload_n 1, 1), (31, .iaload, 1), (32, .sipush (-9999), 3), (35, .sipush 9999, 3), (38, .invokevirtual 366, 3), (41, .iastore, 1), (42, .iconst 0, 1), (43, .istore_n 2, 1), (44, .iload_n 2, 1), (45, .sipush 600, 3), (48, .if_icmp .ge 64, 3), (51, .aload_n 0, 1), (52, .getfield 143, 3), (55, .sipush 600, 3), (58, .iload_n 1, 1), (59, .imul, 1), (60, .iload_n 2, 1), (61, .iadd, 1), (62, .aload_n 0, 1), (63, .getfield 122, 3), (66, .iload_n 2, 1), (67, .iaload, 1), (68, .aload_n 0, 1), (69, .getfield 140, 3), (72, .iload_n 1, 1), (73, .iaload, 1), (74, .if_icmp .lt 7, 3), (77, .iconst 0, 1), (78, .goto 27, 3), (81, .iload_n 2, 1)] : List (Nat × Instr × Nat)), decode cX12_laysPart q.1 = .ok (q.2.1, q.2.2) := by decide +kernel
theorem dc_Mod_laysPart_1 : ∀ q ∈ ([(82, .ifCond .ne 7, 3), (85, .iconst 1, 1), (86, .goto 19, 3), (89, .aload_n 0, 1), (90, .getfield 143, 3), (93, .sipush 600, 3), (96, .iload_n 1, 1), (97, .imul, 1), (98, .iload_n 2, 1), (99, .iadd, 1), (100, .iconst 1, 1), (101, .isub, 1), (102, .iaload, 1), (103, .iconst 1, 1), (104, .iadd, 1), (105, .iastore, 1), (106, .iinc 2 1, 3), (109, .goto (-65), 3), (112, .aload_n 0, 1), (113, .getfield 149, 3), (116, .sipush 601, 3), (119, .iload_n 1, 1), (120, .imul, 1), (121, .sipush 600, 3), (124, .iadd, 1), (125, .bipush (-2), 2), (127, .iastore, 1), (128, .sipush 599, 3), (131, .istore_n 2, 1), (132, .iload_n 2, 1), (133, .ifCond .lt 102, 3), (136, .sipush 600, 3), (139, .iload_n 1, 1), (140, .imul, 1), (141, .iload_n 2, 1), (142, .iadd, 1), (143, .istore_n 3, 1), (144, .aload_n 0, 1), (145, .getfield 146, 3), (148, .iload_n 3, 1), (149, .aload_n 0, 1), (150, .iload_n 1, 1), (151, .iload_n 2, 1), (152, .invokevirtual 373, 3), (155, .ifCond .ne 7, 3), (158, .iconst 0, 1), (159, .goto 24, 3), (162, .iload_n 2, 1), (163, .sipush 599, 3), (166, .if_icmp .ne 7, 3)] : List (Nat × Instr × Nat)), decode cX12_laysPart q.1 = .ok (q.2.1, q.2.2) := by decide +kernel
theorem dc_Mod_laysPart_2 : ∀ q ∈ ([(169, .iconst 1, 1), (170, .goto 13, 3), (173, .aload_n 0, 1), (174, .getfield 146, 3), (177, .iload_n 3, 1), (178, .iconst 1, 1), (179, .iadd, 1), (180, .iaload, 1), (181, .iconst 1, 1), (182, .iadd, 1), (183, .iastore, 1), (184, .aload_n 0, 1), (185, .getfield 149, 3), (188, .sipush 601, 3), (191, .iload_n 1, 1), (192, .imul, 1), (193, .iload_n 2, 1), (194, .iadd, 1), (195, .aload_n 0, 1), (196, .getfield 146, 3), (199, .iload_n 3, 1), (200, .iaload, 1), (201, .aload_n 0, 1), (202, .getfield 137, 3), (205, .iload_n 1, 1), (206, .iaload, 1), (207, .if_icmp .lt 7, 3), (210, .iload_n 2, 1), (211, .goto 17, 3), (214, .aload_n 0, 1), (215, .getfield 149, 3), (218, .sipush 601, 3), (221, .iload_n 1, 1), (222, .imul, 1), (223, .iload_n 2, 1), (224, .iadd, 1), (225, .iconst 1, 1), (226, .iadd, 1), (227, .iaload, 1), (228, .iastore, 1), (229, .iinc 2 (-1), 3), (232, .goto (-100), 3), (235, .return_, 1)] : List (Nat × Instr × Nat)), decode cX12_laysPart q.1 = .ok (q.2.1, q.2.2) := by decide +kernel
abbrev X_Mod_laysPart : MX := (cX12_laysPart, RX12, "laysPart", 4, none, 3, 75)
theorem v_Mod_laysPart_B183 (F : Nat) (R132 : Int → Int → Int → Hp → Option (Int × Hp)) (hR132 : ∀ (l0 l1 l2 : Int) (h : Hp), V X_Mod_laysPart 132 [(0, 2, l0), (1, 0, l1), (2, 0, l2)] [] h (R132 l0 l1 l2 h)) (l0 l1 l2 l3 s0 s1 s2 : Int) (h : Hp) : V X_Mod_laysPart 183 [(0, 2, l0), (1, 0, l1), (2, 0, l2), (3, 0, l3)] [(0, s0), (0, s1), (2, s2)] h (Mod_laysPart_B183 F R132 l0 l1 l2 l3 s0 s1 s2 h) := by
  unfold Mod_laysPart_B183
  refine Q_iastore (pc := 183) (DCa dc_Mod_laysPart_2 10 rfl) (fun h31 => ?_)
  refine V_aload_n (pc := 184) (DCa dc_Mod_laysPart_2 11 rfl) rfl 0 rfl ?_
  refine Q_getf (k := 61) (pc := 185) (DCa dc_Mod_laysPart_2 12 rfl) cls_12 (Nat.le_of_ble_eq_true rfl) fl_12_149 rfl rfl rfl (fun v32 => ?_)
  refine V_sipush (pc := 188) (DCa dc_Mod_laysPart_2 13 rfl) (by decide) ?_
  refine V_iload_n (pc := 191) (DCa dc_Mod_laysPart_2 14 rfl) rfl 1 rfl ?_
  refine V_imul (pc := 192) (DCa dc_Mod_laysPart_2 15 rfl) ?_
  refine V_iload_n (pc := 193) (DCa dc_Mod_laysPart_2 16 rfl) rfl 2 rfl ?_
  refine V_iadd (pc := 194) (DCa dc_Mod_laysPart_2 17 rfl) ?_
  refine V_aload_n (pc := 195) (DCa dc_Mod_laysPart_2 18 rfl) rfl 0 rfl ?_
  refine Q_getf (k := 60) (pc := 196) (DCa dc_Mod_laysPart_2 19 rfl) cls_12 (Nat.le_of_ble_eq_true rfl) fl_12_146 rfl rfl rfl (fun v33 => ?_)
  refine V_iload_n (pc := 199) (DCa dc_Mod_laysPart_2 20 rfl) rfl 3 rfl ?_
  refine Q_iaload (pc := 200) (DCa dc_Mod_laysPart_2 21 rfl) (fun v34 => ?_)
  refine V_aload_n (pc := 201) (DCa dc_Mod_laysPart_2 22 rfl) rfl 0 rfl ?_
  refine Q_getf (k := 57) (pc := 202) (DCa dc_Mod_laysPart_2 23 rfl) cls_12 (Nat.le_of_ble_eq_true rfl) fl_12_137 rfl rfl rfl (fun v35 => ?_)
  refine V_iload_n (pc := 205) (DCa dc_Mod_laysPart_2 24 rfl) rfl 1 rfl ?_
  refine Q_iaload (pc := 206) (DCa dc_Mod_laysPart_2 25 rfl) (fun v36 => ?_)
  refine V_icmp_lt (tgt := 214) (pc := 207) (DCa dc_Mod_laysPart_2 26 rfl) (by decide) (fun _ => ?_) (fun _ => ?_)
  · refine V_aload_n (pc := 214) (DCa dc_Mod_laysPart_2 29 rfl) rfl 0 rfl ?_
    refine Q_getf (k := 61) (pc := 215) (DCa dc_Mod_laysPart_2 30 rfl) cls_12 (Nat.le_of_ble_eq_true rfl) fl_12_149 rfl rfl rfl (fun v37 => ?_)
    refine V_sipush (pc := 218) (DCa dc_Mod_laysPart_2 31 rfl) (by decide) ?_
    refine V_iload_n (pc := 221) (DCa dc_Mod_laysPart_2 32 rfl) rfl 1 rfl ?_
    refine V_imul (pc := 222) (DCa dc_Mod_laysPart_2 33 rfl) ?_
    refine V_iload_n (pc := 223) (DCa dc_Mod_laysPart_2 34 rfl) rfl 2 rfl ?_
    refine V_iadd (pc := 224) (DCa dc_Mod_laysPart_2 35 rfl) ?_
    refine V_iconst (pc := 225) (DCa dc_Mod_laysPart_2 36 rfl) (by decide) ?_
    refine V_iadd (pc := 226) (DCa dc_Mod_laysPart_2 37 rfl) ?_
    refine Q_iaload (pc := 227) (DCa dc_Mod_laysPart_2 38 rfl) (fun v38 => ?_)
    refine Q_iastore (pc := 228) (DCa dc_Mod_laysPart_2 39 rfl) (fun h39 => ?_)
    refine V_iinc (ls' := [(0, 2, l0), (1, 0, l1), (2, 0, w32 (l2 + (-1))), (3, 0, l3)]) (pc := 229) (DCa dc_Mod_laysPart_2 40 rfl) (Nat.le_of_ble_eq_true rfl) (by decide) 2 rfl rfl ?_
    refine V_goto (tgt := 132) (pc := 232) (DCa dc_Mod_laysPart_2 41 rfl) (by decide) ?_
    refine V_pick [0, 1, 2] rfl ?_
    exact hR132 _ _ _ _
  · refine V_iload_n (pc := 210) (DCa dc_Mod_laysPart_2 27 rfl) rfl 2 rfl ?_
    refine V_goto (tgt := 228) (pc := 211) (DCa dc_Mod_laysPart_2 28 rfl) (by decide) ?_
    refine Q_iastore (pc := 228) (DCa dc_Mod_laysPart_2 39 rfl) (fun h40 => ?_)
    refine V_iinc (ls' := [(0, 2, l0), (1, 0, l1), (2, 0, w32 (l2 + (-1))), (3, 0, l3)]) (pc := 229) (DCa dc_Mod_laysPart_2 40 rfl) (Nat.le_of_ble_eq_true rfl) (by decide) 2 rfl rfl ?_
    refine V_goto (tgt := 132) (pc := 232) (DCa dc_Mod_laysPart_2 41 rfl) (by decide) ?_
    refine V_pick [0, 1, 2] rfl ?_
    exact hR132 _ _ _ _
theorem v_Mod_laysPart_L132s (F : Nat)  (R132 : Int → Int → Int → Hp → Option (Int × Hp)) (hR132 : ∀ (l0 l1 l2 : Int) (h : Hp), V X_Mod_laysPart 132 [(0, 2, l0), (1, 0, l1), (2, 0, l2)] [] h (R132 l0 l1 l2 h)) (l0 l1 l2 : Int) (h : Hp) : V X_Mod_laysPart 132 [(0, 2, l0), (1, 0, l1), (2, 0, l2)] [] h (Mod_laysPart_L132s F  R132 l0 l1 l2 h) := by
  unfold Mod_laysPart_L132s
  refine V_iload_n (pc := 132) (DCa dc_Mod_laysPart_1 29 rfl) rfl 2 rfl ?_
  refine V_if_lt (tgt := 235) (pc := 133) (DCa dc_Mod_laysPart_1 30 rfl) (by decide) (fun _ => ?_) (fun _ => ?_)
  · exact V_return (pc := 235) (DCa dc_Mod_laysPart_2 42 rfl) rfl
  · refine V_sipush (pc := 136) (DCa dc_Mod_laysPart_1 31 rfl) (by decide) ?_
    refine V_iload_n (pc := 139) (DCa dc_Mod_laysPart_1 32 rfl) rfl 1 rfl ?_
    refine V_imul (pc := 140) (DCa dc_Mod_laysPart_1 33 rfl) ?_
    refine V_iload_n (pc := 141) (DCa dc_Mod_laysPart_1 34 rfl) rfl 2 rfl ?_
    refine V_iadd (pc := 142) (DCa dc_Mod_laysPart_1 35 rfl) ?_
    refine Q_lt (fun x25 => ?_)
    refine V_istore_n (ls' := [(0, 2, l0), (1, 0, l1), (2, 0, l2), (3, 0, x25)]) (pc := 143) (DCa dc_Mod_laysPart_1 36 rfl) rfl (Nat.le_of_ble_eq_true rfl) rfl ?_
    refine V_aload_n (pc := 144) (DCa dc_Mod_laysPart_1 37 rfl) rfl 0 rfl ?_
    refine Q_getf (k := 60) (pc := 145) (DCa dc_Mod_laysPart_1 38 rfl) cls_12 (Nat.le_of_ble_eq_true rfl) fl_12_146 rfl rfl rfl (fun v26 => ?_)
    refine V_iload_n (pc := 148) (DCa dc_Mod_laysPart_1 39 rfl) rfl 3 rfl ?_
    refine V_aload_n (pc := 149) (DCa dc_Mod_laysPart_1 40 rfl) rfl 0 rfl ?_
    refine V_iload_n (pc := 150) (DCa dc_Mod_laysPart_1 41 rfl) rfl 1 rfl ?_
    refine V_iload_n (pc := 151) (DCa dc_Mod_laysPart_1 42 rfl) rfl 2 rfl ?_
    refine Q_callv (ci := 12) (st := [(0, x25), (2, v26)]) (pc := 152) (DCa dc_Mod_laysPart_1 43 rfl) (sp_Mod_isHolding F _ _ _ _) ce_Mod_isHolding ml_12_373 rfl rfl ⟨Nat.le_of_ble_eq_true rfl, Nat.le_of_ble_eq_true rfl⟩ rfl (Nat.le_of_ble_eq_true rfl) (fun r27 h28 => ?_)
    refine V_if_ne (tgt := 162) (pc := 155) (DCa dc_Mod_laysPart_1 44 rfl) (by decide) (fun _ => ?_) (fun _ => ?_)
    · refine V_iconst (pc := 158) (DCa dc_Mod_laysPart_1 45 rfl) (by decide) ?_
      refine V_goto (tgt := 183) (pc := 159) (DCa dc_Mod_laysPart_1 46 rfl) (by decide) ?_
      exact v_Mod_laysPart_B183 F R132 hR132 _ _ _ _ _ _ _ _
    · refine V_iload_n (pc := 162) (DCa dc_Mod_laysPart_1 47 rfl) rfl 2 rfl ?_
      refine V_sipush (pc := 163) (DCa dc_Mod_laysPart_1 48 rfl) (by decide) ?_
      refine V_icmp_ne (tgt := 173) (pc := 166) (DCa dc_Mod_laysPart_1 49 rfl) (by decide) (fun _ => ?_) (fun _ => ?_)
      · refine V_iconst (pc := 169) (DCa dc_Mod_laysPart_2 0 rfl) (by decide) ?_
        refine V_goto (tgt := 183) (pc := 170) (DCa dc_Mod_laysPart_2 1 rfl) (by decide) ?_
        exact v_Mod_laysPart_B183 F R132 hR132 _ _ _ _ _ _ _ _
      · refine V_aload_n (pc := 173) (DCa dc_Mod_laysPart_2 2 rfl) rfl 0 rfl ?_
        refine Q_getf (k := 60) (pc := 174) (DCa dc_Mod_laysPart_2 3 rfl) cls_12 (Nat.le_of_ble_eq_true rfl) fl_12_146 rfl rfl rfl (fun v29 => ?_)
        refine V_iload_n (pc := 177) (DCa dc_Mod_laysPart_2 4 rfl) rfl 3 rfl ?_
        refine V_iconst (pc := 178) (DCa dc_Mod_laysPart_2 5 rfl) (by decide) ?_
        refine V_iadd (pc := 179) (DCa dc_Mod_laysPart_2 6 rfl) ?_
        refine Q_iaload (pc := 180) (DCa dc_Mod_laysPart_2 7 rfl) (fun v30 => ?_)
        refine V_iconst (pc := 181) (DCa dc_Mod_laysPart_2 8 rfl) (by decide) ?_
        refine V_iadd (pc := 182) (DCa dc_Mod_laysPart_2 9 rfl) ?_
        exact v_Mod_laysPart_B183 F R132 hR132 _ _ _ _ _ _ _ _
theorem v_Mod_laysPart_L132 (F : Nat)  (n : Nat) : ∀ (l0 l1 l2 : Int) (h : Hp), V X_Mod_laysPart 132 [(0, 2, l0), (1, 0, l1), (2, 0, l2)] [] h (Mod_laysPart_L132 F  n l0 l1 l2 h) := by
  induction n with
  | zero => intros; exact V_none
  | succ n ih => exact fun l0 l1 l2 h => v_Mod_laysPart_L132s F  _ ih l0 l1 l2 h
theorem v_Mod_laysPart_B112 (F : Nat)  (l0 l1 : Int) (h : Hp) : V X_Mod_laysPart 112 [(0, 2, l0), (1, 0, l1)] [] h (Mod_laysPart_B112 F  l0 l1 h) := by
  unfold Mod_laysPart_B112
  refine V_aload_n (pc := 112) (DCa dc_Mod_laysPart_1 18 rfl) rfl 0 rfl ?_
  refine Q_getf (k := 61) (pc := 113) (DCa dc_Mod_laysPart_1 19 rfl) cls_12 (Nat.le_of_ble_eq_true rfl) fl_12_149 rfl rfl rfl (fun v23 => ?_)
  refine V_sipush (pc := 116) (DCa dc_Mod_laysPart_1 20 rfl) (by decide) ?_
  refine V_iload_n (pc := 119) (DCa dc_Mod_laysPart_1 21 rfl) rfl 1 rfl ?_
  refine V_imul (pc := 120) (DCa dc_Mod_laysPart_1 22 rfl) ?_
  refine V_sipush (pc := 121) (DCa dc_Mod_laysPart_1 23 rfl) (by decide) ?_
  refine V_iadd (pc := 124) (DCa dc_Mod_laysPart_1 24 rfl) ?_
  refine V_bipush (pc := 125) (DCa dc_Mod_laysPart_1 25 rfl) (by decide) ?_
  refine Q_iastore (pc := 127) (DCa dc_Mod_laysPart_1 26 rfl) (fun h24 => ?_)
  refine V_sipush (pc := 128) (DCa dc_Mod_laysPart_1 27 rfl) (by decide) ?_
  refine V_istore_n (ls' := [(0, 2, l0), (1, 0, l1), (2, 0, 599)]) (pc := 131) (DCa dc_Mod_laysPart_1 28 rfl) rfl (Nat.le_of_ble_eq_true rfl) rfl ?_
  exact v_Mod_laysPart_L132 F F _ _ _ _
theorem v_Mod_laysPart_L44s (F : Nat)  (R44 : Int → Int → Int → Hp → Option (Int × Hp)) (hR44 : ∀ (l0 l1 l2 : Int) (h : Hp), V X_Mod_laysPart 44 [(0, 2, l0), (1, 0, l1), (2, 0, l2)] [] h (R44 l0 l1 l2 h)) (l0 l1 l2 : Int) (h : Hp) : V X_Mod_laysPart 44 [(0, 2, l0), (1, 0, l1), (2, 0, l2)] [] h (Mod_laysPart_L44s F  R44 l0 l1 l2 h) := by
  unfold Mod_laysPart_L44s
  refine V_iload_n (pc := 44) (DCa dc_Mod_laysPart_0 28 rfl) rfl 2 rfl ?_
  refine V_sipush (pc := 45) (DCa dc_Mod_laysPart_0 29 rfl) (by decide) ?_
  refine V_icmp_ge (tgt := 112) (pc := 48) (DCa dc_Mod_laysPart_0 30 rfl) (by decide) (fun _ => ?_) (fun _ => ?_)
  · refine V_aload_n (pc := 51) (DCa dc_Mod_laysPart_0 31 rfl) rfl 0 rfl ?_
    refine Q_getf (k := 59) (pc := 52) (DCa dc_Mod_laysPart_0 32 rfl) cls_12 (Nat.le_of_ble_eq_true rfl) fl_12_143 rfl rfl rfl (fun v13 => ?_)
    refine V_sipush (pc := 55) (DCa dc_Mod_laysPart_0 33 rfl) (by decide) ?_
    refine V_iload_n (pc := 58) (DCa dc_Mod_laysPart_0 34 rfl) rfl 1 rfl ?_
    refine V_imul (pc := 59) (DCa dc_Mod_laysPart_0 35 rfl) ?_
    refine V_iload_n (pc := 60) (DCa dc_Mod_laysPart_0 36 rfl) rfl 2 rfl ?_
    refine V_iadd (pc := 61) (DCa dc_Mod_laysPart_0 37 rfl) ?_
    refine V_aload_n (pc := 62) (DCa dc_Mod_laysPart_0 38 rfl) rfl 0 rfl ?_
    refine Q_getf (k := 52) (pc := 63) (DCa dc_Mod_laysPart_0 39 rfl) cls_12 (Nat.le_of_ble_eq_true rfl) fl_12_122 rfl rfl rfl (fun v14 => ?_)
    refine V_iload_n (pc := 66) (DCa dc_Mod_laysPart_0 40 rfl) rfl 2 rfl ?_
    refine Q_iaload (pc := 67) (DCa dc_Mod_laysPart_0 41 rfl) (fun v15 => ?_)
    refine V_aload_n (pc := 68) (DCa dc_Mod_laysPart_0 42 rfl) rfl 0 rfl ?_
    refine Q_getf (k := 58) (pc := 69) (DCa dc_Mod_laysPart_0 43 rfl) cls_12 (Nat.le_of_ble_eq_true rfl) fl_12_140 rfl rfl rfl (fun v16 => ?_)
    refine V_iload_n (pc := 72) (DCa dc_Mod_laysPart_0 44 rfl) rfl 1 rfl ?_
    refine Q_iaload (pc := 73) (DCa dc_Mod_laysPart_0 45 rfl) (fun v17 => ?_)
    refine V_icmp_lt (tgt := 81) (pc := 74) (DCa dc_Mod_laysPart_0 46 rfl) (by decide) (fun _ => ?_) (fun _ => ?_)
    · refine V_iload_n (pc := 81) (DCa dc_Mod_laysPart_0 49 rfl) rfl 2 rfl ?_
      refine V_if_ne (tgt := 89) (pc := 82) (DCa dc_Mod_laysPart_1 0 rfl) (by decide) (fun _ => ?_) (fun _ => ?_)
      · refine V_iconst (pc := 85) (DCa dc_Mod_laysPart_1 1 rfl) (by decide) ?_
        refine V_goto (tgt := 105) (pc := 86) (DCa dc_Mod_laysPart_1 2 rfl) (by decide) ?_
        refine Q_iastore (pc := 105) (DCa dc_Mod_laysPart_1 15 rfl) (fun h18 => ?_)
        refine V_iinc (ls' := [(0, 2, l0), (1, 0, l1), (2, 0, w32 (l2 + 1))]) (pc := 106) (DCa dc_Mod_laysPart_1 16 rfl) (Nat.le_of_ble_eq_true rfl) (by decide) 2 rfl rfl ?_
        refine V_goto (tgt := 44) (pc := 109) (DCa dc_Mod_laysPart_1 17 rfl) (by decide) ?_
        exact hR44 _ _ _ _
      · refine V_aload_n (pc := 89) (DCa dc_Mod_laysPart_1 3 rfl) rfl 0 rfl ?_
        refine Q_getf (k := 59) (pc := 90) (DCa dc_Mod_laysPart_1 4 rfl) cls_12 (Nat.le_of_ble_eq_true rfl) fl_12_143 rfl rfl rfl (fun v19 => ?_)
        refine V_sipush (pc := 93) (DCa dc_Mod_laysPart_1 5 rfl) (by decide) ?_
        refine V_iload_n (pc := 96) (DCa dc_Mod_laysPart_1 6 rfl) rfl 1 rfl ?_
        refine V_imul (pc := 97) (DCa dc_Mod_laysPart_1 7 rfl) ?_
        refine V_iload_n (pc := 98) (DCa dc_Mod_laysPart_1 8 rfl) rfl 2 rfl ?_
        refine V_iadd (pc := 99) (DCa dc_Mod_laysPart_1 9 rfl) ?_
        refine V_iconst (pc := 100) (DCa dc_Mod_laysPart_1 10 rfl) (by decide) ?_
        refine V_isub (pc := 101) (DCa dc_Mod_laysPart_1 11 rfl) ?_
        refine Q_iaload (pc := 102) (DCa dc_Mod_laysPart_1 12 rfl) (fun v20 => ?_)
        refine V_iconst (pc := 103) (DCa dc_Mod_laysPart_1 13 rfl) (by decide) ?_
        refine V_iadd (pc := 104) (DCa dc_Mod_laysPart_1 14 rfl) ?_
        refine Q_iastore (pc := 105) (DCa dc_Mod_laysPart_1 15 rfl) (fun h21 => ?_)
        refine V_iinc (ls' := [(0, 2, l0), (1, 0, l1), (2, 0, w32 (l2 + 1))]) (pc := 106) (DCa dc_Mod_laysPart_1 16 rfl) (Nat.le_of_ble_eq_true rfl) (by decide) 2 rfl rfl ?_
        refine V_goto (tgt := 44) (pc := 109) (DCa dc_Mod_laysPart_1 17 rfl) (by decide) ?_
        exact hR44 _ _ _ _
    · refine V_iconst (pc := 77) (DCa dc_Mod_laysPart_0 47 rfl) (by decide) ?_
      refine V_goto (tgt := 105) (pc := 78) (DCa dc_Mod_laysPart_0 48 rfl) (by decide) ?_
      refine Q_iastore (pc := 105) (DCa dc_Mod_laysPart_1 15 rfl) (fun h22 => ?_)
      refine V_iinc (ls' := [(0, 2, l0), (1, 0, l1), (2, 0, w32 (l2 + 1))]) (pc := 106) (DCa dc_Mod_laysPart_1 16 rfl) (Nat.le_of_ble_eq_true rfl) (by decide) 2 rfl rfl ?_
      refine V_goto (tgt := 44) (pc := 109) (DCa dc_Mod_laysPart_1 17 rfl) (by decide) ?_
      exact hR44 _ _ _ _
  · refine V_pick [0, 1] rfl ?_
    exact v_Mod_laysPart_B112 F _ _ _
theorem v_Mod_laysPart_L44 (F : Nat)  (n : Nat) : ∀ (l0 l1 l2 : Int) (h : Hp), V X_Mod_laysPart 44 [(0, 2, l0), (1, 0, l1), (2, 0, l2)] [] h (Mod_laysPart_L44 F  n l0 l1 l2 h) := by
  induction n with
  | zero => intros; exact V_none
  | succ n ih => exact fun l0 l1 l2 h => v_Mod_laysPart_L44s F  _ ih l0 l1 l2 h
theorem v_Mod_laysPart (F : Nat) (l0 l1 : Int) (h : Hp) : V X_Mod_laysPart 0 [(0, 2, l0), (1, 0, l1)] [] h (Mod_laysPart F l0 l1 h) := by
  unfold Mod_laysPart
  refine V_aload_n (pc := 0) (DCa dc_Mod_laysPart_0 0 rfl) rfl 0 rfl ?_
  refine V_aload_n (pc := 1) (DCa dc_Mod_laysPart_0 1 rfl) rfl 0 rfl ?_
  refine Q_getf (k := 55) (pc := 2) (DCa dc_Mod_laysPart_0 2 rfl) cls_12 (Nat.le_of_ble_eq_true rfl) fl_12_131 rfl rfl rfl (fun v1 => ?_)
  refine V_iload_n (pc := 5) (DCa dc_Mod_laysPart_0 3 rfl) rfl 1 rfl ?_
  refine Q_iaload (pc := 6) (DCa dc_Mod_laysPart_0 4 rfl) (fun v2 => ?_)
  refine V_aload_n (pc := 7) (DCa dc_Mod_laysPart_0 5 rfl) rfl 0 rfl ?_
  refine Q_getf (k := 56) (pc := 8) (DCa dc_Mod_laysPart_0 6 rfl) cls_12 (Nat.le_of_ble_eq_true rfl) fl_12_134 rfl rfl rfl (fun v3 => ?_)
  refine V_iload_n (pc := 11) (DCa dc_Mod_laysPart_0 7 rfl) rfl 1 rfl ?_
  refine Q_iaload (pc := 12) (DCa dc_Mod_laysPart_0 8 rfl) (fun v4 => ?_)
  refine V_iconst (pc := 13) (DCa dc_Mod_laysPart_0 9 rfl) (by decide) ?_
  refine V_iconst (pc := 14) (DCa dc_Mod_laysPart_0 10 rfl) (by decide) ?_
  refine V_iconst (pc := 15) (DCa dc_Mod_laysPart_0 11 rfl) (by decide) ?_
  refine Q_callv (ci := 12) (st := []) (pc := 16) (DCa dc_Mod_laysPart_0 12 rfl) (sp_Mod_setsOf F _ _ _ _ _ _ _) ce_Mod_setsOf ml_12_362 rfl rfl ⟨Nat.le_of_ble_eq_true rfl, Nat.le_of_ble_eq_true rfl⟩ rfl (Nat.le_of_ble_eq_true rfl) (fun r5 h6 => ?_)
  refine V_aload_n (pc := 19) (DCa dc_Mod_laysPart_0 13 rfl) rfl 0 rfl ?_
  refine Q_getf (k := 58) (pc := 20) (DCa dc_Mod_laysPart_0 14 rfl) cls_12 (Nat.le_of_ble_eq_true rfl) fl_12_140 rfl rfl rfl (fun v7 => ?_)
  refine V_iload_n (pc := 23) (DCa dc_Mod_laysPart_0 15 rfl) rfl 1 rfl ?_
  refine V_aload_n (pc := 24) (DCa dc_Mod_laysPart_0 16 rfl) rfl 0 rfl ?_
  refine V_iconst (pc := 25) (DCa dc_Mod_laysPart_0 17 rfl) (by decide) ?_
  refine V_aload_n (pc := 26) (DCa dc_Mod_laysPart_0 18 rfl) rfl 0 rfl ?_
  refine Q_getf (k := 56) (pc := 27) (DCa dc_Mod_laysPart_0 19 rfl) cls_12 (Nat.le_of_ble_eq_true rfl) fl_12_134 rfl rfl rfl (fun v8 => ?_)
  refine V_iload_n (pc := 30) (DCa dc_Mod_laysPart_0 20 rfl) rfl 1 rfl ?_
  refine Q_iaload (pc := 31) (DCa dc_Mod_laysPart_0 21 rfl) (fun v9 => ?_)
  refine V_sipush (pc := 32) (DCa dc_Mod_laysPart_0 22 rfl) (by decide) ?_
  refine V_sipush (pc := 35) (DCa dc_Mod_laysPart_0 23 rfl) (by decide) ?_
  refine Q_callv (ci := 12) (st := [(0, l1), (2, v7)]) (pc := 38) (DCa dc_Mod_laysPart_0 24 rfl) (sp_Mod_tells F _ _ _ _ _ _) ce_Mod_tells ml_12_366 rfl rfl ⟨Nat.le_of_ble_eq_true rfl, Nat.le_of_ble_eq_true rfl⟩ rfl (Nat.le_of_ble_eq_true rfl) (fun r10 h11 => ?_)
  refine Q_iastore (pc := 41) (DCa dc_Mod_laysPart_0 25 rfl) (fun h12 => ?_)
  refine V_iconst (pc := 42) (DCa dc_Mod_laysPart_0 26 rfl) (by decide) ?_
  refine V_istore_n (ls' := [(0, 2, l0), (1, 0, l1), (2, 0, 0)]) (pc := 43) (DCa dc_Mod_laysPart_0 27 rfl) rfl (Nat.le_of_ble_eq_true rfl) rfl ?_
  exact v_Mod_laysPart_L44 F F _ _ _ _
theorem sp_Mod_laysPart (F : Nat) (l0 l1 : Int) (h : Hp) : Sp yX12_laysPart cX12_laysPart 4 none 3 75 [(2, l0), (0, l1)] h (Mod_laysPart F l0 l1 h) := Sp_of (by decide +kernel) rfl rfl (Nat.le_of_ble_eq_true rfl) (v_Mod_laysPart F l0 l1 h)
