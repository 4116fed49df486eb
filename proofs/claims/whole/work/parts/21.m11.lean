-- TideRakesModel.late
def Mod_late_B116 (F : Nat)  (l2 l3 : Int) (h : Hp) : Option (Int × Hp) :=
  if l2 = (-1) then
    (some (l3, h))
  else
    (some ((-1), h))
def Mod_late_L65s (F : Nat) (R39 : Int → Int → Int → Int → Int → Hp → Option (Int × Hp)) (R65 : Int → Int → Int → Int → Int → Int → Hp → Option (Int × Hp)) (l0 l1 l2 l3 l4 l5 : Int) (h : Hp) : Option (Int × Hp) :=
  if 60 < l5 then
    (R39 l0 l1 l2 l3 (w32 (l4 + 1)) h)
  else
    (iv h l0 112 (Mod_isSo F l0 l4 l5 l1 h) fun r9 h10 =>
    if r9 = 0 then
      (R65 l0 l1 l2 l3 l4 (w32 (l5 + 1)) h10)
    else
      (if l3 = l2 then
        (some (w32 ((w32 (100 * l4)) + l5), h10))
      else
        (R65 l0 l1 l2 (w32 (l3 + 1)) l4 (w32 (l5 + 1)) h10)))
def Mod_late_L65 (F : Nat) (R39 : Int → Int → Int → Int → Int → Hp → Option (Int × Hp)) : Nat → Int → Int → Int → Int → Int → Int → Hp → Option (Int × Hp)
  | 0 => fun _ _ _ _ _ _ _ => none
  | n + 1 => Mod_late_L65s F R39 (Mod_late_L65 F R39 n)
def Mod_late_L39s (F : Nat)  (R39 : Int → Int → Int → Int → Int → Hp → Option (Int × Hp)) (l0 l1 l2 l3 l4 : Int) (h : Hp) : Option (Int × Hp) :=
  gf h l0 112 27 fun v6 =>
  gf h l0 112 18 fun v7 =>
  al h v6 0 v7 fun v8 =>
  if l4 < v8 then
    (if l4 = 0 then
      (Mod_late_L65 F R39 F l0 l1 l2 l3 l4 0 h)
    else
      (Mod_late_L65 F R39 F l0 l1 l2 l3 l4 1 h))
  else
    (Mod_late_B116 F l2 l3 h)
def Mod_late_L39 (F : Nat)  : Nat → Int → Int → Int → Int → Int → Hp → Option (Int × Hp)
  | 0 => fun _ _ _ _ _ _ => none
  | n + 1 => Mod_late_L39s F  (Mod_late_L39 F  n)
def Mod_late (F : Nat) (l0 l1 l2 : Int) (h : Hp) : Option (Int × Hp) :=
  gf h l0 112 80 fun v1 =>
  cl (Mod_in F l1 0 v1 h) fun r2 h3 =>
  if r2 = 0 then
    (some ((-1), h3))
  else
    (if l2 < (-1) then
      (some ((-1), h3))
    else
      (gf h3 l0 112 62 fun v4 =>
      al h3 v4 0 44 fun v5 =>
      if 30 < v5 then
        (some ((-2), h3))
      else
        (Mod_late_L39 F F l0 l1 l2 0 0 h3)))

theorem dc_Mod_late_0 : ∀ q ∈ ([(0, .iload_n 1, 1), (1, .iconst 0, 1), (2, .aload_n 0, 1), (3, .getfield 302, 3), (6, .invokestatic 355, 3), (9, .ifCond .eq 8, 3), (12, .iload_n 2, 1), (13, .iconst (-1), 1), (14, .if_icmp .ge 5, 3), (17, .iconst (-1), 1), (18, .ireturn, 1), (19, .aload_n 0, 1), (20, .getfield 152, 3), (23, .bipush 44, 2), (25, .iaload, 1), (26, .bipush 30, 2), (28, .if_icmp .le 6, 3), (31, .bipush (-2), 2), (33, .ireturn, 1), (34, .iconst 0, 1), (35, .istore_n 3, 1), (36, .iconst 0, 1), (37, .istore 4, 2), (39, .iload 4, 2), (41, .aload_n 0, 1), (42, .getfield 58, 3), (45, .aload_n 0, 1), (46, .getfield 281, 3), (49, .iaload, 1), (50, .if_icmp .ge 66, 3), (53, .iload 4, 2), (55, .ifCond .ne 7, 3), (58, .iconst 0, 1), (59, .goto 4, 3), (62, .iconst 1, 1), (63, .istore 5, 2), (65, .iload 5, 2), (67, .bipush 60, 2), (69, .if_icmp .gt 41, 3), (72, .aload_n 0, 1), (73, .iload 4, 2), (75, .iload 5, 2), (77, .iload_n 1, 1), (78, .invokevirtual 519, 3), (81, .ifCond .ne 6, 3), (84, .goto 20, 3), (87, .iload_n 3, 1), (88, .iload_n 2, 1), (89, .if_icmp .ne 12, 3), (92, .bipush 100, 2)] : List (Nat × Instr × Nat)), decode cX12_late q.1 = .ok (q.2.1, q.2.2) := by decide +kernel
theorem dc_Mod_late_1 : ∀ q ∈ ([(94, .iload 4, 2), (96, .imul, 1), (97, .iload 5, 2), (99, .iadd, 1), (100, .ireturn, 1), (101, .iinc 3 1, 3), (104, .iinc 5 1, 3), (107, .goto (-42), 3), (110, .iinc 4 1, 3), (113, .goto (-74), 3), (116, .iload_n 2, 1), (117, .iconst (-1), 1), (118, .if_icmp .ne 7, 3), (121, .iload_n 3, 1), (122, .goto 4, 3), (125, .iconst (-1), 1), (126, .ireturn, 1)] : List (Nat × Instr × Nat)), decode cX12_late q.1 = .ok (q.2.1, q.2.2) := by decide +kernel
abbrev X_Mod_late : MX := (cX12_late, RX12, "late", 6, (some (.int)), 6, 141)
theorem v_Mod_late_B116 (F : Nat)  (l2 l3 : Int) (h : Hp) : V X_Mod_late 116 [(2, 0, l2), (3, 0, l3)] [] h (Mod_late_B116 F  l2 l3 h) := by
  unfold Mod_late_B116
  refine V_iload_n (pc := 116) (DCa dc_Mod_late_1 10 rfl) rfl 0 rfl ?_
  refine V_iconst (pc := 117) (DCa dc_Mod_late_1 11 rfl) (by decide) ?_
  refine V_icmp_ne (tgt := 125) (pc := 118) (DCa dc_Mod_late_1 12 rfl) (by decide) (fun _ => ?_) (fun _ => ?_)
  · refine V_iload_n (pc := 121) (DCa dc_Mod_late_1 13 rfl) rfl 1 rfl ?_
    refine V_goto (tgt := 126) (pc := 122) (DCa dc_Mod_late_1 14 rfl) (by decide) ?_
    exact V_ireturn (pc := 126) (DCa dc_Mod_late_1 16 rfl) rfl
  · refine V_iconst (pc := 125) (DCa dc_Mod_late_1 15 rfl) (by decide) ?_
    exact V_ireturn (pc := 126) (DCa dc_Mod_late_1 16 rfl) rfl
theorem v_Mod_late_L65s (F : Nat) (R39 : Int → Int → Int → Int → Int → Hp → Option (Int × Hp)) (hR39 : ∀ (l0 l1 l2 l3 l4 : Int) (h : Hp), V X_Mod_late 39 [(0, 2, l0), (1, 0, l1), (2, 0, l2), (3, 0, l3), (4, 0, l4)] [] h (R39 l0 l1 l2 l3 l4 h)) (R65 : Int → Int → Int → Int → Int → Int → Hp → Option (Int × Hp)) (hR65 : ∀ (l0 l1 l2 l3 l4 l5 : Int) (h : Hp), V X_Mod_late 65 [(0, 2, l0), (1, 0, l1), (2, 0, l2), (3, 0, l3), (4, 0, l4), (5, 0, l5)] [] h (R65 l0 l1 l2 l3 l4 l5 h)) (l0 l1 l2 l3 l4 l5 : Int) (h : Hp) : V X_Mod_late 65 [(0, 2, l0), (1, 0, l1), (2, 0, l2), (3, 0, l3), (4, 0, l4), (5, 0, l5)] [] h (Mod_late_L65s F R39 R65 l0 l1 l2 l3 l4 l5 h) := by
  unfold Mod_late_L65s
  refine V_iload (pc := 65) (DCa dc_Mod_late_0 36 rfl) 5 rfl ?_
  refine V_bipush (pc := 67) (DCa dc_Mod_late_0 37 rfl) (by decide) ?_
  refine V_icmp_gt (tgt := 110) (pc := 69) (DCa dc_Mod_late_0 38 rfl) (by decide) (fun _ => ?_) (fun _ => ?_)
  · refine V_iinc (ls' := [(0, 2, l0), (1, 0, l1), (2, 0, l2), (3, 0, l3), (4, 0, w32 (l4 + 1)), (5, 0, l5)]) (pc := 110) (DCa dc_Mod_late_1 8 rfl) (Nat.le_of_ble_eq_true rfl) (by decide) 4 rfl rfl ?_
    refine V_goto (tgt := 39) (pc := 113) (DCa dc_Mod_late_1 9 rfl) (by decide) ?_
    refine V_pick [0, 1, 2, 3, 4] rfl ?_
    exact hR39 _ _ _ _ _ _
  · refine V_aload_n (pc := 72) (DCa dc_Mod_late_0 39 rfl) rfl 0 rfl ?_
    refine V_iload (pc := 73) (DCa dc_Mod_late_0 40 rfl) 4 rfl ?_
    refine V_iload (pc := 75) (DCa dc_Mod_late_0 41 rfl) 5 rfl ?_
    refine V_iload_n (pc := 77) (DCa dc_Mod_late_0 42 rfl) rfl 1 rfl ?_
    refine Q_callv (ci := 12) (st := []) (pc := 78) (DCa dc_Mod_late_0 43 rfl) (sp_Mod_isSo F _ _ _ _ _) ce_Mod_isSo ml_12_519 rfl rfl ⟨Nat.le_of_ble_eq_true rfl, Nat.le_of_ble_eq_true rfl⟩ rfl (Nat.le_of_ble_eq_true rfl) (fun r9 h10 => ?_)
    refine V_if_ne (tgt := 87) (pc := 81) (DCa dc_Mod_late_0 44 rfl) (by decide) (fun _ => ?_) (fun _ => ?_)
    · refine V_goto (tgt := 104) (pc := 84) (DCa dc_Mod_late_0 45 rfl) (by decide) ?_
      refine V_iinc (ls' := [(0, 2, l0), (1, 0, l1), (2, 0, l2), (3, 0, l3), (4, 0, l4), (5, 0, w32 (l5 + 1))]) (pc := 104) (DCa dc_Mod_late_1 6 rfl) (Nat.le_of_ble_eq_true rfl) (by decide) 5 rfl rfl ?_
      refine V_goto (tgt := 65) (pc := 107) (DCa dc_Mod_late_1 7 rfl) (by decide) ?_
      exact hR65 _ _ _ _ _ _ _
    · refine V_iload_n (pc := 87) (DCa dc_Mod_late_0 46 rfl) rfl 3 rfl ?_
      refine V_iload_n (pc := 88) (DCa dc_Mod_late_0 47 rfl) rfl 2 rfl ?_
      refine V_icmp_ne (tgt := 101) (pc := 89) (DCa dc_Mod_late_0 48 rfl) (by decide) (fun _ => ?_) (fun _ => ?_)
      · refine V_bipush (pc := 92) (DCa dc_Mod_late_0 49 rfl) (by decide) ?_
        refine V_iload (pc := 94) (DCa dc_Mod_late_1 0 rfl) 4 rfl ?_
        refine V_imul (pc := 96) (DCa dc_Mod_late_1 1 rfl) ?_
        refine V_iload (pc := 97) (DCa dc_Mod_late_1 2 rfl) 5 rfl ?_
        refine V_iadd (pc := 99) (DCa dc_Mod_late_1 3 rfl) ?_
        exact V_ireturn (pc := 100) (DCa dc_Mod_late_1 4 rfl) rfl
      · refine V_iinc (ls' := [(0, 2, l0), (1, 0, l1), (2, 0, l2), (3, 0, w32 (l3 + 1)), (4, 0, l4), (5, 0, l5)]) (pc := 101) (DCa dc_Mod_late_1 5 rfl) (Nat.le_of_ble_eq_true rfl) (by decide) 3 rfl rfl ?_
        refine V_iinc (ls' := [(0, 2, l0), (1, 0, l1), (2, 0, l2), (3, 0, w32 (l3 + 1)), (4, 0, l4), (5, 0, w32 (l5 + 1))]) (pc := 104) (DCa dc_Mod_late_1 6 rfl) (Nat.le_of_ble_eq_true rfl) (by decide) 5 rfl rfl ?_
        refine V_goto (tgt := 65) (pc := 107) (DCa dc_Mod_late_1 7 rfl) (by decide) ?_
        exact hR65 _ _ _ _ _ _ _
theorem v_Mod_late_L65 (F : Nat) (R39 : Int → Int → Int → Int → Int → Hp → Option (Int × Hp)) (hR39 : ∀ (l0 l1 l2 l3 l4 : Int) (h : Hp), V X_Mod_late 39 [(0, 2, l0), (1, 0, l1), (2, 0, l2), (3, 0, l3), (4, 0, l4)] [] h (R39 l0 l1 l2 l3 l4 h)) (n : Nat) : ∀ (l0 l1 l2 l3 l4 l5 : Int) (h : Hp), V X_Mod_late 65 [(0, 2, l0), (1, 0, l1), (2, 0, l2), (3, 0, l3), (4, 0, l4), (5, 0, l5)] [] h (Mod_late_L65 F R39 n l0 l1 l2 l3 l4 l5 h) := by
  induction n with
  | zero => intros; exact V_none
  | succ n ih => exact fun l0 l1 l2 l3 l4 l5 h => v_Mod_late_L65s F R39 hR39 _ ih l0 l1 l2 l3 l4 l5 h
theorem v_Mod_late_L39s (F : Nat)  (R39 : Int → Int → Int → Int → Int → Hp → Option (Int × Hp)) (hR39 : ∀ (l0 l1 l2 l3 l4 : Int) (h : Hp), V X_Mod_late 39 [(0, 2, l0), (1, 0, l1), (2, 0, l2), (3, 0, l3), (4, 0, l4)] [] h (R39 l0 l1 l2 l3 l4 h)) (l0 l1 l2 l3 l4 : Int) (h : Hp) : V X_Mod_late 39 [(0, 2, l0), (1, 0, l1), (2, 0, l2), (3, 0, l3), (4, 0, l4)] [] h (Mod_late_L39s F  R39 l0 l1 l2 l3 l4 h) := by
  unfold Mod_late_L39s
  refine V_iload (pc := 39) (DCa dc_Mod_late_0 23 rfl) 4 rfl ?_
  refine V_aload_n (pc := 41) (DCa dc_Mod_late_0 24 rfl) rfl 0 rfl ?_
  refine Q_getf (k := 27) (pc := 42) (DCa dc_Mod_late_0 25 rfl) cls_12 (Nat.le_of_ble_eq_true rfl) fl_12_58 rfl rfl rfl (fun v6 => ?_)
  refine V_aload_n (pc := 45) (DCa dc_Mod_late_0 26 rfl) rfl 0 rfl ?_
  refine Q_getf (k := 18) (pc := 46) (DCa dc_Mod_late_0 27 rfl) cls_12 (Nat.le_of_ble_eq_true rfl) fl_12_281 rfl rfl rfl (fun v7 => ?_)
  refine Q_iaload (pc := 49) (DCa dc_Mod_late_0 28 rfl) (fun v8 => ?_)
  refine V_icmp_ge (tgt := 116) (pc := 50) (DCa dc_Mod_late_0 29 rfl) (by decide) (fun _ => ?_) (fun _ => ?_)
  · refine V_iload (pc := 53) (DCa dc_Mod_late_0 30 rfl) 4 rfl ?_
    refine V_if_ne (tgt := 62) (pc := 55) (DCa dc_Mod_late_0 31 rfl) (by decide) (fun _ => ?_) (fun _ => ?_)
    · refine V_iconst (pc := 58) (DCa dc_Mod_late_0 32 rfl) (by decide) ?_
      refine V_goto (tgt := 63) (pc := 59) (DCa dc_Mod_late_0 33 rfl) (by decide) ?_
      refine V_istore (ls' := [(0, 2, l0), (1, 0, l1), (2, 0, l2), (3, 0, l3), (4, 0, l4), (5, 0, 0)]) (pc := 63) (DCa dc_Mod_late_0 35 rfl) (Nat.le_of_ble_eq_true rfl) rfl ?_
      exact v_Mod_late_L65 F R39 hR39 F _ _ _ _ _ _ _
    · refine V_iconst (pc := 62) (DCa dc_Mod_late_0 34 rfl) (by decide) ?_
      refine V_istore (ls' := [(0, 2, l0), (1, 0, l1), (2, 0, l2), (3, 0, l3), (4, 0, l4), (5, 0, 1)]) (pc := 63) (DCa dc_Mod_late_0 35 rfl) (Nat.le_of_ble_eq_true rfl) rfl ?_
      exact v_Mod_late_L65 F R39 hR39 F _ _ _ _ _ _ _
  · refine V_pick [2, 3] rfl ?_
    exact v_Mod_late_B116 F _ _ _
theorem v_Mod_late_L39 (F : Nat)  (n : Nat) : ∀ (l0 l1 l2 l3 l4 : Int) (h : Hp), V X_Mod_late 39 [(0, 2, l0), (1, 0, l1), (2, 0, l2), (3, 0, l3), (4, 0, l4)] [] h (Mod_late_L39 F  n l0 l1 l2 l3 l4 h) := by
  induction n with
  | zero => intros; exact V_none
  | succ n ih => exact fun l0 l1 l2 l3 l4 h => v_Mod_late_L39s F  _ ih l0 l1 l2 l3 l4 h
theorem v_Mod_late (F : Nat) (l0 l1 l2 : Int) (h : Hp) : V X_Mod_late 0 [(0, 2, l0), (1, 0, l1), (2, 0, l2)] [] h (Mod_late F l0 l1 l2 h) := by
  unfold Mod_late
  refine V_iload_n (pc := 0) (DCa dc_Mod_late_0 0 rfl) rfl 1 rfl ?_
  refine V_iconst (pc := 1) (DCa dc_Mod_late_0 1 rfl) (by decide) ?_
  refine V_aload_n (pc := 2) (DCa dc_Mod_late_0 2 rfl) rfl 0 rfl ?_
  refine Q_getf (k := 80) (pc := 3) (DCa dc_Mod_late_0 3 rfl) cls_12 (Nat.le_of_ble_eq_true rfl) fl_12_302 rfl rfl rfl (fun v1 => ?_)
  refine Q_calls (st := []) (pc := 6) (DCa dc_Mod_late_0 4 rfl) (sp_Mod_in F _ _ _ _) ce_Mod_in ml_12_355 rfl ⟨Nat.le_of_ble_eq_true rfl, Nat.le_of_ble_eq_true rfl⟩ rfl (Nat.le_of_ble_eq_true rfl) (fun r2 h3 => ?_)
  refine V_if_eq (tgt := 17) (pc := 9) (DCa dc_Mod_late_0 5 rfl) (by decide) (fun _ => ?_) (fun _ => ?_)
  · refine V_iconst (pc := 17) (DCa dc_Mod_late_0 9 rfl) (by decide) ?_
    exact V_ireturn (pc := 18) (DCa dc_Mod_late_0 10 rfl) rfl
  · refine V_iload_n (pc := 12) (DCa dc_Mod_late_0 6 rfl) rfl 2 rfl ?_
    refine V_iconst (pc := 13) (DCa dc_Mod_late_0 7 rfl) (by decide) ?_
    refine V_icmp_ge (tgt := 19) (pc := 14) (DCa dc_Mod_late_0 8 rfl) (by decide) (fun _ => ?_) (fun _ => ?_)
    · refine V_iconst (pc := 17) (DCa dc_Mod_late_0 9 rfl) (by decide) ?_
      exact V_ireturn (pc := 18) (DCa dc_Mod_late_0 10 rfl) rfl
    · refine V_aload_n (pc := 19) (DCa dc_Mod_late_0 11 rfl) rfl 0 rfl ?_
      refine Q_getf (k := 62) (pc := 20) (DCa dc_Mod_late_0 12 rfl) cls_12 (Nat.le_of_ble_eq_true rfl) fl_12_152 rfl rfl rfl (fun v4 => ?_)
      refine V_bipush (pc := 23) (DCa dc_Mod_late_0 13 rfl) (by decide) ?_
      refine Q_iaload (pc := 25) (DCa dc_Mod_late_0 14 rfl) (fun v5 => ?_)
      refine V_bipush (pc := 26) (DCa dc_Mod_late_0 15 rfl) (by decide) ?_
      refine V_icmp_le (tgt := 34) (pc := 28) (DCa dc_Mod_late_0 16 rfl) (by decide) (fun _ => ?_) (fun _ => ?_)
      · refine V_bipush (pc := 31) (DCa dc_Mod_late_0 17 rfl) (by decide) ?_
        exact V_ireturn (pc := 33) (DCa dc_Mod_late_0 18 rfl) rfl
      · refine V_iconst (pc := 34) (DCa dc_Mod_late_0 19 rfl) (by decide) ?_
        refine V_istore_n (ls' := [(0, 2, l0), (1, 0, l1), (2, 0, l2), (3, 0, 0)]) (pc := 35) (DCa dc_Mod_late_0 20 rfl) rfl (Nat.le_of_ble_eq_true rfl) rfl ?_
        refine V_iconst (pc := 36) (DCa dc_Mod_late_0 21 rfl) (by decide) ?_
        refine V_istore (ls' := [(0, 2, l0), (1, 0, l1), (2, 0, l2), (3, 0, 0), (4, 0, 0)]) (pc := 37) (DCa dc_Mod_late_0 22 rfl) (Nat.le_of_ble_eq_true rfl) rfl ?_
        exact v_Mod_late_L39 F F _ _ _ _ _ _
theorem sp_Mod_late (F : Nat) (l0 l1 l2 : Int) (h : Hp) : Sp yX12_late cX12_late 6 (some (.int)) 6 141 [(2, l0), (0, l1), (0, l2)] h (Mod_late F l0 l1 l2 h) := Sp_of (by decide +kernel) rfl rfl (Nat.le_of_ble_eq_true rfl) (v_Mod_late F l0 l1 l2 h)

-- TideRakesModel.hold
def Mod_hold_L20s (F : Nat)  (R20 : Int → Int → Int → Hp → Option (Int × Hp)) (l0 l1 l2 : Int) (h : Hp) : Option (Int × Hp) :=
  if l2 < 140 then
    (gf h l0 112 85 fun v5 =>
    gf h l0 112 62 fun v6 =>
    al h v6 0 l2 fun v7 =>
    as h v5 0 (w32 ((w32 (140 * l1)) + l2)) v7 fun h8 =>
    R20 l0 l1 (w32 (l2 + 1)) h8)
  else
    (rz 1 h)
def Mod_hold_L20 (F : Nat)  : Nat → Int → Int → Int → Hp → Option (Int × Hp)
  | 0 => fun _ _ _ _ => none
  | n + 1 => Mod_hold_L20s F  (Mod_hold_L20 F  n)
def Mod_hold (F : Nat) (l0 l1 : Int) (h : Hp) : Option (Int × Hp) :=
  cl (Mod_in F l1 0 2 h) fun r1 h2 =>
  if r1 = 0 then
    (rz 0 h2)
  else
    (gf h2 l0 112 84 fun v3 =>
    az h2 v3 l1 1 fun h4 =>
    Mod_hold_L20 F F l0 l1 0 h4)

theorem dc_Mod_hold_0 : ∀ q ∈ ([(0, .iload_n 1, 1), (1, .iconst 0, 1), (2, .iconst 2, 1), (3, .invokestatic 355, 3), (6, .ifCond .ne 5, 3), (9, .iconst 0, 1), (10, .ireturn, 1), (11, .aload_n 0, 1), (12, .getfield 191, 3), (15, .iload_n 1, 1), (16, .iconst 1, 1), (17, .bastore, 1), (18, .iconst 0, 1), (19, .istore_n 2, 1), (20, .iload_n 2, 1), (21, .sipush 140, 3), (24, .if_icmp .ge 27, 3), (27, .aload_n 0, 1), (28, .getfield 194, 3), (31, .sipush 140, 3), (34, .iload_n 1, 1), (35, .imul, 1), (36, .iload_n 2, 1), (37, .iadd, 1), (38, .aload_n 0, 1), (39, .getfield 152, 3), (42, .iload_n 2, 1), (43, .iaload, 1), (44, .iastore, 1), (45, .iinc 2 1, 3), (48, .goto (-28), 3), (51, .iconst 1, 1), (52, .ireturn, 1)] : List (Nat × Instr × Nat)), decode cX12_hold q.1 = .ok (q.2.1, q.2.2) := by decide +kernel
abbrev X_Mod_hold : MX := (cX12_hold, RX12, "hold", 3, (some (.boolean)), 2, 42)
theorem v_Mod_hold_L20s (F : Nat)  (R20 : Int → Int → Int → Hp → Option (Int × Hp)) (hR20 : ∀ (l0 l1 l2 : Int) (h : Hp), V X_Mod_hold 20 [(0, 2, l0), (1, 0, l1), (2, 0, l2)] [] h (R20 l0 l1 l2 h)) (l0 l1 l2 : Int) (h : Hp) : V X_Mod_hold 20 [(0, 2, l0), (1, 0, l1), (2, 0, l2)] [] h (Mod_hold_L20s F  R20 l0 l1 l2 h) := by
  unfold Mod_hold_L20s
  refine V_iload_n (pc := 20) (DCa dc_Mod_hold_0 14 rfl) rfl 2 rfl ?_
  refine V_sipush (pc := 21) (DCa dc_Mod_hold_0 15 rfl) (by decide) ?_
  refine V_icmp_ge (tgt := 51) (pc := 24) (DCa dc_Mod_hold_0 16 rfl) (by decide) (fun _ => ?_) (fun _ => ?_)
  · refine V_aload_n (pc := 27) (DCa dc_Mod_hold_0 17 rfl) rfl 0 rfl ?_
    refine Q_getf (k := 85) (pc := 28) (DCa dc_Mod_hold_0 18 rfl) cls_12 (Nat.le_of_ble_eq_true rfl) fl_12_194 rfl rfl rfl (fun v5 => ?_)
    refine V_sipush (pc := 31) (DCa dc_Mod_hold_0 19 rfl) (by decide) ?_
    refine V_iload_n (pc := 34) (DCa dc_Mod_hold_0 20 rfl) rfl 1 rfl ?_
    refine V_imul (pc := 35) (DCa dc_Mod_hold_0 21 rfl) ?_
    refine V_iload_n (pc := 36) (DCa dc_Mod_hold_0 22 rfl) rfl 2 rfl ?_
    refine V_iadd (pc := 37) (DCa dc_Mod_hold_0 23 rfl) ?_
    refine V_aload_n (pc := 38) (DCa dc_Mod_hold_0 24 rfl) rfl 0 rfl ?_
    refine Q_getf (k := 62) (pc := 39) (DCa dc_Mod_hold_0 25 rfl) cls_12 (Nat.le_of_ble_eq_true rfl) fl_12_152 rfl rfl rfl (fun v6 => ?_)
    refine V_iload_n (pc := 42) (DCa dc_Mod_hold_0 26 rfl) rfl 2 rfl ?_
    refine Q_iaload (pc := 43) (DCa dc_Mod_hold_0 27 rfl) (fun v7 => ?_)
    refine Q_iastore (pc := 44) (DCa dc_Mod_hold_0 28 rfl) (fun h8 => ?_)
    refine V_iinc (ls' := [(0, 2, l0), (1, 0, l1), (2, 0, w32 (l2 + 1))]) (pc := 45) (DCa dc_Mod_hold_0 29 rfl) (Nat.le_of_ble_eq_true rfl) (by decide) 2 rfl rfl ?_
    refine V_goto (tgt := 20) (pc := 48) (DCa dc_Mod_hold_0 30 rfl) (by decide) ?_
    exact hR20 _ _ _ _
  · refine V_iconst (pc := 51) (DCa dc_Mod_hold_0 31 rfl) (by decide) ?_
    exact V_zreturn (pc := 52) (DCa dc_Mod_hold_0 32 rfl) rfl
theorem v_Mod_hold_L20 (F : Nat)  (n : Nat) : ∀ (l0 l1 l2 : Int) (h : Hp), V X_Mod_hold 20 [(0, 2, l0), (1, 0, l1), (2, 0, l2)] [] h (Mod_hold_L20 F  n l0 l1 l2 h) := by
  induction n with
  | zero => intros; exact V_none
  | succ n ih => exact fun l0 l1 l2 h => v_Mod_hold_L20s F  _ ih l0 l1 l2 h
theorem v_Mod_hold (F : Nat) (l0 l1 : Int) (h : Hp) : V X_Mod_hold 0 [(0, 2, l0), (1, 0, l1)] [] h (Mod_hold F l0 l1 h) := by
  unfold Mod_hold
  refine V_iload_n (pc := 0) (DCa dc_Mod_hold_0 0 rfl) rfl 1 rfl ?_
  refine V_iconst (pc := 1) (DCa dc_Mod_hold_0 1 rfl) (by decide) ?_
  refine V_iconst (pc := 2) (DCa dc_Mod_hold_0 2 rfl) (by decide) ?_
  refine Q_calls (st := []) (pc := 3) (DCa dc_Mod_hold_0 3 rfl) (sp_Mod_in F _ _ _ _) ce_Mod_in ml_12_355 rfl ⟨Nat.le_of_ble_eq_true rfl, Nat.le_of_ble_eq_true rfl⟩ rfl (Nat.le_of_ble_eq_true rfl) (fun r1 h2 => ?_)
  refine V_if_ne (tgt := 11) (pc := 6) (DCa dc_Mod_hold_0 4 rfl) (by decide) (fun _ => ?_) (fun _ => ?_)
  · refine V_iconst (pc := 9) (DCa dc_Mod_hold_0 5 rfl) (by decide) ?_
    exact V_zreturn (pc := 10) (DCa dc_Mod_hold_0 6 rfl) rfl
  · refine V_aload_n (pc := 11) (DCa dc_Mod_hold_0 7 rfl) rfl 0 rfl ?_
    refine Q_getf (k := 84) (pc := 12) (DCa dc_Mod_hold_0 8 rfl) cls_12 (Nat.le_of_ble_eq_true rfl) fl_12_191 rfl rfl rfl (fun v3 => ?_)
    refine V_iload_n (pc := 15) (DCa dc_Mod_hold_0 9 rfl) rfl 1 rfl ?_
    refine V_iconst (pc := 16) (DCa dc_Mod_hold_0 10 rfl) (by decide) ?_
    refine Q_zastore (pc := 17) (DCa dc_Mod_hold_0 11 rfl) (fun h4 => ?_)
    refine V_iconst (pc := 18) (DCa dc_Mod_hold_0 12 rfl) (by decide) ?_
    refine V_istore_n (ls' := [(0, 2, l0), (1, 0, l1), (2, 0, 0)]) (pc := 19) (DCa dc_Mod_hold_0 13 rfl) rfl (Nat.le_of_ble_eq_true rfl) rfl ?_
    exact v_Mod_hold_L20 F F _ _ _ _
theorem sp_Mod_hold (F : Nat) (l0 l1 : Int) (h : Hp) : Sp yX12_hold cX12_hold 3 (some (.boolean)) 2 42 [(2, l0), (0, l1)] h (Mod_hold F l0 l1 h) := Sp_of (by decide +kernel) rfl rfl (Nat.le_of_ble_eq_true rfl) (v_Mod_hold F l0 l1 h)

-- TideRakesModel.restore
def Mod_restore_L22s (F : Nat)  (R22 : Int → Int → Int → Hp → Option (Int × Hp)) (l0 l1 l2 : Int) (h : Hp) : Option (Int × Hp) :=
  if l2 < 140 then
    (gf h l0 112 62 fun v5 =>
    gf h l0 112 85 fun v6 =>
    al h v6 0 (w32 ((w32 (140 * l1)) + l2)) fun v7 =>
    as h v5 0 l2 v7 fun h8 =>
    R22 l0 l1 (w32 (l2 + 1)) h8)
  else
    (pf h l0 112 64 0 fun h9 =>
    rz 1 h9)
def Mod_restore_L22 (F : Nat)  : Nat → Int → Int → Int → Hp → Option (Int × Hp)
  | 0 => fun _ _ _ _ => none
  | n + 1 => Mod_restore_L22s F  (Mod_restore_L22 F  n)
def Mod_restore (F : Nat) (l0 l1 : Int) (h : Hp) : Option (Int × Hp) :=
  cl (Mod_in F l1 0 2 h) fun r1 h2 =>
  if r1 = 0 then
    (rz 0 h2)
  else
    (gf h2 l0 112 84 fun v3 =>
    al h2 v3 2 l1 fun v4 =>
    if v4 = 0 then
      (rz 0 h2)
    else
      (Mod_restore_L22 F F l0 l1 0 h2))

theorem dc_Mod_restore_0 : ∀ q ∈ ([(0, .iload_n 1, 1), (1, .iconst 0, 1), (2, .iconst 2, 1), (3, .invokestatic 355, 3), (6, .ifCond .eq 12, 3), (9, .aload_n 0, 1), (10, .getfield 191, 3), (13, .iload_n 1, 1), (14, .baload, 1), (15, .ifCond .ne 5, 3), (18, .iconst 0, 1), (19, .ireturn, 1), (20, .iconst 0, 1), (21, .istore_n 2, 1), (22, .iload_n 2, 1), (23, .sipush 140, 3), (26, .if_icmp .ge 27, 3), (29, .aload_n 0, 1), (30, .getfield 152, 3), (33, .iload_n 2, 1), (34, .aload_n 0, 1), (35, .getfield 194, 3), (38, .sipush 140, 3), (41, .iload_n 1, 1), (42, .imul, 1), (43, .iload_n 2, 1), (44, .iadd, 1), (45, .iaload, 1), (46, .iastore, 1), (47, .iinc 2 1, 3), (50, .goto (-28), 3), (53, .aload_n 0, 1), (54, .iconst 0, 1), (55, .putfield 299, 3), (58, .iconst 1, 1), (59, .ireturn, 1)] : List (Nat × Instr × Nat)), decode cX12_restore q.1 = .ok (q.2.1, q.2.2) := by decide +kernel
abbrev X_Mod_restore : MX := (cX12_restore, RX12, "restore", 3, (some (.boolean)), 2, 42)
theorem v_Mod_restore_L22s (F : Nat)  (R22 : Int → Int → Int → Hp → Option (Int × Hp)) (hR22 : ∀ (l0 l1 l2 : Int) (h : Hp), V X_Mod_restore 22 [(0, 2, l0), (1, 0, l1), (2, 0, l2)] [] h (R22 l0 l1 l2 h)) (l0 l1 l2 : Int) (h : Hp) : V X_Mod_restore 22 [(0, 2, l0), (1, 0, l1), (2, 0, l2)] [] h (Mod_restore_L22s F  R22 l0 l1 l2 h) := by
  unfold Mod_restore_L22s
  refine V_iload_n (pc := 22) (DCa dc_Mod_restore_0 14 rfl) rfl 2 rfl ?_
  refine V_sipush (pc := 23) (DCa dc_Mod_restore_0 15 rfl) (by decide) ?_
  refine V_icmp_ge (tgt := 53) (pc := 26) (DCa dc_Mod_restore_0 16 rfl) (by decide) (fun _ => ?_) (fun _ => ?_)
  · refine V_aload_n (pc := 29) (DCa dc_Mod_restore_0 17 rfl) rfl 0 rfl ?_
    refine Q_getf (k := 62) (pc := 30) (DCa dc_Mod_restore_0 18 rfl) cls_12 (Nat.le_of_ble_eq_true rfl) fl_12_152 rfl rfl rfl (fun v5 => ?_)
    refine V_iload_n (pc := 33) (DCa dc_Mod_restore_0 19 rfl) rfl 2 rfl ?_
    refine V_aload_n (pc := 34) (DCa dc_Mod_restore_0 20 rfl) rfl 0 rfl ?_
    refine Q_getf (k := 85) (pc := 35) (DCa dc_Mod_restore_0 21 rfl) cls_12 (Nat.le_of_ble_eq_true rfl) fl_12_194 rfl rfl rfl (fun v6 => ?_)
    refine V_sipush (pc := 38) (DCa dc_Mod_restore_0 22 rfl) (by decide) ?_
    refine V_iload_n (pc := 41) (DCa dc_Mod_restore_0 23 rfl) rfl 1 rfl ?_
    refine V_imul (pc := 42) (DCa dc_Mod_restore_0 24 rfl) ?_
    refine V_iload_n (pc := 43) (DCa dc_Mod_restore_0 25 rfl) rfl 2 rfl ?_
    refine V_iadd (pc := 44) (DCa dc_Mod_restore_0 26 rfl) ?_
    refine Q_iaload (pc := 45) (DCa dc_Mod_restore_0 27 rfl) (fun v7 => ?_)
    refine Q_iastore (pc := 46) (DCa dc_Mod_restore_0 28 rfl) (fun h8 => ?_)
    refine V_iinc (ls' := [(0, 2, l0), (1, 0, l1), (2, 0, w32 (l2 + 1))]) (pc := 47) (DCa dc_Mod_restore_0 29 rfl) (Nat.le_of_ble_eq_true rfl) (by decide) 2 rfl rfl ?_
    refine V_goto (tgt := 22) (pc := 50) (DCa dc_Mod_restore_0 30 rfl) (by decide) ?_
    exact hR22 _ _ _ _
  · refine V_aload_n (pc := 53) (DCa dc_Mod_restore_0 31 rfl) rfl 0 rfl ?_
    refine V_iconst (pc := 54) (DCa dc_Mod_restore_0 32 rfl) (by decide) ?_
    refine Q_putf (k := 64) (pc := 55) (DCa dc_Mod_restore_0 33 rfl) cls_12 (Nat.le_of_ble_eq_true rfl) fl_12_299 rfl rfl rfl (Or.inl rfl) (Or.inl ⟨rfl, rfl⟩) (fun h9 => ?_)
    refine V_iconst (pc := 58) (DCa dc_Mod_restore_0 34 rfl) (by decide) ?_
    exact V_zreturn (pc := 59) (DCa dc_Mod_restore_0 35 rfl) rfl
theorem v_Mod_restore_L22 (F : Nat)  (n : Nat) : ∀ (l0 l1 l2 : Int) (h : Hp), V X_Mod_restore 22 [(0, 2, l0), (1, 0, l1), (2, 0, l2)] [] h (Mod_restore_L22 F  n l0 l1 l2 h) := by
  induction n with
  | zero => intros; exact V_none
  | succ n ih => exact fun l0 l1 l2 h => v_Mod_restore_L22s F  _ ih l0 l1 l2 h
theorem v_Mod_restore (F : Nat) (l0 l1 : Int) (h : Hp) : V X_Mod_restore 0 [(0, 2, l0), (1, 0, l1)] [] h (Mod_restore F l0 l1 h) := by
  unfold Mod_restore
  refine V_iload_n (pc := 0) (DCa dc_Mod_restore_0 0 rfl) rfl 1 rfl ?_
  refine V_iconst (pc := 1) (DCa dc_Mod_restore_0 1 rfl) (by decide) ?_
  refine V_iconst (pc := 2) (DCa dc_Mod_restore_0 2 rfl) (by decide) ?_
  refine Q_calls (st := []) (pc := 3) (DCa dc_Mod_restore_0 3 rfl) (sp_Mod_in F _ _ _ _) ce_Mod_in ml_12_355 rfl ⟨Nat.le_of_ble_eq_true rfl, Nat.le_of_ble_eq_true rfl⟩ rfl (Nat.le_of_ble_eq_true rfl) (fun r1 h2 => ?_)
  refine V_if_eq (tgt := 18) (pc := 6) (DCa dc_Mod_restore_0 4 rfl) (by decide) (fun _ => ?_) (fun _ => ?_)
  · refine V_iconst (pc := 18) (DCa dc_Mod_restore_0 10 rfl) (by decide) ?_
    exact V_zreturn (pc := 19) (DCa dc_Mod_restore_0 11 rfl) rfl
  · refine V_aload_n (pc := 9) (DCa dc_Mod_restore_0 5 rfl) rfl 0 rfl ?_
    refine Q_getf (k := 84) (pc := 10) (DCa dc_Mod_restore_0 6 rfl) cls_12 (Nat.le_of_ble_eq_true rfl) fl_12_191 rfl rfl rfl (fun v3 => ?_)
    refine V_iload_n (pc := 13) (DCa dc_Mod_restore_0 7 rfl) rfl 1 rfl ?_
    refine Q_zaload (pc := 14) (DCa dc_Mod_restore_0 8 rfl) (fun v4 => ?_)
    refine V_if_ne (tgt := 20) (pc := 15) (DCa dc_Mod_restore_0 9 rfl) (by decide) (fun _ => ?_) (fun _ => ?_)
    · refine V_iconst (pc := 18) (DCa dc_Mod_restore_0 10 rfl) (by decide) ?_
      exact V_zreturn (pc := 19) (DCa dc_Mod_restore_0 11 rfl) rfl
    · refine V_iconst (pc := 20) (DCa dc_Mod_restore_0 12 rfl) (by decide) ?_
      refine V_istore_n (ls' := [(0, 2, l0), (1, 0, l1), (2, 0, 0)]) (pc := 21) (DCa dc_Mod_restore_0 13 rfl) rfl (Nat.le_of_ble_eq_true rfl) rfl ?_
      exact v_Mod_restore_L22 F F _ _ _ _
theorem sp_Mod_restore (F : Nat) (l0 l1 : Int) (h : Hp) : Sp yX12_restore cX12_restore 3 (some (.boolean)) 2 42 [(2, l0), (0, l1)] h (Mod_restore F l0 l1 h) := Sp_of (by decide +kernel) rfl rfl (Nat.le_of_ble_eq_true rfl) (v_Mod_restore F l0 l1 h)

-- TideRakesModel.count
def Mod_count_L104s (F : Nat)  (R104 : Int → Int → Int → Hp → Option (Int × Hp)) (l0 l2 l3 : Int) (h : Hp) : Option (Int × Hp) :=
  gf h l0 112 22 fun v20 =>
  gf h l0 112 18 fun v21 =>
  al h v20 0 v21 fun v22 =>
  if l3 < v22 then
    (gf h l0 112 62 fun v23 =>
    al h v23 0 l3 fun v24 =>
    if v24 = (-2) then
      (R104 l0 l2 (w32 (l3 + 1)) h)
    else
      (R104 l0 (w32 (l2 + 1)) (w32 (l3 + 1)) h))
  else
    (some (l2, h))
def Mod_count_L104 (F : Nat)  : Nat → Int → Int → Int → Hp → Option (Int × Hp)
  | 0 => fun _ _ _ _ => none
  | n + 1 => Mod_count_L104s F  (Mod_count_L104 F  n)
def Mod_count_L143s (F : Nat)  (R143 : Int → Int → Int → Hp → Option (Int × Hp)) (l0 l2 l3 : Int) (h : Hp) : Option (Int × Hp) :=
  gf h l0 112 22 fun v25 =>
  gf h l0 112 18 fun v26 =>
  al h v25 0 v26 fun v27 =>
  if l3 < v27 then
    (gf h l0 112 62 fun v28 =>
    al h v28 0 (w32 (8 + l3)) fun v29 =>
    lt (w32 (l2 + v29)) fun x30 =>
    R143 l0 x30 (w32 (l3 + 1)) h)
  else
    (some (l2, h))
def Mod_count_L143 (F : Nat)  : Nat → Int → Int → Int → Hp → Option (Int × Hp)
  | 0 => fun _ _ _ _ => none
  | n + 1 => Mod_count_L143s F  (Mod_count_L143 F  n)
def Mod_count_B227 (F : Nat)  (l0 s0 s1 : Int) (h : Hp) : Option (Int × Hp) :=
  gf h l0 112 84 fun v33 =>
  al h v33 2 2 fun v34 =>
  if v34 = 0 then
    (some (w32 ((w32 (s1 + s0)) + 0), h))
  else
    (some (w32 ((w32 (s1 + s0)) + 1), h))
def Mod_count_B213 (F : Nat)  (l0 s0 : Int) (h : Hp) : Option (Int × Hp) :=
  gf h l0 112 84 fun v31 =>
  al h v31 2 1 fun v32 =>
  if v32 = 0 then
    (Mod_count_B227 F l0 0 s0 h)
  else
    (Mod_count_B227 F l0 1 s0 h)
def Mod_count (F : Nat) (l0 l1 : Int) (h : Hp) : Option (Int × Hp) :=
  tsw l1 0 11 (fun i => match i with
    | 0 => (gf h l0 112 22 fun v1 =>
    gf h l0 112 18 fun v2 =>
    al h v1 0 v2 fun v3 =>
    some (v3, h))
    | 1 => (gf h l0 112 27 fun v4 =>
    gf h l0 112 18 fun v5 =>
    al h v4 0 v5 fun v6 =>
    some (v6, h))
    | 2 => (gf h l0 112 31 fun v7 =>
    gf h l0 112 18 fun v8 =>
    al h v7 0 v8 fun v9 =>
    some (v9, h))
    | 3 => (gf h l0 112 32 fun v10 =>
    gf h l0 112 18 fun v11 =>
    al h v10 0 v11 fun v12 =>
    some (v12, h))
    | 4 => (Mod_count_L104 F F l0 0 0 h)
    | 5 => (Mod_count_L143 F F l0 0 0 h)
    | 6 => (gf h l0 112 62 fun v13 =>
    al h v13 0 44 fun v14 =>
    some (v14, h))
    | 7 => (gf h l0 112 2 fun v15 =>
    some (v15, h))
    | 8 => (gf h l0 112 64 fun v16 =>
    some (v16, h))
    | 9 => (gf h l0 112 80 fun v17 =>
    some (v17, h))
    | _ => (gf h l0 112 84 fun v18 =>
    al h v18 2 0 fun v19 =>
    if v19 = 0 then
      (Mod_count_B213 F l0 0 h)
    else
      (Mod_count_B213 F l0 1 h)))
    (some ((-1), h))

theorem dc_Mod_count_0 : ∀ q ∈ ([(0, .iload_n 1, 1), (1, .tableswitch 243 0 10 #[59, 69, 79, 89, 99, 138, 175, 183, 188, 193, 198], 59), (60, .aload_n 0, 1), (61, .getfield 43, 3), (64, .aload_n 0, 1), (65, .getfield 281, 3), (68, .iaload, 1), (69, .ireturn, 1), (70, .aload_n 0, 1), (71, .getfield 58, 3), (74, .aload_n 0, 1), (75, .getfield 281, 3), (78, .iaload, 1), (79, .ireturn, 1), (80, .aload_n 0, 1), (81, .getfield 70, 3), (84, .aload_n 0, 1), (85, .getfield 281, 3), (88, .iaload, 1), (89, .ireturn, 1), (90, .aload_n 0, 1), (91, .getfield 73, 3), (94, .aload_n 0, 1), (95, .getfield 281, 3), (98, .iaload, 1), (99, .ireturn, 1), (100, .iconst 0, 1), (101, .istore_n 2, 1), (102, .iconst 0, 1), (103, .istore_n 3, 1), (104, .iload_n 3, 1), (105, .aload_n 0, 1), (106, .getfield 43, 3), (109, .aload_n 0, 1), (110, .getfield 281, 3), (113, .iaload, 1), (114, .if_icmp .ge 23, 3), (117, .aload_n 0, 1), (118, .getfield 152, 3), (121, .iload_n 3, 1), (122, .iaload, 1), (123, .bipush (-2), 2), (125, .if_icmp .eq 6, 3), (128, .iinc 2 1, 3), (131, .iinc 3 1, 3), (134, .goto (-30), 3), (137, .iload_n 2, 1), (138, .ireturn, 1), (139, .iconst 0, 1), (140, .istore_n 2, 1)] : List (Nat × Instr × Nat)), decode cX12_count q.1 = .ok (q.2.1, q.2.2) := by decide +kernel
theorem dc_Mod_count_1 : ∀ q ∈ ([(141, .iconst 0, 1), (142, .istore_n 3, 1), (143, .iload_n 3, 1), (144, .aload_n 0, 1), (145, .getfield 43, 3), (148, .aload_n 0, 1), (149, .getfield 281, 3), (152, .iaload, 1), (153, .if_icmp .ge 21, 3), (156, .iload_n 2, 1), (157, .aload_n 0, 1), (158, .getfield 152, 3), (161, .bipush 8, 2), (163, .iload_n 3, 1), (164, .iadd, 1), (165, .iaload, 1), (166, .iadd, 1), (167, .istore_n 2, 1), (168, .iinc 3 1, 3), (171, .goto (-28), 3), (174, .iload_n 2, 1), (175, .ireturn, 1), (176, .aload_n 0, 1), (177, .getfield 152, 3), (180, .bipush 44, 2), (182, .iaload, 1), (183, .ireturn, 1), (184, .aload_n 0, 1), (185, .getfield 214, 3), (188, .ireturn, 1), (189, .aload_n 0, 1), (190, .getfield 299, 3), (193, .ireturn, 1), (194, .aload_n 0, 1), (195, .getfield 302, 3), (198, .ireturn, 1), (199, .aload_n 0, 1), (200, .getfield 191, 3), (203, .iconst 0, 1), (204, .baload, 1), (205, .ifCond .eq 7, 3), (208, .iconst 1, 1), (209, .goto 4, 3), (212, .iconst 0, 1), (213, .aload_n 0, 1), (214, .getfield 191, 3), (217, .iconst 1, 1), (218, .baload, 1), (219, .ifCond .eq 7, 3), (222, .iconst 1, 1)] : List (Nat × Instr × Nat)), decode cX12_count q.1 = .ok (q.2.1, q.2.2) := by decide +kernel
theorem dc_Mod_count_2 : ∀ q ∈ ([(223, .goto 4, 3), (226, .iconst 0, 1), (227, .iadd, 1), (228, .aload_n 0, 1), (229, .getfield 191, 3), (232, .iconst 2, 1), (233, .baload, 1), (234, .ifCond .eq 7, 3), (237, .iconst 1, 1), (238, .goto 4, 3), (241, .iconst 0, 1), (242, .iadd, 1), (243, .ireturn, 1), (244, .iconst (-1), 1), (245, .ireturn, 1)] : List (Nat × Instr × Nat)), decode cX12_count q.1 = .ok (q.2.1, q.2.2) := by decide +kernel
abbrev X_Mod_count : MX := (cX12_count, RX12, "count", 4, (some (.int)), 1, 20)
theorem v_Mod_count_L104s (F : Nat)  (R104 : Int → Int → Int → Hp → Option (Int × Hp)) (hR104 : ∀ (l0 l2 l3 : Int) (h : Hp), V X_Mod_count 104 [(0, 2, l0), (2, 0, l2), (3, 0, l3)] [] h (R104 l0 l2 l3 h)) (l0 l2 l3 : Int) (h : Hp) : V X_Mod_count 104 [(0, 2, l0), (2, 0, l2), (3, 0, l3)] [] h (Mod_count_L104s F  R104 l0 l2 l3 h) := by
  unfold Mod_count_L104s
  refine V_iload_n (pc := 104) (DCa dc_Mod_count_0 30 rfl) rfl 2 rfl ?_
  refine V_aload_n (pc := 105) (DCa dc_Mod_count_0 31 rfl) rfl 0 rfl ?_
  refine Q_getf (k := 22) (pc := 106) (DCa dc_Mod_count_0 32 rfl) cls_12 (Nat.le_of_ble_eq_true rfl) fl_12_43 rfl rfl rfl (fun v20 => ?_)
  refine V_aload_n (pc := 109) (DCa dc_Mod_count_0 33 rfl) rfl 0 rfl ?_
  refine Q_getf (k := 18) (pc := 110) (DCa dc_Mod_count_0 34 rfl) cls_12 (Nat.le_of_ble_eq_true rfl) fl_12_281 rfl rfl rfl (fun v21 => ?_)
  refine Q_iaload (pc := 113) (DCa dc_Mod_count_0 35 rfl) (fun v22 => ?_)
  refine V_icmp_ge (tgt := 137) (pc := 114) (DCa dc_Mod_count_0 36 rfl) (by decide) (fun _ => ?_) (fun _ => ?_)
  · refine V_aload_n (pc := 117) (DCa dc_Mod_count_0 37 rfl) rfl 0 rfl ?_
    refine Q_getf (k := 62) (pc := 118) (DCa dc_Mod_count_0 38 rfl) cls_12 (Nat.le_of_ble_eq_true rfl) fl_12_152 rfl rfl rfl (fun v23 => ?_)
    refine V_iload_n (pc := 121) (DCa dc_Mod_count_0 39 rfl) rfl 2 rfl ?_
    refine Q_iaload (pc := 122) (DCa dc_Mod_count_0 40 rfl) (fun v24 => ?_)
    refine V_bipush (pc := 123) (DCa dc_Mod_count_0 41 rfl) (by decide) ?_
    refine V_icmp_eq (tgt := 131) (pc := 125) (DCa dc_Mod_count_0 42 rfl) (by decide) (fun _ => ?_) (fun _ => ?_)
    · refine V_iinc (ls' := [(0, 2, l0), (2, 0, l2), (3, 0, w32 (l3 + 1))]) (pc := 131) (DCa dc_Mod_count_0 44 rfl) (Nat.le_of_ble_eq_true rfl) (by decide) 2 rfl rfl ?_
      refine V_goto (tgt := 104) (pc := 134) (DCa dc_Mod_count_0 45 rfl) (by decide) ?_
      exact hR104 _ _ _ _
    · refine V_iinc (ls' := [(0, 2, l0), (2, 0, w32 (l2 + 1)), (3, 0, l3)]) (pc := 128) (DCa dc_Mod_count_0 43 rfl) (Nat.le_of_ble_eq_true rfl) (by decide) 1 rfl rfl ?_
      refine V_iinc (ls' := [(0, 2, l0), (2, 0, w32 (l2 + 1)), (3, 0, w32 (l3 + 1))]) (pc := 131) (DCa dc_Mod_count_0 44 rfl) (Nat.le_of_ble_eq_true rfl) (by decide) 2 rfl rfl ?_
      refine V_goto (tgt := 104) (pc := 134) (DCa dc_Mod_count_0 45 rfl) (by decide) ?_
      exact hR104 _ _ _ _
  · refine V_iload_n (pc := 137) (DCa dc_Mod_count_0 46 rfl) rfl 1 rfl ?_
    exact V_ireturn (pc := 138) (DCa dc_Mod_count_0 47 rfl) rfl
theorem v_Mod_count_L104 (F : Nat)  (n : Nat) : ∀ (l0 l2 l3 : Int) (h : Hp), V X_Mod_count 104 [(0, 2, l0), (2, 0, l2), (3, 0, l3)] [] h (Mod_count_L104 F  n l0 l2 l3 h) := by
  induction n with
  | zero => intros; exact V_none
  | succ n ih => exact fun l0 l2 l3 h => v_Mod_count_L104s F  _ ih l0 l2 l3 h
theorem v_Mod_count_L143s (F : Nat)  (R143 : Int → Int → Int → Hp → Option (Int × Hp)) (hR143 : ∀ (l0 l2 l3 : Int) (h : Hp), V X_Mod_count 143 [(0, 2, l0), (2, 0, l2), (3, 0, l3)] [] h (R143 l0 l2 l3 h)) (l0 l2 l3 : Int) (h : Hp) : V X_Mod_count 143 [(0, 2, l0), (2, 0, l2), (3, 0, l3)] [] h (Mod_count_L143s F  R143 l0 l2 l3 h) := by
  unfold Mod_count_L143s
  refine V_iload_n (pc := 143) (DCa dc_Mod_count_1 2 rfl) rfl 2 rfl ?_
  refine V_aload_n (pc := 144) (DCa dc_Mod_count_1 3 rfl) rfl 0 rfl ?_
  refine Q_getf (k := 22) (pc := 145) (DCa dc_Mod_count_1 4 rfl) cls_12 (Nat.le_of_ble_eq_true rfl) fl_12_43 rfl rfl rfl (fun v25 => ?_)
  refine V_aload_n (pc := 148) (DCa dc_Mod_count_1 5 rfl) rfl 0 rfl ?_
  refine Q_getf (k := 18) (pc := 149) (DCa dc_Mod_count_1 6 rfl) cls_12 (Nat.le_of_ble_eq_true rfl) fl_12_281 rfl rfl rfl (fun v26 => ?_)
  refine Q_iaload (pc := 152) (DCa dc_Mod_count_1 7 rfl) (fun v27 => ?_)
  refine V_icmp_ge (tgt := 174) (pc := 153) (DCa dc_Mod_count_1 8 rfl) (by decide) (fun _ => ?_) (fun _ => ?_)
  · refine V_iload_n (pc := 156) (DCa dc_Mod_count_1 9 rfl) rfl 1 rfl ?_
    refine V_aload_n (pc := 157) (DCa dc_Mod_count_1 10 rfl) rfl 0 rfl ?_
    refine Q_getf (k := 62) (pc := 158) (DCa dc_Mod_count_1 11 rfl) cls_12 (Nat.le_of_ble_eq_true rfl) fl_12_152 rfl rfl rfl (fun v28 => ?_)
    refine V_bipush (pc := 161) (DCa dc_Mod_count_1 12 rfl) (by decide) ?_
    refine V_iload_n (pc := 163) (DCa dc_Mod_count_1 13 rfl) rfl 2 rfl ?_
    refine V_iadd (pc := 164) (DCa dc_Mod_count_1 14 rfl) ?_
    refine Q_iaload (pc := 165) (DCa dc_Mod_count_1 15 rfl) (fun v29 => ?_)
    refine V_iadd (pc := 166) (DCa dc_Mod_count_1 16 rfl) ?_
    refine Q_lt (fun x30 => ?_)
    refine V_istore_n (ls' := [(0, 2, l0), (2, 0, x30), (3, 0, l3)]) (pc := 167) (DCa dc_Mod_count_1 17 rfl) rfl (Nat.le_of_ble_eq_true rfl) rfl ?_
    refine V_iinc (ls' := [(0, 2, l0), (2, 0, x30), (3, 0, w32 (l3 + 1))]) (pc := 168) (DCa dc_Mod_count_1 18 rfl) (Nat.le_of_ble_eq_true rfl) (by decide) 2 rfl rfl ?_
    refine V_goto (tgt := 143) (pc := 171) (DCa dc_Mod_count_1 19 rfl) (by decide) ?_
    exact hR143 _ _ _ _
  · refine V_iload_n (pc := 174) (DCa dc_Mod_count_1 20 rfl) rfl 1 rfl ?_
    exact V_ireturn (pc := 175) (DCa dc_Mod_count_1 21 rfl) rfl
theorem v_Mod_count_L143 (F : Nat)  (n : Nat) : ∀ (l0 l2 l3 : Int) (h : Hp), V X_Mod_count 143 [(0, 2, l0), (2, 0, l2), (3, 0, l3)] [] h (Mod_count_L143 F  n l0 l2 l3 h) := by
  induction n with
  | zero => intros; exact V_none
  | succ n ih => exact fun l0 l2 l3 h => v_Mod_count_L143s F  _ ih l0 l2 l3 h
theorem v_Mod_count_B227 (F : Nat)  (l0 s0 s1 : Int) (h : Hp) : V X_Mod_count 227 [(0, 2, l0)] [(0, s0), (0, s1)] h (Mod_count_B227 F  l0 s0 s1 h) := by
  unfold Mod_count_B227
  refine V_iadd (pc := 227) (DCa dc_Mod_count_2 2 rfl) ?_
  refine V_aload_n (pc := 228) (DCa dc_Mod_count_2 3 rfl) rfl 0 rfl ?_
  refine Q_getf (k := 84) (pc := 229) (DCa dc_Mod_count_2 4 rfl) cls_12 (Nat.le_of_ble_eq_true rfl) fl_12_191 rfl rfl rfl (fun v33 => ?_)
  refine V_iconst (pc := 232) (DCa dc_Mod_count_2 5 rfl) (by decide) ?_
  refine Q_zaload (pc := 233) (DCa dc_Mod_count_2 6 rfl) (fun v34 => ?_)
  refine V_if_eq (tgt := 241) (pc := 234) (DCa dc_Mod_count_2 7 rfl) (by decide) (fun _ => ?_) (fun _ => ?_)
  · refine V_iconst (pc := 241) (DCa dc_Mod_count_2 10 rfl) (by decide) ?_
    refine V_iadd (pc := 242) (DCa dc_Mod_count_2 11 rfl) ?_
    exact V_ireturn (pc := 243) (DCa dc_Mod_count_2 12 rfl) rfl
  · refine V_iconst (pc := 237) (DCa dc_Mod_count_2 8 rfl) (by decide) ?_
    refine V_goto (tgt := 242) (pc := 238) (DCa dc_Mod_count_2 9 rfl) (by decide) ?_
    refine V_iadd (pc := 242) (DCa dc_Mod_count_2 11 rfl) ?_
    exact V_ireturn (pc := 243) (DCa dc_Mod_count_2 12 rfl) rfl
theorem v_Mod_count_B213 (F : Nat)  (l0 s0 : Int) (h : Hp) : V X_Mod_count 213 [(0, 2, l0)] [(0, s0)] h (Mod_count_B213 F  l0 s0 h) := by
  unfold Mod_count_B213
  refine V_aload_n (pc := 213) (DCa dc_Mod_count_1 44 rfl) rfl 0 rfl ?_
  refine Q_getf (k := 84) (pc := 214) (DCa dc_Mod_count_1 45 rfl) cls_12 (Nat.le_of_ble_eq_true rfl) fl_12_191 rfl rfl rfl (fun v31 => ?_)
  refine V_iconst (pc := 217) (DCa dc_Mod_count_1 46 rfl) (by decide) ?_
  refine Q_zaload (pc := 218) (DCa dc_Mod_count_1 47 rfl) (fun v32 => ?_)
  refine V_if_eq (tgt := 226) (pc := 219) (DCa dc_Mod_count_1 48 rfl) (by decide) (fun _ => ?_) (fun _ => ?_)
  · refine V_iconst (pc := 226) (DCa dc_Mod_count_2 1 rfl) (by decide) ?_
    exact v_Mod_count_B227 F _ _ _ _
  · refine V_iconst (pc := 222) (DCa dc_Mod_count_1 49 rfl) (by decide) ?_
    refine V_goto (tgt := 227) (pc := 223) (DCa dc_Mod_count_2 0 rfl) (by decide) ?_
    exact v_Mod_count_B227 F _ _ _ _
theorem v_Mod_count (F : Nat) (l0 l1 : Int) (h : Hp) : V X_Mod_count 0 [(0, 2, l0), (1, 0, l1)] [] h (Mod_count F l0 l1 h) := by
  unfold Mod_count
  refine V_iload_n (pc := 0) (DCa dc_Mod_count_0 0 rfl) rfl 1 rfl ?_
  refine V_table (tgt := 244) (pc := 1) (DCa dc_Mod_count_0 1 rfl) (by decide) (by decide) ?_ (fun i hi _ => ?_)
  · refine V_iconst (pc := 244) (DCa dc_Mod_count_2 13 rfl) (by decide) ?_
    exact V_ireturn (pc := 245) (DCa dc_Mod_count_2 14 rfl) rfl
  · match i, hi with
    | 0, _ =>
      refine ⟨_, 60, rfl, by decide, ?_⟩
      refine V_aload_n (pc := 60) (DCa dc_Mod_count_0 2 rfl) rfl 0 rfl ?_
      refine Q_getf (k := 22) (pc := 61) (DCa dc_Mod_count_0 3 rfl) cls_12 (Nat.le_of_ble_eq_true rfl) fl_12_43 rfl rfl rfl (fun v1 => ?_)
      refine V_aload_n (pc := 64) (DCa dc_Mod_count_0 4 rfl) rfl 0 rfl ?_
      refine Q_getf (k := 18) (pc := 65) (DCa dc_Mod_count_0 5 rfl) cls_12 (Nat.le_of_ble_eq_true rfl) fl_12_281 rfl rfl rfl (fun v2 => ?_)
      refine Q_iaload (pc := 68) (DCa dc_Mod_count_0 6 rfl) (fun v3 => ?_)
      exact V_ireturn (pc := 69) (DCa dc_Mod_count_0 7 rfl) rfl
    | 1, _ =>
      refine ⟨_, 70, rfl, by decide, ?_⟩
      refine V_aload_n (pc := 70) (DCa dc_Mod_count_0 8 rfl) rfl 0 rfl ?_
      refine Q_getf (k := 27) (pc := 71) (DCa dc_Mod_count_0 9 rfl) cls_12 (Nat.le_of_ble_eq_true rfl) fl_12_58 rfl rfl rfl (fun v4 => ?_)
      refine V_aload_n (pc := 74) (DCa dc_Mod_count_0 10 rfl) rfl 0 rfl ?_
      refine Q_getf (k := 18) (pc := 75) (DCa dc_Mod_count_0 11 rfl) cls_12 (Nat.le_of_ble_eq_true rfl) fl_12_281 rfl rfl rfl (fun v5 => ?_)
      refine Q_iaload (pc := 78) (DCa dc_Mod_count_0 12 rfl) (fun v6 => ?_)
      exact V_ireturn (pc := 79) (DCa dc_Mod_count_0 13 rfl) rfl
    | 2, _ =>
      refine ⟨_, 80, rfl, by decide, ?_⟩
      refine V_aload_n (pc := 80) (DCa dc_Mod_count_0 14 rfl) rfl 0 rfl ?_
      refine Q_getf (k := 31) (pc := 81) (DCa dc_Mod_count_0 15 rfl) cls_12 (Nat.le_of_ble_eq_true rfl) fl_12_70 rfl rfl rfl (fun v7 => ?_)
      refine V_aload_n (pc := 84) (DCa dc_Mod_count_0 16 rfl) rfl 0 rfl ?_
      refine Q_getf (k := 18) (pc := 85) (DCa dc_Mod_count_0 17 rfl) cls_12 (Nat.le_of_ble_eq_true rfl) fl_12_281 rfl rfl rfl (fun v8 => ?_)
      refine Q_iaload (pc := 88) (DCa dc_Mod_count_0 18 rfl) (fun v9 => ?_)
      exact V_ireturn (pc := 89) (DCa dc_Mod_count_0 19 rfl) rfl
    | 3, _ =>
      refine ⟨_, 90, rfl, by decide, ?_⟩
      refine V_aload_n (pc := 90) (DCa dc_Mod_count_0 20 rfl) rfl 0 rfl ?_
      refine Q_getf (k := 32) (pc := 91) (DCa dc_Mod_count_0 21 rfl) cls_12 (Nat.le_of_ble_eq_true rfl) fl_12_73 rfl rfl rfl (fun v10 => ?_)
      refine V_aload_n (pc := 94) (DCa dc_Mod_count_0 22 rfl) rfl 0 rfl ?_
      refine Q_getf (k := 18) (pc := 95) (DCa dc_Mod_count_0 23 rfl) cls_12 (Nat.le_of_ble_eq_true rfl) fl_12_281 rfl rfl rfl (fun v11 => ?_)
      refine Q_iaload (pc := 98) (DCa dc_Mod_count_0 24 rfl) (fun v12 => ?_)
      exact V_ireturn (pc := 99) (DCa dc_Mod_count_0 25 rfl) rfl
    | 4, _ =>
      refine ⟨_, 100, rfl, by decide, ?_⟩
      refine V_iconst (pc := 100) (DCa dc_Mod_count_0 26 rfl) (by decide) ?_
      refine V_istore_n (ls' := [(0, 2, l0), (1, 0, l1), (2, 0, 0)]) (pc := 101) (DCa dc_Mod_count_0 27 rfl) rfl (Nat.le_of_ble_eq_true rfl) rfl ?_
      refine V_iconst (pc := 102) (DCa dc_Mod_count_0 28 rfl) (by decide) ?_
      refine V_istore_n (ls' := [(0, 2, l0), (1, 0, l1), (2, 0, 0), (3, 0, 0)]) (pc := 103) (DCa dc_Mod_count_0 29 rfl) rfl (Nat.le_of_ble_eq_true rfl) rfl ?_
      refine V_pick [0, 2, 3] rfl ?_
      exact v_Mod_count_L104 F F _ _ _ _
    | 5, _ =>
      refine ⟨_, 139, rfl, by decide, ?_⟩
      refine V_iconst (pc := 139) (DCa dc_Mod_count_0 48 rfl) (by decide) ?_
      refine V_istore_n (ls' := [(0, 2, l0), (1, 0, l1), (2, 0, 0)]) (pc := 140) (DCa dc_Mod_count_0 49 rfl) rfl (Nat.le_of_ble_eq_true rfl) rfl ?_
      refine V_iconst (pc := 141) (DCa dc_Mod_count_1 0 rfl) (by decide) ?_
      refine V_istore_n (ls' := [(0, 2, l0), (1, 0, l1), (2, 0, 0), (3, 0, 0)]) (pc := 142) (DCa dc_Mod_count_1 1 rfl) rfl (Nat.le_of_ble_eq_true rfl) rfl ?_
      refine V_pick [0, 2, 3] rfl ?_
      exact v_Mod_count_L143 F F _ _ _ _
    | 6, _ =>
      refine ⟨_, 176, rfl, by decide, ?_⟩
      refine V_aload_n (pc := 176) (DCa dc_Mod_count_1 22 rfl) rfl 0 rfl ?_
      refine Q_getf (k := 62) (pc := 177) (DCa dc_Mod_count_1 23 rfl) cls_12 (Nat.le_of_ble_eq_true rfl) fl_12_152 rfl rfl rfl (fun v13 => ?_)
      refine V_bipush (pc := 180) (DCa dc_Mod_count_1 24 rfl) (by decide) ?_
      refine Q_iaload (pc := 182) (DCa dc_Mod_count_1 25 rfl) (fun v14 => ?_)
      exact V_ireturn (pc := 183) (DCa dc_Mod_count_1 26 rfl) rfl
    | 7, _ =>
      refine ⟨_, 184, rfl, by decide, ?_⟩
      refine V_aload_n (pc := 184) (DCa dc_Mod_count_1 27 rfl) rfl 0 rfl ?_
      refine Q_getf (k := 2) (pc := 185) (DCa dc_Mod_count_1 28 rfl) cls_12 (Nat.le_of_ble_eq_true rfl) fl_12_214 rfl rfl rfl (fun v15 => ?_)
      exact V_ireturn (pc := 188) (DCa dc_Mod_count_1 29 rfl) rfl
    | 8, _ =>
      refine ⟨_, 189, rfl, by decide, ?_⟩
      refine V_aload_n (pc := 189) (DCa dc_Mod_count_1 30 rfl) rfl 0 rfl ?_
      refine Q_getf (k := 64) (pc := 190) (DCa dc_Mod_count_1 31 rfl) cls_12 (Nat.le_of_ble_eq_true rfl) fl_12_299 rfl rfl rfl (fun v16 => ?_)
      exact V_ireturn (pc := 193) (DCa dc_Mod_count_1 32 rfl) rfl
    | 9, _ =>
      refine ⟨_, 194, rfl, by decide, ?_⟩
      refine V_aload_n (pc := 194) (DCa dc_Mod_count_1 33 rfl) rfl 0 rfl ?_
      refine Q_getf (k := 80) (pc := 195) (DCa dc_Mod_count_1 34 rfl) cls_12 (Nat.le_of_ble_eq_true rfl) fl_12_302 rfl rfl rfl (fun v17 => ?_)
      exact V_ireturn (pc := 198) (DCa dc_Mod_count_1 35 rfl) rfl
    | 10, _ =>
      refine ⟨_, 199, rfl, by decide, ?_⟩
      refine V_aload_n (pc := 199) (DCa dc_Mod_count_1 36 rfl) rfl 0 rfl ?_
      refine Q_getf (k := 84) (pc := 200) (DCa dc_Mod_count_1 37 rfl) cls_12 (Nat.le_of_ble_eq_true rfl) fl_12_191 rfl rfl rfl (fun v18 => ?_)
      refine V_iconst (pc := 203) (DCa dc_Mod_count_1 38 rfl) (by decide) ?_
      refine Q_zaload (pc := 204) (DCa dc_Mod_count_1 39 rfl) (fun v19 => ?_)
      refine V_if_eq (tgt := 212) (pc := 205) (DCa dc_Mod_count_1 40 rfl) (by decide) (fun _ => ?_) (fun _ => ?_)
      · refine V_iconst (pc := 212) (DCa dc_Mod_count_1 43 rfl) (by decide) ?_
        refine V_pick [0] rfl ?_
        exact v_Mod_count_B213 F _ _ _
      · refine V_iconst (pc := 208) (DCa dc_Mod_count_1 41 rfl) (by decide) ?_
        refine V_goto (tgt := 213) (pc := 209) (DCa dc_Mod_count_1 42 rfl) (by decide) ?_
        refine V_pick [0] rfl ?_
        exact v_Mod_count_B213 F _ _ _
    | k + 11, hi => exact absurd hi (by omega)
theorem sp_Mod_count (F : Nat) (l0 l1 : Int) (h : Hp) : Sp yX12_count cX12_count 4 (some (.int)) 1 20 [(2, l0), (0, l1)] h (Mod_count F l0 l1 h) := Sp_of (by decide +kernel) rfl rfl (Nat.le_of_ble_eq_true rfl) (v_Mod_count F l0 l1 h)
