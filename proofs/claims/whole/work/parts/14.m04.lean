-- TideRakes$Told.way
def Told_way_L30s (F : Nat) (R6 : Int → Int → Int → Int → Int → Int → Int → Hp → Option (Int × Hp)) (R30 : Int → Int → Int → Int → Int → Int → Int → Int → Hp → Option (Int × Hp)) (l0 l1 l2 l3 l4 l5 l6 l7 : Int) (h : Hp) : Option (Int × Hp) :=
  if 60 < l7 then
    (R6 l0 l1 l2 l3 l4 l5 (w32 (l6 + 1)) h)
  else
    (iv h l0 109 (Told_replay F l0 l1 l2 l6 l7 h) fun r3 h4 =>
    iv h4 l0 109 (Told_agrees F l0 l1 l3 h4) fun r5 h6 =>
    if r5 = 0 then
      (R30 l0 l1 l2 l3 l4 l5 l6 (w32 (l7 + 1)) h6)
    else
      (if l5 = l4 then
        (some (w32 ((w32 (100 * l6)) + l7), h6))
      else
        (R30 l0 l1 l2 l3 l4 (w32 (l5 + 1)) l6 (w32 (l7 + 1)) h6)))
def Told_way_L30 (F : Nat) (R6 : Int → Int → Int → Int → Int → Int → Int → Hp → Option (Int × Hp)) : Nat → Int → Int → Int → Int → Int → Int → Int → Int → Hp → Option (Int × Hp)
  | 0 => fun _ _ _ _ _ _ _ _ _ => none
  | n + 1 => Told_way_L30s F R6 (Told_way_L30 F R6 n)
def Told_way_B90 (F : Nat)  (l4 l5 : Int) (h : Hp) : Option (Int × Hp) :=
  if l4 = (-1) then
    (some (l5, h))
  else
    (some ((-1), h))
def Told_way_L6s (F : Nat)  (R6 : Int → Int → Int → Int → Int → Int → Int → Hp → Option (Int × Hp)) (l0 l1 l2 l3 l4 l5 l6 : Int) (h : Hp) : Option (Int × Hp) :=
  gf h l1 107 0 fun v1 =>
  gf h v1 106 8 fun v2 =>
  if l6 < v2 then
    (if l6 = 0 then
      (Told_way_L30 F R6 F l0 l1 l2 l3 l4 l5 l6 0 h)
    else
      (Told_way_L30 F R6 F l0 l1 l2 l3 l4 l5 l6 1 h))
  else
    (Told_way_B90 F l4 l5 h)
def Told_way_L6 (F : Nat)  : Nat → Int → Int → Int → Int → Int → Int → Int → Hp → Option (Int × Hp)
  | 0 => fun _ _ _ _ _ _ _ _ => none
  | n + 1 => Told_way_L6s F  (Told_way_L6 F  n)
def Told_way (F : Nat) (l0 l1 l2 l3 l4 : Int) (h : Hp) : Option (Int × Hp) :=
  Told_way_L6 F F l0 l1 l2 l3 l4 0 0 h

theorem dc_Told_way_0 : ∀ q ∈ ([(0, .iconst 0, 1), (1, .istore 5, 2), (3, .iconst 0, 1), (4, .istore 6, 2), (6, .iload 6, 2), (8, .aload_n 1, 1), (9, .getfield 33, 3), (12, .getfield 39, 3), (15, .if_icmp .ge 75, 3), (18, .iload 6, 2), (20, .ifCond .ne 7, 3), (23, .iconst 0, 1), (24, .goto 4, 3), (27, .iconst 1, 1), (28, .istore 7, 2), (30, .iload 7, 2), (32, .bipush 60, 2), (34, .if_icmp .gt 50, 3), (37, .aload_n 0, 1), (38, .aload_n 1, 1), (39, .aload_n 2, 1), (40, .iload 6, 2), (42, .iload 7, 2), (44, .invokevirtual 44, 3), (47, .aload_n 0, 1), (48, .aload_n 1, 1), (49, .iload_n 3, 1), (50, .invokevirtual 48, 3), (53, .ifCond .ne 6, 3), (56, .goto 22, 3), (59, .iload 5, 2), (61, .iload 4, 2), (63, .if_icmp .ne 12, 3), (66, .bipush 100, 2), (68, .iload 6, 2), (70, .imul, 1), (71, .iload 7, 2), (73, .iadd, 1), (74, .ireturn, 1), (75, .iinc 5 1, 3), (78, .iinc 7 1, 3), (81, .goto (-51), 3), (84, .iinc 6 1, 3), (87, .goto (-81), 3), (90, .iload 4, 2), (92, .iconst (-1), 1), (93, .if_icmp .ne 8, 3), (96, .iload 5, 2), (98, .goto 4, 3), (101, .iconst (-1), 1)] : List (Nat × Instr × Nat)), decode cX9_way q.1 = .ok (q.2.1, q.2.2) := by decide +kernel
theorem dc_Told_way_1 : ∀ q ∈ ([(102, .ireturn, 1)] : List (Nat × Instr × Nat)), decode cX9_way q.1 = .ok (q.2.1, q.2.2) := by decide +kernel
abbrev X_Told_way : MX := (cX9_way, RX9, "way", 8, (some (.int)), 6, 142)
theorem v_Told_way_L30s (F : Nat) (R6 : Int → Int → Int → Int → Int → Int → Int → Hp → Option (Int × Hp)) (hR6 : ∀ (l0 l1 l2 l3 l4 l5 l6 : Int) (h : Hp), V X_Told_way 6 [(0, 2, l0), (1, 2, l1), (2, 2, l2), (3, 0, l3), (4, 0, l4), (5, 0, l5), (6, 0, l6)] [] h (R6 l0 l1 l2 l3 l4 l5 l6 h)) (R30 : Int → Int → Int → Int → Int → Int → Int → Int → Hp → Option (Int × Hp)) (hR30 : ∀ (l0 l1 l2 l3 l4 l5 l6 l7 : Int) (h : Hp), V X_Told_way 30 [(0, 2, l0), (1, 2, l1), (2, 2, l2), (3, 0, l3), (4, 0, l4), (5, 0, l5), (6, 0, l6), (7, 0, l7)] [] h (R30 l0 l1 l2 l3 l4 l5 l6 l7 h)) (l0 l1 l2 l3 l4 l5 l6 l7 : Int) (h : Hp) : V X_Told_way 30 [(0, 2, l0), (1, 2, l1), (2, 2, l2), (3, 0, l3), (4, 0, l4), (5, 0, l5), (6, 0, l6), (7, 0, l7)] [] h (Told_way_L30s F R6 R30 l0 l1 l2 l3 l4 l5 l6 l7 h) := by
  unfold Told_way_L30s
  refine V_iload (pc := 30) (DCa dc_Told_way_0 15 rfl) 7 rfl ?_
  refine V_bipush (pc := 32) (DCa dc_Told_way_0 16 rfl) (by decide) ?_
  refine V_icmp_gt (tgt := 84) (pc := 34) (DCa dc_Told_way_0 17 rfl) (by decide) (fun _ => ?_) (fun _ => ?_)
  · refine V_iinc (ls' := [(0, 2, l0), (1, 2, l1), (2, 2, l2), (3, 0, l3), (4, 0, l4), (5, 0, l5), (6, 0, w32 (l6 + 1)), (7, 0, l7)]) (pc := 84) (DCa dc_Told_way_0 42 rfl) (Nat.le_of_ble_eq_true rfl) (by decide) 6 rfl rfl ?_
    refine V_goto (tgt := 6) (pc := 87) (DCa dc_Told_way_0 43 rfl) (by decide) ?_
    refine V_pick [0, 1, 2, 3, 4, 5, 6] rfl ?_
    exact hR6 _ _ _ _ _ _ _ _
  · refine V_aload_n (pc := 37) (DCa dc_Told_way_0 18 rfl) rfl 0 rfl ?_
    refine V_aload_n (pc := 38) (DCa dc_Told_way_0 19 rfl) rfl 1 rfl ?_
    refine V_aload_n (pc := 39) (DCa dc_Told_way_0 20 rfl) rfl 2 rfl ?_
    refine V_iload (pc := 40) (DCa dc_Told_way_0 21 rfl) 6 rfl ?_
    refine V_iload (pc := 42) (DCa dc_Told_way_0 22 rfl) 7 rfl ?_
    refine Q_callv (ci := 9) (st := []) (pc := 44) (DCa dc_Told_way_0 23 rfl) (sp_Told_replay F _ _ _ _ _ _) ce_Told_replay ml_9_44 rfl rfl ⟨Nat.le_of_ble_eq_true rfl, Nat.le_of_ble_eq_true rfl⟩ rfl (Nat.le_of_ble_eq_true rfl) (fun r3 h4 => ?_)
    refine V_aload_n (pc := 47) (DCa dc_Told_way_0 24 rfl) rfl 0 rfl ?_
    refine V_aload_n (pc := 48) (DCa dc_Told_way_0 25 rfl) rfl 1 rfl ?_
    refine V_iload_n (pc := 49) (DCa dc_Told_way_0 26 rfl) rfl 3 rfl ?_
    refine Q_callv (ci := 9) (st := []) (pc := 50) (DCa dc_Told_way_0 27 rfl) (sp_Told_agrees F _ _ _ _) ce_Told_agrees ml_9_48 rfl rfl ⟨Nat.le_of_ble_eq_true rfl, Nat.le_of_ble_eq_true rfl⟩ rfl (Nat.le_of_ble_eq_true rfl) (fun r5 h6 => ?_)
    refine V_if_ne (tgt := 59) (pc := 53) (DCa dc_Told_way_0 28 rfl) (by decide) (fun _ => ?_) (fun _ => ?_)
    · refine V_goto (tgt := 78) (pc := 56) (DCa dc_Told_way_0 29 rfl) (by decide) ?_
      refine V_iinc (ls' := [(0, 2, l0), (1, 2, l1), (2, 2, l2), (3, 0, l3), (4, 0, l4), (5, 0, l5), (6, 0, l6), (7, 0, w32 (l7 + 1))]) (pc := 78) (DCa dc_Told_way_0 40 rfl) (Nat.le_of_ble_eq_true rfl) (by decide) 7 rfl rfl ?_
      refine V_goto (tgt := 30) (pc := 81) (DCa dc_Told_way_0 41 rfl) (by decide) ?_
      exact hR30 _ _ _ _ _ _ _ _ _
    · refine V_iload (pc := 59) (DCa dc_Told_way_0 30 rfl) 5 rfl ?_
      refine V_iload (pc := 61) (DCa dc_Told_way_0 31 rfl) 4 rfl ?_
      refine V_icmp_ne (tgt := 75) (pc := 63) (DCa dc_Told_way_0 32 rfl) (by decide) (fun _ => ?_) (fun _ => ?_)
      · refine V_bipush (pc := 66) (DCa dc_Told_way_0 33 rfl) (by decide) ?_
        refine V_iload (pc := 68) (DCa dc_Told_way_0 34 rfl) 6 rfl ?_
        refine V_imul (pc := 70) (DCa dc_Told_way_0 35 rfl) ?_
        refine V_iload (pc := 71) (DCa dc_Told_way_0 36 rfl) 7 rfl ?_
        refine V_iadd (pc := 73) (DCa dc_Told_way_0 37 rfl) ?_
        exact V_ireturn (pc := 74) (DCa dc_Told_way_0 38 rfl) rfl
      · refine V_iinc (ls' := [(0, 2, l0), (1, 2, l1), (2, 2, l2), (3, 0, l3), (4, 0, l4), (5, 0, w32 (l5 + 1)), (6, 0, l6), (7, 0, l7)]) (pc := 75) (DCa dc_Told_way_0 39 rfl) (Nat.le_of_ble_eq_true rfl) (by decide) 5 rfl rfl ?_
        refine V_iinc (ls' := [(0, 2, l0), (1, 2, l1), (2, 2, l2), (3, 0, l3), (4, 0, l4), (5, 0, w32 (l5 + 1)), (6, 0, l6), (7, 0, w32 (l7 + 1))]) (pc := 78) (DCa dc_Told_way_0 40 rfl) (Nat.le_of_ble_eq_true rfl) (by decide) 7 rfl rfl ?_
        refine V_goto (tgt := 30) (pc := 81) (DCa dc_Told_way_0 41 rfl) (by decide) ?_
        exact hR30 _ _ _ _ _ _ _ _ _
theorem v_Told_way_L30 (F : Nat) (R6 : Int → Int → Int → Int → Int → Int → Int → Hp → Option (Int × Hp)) (hR6 : ∀ (l0 l1 l2 l3 l4 l5 l6 : Int) (h : Hp), V X_Told_way 6 [(0, 2, l0), (1, 2, l1), (2, 2, l2), (3, 0, l3), (4, 0, l4), (5, 0, l5), (6, 0, l6)] [] h (R6 l0 l1 l2 l3 l4 l5 l6 h)) (n : Nat) : ∀ (l0 l1 l2 l3 l4 l5 l6 l7 : Int) (h : Hp), V X_Told_way 30 [(0, 2, l0), (1, 2, l1), (2, 2, l2), (3, 0, l3), (4, 0, l4), (5, 0, l5), (6, 0, l6), (7, 0, l7)] [] h (Told_way_L30 F R6 n l0 l1 l2 l3 l4 l5 l6 l7 h) := by
  induction n with
  | zero => intros; exact V_none
  | succ n ih => exact fun l0 l1 l2 l3 l4 l5 l6 l7 h => v_Told_way_L30s F R6 hR6 _ ih l0 l1 l2 l3 l4 l5 l6 l7 h
theorem v_Told_way_B90 (F : Nat)  (l4 l5 : Int) (h : Hp) : V X_Told_way 90 [(4, 0, l4), (5, 0, l5)] [] h (Told_way_B90 F  l4 l5 h) := by
  unfold Told_way_B90
  refine V_iload (pc := 90) (DCa dc_Told_way_0 44 rfl) 0 rfl ?_
  refine V_iconst (pc := 92) (DCa dc_Told_way_0 45 rfl) (by decide) ?_
  refine V_icmp_ne (tgt := 101) (pc := 93) (DCa dc_Told_way_0 46 rfl) (by decide) (fun _ => ?_) (fun _ => ?_)
  · refine V_iload (pc := 96) (DCa dc_Told_way_0 47 rfl) 1 rfl ?_
    refine V_goto (tgt := 102) (pc := 98) (DCa dc_Told_way_0 48 rfl) (by decide) ?_
    exact V_ireturn (pc := 102) (DCa dc_Told_way_1 0 rfl) rfl
  · refine V_iconst (pc := 101) (DCa dc_Told_way_0 49 rfl) (by decide) ?_
    exact V_ireturn (pc := 102) (DCa dc_Told_way_1 0 rfl) rfl
theorem v_Told_way_L6s (F : Nat)  (R6 : Int → Int → Int → Int → Int → Int → Int → Hp → Option (Int × Hp)) (hR6 : ∀ (l0 l1 l2 l3 l4 l5 l6 : Int) (h : Hp), V X_Told_way 6 [(0, 2, l0), (1, 2, l1), (2, 2, l2), (3, 0, l3), (4, 0, l4), (5, 0, l5), (6, 0, l6)] [] h (R6 l0 l1 l2 l3 l4 l5 l6 h)) (l0 l1 l2 l3 l4 l5 l6 : Int) (h : Hp) : V X_Told_way 6 [(0, 2, l0), (1, 2, l1), (2, 2, l2), (3, 0, l3), (4, 0, l4), (5, 0, l5), (6, 0, l6)] [] h (Told_way_L6s F  R6 l0 l1 l2 l3 l4 l5 l6 h) := by
  unfold Told_way_L6s
  refine V_iload (pc := 6) (DCa dc_Told_way_0 4 rfl) 6 rfl ?_
  refine V_aload_n (pc := 8) (DCa dc_Told_way_0 5 rfl) rfl 1 rfl ?_
  refine Q_getf (k := 0) (pc := 9) (DCa dc_Told_way_0 6 rfl) cls_7 (Nat.le_of_ble_eq_true rfl) fl_9_33 rfl rfl rfl (fun v1 => ?_)
  refine Q_getf (k := 8) (pc := 12) (DCa dc_Told_way_0 7 rfl) cls_6 (Nat.le_of_ble_eq_true rfl) fl_9_39 rfl rfl rfl (fun v2 => ?_)
  refine V_icmp_ge (tgt := 90) (pc := 15) (DCa dc_Told_way_0 8 rfl) (by decide) (fun _ => ?_) (fun _ => ?_)
  · refine V_iload (pc := 18) (DCa dc_Told_way_0 9 rfl) 6 rfl ?_
    refine V_if_ne (tgt := 27) (pc := 20) (DCa dc_Told_way_0 10 rfl) (by decide) (fun _ => ?_) (fun _ => ?_)
    · refine V_iconst (pc := 23) (DCa dc_Told_way_0 11 rfl) (by decide) ?_
      refine V_goto (tgt := 28) (pc := 24) (DCa dc_Told_way_0 12 rfl) (by decide) ?_
      refine V_istore (ls' := [(0, 2, l0), (1, 2, l1), (2, 2, l2), (3, 0, l3), (4, 0, l4), (5, 0, l5), (6, 0, l6), (7, 0, 0)]) (pc := 28) (DCa dc_Told_way_0 14 rfl) (Nat.le_of_ble_eq_true rfl) rfl ?_
      exact v_Told_way_L30 F R6 hR6 F _ _ _ _ _ _ _ _ _
    · refine V_iconst (pc := 27) (DCa dc_Told_way_0 13 rfl) (by decide) ?_
      refine V_istore (ls' := [(0, 2, l0), (1, 2, l1), (2, 2, l2), (3, 0, l3), (4, 0, l4), (5, 0, l5), (6, 0, l6), (7, 0, 1)]) (pc := 28) (DCa dc_Told_way_0 14 rfl) (Nat.le_of_ble_eq_true rfl) rfl ?_
      exact v_Told_way_L30 F R6 hR6 F _ _ _ _ _ _ _ _ _
  · refine V_pick [4, 5] rfl ?_
    exact v_Told_way_B90 F _ _ _
theorem v_Told_way_L6 (F : Nat)  (n : Nat) : ∀ (l0 l1 l2 l3 l4 l5 l6 : Int) (h : Hp), V X_Told_way 6 [(0, 2, l0), (1, 2, l1), (2, 2, l2), (3, 0, l3), (4, 0, l4), (5, 0, l5), (6, 0, l6)] [] h (Told_way_L6 F  n l0 l1 l2 l3 l4 l5 l6 h) := by
  induction n with
  | zero => intros; exact V_none
  | succ n ih => exact fun l0 l1 l2 l3 l4 l5 l6 h => v_Told_way_L6s F  _ ih l0 l1 l2 l3 l4 l5 l6 h
theorem v_Told_way (F : Nat) (l0 l1 l2 l3 l4 : Int) (h : Hp) : V X_Told_way 0 [(0, 2, l0), (1, 2, l1), (2, 2, l2), (3, 0, l3), (4, 0, l4)] [] h (Told_way F l0 l1 l2 l3 l4 h) := by
  unfold Told_way
  refine V_iconst (pc := 0) (DCa dc_Told_way_0 0 rfl) (by decide) ?_
  refine V_istore (ls' := [(0, 2, l0), (1, 2, l1), (2, 2, l2), (3, 0, l3), (4, 0, l4), (5, 0, 0)]) (pc := 1) (DCa dc_Told_way_0 1 rfl) (Nat.le_of_ble_eq_true rfl) rfl ?_
  refine V_iconst (pc := 3) (DCa dc_Told_way_0 2 rfl) (by decide) ?_
  refine V_istore (ls' := [(0, 2, l0), (1, 2, l1), (2, 2, l2), (3, 0, l3), (4, 0, l4), (5, 0, 0), (6, 0, 0)]) (pc := 4) (DCa dc_Told_way_0 3 rfl) (Nat.le_of_ble_eq_true rfl) rfl ?_
  exact v_Told_way_L6 F F _ _ _ _ _ _ _ _
theorem sp_Told_way (F : Nat) (l0 l1 l2 l3 l4 : Int) (h : Hp) : Sp yX9_way cX9_way 8 (some (.int)) 6 142 [(2, l0), (2, l1), (2, l2), (0, l3), (0, l4)] h (Told_way F l0 l1 l2 l3 l4 h) := Sp_of (by decide +kernel) rfl rfl (Nat.le_of_ble_eq_true rfl) (v_Told_way F l0 l1 l2 l3 l4 h)

-- TideRakes.putBytes
def Tide_putBytes_L3s (F : Nat)  (R3 : Int → Int → Int → Hp → Option (Int × Hp)) (l0 l1 l2 : Int) (h : Hp) : Option (Int × Hp) :=
  if l2 < 0 then
    (some (0, h))
  else
    (gf h l0 111 1 fun v1 =>
    if v1 < 2000 then
      (gf h l0 111 0 fun v2 =>
      gf h l0 111 1 fun v3 =>
      as h v2 1 v3 (i2b (i2b (iushr l1 l2))) fun h4 =>
      gf h4 l0 111 1 fun v5 =>
      pf h4 l0 111 1 (w32 (v5 + 1)) fun h6 =>
      R3 l0 l1 (w32 (l2 + (-8))) h6)
    else
      (R3 l0 l1 (w32 (l2 + (-8))) h))
def Tide_putBytes_L3 (F : Nat)  : Nat → Int → Int → Int → Hp → Option (Int × Hp)
  | 0 => fun _ _ _ _ => none
  | n + 1 => Tide_putBytes_L3s F  (Tide_putBytes_L3 F  n)
def Tide_putBytes (F : Nat) (l0 l1 : Int) (h : Hp) : Option (Int × Hp) :=
  Tide_putBytes_L3 F F l0 l1 24 h

theorem dc_Tide_putBytes_0 : ∀ q ∈ ([(0, .bipush 24, 2), (2, .istore_n 2, 1), (3, .iload_n 2, 1), (4, .ifCond .lt 42, 3), (7, .aload_n 0, 1), (8, .getfield 89, 3), (11, .sipush 2000, 3), (14, .if_icmp .ge 26, 3), (17, .aload_n 0, 1), (18, .getfield 9, 3), (21, .aload_n 0, 1), (22, .getfield 89, 3), (25, .iload_n 1, 1), (26, .iload_n 2, 1), (27, .iushr, 1), (28, .i2b, 1), (29, .bastore, 1), (30, .aload_n 0, 1), (31, .dup, 1), (32, .getfield 89, 3), (35, .iconst 1, 1), (36, .iadd, 1), (37, .putfield 89, 3), (40, .iinc 2 (-8), 3), (43, .goto (-40), 3), (46, .return_, 1)] : List (Nat × Instr × Nat)), decode cX11_putBytes q.1 = .ok (q.2.1, q.2.2) := by decide +kernel
abbrev X_Tide_putBytes : MX := (cX11_putBytes, RX11, "putBytes", 3, none, 1, 20)
theorem v_Tide_putBytes_L3s (F : Nat)  (R3 : Int → Int → Int → Hp → Option (Int × Hp)) (hR3 : ∀ (l0 l1 l2 : Int) (h : Hp), V X_Tide_putBytes 3 [(0, 2, l0), (1, 0, l1), (2, 0, l2)] [] h (R3 l0 l1 l2 h)) (l0 l1 l2 : Int) (h : Hp) : V X_Tide_putBytes 3 [(0, 2, l0), (1, 0, l1), (2, 0, l2)] [] h (Tide_putBytes_L3s F  R3 l0 l1 l2 h) := by
  unfold Tide_putBytes_L3s
  refine V_iload_n (pc := 3) (DCa dc_Tide_putBytes_0 2 rfl) rfl 2 rfl ?_
  refine V_if_lt (tgt := 46) (pc := 4) (DCa dc_Tide_putBytes_0 3 rfl) (by decide) (fun _ => ?_) (fun _ => ?_)
  · exact V_return (pc := 46) (DCa dc_Tide_putBytes_0 25 rfl) rfl
  · refine V_aload_n (pc := 7) (DCa dc_Tide_putBytes_0 4 rfl) rfl 0 rfl ?_
    refine Q_getf (k := 1) (pc := 8) (DCa dc_Tide_putBytes_0 5 rfl) cls_11 (Nat.le_of_ble_eq_true rfl) fl_11_89 rfl rfl rfl (fun v1 => ?_)
    refine V_sipush (pc := 11) (DCa dc_Tide_putBytes_0 6 rfl) (by decide) ?_
    refine V_icmp_ge (tgt := 40) (pc := 14) (DCa dc_Tide_putBytes_0 7 rfl) (by decide) (fun _ => ?_) (fun _ => ?_)
    · refine V_aload_n (pc := 17) (DCa dc_Tide_putBytes_0 8 rfl) rfl 0 rfl ?_
      refine Q_getf (k := 0) (pc := 18) (DCa dc_Tide_putBytes_0 9 rfl) cls_11 (Nat.le_of_ble_eq_true rfl) fl_11_9 rfl rfl rfl (fun v2 => ?_)
      refine V_aload_n (pc := 21) (DCa dc_Tide_putBytes_0 10 rfl) rfl 0 rfl ?_
      refine Q_getf (k := 1) (pc := 22) (DCa dc_Tide_putBytes_0 11 rfl) cls_11 (Nat.le_of_ble_eq_true rfl) fl_11_89 rfl rfl rfl (fun v3 => ?_)
      refine V_iload_n (pc := 25) (DCa dc_Tide_putBytes_0 12 rfl) rfl 1 rfl ?_
      refine V_iload_n (pc := 26) (DCa dc_Tide_putBytes_0 13 rfl) rfl 2 rfl ?_
      refine V_iushr (pc := 27) (DCa dc_Tide_putBytes_0 14 rfl) ?_
      refine V_i2b (pc := 28) (DCa dc_Tide_putBytes_0 15 rfl) ?_
      refine Q_bastore (pc := 29) (DCa dc_Tide_putBytes_0 16 rfl) (fun h4 => ?_)
      refine V_aload_n (pc := 30) (DCa dc_Tide_putBytes_0 17 rfl) rfl 0 rfl ?_
      refine V_dup (pc := 31) (DCa dc_Tide_putBytes_0 18 rfl) rfl ?_
      refine Q_getf (k := 1) (pc := 32) (DCa dc_Tide_putBytes_0 19 rfl) cls_11 (Nat.le_of_ble_eq_true rfl) fl_11_89 rfl rfl rfl (fun v5 => ?_)
      refine V_iconst (pc := 35) (DCa dc_Tide_putBytes_0 20 rfl) (by decide) ?_
      refine V_iadd (pc := 36) (DCa dc_Tide_putBytes_0 21 rfl) ?_
      refine Q_putf (k := 1) (pc := 37) (DCa dc_Tide_putBytes_0 22 rfl) cls_11 (Nat.le_of_ble_eq_true rfl) fl_11_89 rfl rfl rfl (Or.inl rfl) (Or.inl ⟨rfl, rfl⟩) (fun h6 => ?_)
      refine V_iinc (ls' := [(0, 2, l0), (1, 0, l1), (2, 0, w32 (l2 + (-8)))]) (pc := 40) (DCa dc_Tide_putBytes_0 23 rfl) (Nat.le_of_ble_eq_true rfl) (by decide) 2 rfl rfl ?_
      refine V_goto (tgt := 3) (pc := 43) (DCa dc_Tide_putBytes_0 24 rfl) (by decide) ?_
      exact hR3 _ _ _ _
    · refine V_iinc (ls' := [(0, 2, l0), (1, 0, l1), (2, 0, w32 (l2 + (-8)))]) (pc := 40) (DCa dc_Tide_putBytes_0 23 rfl) (Nat.le_of_ble_eq_true rfl) (by decide) 2 rfl rfl ?_
      refine V_goto (tgt := 3) (pc := 43) (DCa dc_Tide_putBytes_0 24 rfl) (by decide) ?_
      exact hR3 _ _ _ _
theorem v_Tide_putBytes_L3 (F : Nat)  (n : Nat) : ∀ (l0 l1 l2 : Int) (h : Hp), V X_Tide_putBytes 3 [(0, 2, l0), (1, 0, l1), (2, 0, l2)] [] h (Tide_putBytes_L3 F  n l0 l1 l2 h) := by
  induction n with
  | zero => intros; exact V_none
  | succ n ih => exact fun l0 l1 l2 h => v_Tide_putBytes_L3s F  _ ih l0 l1 l2 h
theorem v_Tide_putBytes (F : Nat) (l0 l1 : Int) (h : Hp) : V X_Tide_putBytes 0 [(0, 2, l0), (1, 0, l1)] [] h (Tide_putBytes F l0 l1 h) := by
  unfold Tide_putBytes
  refine V_bipush (pc := 0) (DCa dc_Tide_putBytes_0 0 rfl) (by decide) ?_
  refine V_istore_n (ls' := [(0, 2, l0), (1, 0, l1), (2, 0, 24)]) (pc := 2) (DCa dc_Tide_putBytes_0 1 rfl) rfl (Nat.le_of_ble_eq_true rfl) rfl ?_
  exact v_Tide_putBytes_L3 F F _ _ _ _
theorem sp_Tide_putBytes (F : Nat) (l0 l1 : Int) (h : Hp) : Sp yX11_putBytes cX11_putBytes 3 none 1 20 [(2, l0), (0, l1)] h (Tide_putBytes F l0 l1 h) := Sp_of (by decide +kernel) rfl rfl (Nat.le_of_ble_eq_true rfl) (v_Tide_putBytes F l0 l1 h)

-- TideRakes.feed
def Tide_feed (F : Nat) (l0 l1 l2 l3 l4 l5 : Int) (h : Hp) : Option (Int × Hp) :=
  gf h l0 111 1 fun v1 =>
  if 2000 < (w32 (v1 + 20)) then
    (some ((-1), h))
  else
    (iv h l0 111 (Tide_putBytes F l0 l1 h) fun r2 h3 =>
    iv h3 l0 111 (Tide_putBytes F l0 l2 h3) fun r4 h5 =>
    iv h5 l0 111 (Tide_putBytes F l0 l3 h5) fun r6 h7 =>
    iv h7 l0 111 (Tide_putBytes F l0 l4 h7) fun r8 h9 =>
    iv h9 l0 111 (Tide_putBytes F l0 l5 h9) fun r10 h11 =>
    gf h11 l0 111 1 fun v12 =>
    some (v12, h11))

theorem dc_Tide_feed_0 : ∀ q ∈ ([(0, .aload_n 0, 1), (1, .getfield 89, 3), (4, .bipush 20, 2), (6, .iadd, 1), (7, .sipush 2000, 3), (10, .if_icmp .le 5, 3), (13, .iconst (-1), 1), (14, .ireturn, 1), (15, .aload_n 0, 1), (16, .iload_n 1, 1), (17, .invokevirtual 92, 3), (20, .aload_n 0, 1), (21, .iload_n 2, 1), (22, .invokevirtual 92, 3), (25, .aload_n 0, 1), (26, .iload_n 3, 1), (27, .invokevirtual 92, 3), (30, .aload_n 0, 1), (31, .iload 4, 2), (33, .invokevirtual 92, 3), (36, .aload_n 0, 1), (37, .iload 5, 2), (39, .invokevirtual 92, 3), (42, .aload_n 0, 1), (43, .getfield 89, 3), (46, .ireturn, 1)] : List (Nat × Instr × Nat)), decode cX11_feed q.1 = .ok (q.2.1, q.2.2) := by decide +kernel
abbrev X_Tide_feed : MX := (cX11_feed, RX11, "feed", 6, (some (.int)), 2, 42)
theorem v_Tide_feed (F : Nat) (l0 l1 l2 l3 l4 l5 : Int) (h : Hp) : V X_Tide_feed 0 [(0, 2, l0), (1, 0, l1), (2, 0, l2), (3, 0, l3), (4, 0, l4), (5, 0, l5)] [] h (Tide_feed F l0 l1 l2 l3 l4 l5 h) := by
  unfold Tide_feed
  refine V_aload_n (pc := 0) (DCa dc_Tide_feed_0 0 rfl) rfl 0 rfl ?_
  refine Q_getf (k := 1) (pc := 1) (DCa dc_Tide_feed_0 1 rfl) cls_11 (Nat.le_of_ble_eq_true rfl) fl_11_89 rfl rfl rfl (fun v1 => ?_)
  refine V_bipush (pc := 4) (DCa dc_Tide_feed_0 2 rfl) (by decide) ?_
  refine V_iadd (pc := 6) (DCa dc_Tide_feed_0 3 rfl) ?_
  refine V_sipush (pc := 7) (DCa dc_Tide_feed_0 4 rfl) (by decide) ?_
  refine V_icmp_le (tgt := 15) (pc := 10) (DCa dc_Tide_feed_0 5 rfl) (by decide) (fun _ => ?_) (fun _ => ?_)
  · refine V_iconst (pc := 13) (DCa dc_Tide_feed_0 6 rfl) (by decide) ?_
    exact V_ireturn (pc := 14) (DCa dc_Tide_feed_0 7 rfl) rfl
  · refine V_aload_n (pc := 15) (DCa dc_Tide_feed_0 8 rfl) rfl 0 rfl ?_
    refine V_iload_n (pc := 16) (DCa dc_Tide_feed_0 9 rfl) rfl 1 rfl ?_
    refine Q_callv (ci := 11) (st := []) (pc := 17) (DCa dc_Tide_feed_0 10 rfl) (sp_Tide_putBytes F _ _ _) ce_Tide_putBytes ml_11_92 rfl rfl ⟨Nat.le_of_ble_eq_true rfl, Nat.le_of_ble_eq_true rfl⟩ rfl (Nat.le_of_ble_eq_true rfl) (fun r2 h3 => ?_)
    refine V_aload_n (pc := 20) (DCa dc_Tide_feed_0 11 rfl) rfl 0 rfl ?_
    refine V_iload_n (pc := 21) (DCa dc_Tide_feed_0 12 rfl) rfl 2 rfl ?_
    refine Q_callv (ci := 11) (st := []) (pc := 22) (DCa dc_Tide_feed_0 13 rfl) (sp_Tide_putBytes F _ _ _) ce_Tide_putBytes ml_11_92 rfl rfl ⟨Nat.le_of_ble_eq_true rfl, Nat.le_of_ble_eq_true rfl⟩ rfl (Nat.le_of_ble_eq_true rfl) (fun r4 h5 => ?_)
    refine V_aload_n (pc := 25) (DCa dc_Tide_feed_0 14 rfl) rfl 0 rfl ?_
    refine V_iload_n (pc := 26) (DCa dc_Tide_feed_0 15 rfl) rfl 3 rfl ?_
    refine Q_callv (ci := 11) (st := []) (pc := 27) (DCa dc_Tide_feed_0 16 rfl) (sp_Tide_putBytes F _ _ _) ce_Tide_putBytes ml_11_92 rfl rfl ⟨Nat.le_of_ble_eq_true rfl, Nat.le_of_ble_eq_true rfl⟩ rfl (Nat.le_of_ble_eq_true rfl) (fun r6 h7 => ?_)
    refine V_aload_n (pc := 30) (DCa dc_Tide_feed_0 17 rfl) rfl 0 rfl ?_
    refine V_iload (pc := 31) (DCa dc_Tide_feed_0 18 rfl) 4 rfl ?_
    refine Q_callv (ci := 11) (st := []) (pc := 33) (DCa dc_Tide_feed_0 19 rfl) (sp_Tide_putBytes F _ _ _) ce_Tide_putBytes ml_11_92 rfl rfl ⟨Nat.le_of_ble_eq_true rfl, Nat.le_of_ble_eq_true rfl⟩ rfl (Nat.le_of_ble_eq_true rfl) (fun r8 h9 => ?_)
    refine V_aload_n (pc := 36) (DCa dc_Tide_feed_0 20 rfl) rfl 0 rfl ?_
    refine V_iload (pc := 37) (DCa dc_Tide_feed_0 21 rfl) 5 rfl ?_
    refine Q_callv (ci := 11) (st := []) (pc := 39) (DCa dc_Tide_feed_0 22 rfl) (sp_Tide_putBytes F _ _ _) ce_Tide_putBytes ml_11_92 rfl rfl ⟨Nat.le_of_ble_eq_true rfl, Nat.le_of_ble_eq_true rfl⟩ rfl (Nat.le_of_ble_eq_true rfl) (fun r10 h11 => ?_)
    refine V_aload_n (pc := 42) (DCa dc_Tide_feed_0 23 rfl) rfl 0 rfl ?_
    refine Q_getf (k := 1) (pc := 43) (DCa dc_Tide_feed_0 24 rfl) cls_11 (Nat.le_of_ble_eq_true rfl) fl_11_89 rfl rfl rfl (fun v12 => ?_)
    exact V_ireturn (pc := 46) (DCa dc_Tide_feed_0 25 rfl) rfl
theorem sp_Tide_feed (F : Nat) (l0 l1 l2 l3 l4 l5 : Int) (h : Hp) : Sp yX11_feed cX11_feed 6 (some (.int)) 2 42 [(2, l0), (0, l1), (0, l2), (0, l3), (0, l4), (0, l5)] h (Tide_feed F l0 l1 l2 l3 l4 l5 h) := Sp_of (by decide +kernel) rfl rfl (Nat.le_of_ble_eq_true rfl) (v_Tide_feed F l0 l1 l2 l3 l4 l5 h)

-- TideRakes.back
def Tide_back (F : Nat) (l0 l1 : Int) (h : Hp) : Option (Int × Hp) :=
  if l1 < 0 then
    (some ((-1), h))
  else
    (gf h l0 111 1 fun v1 =>
    if v1 < l1 then
      (some ((-1), h))
    else
      (gf h l0 111 1 fun v2 =>
      pf h l0 111 1 (w32 (v2 - l1)) fun h3 =>
      gf h3 l0 111 1 fun v4 =>
      some (v4, h3)))

theorem dc_Tide_back_0 : ∀ q ∈ ([(0, .iload_n 1, 1), (1, .ifCond .lt 11, 3), (4, .iload_n 1, 1), (5, .aload_n 0, 1), (6, .getfield 89, 3), (9, .if_icmp .le 5, 3), (12, .iconst (-1), 1), (13, .ireturn, 1), (14, .aload_n 0, 1), (15, .dup, 1), (16, .getfield 89, 3), (19, .iload_n 1, 1), (20, .isub, 1), (21, .putfield 89, 3), (24, .aload_n 0, 1), (25, .getfield 89, 3), (28, .ireturn, 1)] : List (Nat × Instr × Nat)), decode cX11_back q.1 = .ok (q.2.1, q.2.2) := by decide +kernel
abbrev X_Tide_back : MX := (cX11_back, RX11, "back", 2, (some (.int)), 1, 20)
theorem v_Tide_back (F : Nat) (l0 l1 : Int) (h : Hp) : V X_Tide_back 0 [(0, 2, l0), (1, 0, l1)] [] h (Tide_back F l0 l1 h) := by
  unfold Tide_back
  refine V_iload_n (pc := 0) (DCa dc_Tide_back_0 0 rfl) rfl 1 rfl ?_
  refine V_if_lt (tgt := 12) (pc := 1) (DCa dc_Tide_back_0 1 rfl) (by decide) (fun _ => ?_) (fun _ => ?_)
  · refine V_iconst (pc := 12) (DCa dc_Tide_back_0 6 rfl) (by decide) ?_
    exact V_ireturn (pc := 13) (DCa dc_Tide_back_0 7 rfl) rfl
  · refine V_iload_n (pc := 4) (DCa dc_Tide_back_0 2 rfl) rfl 1 rfl ?_
    refine V_aload_n (pc := 5) (DCa dc_Tide_back_0 3 rfl) rfl 0 rfl ?_
    refine Q_getf (k := 1) (pc := 6) (DCa dc_Tide_back_0 4 rfl) cls_11 (Nat.le_of_ble_eq_true rfl) fl_11_89 rfl rfl rfl (fun v1 => ?_)
    refine V_icmp_le (tgt := 14) (pc := 9) (DCa dc_Tide_back_0 5 rfl) (by decide) (fun _ => ?_) (fun _ => ?_)
    · refine V_iconst (pc := 12) (DCa dc_Tide_back_0 6 rfl) (by decide) ?_
      exact V_ireturn (pc := 13) (DCa dc_Tide_back_0 7 rfl) rfl
    · refine V_aload_n (pc := 14) (DCa dc_Tide_back_0 8 rfl) rfl 0 rfl ?_
      refine V_dup (pc := 15) (DCa dc_Tide_back_0 9 rfl) rfl ?_
      refine Q_getf (k := 1) (pc := 16) (DCa dc_Tide_back_0 10 rfl) cls_11 (Nat.le_of_ble_eq_true rfl) fl_11_89 rfl rfl rfl (fun v2 => ?_)
      refine V_iload_n (pc := 19) (DCa dc_Tide_back_0 11 rfl) rfl 1 rfl ?_
      refine V_isub (pc := 20) (DCa dc_Tide_back_0 12 rfl) ?_
      refine Q_putf (k := 1) (pc := 21) (DCa dc_Tide_back_0 13 rfl) cls_11 (Nat.le_of_ble_eq_true rfl) fl_11_89 rfl rfl rfl (Or.inl rfl) (Or.inl ⟨rfl, rfl⟩) (fun h3 => ?_)
      refine V_aload_n (pc := 24) (DCa dc_Tide_back_0 14 rfl) rfl 0 rfl ?_
      refine Q_getf (k := 1) (pc := 25) (DCa dc_Tide_back_0 15 rfl) cls_11 (Nat.le_of_ble_eq_true rfl) fl_11_89 rfl rfl rfl (fun v4 => ?_)
      exact V_ireturn (pc := 28) (DCa dc_Tide_back_0 16 rfl) rfl
theorem sp_Tide_back (F : Nat) (l0 l1 : Int) (h : Hp) : Sp yX11_back cX11_back 2 (some (.int)) 1 20 [(2, l0), (0, l1)] h (Tide_back F l0 l1 h) := Sp_of (by decide +kernel) rfl rfl (Nat.le_of_ble_eq_true rfl) (v_Tide_back F l0 l1 h)

-- TideRakes.place
def Tide_place (F : Nat) (l0 : Int) (h : Hp) : Option (Int × Hp) :=
  gf h l0 111 2 fun v1 =>
  some (v1, h)

theorem dc_Tide_place_0 : ∀ q ∈ ([(0, .aload_n 0, 1), (1, .getfield 13, 3), (4, .ireturn, 1)] : List (Nat × Instr × Nat)), decode cX11_place q.1 = .ok (q.2.1, q.2.2) := by decide +kernel
abbrev X_Tide_place : MX := (cX11_place, RX11, "place", 1, (some (.int)), 1, 20)
theorem v_Tide_place (F : Nat) (l0 : Int) (h : Hp) : V X_Tide_place 0 [(0, 2, l0)] [] h (Tide_place F l0 h) := by
  unfold Tide_place
  refine V_aload_n (pc := 0) (DCa dc_Tide_place_0 0 rfl) rfl 0 rfl ?_
  refine Q_getf (k := 2) (pc := 1) (DCa dc_Tide_place_0 1 rfl) cls_11 (Nat.le_of_ble_eq_true rfl) fl_11_13 rfl rfl rfl (fun v1 => ?_)
  exact V_ireturn (pc := 4) (DCa dc_Tide_place_0 2 rfl) rfl
theorem sp_Tide_place (F : Nat) (l0 : Int) (h : Hp) : Sp yX11_place cX11_place 1 (some (.int)) 1 20 [(2, l0)] h (Tide_place F l0 h) := Sp_of (by decide +kernel) rfl rfl (Nat.le_of_ble_eq_true rfl) (v_Tide_place F l0 h)

-- TideRakes.isPart
def Tide_isPart (F : Nat) (l0 l1 : Int) (h : Hp) : Option (Int × Hp) :=
  if l1 < 0 then
    (rz 0 h)
  else
    (gf h l0 111 4 fun v1 =>
    gf h v1 107 0 fun v2 =>
    gf h v2 106 4 fun v3 =>
    if l1 < v3 then
      (rz 1 h)
    else
      (rz 0 h))

theorem dc_Tide_isPart_0 : ∀ q ∈ ([(0, .iload_n 1, 1), (1, .ifCond .lt 21, 3), (4, .iload_n 1, 1), (5, .aload_n 0, 1), (6, .getfield 27, 3), (9, .getfield 77, 3), (12, .getfield 233, 3), (15, .if_icmp .ge 7, 3), (18, .iconst 1, 1), (19, .goto 4, 3), (22, .iconst 0, 1), (23, .ireturn, 1)] : List (Nat × Instr × Nat)), decode cX11_isPart q.1 = .ok (q.2.1, q.2.2) := by decide +kernel
abbrev X_Tide_isPart : MX := (cX11_isPart, RX11, "isPart", 2, (some (.boolean)), 1, 20)
theorem v_Tide_isPart (F : Nat) (l0 l1 : Int) (h : Hp) : V X_Tide_isPart 0 [(0, 2, l0), (1, 0, l1)] [] h (Tide_isPart F l0 l1 h) := by
  unfold Tide_isPart
  refine V_iload_n (pc := 0) (DCa dc_Tide_isPart_0 0 rfl) rfl 1 rfl ?_
  refine V_if_lt (tgt := 22) (pc := 1) (DCa dc_Tide_isPart_0 1 rfl) (by decide) (fun _ => ?_) (fun _ => ?_)
  · refine V_iconst (pc := 22) (DCa dc_Tide_isPart_0 10 rfl) (by decide) ?_
    exact V_zreturn (pc := 23) (DCa dc_Tide_isPart_0 11 rfl) rfl
  · refine V_iload_n (pc := 4) (DCa dc_Tide_isPart_0 2 rfl) rfl 1 rfl ?_
    refine V_aload_n (pc := 5) (DCa dc_Tide_isPart_0 3 rfl) rfl 0 rfl ?_
    refine Q_getf (k := 4) (pc := 6) (DCa dc_Tide_isPart_0 4 rfl) cls_11 (Nat.le_of_ble_eq_true rfl) fl_11_27 rfl rfl rfl (fun v1 => ?_)
    refine Q_getf (k := 0) (pc := 9) (DCa dc_Tide_isPart_0 5 rfl) cls_7 (Nat.le_of_ble_eq_true rfl) fl_11_77 rfl rfl rfl (fun v2 => ?_)
    refine Q_getf (k := 4) (pc := 12) (DCa dc_Tide_isPart_0 6 rfl) cls_6 (Nat.le_of_ble_eq_true rfl) fl_11_233 rfl rfl rfl (fun v3 => ?_)
    refine V_icmp_ge (tgt := 22) (pc := 15) (DCa dc_Tide_isPart_0 7 rfl) (by decide) (fun _ => ?_) (fun _ => ?_)
    · refine V_iconst (pc := 18) (DCa dc_Tide_isPart_0 8 rfl) (by decide) ?_
      refine V_goto (tgt := 23) (pc := 19) (DCa dc_Tide_isPart_0 9 rfl) (by decide) ?_
      exact V_zreturn (pc := 23) (DCa dc_Tide_isPart_0 11 rfl) rfl
    · refine V_iconst (pc := 22) (DCa dc_Tide_isPart_0 10 rfl) (by decide) ?_
      exact V_zreturn (pc := 23) (DCa dc_Tide_isPart_0 11 rfl) rfl
theorem sp_Tide_isPart (F : Nat) (l0 l1 : Int) (h : Hp) : Sp yX11_isPart cX11_isPart 2 (some (.boolean)) 1 20 [(2, l0), (0, l1)] h (Tide_isPart F l0 l1 h) := Sp_of (by decide +kernel) rfl rfl (Nat.le_of_ble_eq_true rfl) (v_Tide_isPart F l0 l1 h)

-- TideRakes.part
def Tide_part (F : Nat) (l0 l1 l2 : Int) (h : Hp) : Option (Int × Hp) :=
  iv h l0 111 (Tide_isPart F l0 l1 h) fun r1 h2 =>
  if r1 = 0 then
    (some ((-10000), h2))
  else
    (tsw l2 0 6 (fun i => match i with
      | 0 => (gf h2 l0 111 4 fun v3 =>
      gf h2 v3 107 3 fun v4 =>
      al h2 v4 5 l1 fun v5 =>
      gf h2 v5 105 2 fun v6 =>
      some (v6, h2))
      | 1 => (gf h2 l0 111 5 fun v7 =>
      gf h2 v7 108 1 fun v8 =>
      al h2 v8 0 l1 fun v9 =>
      some (v9, h2))
      | 2 => (gf h2 l0 111 5 fun v10 =>
      gf h2 v10 108 4 fun v11 =>
      al h2 v11 2 l1 fun v12 =>
      if v12 = 0 then
        (some (0, h2))
      else
        (some (1, h2)))
      | 3 => (gf h2 l0 111 4 fun v13 =>
      gf h2 v13 107 0 fun v14 =>
      gf h2 v14 106 2 fun v15 =>
      al h2 v15 0 l1 fun v16 =>
      some (v16, h2))
      | 4 => (gf h2 l0 111 4 fun v17 =>
      gf h2 v17 107 0 fun v18 =>
      gf h2 v18 106 3 fun v19 =>
      al h2 v19 0 l1 fun v20 =>
      some (v20, h2))
      | _ => (gf h2 l0 111 5 fun v21 =>
      gf h2 v21 108 3 fun v22 =>
      al h2 v22 0 l1 fun v23 =>
      some (v23, h2)))
      (some ((-10000), h2)))

theorem dc_Tide_part_0 : ∀ q ∈ ([(0, .aload_n 0, 1), (1, .iload_n 1, 1), (2, .invokevirtual 102, 3), (5, .ifCond .ne 7, 3), (8, .sipush (-10000), 3), (11, .ireturn, 1), (12, .iload_n 2, 1), (13, .tableswitch 116 0 5 #[39, 52, 62, 80, 93, 106], 39), (52, .aload_n 0, 1), (53, .getfield 27, 3), (56, .getfield 106, 3), (59, .iload_n 1, 1), (60, .aaload, 1), (61, .getfield 110, 3), (64, .ireturn, 1), (65, .aload_n 0, 1), (66, .getfield 34, 3), (69, .getfield 115, 3), (72, .iload_n 1, 1), (73, .iaload, 1), (74, .ireturn, 1), (75, .aload_n 0, 1), (76, .getfield 34, 3), (79, .getfield 118, 3), (82, .iload_n 1, 1), (83, .baload, 1), (84, .ifCond .eq 7, 3), (87, .iconst 1, 1), (88, .goto 4, 3), (91, .iconst 0, 1), (92, .ireturn, 1), (93, .aload_n 0, 1), (94, .getfield 27, 3), (97, .getfield 77, 3), (100, .getfield 121, 3), (103, .iload_n 1, 1), (104, .iaload, 1), (105, .ireturn, 1), (106, .aload_n 0, 1), (107, .getfield 27, 3), (110, .getfield 77, 3), (113, .getfield 124, 3), (116, .iload_n 1, 1), (117, .iaload, 1), (118, .ireturn, 1), (119, .aload_n 0, 1), (120, .getfield 34, 3), (123, .getfield 127, 3), (126, .iload_n 1, 1), (127, .iaload, 1)] : List (Nat × Instr × Nat)), decode cX11_part q.1 = .ok (q.2.1, q.2.2) := by decide +kernel
theorem dc_Tide_part_1 : ∀ q ∈ ([(128, .ireturn, 1), (129, .sipush (-10000), 3), (132, .ireturn, 1)] : List (Nat × Instr × Nat)), decode cX11_part q.1 = .ok (q.2.1, q.2.2) := by decide +kernel
abbrev X_Tide_part : MX := (cX11_part, RX11, "part", 3, (some (.int)), 2, 41)
theorem v_Tide_part (F : Nat) (l0 l1 l2 : Int) (h : Hp) : V X_Tide_part 0 [(0, 2, l0), (1, 0, l1), (2, 0, l2)] [] h (Tide_part F l0 l1 l2 h) := by
  unfold Tide_part
  refine V_aload_n (pc := 0) (DCa dc_Tide_part_0 0 rfl) rfl 0 rfl ?_
  refine V_iload_n (pc := 1) (DCa dc_Tide_part_0 1 rfl) rfl 1 rfl ?_
  refine Q_callv (ci := 11) (st := []) (pc := 2) (DCa dc_Tide_part_0 2 rfl) (sp_Tide_isPart F _ _ _) ce_Tide_isPart ml_11_102 rfl rfl ⟨Nat.le_of_ble_eq_true rfl, Nat.le_of_ble_eq_true rfl⟩ rfl (Nat.le_of_ble_eq_true rfl) (fun r1 h2 => ?_)
  refine V_if_ne (tgt := 12) (pc := 5) (DCa dc_Tide_part_0 3 rfl) (by decide) (fun _ => ?_) (fun _ => ?_)
  · refine V_sipush (pc := 8) (DCa dc_Tide_part_0 4 rfl) (by decide) ?_
    exact V_ireturn (pc := 11) (DCa dc_Tide_part_0 5 rfl) rfl
  · refine V_iload_n (pc := 12) (DCa dc_Tide_part_0 6 rfl) rfl 2 rfl ?_
    refine V_table (tgt := 129) (pc := 13) (DCa dc_Tide_part_0 7 rfl) (by decide) (by decide) ?_ (fun i hi _ => ?_)
    · refine V_sipush (pc := 129) (DCa dc_Tide_part_1 1 rfl) (by decide) ?_
      exact V_ireturn (pc := 132) (DCa dc_Tide_part_1 2 rfl) rfl
    · match i, hi with
      | 0, _ =>
        refine ⟨_, 52, rfl, by decide, ?_⟩
        refine V_aload_n (pc := 52) (DCa dc_Tide_part_0 8 rfl) rfl 0 rfl ?_
        refine Q_getf (k := 4) (pc := 53) (DCa dc_Tide_part_0 9 rfl) cls_11 (Nat.le_of_ble_eq_true rfl) fl_11_27 rfl rfl rfl (fun v3 => ?_)
        refine Q_getf (k := 3) (pc := 56) (DCa dc_Tide_part_0 10 rfl) cls_7 (Nat.le_of_ble_eq_true rfl) fl_11_106 rfl rfl rfl (fun v4 => ?_)
        refine V_iload_n (pc := 59) (DCa dc_Tide_part_0 11 rfl) rfl 1 rfl ?_
        refine Q_aaload (pc := 60) (DCa dc_Tide_part_0 12 rfl) (by decide) rfl rfl (fun v5 => ?_)
        refine Q_getf (k := 2) (pc := 61) (DCa dc_Tide_part_0 13 rfl) cls_5 (Nat.le_of_ble_eq_true rfl) fl_11_110 rfl rfl rfl (fun v6 => ?_)
        exact V_ireturn (pc := 64) (DCa dc_Tide_part_0 14 rfl) rfl
      | 1, _ =>
        refine ⟨_, 65, rfl, by decide, ?_⟩
        refine V_aload_n (pc := 65) (DCa dc_Tide_part_0 15 rfl) rfl 0 rfl ?_
        refine Q_getf (k := 5) (pc := 66) (DCa dc_Tide_part_0 16 rfl) cls_11 (Nat.le_of_ble_eq_true rfl) fl_11_34 rfl rfl rfl (fun v7 => ?_)
        refine Q_getf (k := 1) (pc := 69) (DCa dc_Tide_part_0 17 rfl) cls_8 (Nat.le_of_ble_eq_true rfl) fl_11_115 rfl rfl rfl (fun v8 => ?_)
        refine V_iload_n (pc := 72) (DCa dc_Tide_part_0 18 rfl) rfl 1 rfl ?_
        refine Q_iaload (pc := 73) (DCa dc_Tide_part_0 19 rfl) (fun v9 => ?_)
        exact V_ireturn (pc := 74) (DCa dc_Tide_part_0 20 rfl) rfl
      | 2, _ =>
        refine ⟨_, 75, rfl, by decide, ?_⟩
        refine V_aload_n (pc := 75) (DCa dc_Tide_part_0 21 rfl) rfl 0 rfl ?_
        refine Q_getf (k := 5) (pc := 76) (DCa dc_Tide_part_0 22 rfl) cls_11 (Nat.le_of_ble_eq_true rfl) fl_11_34 rfl rfl rfl (fun v10 => ?_)
        refine Q_getf (k := 4) (pc := 79) (DCa dc_Tide_part_0 23 rfl) cls_8 (Nat.le_of_ble_eq_true rfl) fl_11_118 rfl rfl rfl (fun v11 => ?_)
        refine V_iload_n (pc := 82) (DCa dc_Tide_part_0 24 rfl) rfl 1 rfl ?_
        refine Q_zaload (pc := 83) (DCa dc_Tide_part_0 25 rfl) (fun v12 => ?_)
        refine V_if_eq (tgt := 91) (pc := 84) (DCa dc_Tide_part_0 26 rfl) (by decide) (fun _ => ?_) (fun _ => ?_)
        · refine V_iconst (pc := 91) (DCa dc_Tide_part_0 29 rfl) (by decide) ?_
          exact V_ireturn (pc := 92) (DCa dc_Tide_part_0 30 rfl) rfl
        · refine V_iconst (pc := 87) (DCa dc_Tide_part_0 27 rfl) (by decide) ?_
          refine V_goto (tgt := 92) (pc := 88) (DCa dc_Tide_part_0 28 rfl) (by decide) ?_
          exact V_ireturn (pc := 92) (DCa dc_Tide_part_0 30 rfl) rfl
      | 3, _ =>
        refine ⟨_, 93, rfl, by decide, ?_⟩
        refine V_aload_n (pc := 93) (DCa dc_Tide_part_0 31 rfl) rfl 0 rfl ?_
        refine Q_getf (k := 4) (pc := 94) (DCa dc_Tide_part_0 32 rfl) cls_11 (Nat.le_of_ble_eq_true rfl) fl_11_27 rfl rfl rfl (fun v13 => ?_)
        refine Q_getf (k := 0) (pc := 97) (DCa dc_Tide_part_0 33 rfl) cls_7 (Nat.le_of_ble_eq_true rfl) fl_11_77 rfl rfl rfl (fun v14 => ?_)
        refine Q_getf (k := 2) (pc := 100) (DCa dc_Tide_part_0 34 rfl) cls_6 (Nat.le_of_ble_eq_true rfl) fl_11_121 rfl rfl rfl (fun v15 => ?_)
        refine V_iload_n (pc := 103) (DCa dc_Tide_part_0 35 rfl) rfl 1 rfl ?_
        refine Q_iaload (pc := 104) (DCa dc_Tide_part_0 36 rfl) (fun v16 => ?_)
        exact V_ireturn (pc := 105) (DCa dc_Tide_part_0 37 rfl) rfl
      | 4, _ =>
        refine ⟨_, 106, rfl, by decide, ?_⟩
        refine V_aload_n (pc := 106) (DCa dc_Tide_part_0 38 rfl) rfl 0 rfl ?_
        refine Q_getf (k := 4) (pc := 107) (DCa dc_Tide_part_0 39 rfl) cls_11 (Nat.le_of_ble_eq_true rfl) fl_11_27 rfl rfl rfl (fun v17 => ?_)
        refine Q_getf (k := 0) (pc := 110) (DCa dc_Tide_part_0 40 rfl) cls_7 (Nat.le_of_ble_eq_true rfl) fl_11_77 rfl rfl rfl (fun v18 => ?_)
        refine Q_getf (k := 3) (pc := 113) (DCa dc_Tide_part_0 41 rfl) cls_6 (Nat.le_of_ble_eq_true rfl) fl_11_124 rfl rfl rfl (fun v19 => ?_)
        refine V_iload_n (pc := 116) (DCa dc_Tide_part_0 42 rfl) rfl 1 rfl ?_
        refine Q_iaload (pc := 117) (DCa dc_Tide_part_0 43 rfl) (fun v20 => ?_)
        exact V_ireturn (pc := 118) (DCa dc_Tide_part_0 44 rfl) rfl
      | 5, _ =>
        refine ⟨_, 119, rfl, by decide, ?_⟩
        refine V_aload_n (pc := 119) (DCa dc_Tide_part_0 45 rfl) rfl 0 rfl ?_
        refine Q_getf (k := 5) (pc := 120) (DCa dc_Tide_part_0 46 rfl) cls_11 (Nat.le_of_ble_eq_true rfl) fl_11_34 rfl rfl rfl (fun v21 => ?_)
        refine Q_getf (k := 3) (pc := 123) (DCa dc_Tide_part_0 47 rfl) cls_8 (Nat.le_of_ble_eq_true rfl) fl_11_127 rfl rfl rfl (fun v22 => ?_)
        refine V_iload_n (pc := 126) (DCa dc_Tide_part_0 48 rfl) rfl 1 rfl ?_
        refine Q_iaload (pc := 127) (DCa dc_Tide_part_0 49 rfl) (fun v23 => ?_)
        exact V_ireturn (pc := 128) (DCa dc_Tide_part_1 0 rfl) rfl
      | k + 6, hi => exact absurd hi (by omega)
theorem sp_Tide_part (F : Nat) (l0 l1 l2 : Int) (h : Hp) : Sp yX11_part cX11_part 3 (some (.int)) 2 41 [(2, l0), (0, l1), (0, l2)] h (Tide_part F l0 l1 l2 h) := Sp_of (by decide +kernel) rfl rfl (Nat.le_of_ble_eq_true rfl) (v_Tide_part F l0 l1 l2 h)

-- TideRakes.isWorker
def Tide_isWorker (F : Nat) (l0 l1 : Int) (h : Hp) : Option (Int × Hp) :=
  if l1 < 0 then
    (rz 0 h)
  else
    (gf h l0 111 4 fun v1 =>
    gf h v1 107 0 fun v2 =>
    gf h v2 106 8 fun v3 =>
    if l1 < v3 then
      (rz 1 h)
    else
      (rz 0 h))

theorem dc_Tide_isWorker_0 : ∀ q ∈ ([(0, .iload_n 1, 1), (1, .ifCond .lt 21, 3), (4, .iload_n 1, 1), (5, .aload_n 0, 1), (6, .getfield 27, 3), (9, .getfield 77, 3), (12, .getfield 292, 3), (15, .if_icmp .ge 7, 3), (18, .iconst 1, 1), (19, .goto 4, 3), (22, .iconst 0, 1), (23, .ireturn, 1)] : List (Nat × Instr × Nat)), decode cX11_isWorker q.1 = .ok (q.2.1, q.2.2) := by decide +kernel
abbrev X_Tide_isWorker : MX := (cX11_isWorker, RX11, "isWorker", 2, (some (.boolean)), 1, 20)
theorem v_Tide_isWorker (F : Nat) (l0 l1 : Int) (h : Hp) : V X_Tide_isWorker 0 [(0, 2, l0), (1, 0, l1)] [] h (Tide_isWorker F l0 l1 h) := by
  unfold Tide_isWorker
  refine V_iload_n (pc := 0) (DCa dc_Tide_isWorker_0 0 rfl) rfl 1 rfl ?_
  refine V_if_lt (tgt := 22) (pc := 1) (DCa dc_Tide_isWorker_0 1 rfl) (by decide) (fun _ => ?_) (fun _ => ?_)
  · refine V_iconst (pc := 22) (DCa dc_Tide_isWorker_0 10 rfl) (by decide) ?_
    exact V_zreturn (pc := 23) (DCa dc_Tide_isWorker_0 11 rfl) rfl
  · refine V_iload_n (pc := 4) (DCa dc_Tide_isWorker_0 2 rfl) rfl 1 rfl ?_
    refine V_aload_n (pc := 5) (DCa dc_Tide_isWorker_0 3 rfl) rfl 0 rfl ?_
    refine Q_getf (k := 4) (pc := 6) (DCa dc_Tide_isWorker_0 4 rfl) cls_11 (Nat.le_of_ble_eq_true rfl) fl_11_27 rfl rfl rfl (fun v1 => ?_)
    refine Q_getf (k := 0) (pc := 9) (DCa dc_Tide_isWorker_0 5 rfl) cls_7 (Nat.le_of_ble_eq_true rfl) fl_11_77 rfl rfl rfl (fun v2 => ?_)
    refine Q_getf (k := 8) (pc := 12) (DCa dc_Tide_isWorker_0 6 rfl) cls_6 (Nat.le_of_ble_eq_true rfl) fl_11_292 rfl rfl rfl (fun v3 => ?_)
    refine V_icmp_ge (tgt := 22) (pc := 15) (DCa dc_Tide_isWorker_0 7 rfl) (by decide) (fun _ => ?_) (fun _ => ?_)
    · refine V_iconst (pc := 18) (DCa dc_Tide_isWorker_0 8 rfl) (by decide) ?_
      refine V_goto (tgt := 23) (pc := 19) (DCa dc_Tide_isWorker_0 9 rfl) (by decide) ?_
      exact V_zreturn (pc := 23) (DCa dc_Tide_isWorker_0 11 rfl) rfl
    · refine V_iconst (pc := 22) (DCa dc_Tide_isWorker_0 10 rfl) (by decide) ?_
      exact V_zreturn (pc := 23) (DCa dc_Tide_isWorker_0 11 rfl) rfl
theorem sp_Tide_isWorker (F : Nat) (l0 l1 : Int) (h : Hp) : Sp yX11_isWorker cX11_isWorker 2 (some (.boolean)) 1 20 [(2, l0), (0, l1)] h (Tide_isWorker F l0 l1 h) := Sp_of (by decide +kernel) rfl rfl (Nat.le_of_ble_eq_true rfl) (v_Tide_isWorker F l0 l1 h)

-- TideRakes.worker
def Tide_worker (F : Nat) (l0 l1 l2 : Int) (h : Hp) : Option (Int × Hp) :=
  iv h l0 111 (Tide_isWorker F l0 l1 h) fun r1 h2 =>
  if r1 = 0 then
    (some ((-1), h2))
  else
    (gf h2 l0 111 5 fun v3 =>
    gf h2 v3 108 0 fun v4 =>
    al h2 v4 7 l1 fun v5 =>
    tsw l2 0 5 (fun i => match i with
      | 0 => (gf h2 v5 110 0 fun v6 =>
      some (v6, h2))
      | 1 => (gf h2 v5 110 1 fun v7 =>
      some (v7, h2))
      | 2 => (gf h2 v5 110 3 fun v8 =>
      some (v8, h2))
      | 3 => (gf h2 v5 110 2 fun v9 =>
      some (v9, h2))
      | _ => (gf h2 v5 110 4 fun v10 =>
      some (v10, h2)))
      (some ((-1), h2)))

theorem dc_Tide_worker_0 : ∀ q ∈ ([(0, .aload_n 0, 1), (1, .iload_n 1, 1), (2, .invokevirtual 130, 3), (5, .ifCond .ne 5, 3), (8, .iconst (-1), 1), (9, .ireturn, 1), (10, .aload_n 0, 1), (11, .getfield 34, 3), (14, .getfield 133, 3), (17, .iload_n 1, 1), (18, .aaload, 1), (19, .astore_n 3, 1), (20, .iload_n 2, 1), (21, .tableswitch 60 0 4 #[35, 40, 45, 50, 55], 35), (56, .aload_n 3, 1), (57, .getfield 137, 3), (60, .ireturn, 1), (61, .aload_n 3, 1), (62, .getfield 142, 3), (65, .ireturn, 1), (66, .aload_n 3, 1), (67, .getfield 145, 3), (70, .ireturn, 1), (71, .aload_n 3, 1), (72, .getfield 148, 3), (75, .ireturn, 1), (76, .aload_n 3, 1), (77, .getfield 151, 3), (80, .ireturn, 1), (81, .iconst (-1), 1), (82, .ireturn, 1)] : List (Nat × Instr × Nat)), decode cX11_worker q.1 = .ok (q.2.1, q.2.2) := by decide +kernel
abbrev X_Tide_worker : MX := (cX11_worker, RX11, "worker", 4, (some (.int)), 2, 41)
theorem v_Tide_worker (F : Nat) (l0 l1 l2 : Int) (h : Hp) : V X_Tide_worker 0 [(0, 2, l0), (1, 0, l1), (2, 0, l2)] [] h (Tide_worker F l0 l1 l2 h) := by
  unfold Tide_worker
  refine V_aload_n (pc := 0) (DCa dc_Tide_worker_0 0 rfl) rfl 0 rfl ?_
  refine V_iload_n (pc := 1) (DCa dc_Tide_worker_0 1 rfl) rfl 1 rfl ?_
  refine Q_callv (ci := 11) (st := []) (pc := 2) (DCa dc_Tide_worker_0 2 rfl) (sp_Tide_isWorker F _ _ _) ce_Tide_isWorker ml_11_130 rfl rfl ⟨Nat.le_of_ble_eq_true rfl, Nat.le_of_ble_eq_true rfl⟩ rfl (Nat.le_of_ble_eq_true rfl) (fun r1 h2 => ?_)
  refine V_if_ne (tgt := 10) (pc := 5) (DCa dc_Tide_worker_0 3 rfl) (by decide) (fun _ => ?_) (fun _ => ?_)
  · refine V_iconst (pc := 8) (DCa dc_Tide_worker_0 4 rfl) (by decide) ?_
    exact V_ireturn (pc := 9) (DCa dc_Tide_worker_0 5 rfl) rfl
  · refine V_aload_n (pc := 10) (DCa dc_Tide_worker_0 6 rfl) rfl 0 rfl ?_
    refine Q_getf (k := 5) (pc := 11) (DCa dc_Tide_worker_0 7 rfl) cls_11 (Nat.le_of_ble_eq_true rfl) fl_11_34 rfl rfl rfl (fun v3 => ?_)
    refine Q_getf (k := 0) (pc := 14) (DCa dc_Tide_worker_0 8 rfl) cls_8 (Nat.le_of_ble_eq_true rfl) fl_11_133 rfl rfl rfl (fun v4 => ?_)
    refine V_iload_n (pc := 17) (DCa dc_Tide_worker_0 9 rfl) rfl 1 rfl ?_
    refine Q_aaload (pc := 18) (DCa dc_Tide_worker_0 10 rfl) (by decide) rfl rfl (fun v5 => ?_)
    refine V_astore_n (ls' := [(0, 2, l0), (1, 0, l1), (2, 0, l2), (3, 2, v5)]) (pc := 19) (DCa dc_Tide_worker_0 11 rfl) rfl (Nat.le_of_ble_eq_true rfl) rfl ?_
    refine V_iload_n (pc := 20) (DCa dc_Tide_worker_0 12 rfl) rfl 2 rfl ?_
    refine V_table (tgt := 81) (pc := 21) (DCa dc_Tide_worker_0 13 rfl) (by decide) (by decide) ?_ (fun i hi _ => ?_)
    · refine V_iconst (pc := 81) (DCa dc_Tide_worker_0 29 rfl) (by decide) ?_
      exact V_ireturn (pc := 82) (DCa dc_Tide_worker_0 30 rfl) rfl
    · match i, hi with
      | 0, _ =>
        refine ⟨_, 56, rfl, by decide, ?_⟩
        refine V_aload_n (pc := 56) (DCa dc_Tide_worker_0 14 rfl) rfl 3 rfl ?_
        refine Q_getf (k := 0) (pc := 57) (DCa dc_Tide_worker_0 15 rfl) cls_10 (Nat.le_of_ble_eq_true rfl) fl_11_137 rfl rfl rfl (fun v6 => ?_)
        exact V_ireturn (pc := 60) (DCa dc_Tide_worker_0 16 rfl) rfl
      | 1, _ =>
        refine ⟨_, 61, rfl, by decide, ?_⟩
        refine V_aload_n (pc := 61) (DCa dc_Tide_worker_0 17 rfl) rfl 3 rfl ?_
        refine Q_getf (k := 1) (pc := 62) (DCa dc_Tide_worker_0 18 rfl) cls_10 (Nat.le_of_ble_eq_true rfl) fl_11_142 rfl rfl rfl (fun v7 => ?_)
        exact V_ireturn (pc := 65) (DCa dc_Tide_worker_0 19 rfl) rfl
      | 2, _ =>
        refine ⟨_, 66, rfl, by decide, ?_⟩
        refine V_aload_n (pc := 66) (DCa dc_Tide_worker_0 20 rfl) rfl 3 rfl ?_
        refine Q_getf (k := 3) (pc := 67) (DCa dc_Tide_worker_0 21 rfl) cls_10 (Nat.le_of_ble_eq_true rfl) fl_11_145 rfl rfl rfl (fun v8 => ?_)
        exact V_ireturn (pc := 70) (DCa dc_Tide_worker_0 22 rfl) rfl
      | 3, _ =>
        refine ⟨_, 71, rfl, by decide, ?_⟩
        refine V_aload_n (pc := 71) (DCa dc_Tide_worker_0 23 rfl) rfl 3 rfl ?_
        refine Q_getf (k := 2) (pc := 72) (DCa dc_Tide_worker_0 24 rfl) cls_10 (Nat.le_of_ble_eq_true rfl) fl_11_148 rfl rfl rfl (fun v9 => ?_)
        exact V_ireturn (pc := 75) (DCa dc_Tide_worker_0 25 rfl) rfl
      | 4, _ =>
        refine ⟨_, 76, rfl, by decide, ?_⟩
        refine V_aload_n (pc := 76) (DCa dc_Tide_worker_0 26 rfl) rfl 3 rfl ?_
        refine Q_getf (k := 4) (pc := 77) (DCa dc_Tide_worker_0 27 rfl) cls_10 (Nat.le_of_ble_eq_true rfl) fl_11_151 rfl rfl rfl (fun v10 => ?_)
        exact V_ireturn (pc := 80) (DCa dc_Tide_worker_0 28 rfl) rfl
      | k + 5, hi => exact absurd hi (by omega)
theorem sp_Tide_worker (F : Nat) (l0 l1 l2 : Int) (h : Hp) : Sp yX11_worker cX11_worker 4 (some (.int)) 2 41 [(2, l0), (0, l1), (0, l2)] h (Tide_worker F l0 l1 l2 h) := Sp_of (by decide +kernel) rfl rfl (Nat.le_of_ble_eq_true rfl) (v_Tide_worker F l0 l1 l2 h)

-- TideRakes.isMinute
def Tide_isMinute (F : Nat) (l0 : Int) (h : Hp) : Option (Int × Hp) :=
  if l0 < 0 then
    (rz 0 h)
  else
    (if l0 < 600 then
      (rz 1 h)
    else
      (rz 0 h))

theorem dc_Tide_isMinute_0 : ∀ q ∈ ([(0, .iload_n 0, 1), (1, .ifCond .lt 14, 3), (4, .iload_n 0, 1), (5, .sipush 600, 3), (8, .if_icmp .ge 7, 3), (11, .iconst 1, 1), (12, .goto 4, 3), (15, .iconst 0, 1), (16, .ireturn, 1)] : List (Nat × Instr × Nat)), decode cX11_isMinute q.1 = .ok (q.2.1, q.2.2) := by decide +kernel
abbrev X_Tide_isMinute : MX := (cX11_isMinute, RX11, "isMinute", 1, (some (.boolean)), 1, 20)
theorem v_Tide_isMinute (F : Nat) (l0 : Int) (h : Hp) : V X_Tide_isMinute 0 [(0, 0, l0)] [] h (Tide_isMinute F l0 h) := by
  unfold Tide_isMinute
  refine V_iload_n (pc := 0) (DCa dc_Tide_isMinute_0 0 rfl) rfl 0 rfl ?_
  refine V_if_lt (tgt := 15) (pc := 1) (DCa dc_Tide_isMinute_0 1 rfl) (by decide) (fun _ => ?_) (fun _ => ?_)
  · refine V_iconst (pc := 15) (DCa dc_Tide_isMinute_0 7 rfl) (by decide) ?_
    exact V_zreturn (pc := 16) (DCa dc_Tide_isMinute_0 8 rfl) rfl
  · refine V_iload_n (pc := 4) (DCa dc_Tide_isMinute_0 2 rfl) rfl 0 rfl ?_
    refine V_sipush (pc := 5) (DCa dc_Tide_isMinute_0 3 rfl) (by decide) ?_
    refine V_icmp_ge (tgt := 15) (pc := 8) (DCa dc_Tide_isMinute_0 4 rfl) (by decide) (fun _ => ?_) (fun _ => ?_)
    · refine V_iconst (pc := 11) (DCa dc_Tide_isMinute_0 5 rfl) (by decide) ?_
      refine V_goto (tgt := 16) (pc := 12) (DCa dc_Tide_isMinute_0 6 rfl) (by decide) ?_
      exact V_zreturn (pc := 16) (DCa dc_Tide_isMinute_0 8 rfl) rfl
    · refine V_iconst (pc := 15) (DCa dc_Tide_isMinute_0 7 rfl) (by decide) ?_
      exact V_zreturn (pc := 16) (DCa dc_Tide_isMinute_0 8 rfl) rfl
theorem sp_Tide_isMinute (F : Nat) (l0 : Int) (h : Hp) : Sp yX11_isMinute cX11_isMinute 1 (some (.boolean)) 1 20 [(0, l0)] h (Tide_isMinute F l0 h) := Sp_of (by decide +kernel) rfl rfl (Nat.le_of_ble_eq_true rfl) (v_Tide_isMinute F l0 h)

-- TideRakes.minute
def Tide_minute (F : Nat) (l0 l1 l2 : Int) (h : Hp) : Option (Int × Hp) :=
  cl (Tide_isMinute F l1 h) fun r1 h2 =>
  if r1 = 0 then
    (some ((-10000), h2))
  else
    (if l2 = 0 then
      (gf h2 l0 111 4 fun v3 =>
      gf h2 v3 107 1 fun v4 =>
      al h2 v4 0 l1 fun v5 =>
      some (v5, h2))
    else
      (if l2 = 1 then
        (gf h2 l0 111 4 fun v6 =>
        gf h2 v6 107 2 fun v7 =>
        al h2 v7 0 l1 fun v8 =>
        some (v8, h2))
      else
        (some ((-10000), h2))))

theorem dc_Tide_minute_0 : ∀ q ∈ ([(0, .iload_n 1, 1), (1, .invokestatic 154, 3), (4, .ifCond .ne 7, 3), (7, .sipush (-10000), 3), (10, .ireturn, 1), (11, .iload_n 2, 1), (12, .ifCond .ne 13, 3), (15, .aload_n 0, 1), (16, .getfield 27, 3), (19, .getfield 157, 3), (22, .iload_n 1, 1), (23, .iaload, 1), (24, .ireturn, 1), (25, .iload_n 2, 1), (26, .iconst 1, 1), (27, .if_icmp .ne 15, 3), (30, .aload_n 0, 1), (31, .getfield 27, 3), (34, .getfield 160, 3), (37, .iload_n 1, 1), (38, .iaload, 1), (39, .goto 6, 3), (42, .sipush (-10000), 3), (45, .ireturn, 1)] : List (Nat × Instr × Nat)), decode cX11_minute q.1 = .ok (q.2.1, q.2.2) := by decide +kernel
abbrev X_Tide_minute : MX := (cX11_minute, RX11, "minute", 3, (some (.int)), 2, 40)
theorem v_Tide_minute (F : Nat) (l0 l1 l2 : Int) (h : Hp) : V X_Tide_minute 0 [(0, 2, l0), (1, 0, l1), (2, 0, l2)] [] h (Tide_minute F l0 l1 l2 h) := by
  unfold Tide_minute
  refine V_iload_n (pc := 0) (DCa dc_Tide_minute_0 0 rfl) rfl 1 rfl ?_
  refine Q_calls (st := []) (pc := 1) (DCa dc_Tide_minute_0 1 rfl) (sp_Tide_isMinute F _ _) ce_Tide_isMinute ml_11_154 rfl ⟨Nat.le_of_ble_eq_true rfl, Nat.le_of_ble_eq_true rfl⟩ rfl (Nat.le_of_ble_eq_true rfl) (fun r1 h2 => ?_)
  refine V_if_ne (tgt := 11) (pc := 4) (DCa dc_Tide_minute_0 2 rfl) (by decide) (fun _ => ?_) (fun _ => ?_)
  · refine V_sipush (pc := 7) (DCa dc_Tide_minute_0 3 rfl) (by decide) ?_
    exact V_ireturn (pc := 10) (DCa dc_Tide_minute_0 4 rfl) rfl
  · refine V_iload_n (pc := 11) (DCa dc_Tide_minute_0 5 rfl) rfl 2 rfl ?_
    refine V_if_ne (tgt := 25) (pc := 12) (DCa dc_Tide_minute_0 6 rfl) (by decide) (fun _ => ?_) (fun _ => ?_)
    · refine V_aload_n (pc := 15) (DCa dc_Tide_minute_0 7 rfl) rfl 0 rfl ?_
      refine Q_getf (k := 4) (pc := 16) (DCa dc_Tide_minute_0 8 rfl) cls_11 (Nat.le_of_ble_eq_true rfl) fl_11_27 rfl rfl rfl (fun v3 => ?_)
      refine Q_getf (k := 1) (pc := 19) (DCa dc_Tide_minute_0 9 rfl) cls_7 (Nat.le_of_ble_eq_true rfl) fl_11_157 rfl rfl rfl (fun v4 => ?_)
      refine V_iload_n (pc := 22) (DCa dc_Tide_minute_0 10 rfl) rfl 1 rfl ?_
      refine Q_iaload (pc := 23) (DCa dc_Tide_minute_0 11 rfl) (fun v5 => ?_)
      exact V_ireturn (pc := 24) (DCa dc_Tide_minute_0 12 rfl) rfl
    · refine V_iload_n (pc := 25) (DCa dc_Tide_minute_0 13 rfl) rfl 2 rfl ?_
      refine V_iconst (pc := 26) (DCa dc_Tide_minute_0 14 rfl) (by decide) ?_
      refine V_icmp_ne (tgt := 42) (pc := 27) (DCa dc_Tide_minute_0 15 rfl) (by decide) (fun _ => ?_) (fun _ => ?_)
      · refine V_aload_n (pc := 30) (DCa dc_Tide_minute_0 16 rfl) rfl 0 rfl ?_
        refine Q_getf (k := 4) (pc := 31) (DCa dc_Tide_minute_0 17 rfl) cls_11 (Nat.le_of_ble_eq_true rfl) fl_11_27 rfl rfl rfl (fun v6 => ?_)
        refine Q_getf (k := 2) (pc := 34) (DCa dc_Tide_minute_0 18 rfl) cls_7 (Nat.le_of_ble_eq_true rfl) fl_11_160 rfl rfl rfl (fun v7 => ?_)
        refine V_iload_n (pc := 37) (DCa dc_Tide_minute_0 19 rfl) rfl 1 rfl ?_
        refine Q_iaload (pc := 38) (DCa dc_Tide_minute_0 20 rfl) (fun v8 => ?_)
        refine V_goto (tgt := 45) (pc := 39) (DCa dc_Tide_minute_0 21 rfl) (by decide) ?_
        exact V_ireturn (pc := 45) (DCa dc_Tide_minute_0 23 rfl) rfl
      · refine V_sipush (pc := 42) (DCa dc_Tide_minute_0 22 rfl) (by decide) ?_
        exact V_ireturn (pc := 45) (DCa dc_Tide_minute_0 23 rfl) rfl
theorem sp_Tide_minute (F : Nat) (l0 l1 l2 : Int) (h : Hp) : Sp yX11_minute cX11_minute 3 (some (.int)) 2 40 [(2, l0), (0, l1), (0, l2)] h (Tide_minute F l0 l1 l2 h) := Sp_of (by decide +kernel) rfl rfl (Nat.le_of_ble_eq_true rfl) (v_Tide_minute F l0 l1 l2 h)

-- TideRakes.free
def Tide_free (F : Nat) (l0 l1 l2 : Int) (h : Hp) : Option (Int × Hp) :=
  iv h l0 111 (Tide_isPart F l0 l1 h) fun r1 h2 =>
  if r1 = 0 then
    (some ((-1), h2))
  else
    (cl (Tide_isMinute F l2 h2) fun r3 h4 =>
    if r3 = 0 then
      (some ((-1), h4))
    else
      (gf h4 l0 111 4 fun v5 =>
      gf h4 v5 107 3 fun v6 =>
      al h4 v6 5 l1 fun v7 =>
      iv h4 v7 105 (Sand_freeFor F v7 l2 h4) fun r8 h9 =>
      some (r8, h9)))

theorem dc_Tide_free_0 : ∀ q ∈ ([(0, .aload_n 0, 1), (1, .iload_n 1, 1), (2, .invokevirtual 102, 3), (5, .ifCond .eq 26, 3), (8, .iload_n 2, 1), (9, .invokestatic 154, 3), (12, .ifCond .eq 19, 3), (15, .aload_n 0, 1), (16, .getfield 27, 3), (19, .getfield 106, 3), (22, .iload_n 1, 1), (23, .aaload, 1), (24, .iload_n 2, 1), (25, .invokevirtual 163, 3), (28, .goto 4, 3), (31, .iconst (-1), 1), (32, .ireturn, 1)] : List (Nat × Instr × Nat)), decode cX11_free q.1 = .ok (q.2.1, q.2.2) := by decide +kernel
abbrev X_Tide_free : MX := (cX11_free, RX11, "free", 3, (some (.int)), 2, 41)
theorem v_Tide_free (F : Nat) (l0 l1 l2 : Int) (h : Hp) : V X_Tide_free 0 [(0, 2, l0), (1, 0, l1), (2, 0, l2)] [] h (Tide_free F l0 l1 l2 h) := by
  unfold Tide_free
  refine V_aload_n (pc := 0) (DCa dc_Tide_free_0 0 rfl) rfl 0 rfl ?_
  refine V_iload_n (pc := 1) (DCa dc_Tide_free_0 1 rfl) rfl 1 rfl ?_
  refine Q_callv (ci := 11) (st := []) (pc := 2) (DCa dc_Tide_free_0 2 rfl) (sp_Tide_isPart F _ _ _) ce_Tide_isPart ml_11_102 rfl rfl ⟨Nat.le_of_ble_eq_true rfl, Nat.le_of_ble_eq_true rfl⟩ rfl (Nat.le_of_ble_eq_true rfl) (fun r1 h2 => ?_)
  refine V_if_eq (tgt := 31) (pc := 5) (DCa dc_Tide_free_0 3 rfl) (by decide) (fun _ => ?_) (fun _ => ?_)
  · refine V_iconst (pc := 31) (DCa dc_Tide_free_0 15 rfl) (by decide) ?_
    exact V_ireturn (pc := 32) (DCa dc_Tide_free_0 16 rfl) rfl
  · refine V_iload_n (pc := 8) (DCa dc_Tide_free_0 4 rfl) rfl 2 rfl ?_
    refine Q_calls (st := []) (pc := 9) (DCa dc_Tide_free_0 5 rfl) (sp_Tide_isMinute F _ _) ce_Tide_isMinute ml_11_154 rfl ⟨Nat.le_of_ble_eq_true rfl, Nat.le_of_ble_eq_true rfl⟩ rfl (Nat.le_of_ble_eq_true rfl) (fun r3 h4 => ?_)
    refine V_if_eq (tgt := 31) (pc := 12) (DCa dc_Tide_free_0 6 rfl) (by decide) (fun _ => ?_) (fun _ => ?_)
    · refine V_iconst (pc := 31) (DCa dc_Tide_free_0 15 rfl) (by decide) ?_
      exact V_ireturn (pc := 32) (DCa dc_Tide_free_0 16 rfl) rfl
    · refine V_aload_n (pc := 15) (DCa dc_Tide_free_0 7 rfl) rfl 0 rfl ?_
      refine Q_getf (k := 4) (pc := 16) (DCa dc_Tide_free_0 8 rfl) cls_11 (Nat.le_of_ble_eq_true rfl) fl_11_27 rfl rfl rfl (fun v5 => ?_)
      refine Q_getf (k := 3) (pc := 19) (DCa dc_Tide_free_0 9 rfl) cls_7 (Nat.le_of_ble_eq_true rfl) fl_11_106 rfl rfl rfl (fun v6 => ?_)
      refine V_iload_n (pc := 22) (DCa dc_Tide_free_0 10 rfl) rfl 1 rfl ?_
      refine Q_aaload (pc := 23) (DCa dc_Tide_free_0 11 rfl) (by decide) rfl rfl (fun v7 => ?_)
      refine V_iload_n (pc := 24) (DCa dc_Tide_free_0 12 rfl) rfl 2 rfl ?_
      refine Q_callv (ci := 5) (st := []) (pc := 25) (DCa dc_Tide_free_0 13 rfl) (sp_Sand_freeFor F _ _ _) ce_Sand_freeFor ml_11_163 rfl rfl ⟨Nat.le_of_ble_eq_true rfl, Nat.le_of_ble_eq_true rfl⟩ rfl (Nat.le_of_ble_eq_true rfl) (fun r8 h9 => ?_)
      refine V_goto (tgt := 32) (pc := 28) (DCa dc_Tide_free_0 14 rfl) (by decide) ?_
      exact V_ireturn (pc := 32) (DCa dc_Tide_free_0 16 rfl) rfl
theorem sp_Tide_free (F : Nat) (l0 l1 l2 : Int) (h : Hp) : Sp yX11_free cX11_free 3 (some (.int)) 2 41 [(2, l0), (0, l1), (0, l2)] h (Tide_free F l0 l1 l2 h) := Sp_of (by decide +kernel) rfl rfl (Nat.le_of_ble_eq_true rfl) (v_Tide_free F l0 l1 l2 h)

-- TideRakes.when
def Tide_when (F : Nat) (l0 l1 l2 : Int) (h : Hp) : Option (Int × Hp) :=
  iv h l0 111 (Tide_isPart F l0 l1 h) fun r1 h2 =>
  if r1 = 0 then
    (some ((-1), h2))
  else
    (cl (Tide_isMinute F l2 h2) fun r3 h4 =>
    if r3 = 0 then
      (some ((-1), h4))
    else
      (gf h4 l0 111 4 fun v5 =>
      gf h4 v5 107 3 fun v6 =>
      al h4 v6 5 l1 fun v7 =>
      iv h4 v7 105 (Sand_startFrom F v7 l2 h4) fun r8 h9 =>
      some (r8, h9)))

theorem dc_Tide_when_0 : ∀ q ∈ ([(0, .aload_n 0, 1), (1, .iload_n 1, 1), (2, .invokevirtual 102, 3), (5, .ifCond .eq 26, 3), (8, .iload_n 2, 1), (9, .invokestatic 154, 3), (12, .ifCond .eq 19, 3), (15, .aload_n 0, 1), (16, .getfield 27, 3), (19, .getfield 106, 3), (22, .iload_n 1, 1), (23, .aaload, 1), (24, .iload_n 2, 1), (25, .invokevirtual 167, 3), (28, .goto 4, 3), (31, .iconst (-1), 1), (32, .ireturn, 1)] : List (Nat × Instr × Nat)), decode cX11_when q.1 = .ok (q.2.1, q.2.2) := by decide +kernel
abbrev X_Tide_when : MX := (cX11_when, RX11, "when", 3, (some (.int)), 2, 41)
theorem v_Tide_when (F : Nat) (l0 l1 l2 : Int) (h : Hp) : V X_Tide_when 0 [(0, 2, l0), (1, 0, l1), (2, 0, l2)] [] h (Tide_when F l0 l1 l2 h) := by
  unfold Tide_when
  refine V_aload_n (pc := 0) (DCa dc_Tide_when_0 0 rfl) rfl 0 rfl ?_
  refine V_iload_n (pc := 1) (DCa dc_Tide_when_0 1 rfl) rfl 1 rfl ?_
  refine Q_callv (ci := 11) (st := []) (pc := 2) (DCa dc_Tide_when_0 2 rfl) (sp_Tide_isPart F _ _ _) ce_Tide_isPart ml_11_102 rfl rfl ⟨Nat.le_of_ble_eq_true rfl, Nat.le_of_ble_eq_true rfl⟩ rfl (Nat.le_of_ble_eq_true rfl) (fun r1 h2 => ?_)
  refine V_if_eq (tgt := 31) (pc := 5) (DCa dc_Tide_when_0 3 rfl) (by decide) (fun _ => ?_) (fun _ => ?_)
  · refine V_iconst (pc := 31) (DCa dc_Tide_when_0 15 rfl) (by decide) ?_
    exact V_ireturn (pc := 32) (DCa dc_Tide_when_0 16 rfl) rfl
  · refine V_iload_n (pc := 8) (DCa dc_Tide_when_0 4 rfl) rfl 2 rfl ?_
    refine Q_calls (st := []) (pc := 9) (DCa dc_Tide_when_0 5 rfl) (sp_Tide_isMinute F _ _) ce_Tide_isMinute ml_11_154 rfl ⟨Nat.le_of_ble_eq_true rfl, Nat.le_of_ble_eq_true rfl⟩ rfl (Nat.le_of_ble_eq_true rfl) (fun r3 h4 => ?_)
    refine V_if_eq (tgt := 31) (pc := 12) (DCa dc_Tide_when_0 6 rfl) (by decide) (fun _ => ?_) (fun _ => ?_)
    · refine V_iconst (pc := 31) (DCa dc_Tide_when_0 15 rfl) (by decide) ?_
      exact V_ireturn (pc := 32) (DCa dc_Tide_when_0 16 rfl) rfl
    · refine V_aload_n (pc := 15) (DCa dc_Tide_when_0 7 rfl) rfl 0 rfl ?_
      refine Q_getf (k := 4) (pc := 16) (DCa dc_Tide_when_0 8 rfl) cls_11 (Nat.le_of_ble_eq_true rfl) fl_11_27 rfl rfl rfl (fun v5 => ?_)
      refine Q_getf (k := 3) (pc := 19) (DCa dc_Tide_when_0 9 rfl) cls_7 (Nat.le_of_ble_eq_true rfl) fl_11_106 rfl rfl rfl (fun v6 => ?_)
      refine V_iload_n (pc := 22) (DCa dc_Tide_when_0 10 rfl) rfl 1 rfl ?_
      refine Q_aaload (pc := 23) (DCa dc_Tide_when_0 11 rfl) (by decide) rfl rfl (fun v7 => ?_)
      refine V_iload_n (pc := 24) (DCa dc_Tide_when_0 12 rfl) rfl 2 rfl ?_
      refine Q_callv (ci := 5) (st := []) (pc := 25) (DCa dc_Tide_when_0 13 rfl) (sp_Sand_startFrom F _ _ _) ce_Sand_startFrom ml_11_167 rfl rfl ⟨Nat.le_of_ble_eq_true rfl, Nat.le_of_ble_eq_true rfl⟩ rfl (Nat.le_of_ble_eq_true rfl) (fun r8 h9 => ?_)
      refine V_goto (tgt := 32) (pc := 28) (DCa dc_Tide_when_0 14 rfl) (by decide) ?_
      exact V_ireturn (pc := 32) (DCa dc_Tide_when_0 16 rfl) rfl
theorem sp_Tide_when (F : Nat) (l0 l1 l2 : Int) (h : Hp) : Sp yX11_when cX11_when 3 (some (.int)) 2 41 [(2, l0), (0, l1), (0, l2)] h (Tide_when F l0 l1 l2 h) := Sp_of (by decide +kernel) rfl rfl (Nat.le_of_ble_eq_true rfl) (v_Tide_when F l0 l1 l2 h)

-- TideRakes.keepIfDone
def Tide_keepIfDone (F : Nat) (l0 l1 : Int) (h : Hp) : Option (Int × Hp) :=
  if l1 < 0 then
    (some (l1, h))
  else
    (gf h l0 111 6 fun v1 =>
    iv h v1 101 (Past_keep F v1 h) fun r2 h3 =>
    gf h3 l0 111 9 fun v4 =>
    iv h3 v4 102 (Plan_forgetRows F v4 h3) fun r5 h6 =>
    some (l1, h6))

theorem dc_Tide_keepIfDone_0 : ∀ q ∈ ([(0, .iload_n 1, 1), (1, .ifCond .lt 17, 3), (4, .aload_n 0, 1), (5, .getfield 41, 3), (8, .invokevirtual 326, 3), (11, .aload_n 0, 1), (12, .getfield 56, 3), (15, .invokevirtual 191, 3), (18, .iload_n 1, 1), (19, .ireturn, 1)] : List (Nat × Instr × Nat)), decode cX11_keepIfDone q.1 = .ok (q.2.1, q.2.2) := by decide +kernel
abbrev X_Tide_keepIfDone : MX := (cX11_keepIfDone, RX11, "keepIfDone", 2, (some (.int)), 2, 41)
theorem v_Tide_keepIfDone (F : Nat) (l0 l1 : Int) (h : Hp) : V X_Tide_keepIfDone 0 [(0, 2, l0), (1, 0, l1)] [] h (Tide_keepIfDone F l0 l1 h) := by
  unfold Tide_keepIfDone
  refine V_iload_n (pc := 0) (DCa dc_Tide_keepIfDone_0 0 rfl) rfl 1 rfl ?_
  refine V_if_lt (tgt := 18) (pc := 1) (DCa dc_Tide_keepIfDone_0 1 rfl) (by decide) (fun _ => ?_) (fun _ => ?_)
  · refine V_iload_n (pc := 18) (DCa dc_Tide_keepIfDone_0 8 rfl) rfl 1 rfl ?_
    exact V_ireturn (pc := 19) (DCa dc_Tide_keepIfDone_0 9 rfl) rfl
  · refine V_aload_n (pc := 4) (DCa dc_Tide_keepIfDone_0 2 rfl) rfl 0 rfl ?_
    refine Q_getf (k := 6) (pc := 5) (DCa dc_Tide_keepIfDone_0 3 rfl) cls_11 (Nat.le_of_ble_eq_true rfl) fl_11_41 rfl rfl rfl (fun v1 => ?_)
    refine Q_callv (ci := 1) (st := []) (pc := 8) (DCa dc_Tide_keepIfDone_0 4 rfl) (sp_Past_keep F _ _) ce_Past_keep ml_11_326 rfl rfl ⟨Nat.le_of_ble_eq_true rfl, Nat.le_of_ble_eq_true rfl⟩ rfl (Nat.le_of_ble_eq_true rfl) (fun r2 h3 => ?_)
    refine V_aload_n (pc := 11) (DCa dc_Tide_keepIfDone_0 5 rfl) rfl 0 rfl ?_
    refine Q_getf (k := 9) (pc := 12) (DCa dc_Tide_keepIfDone_0 6 rfl) cls_11 (Nat.le_of_ble_eq_true rfl) fl_11_56 rfl rfl rfl (fun v4 => ?_)
    refine Q_callv (ci := 2) (st := []) (pc := 15) (DCa dc_Tide_keepIfDone_0 7 rfl) (sp_Plan_forgetRows F _ _) ce_Plan_forgetRows ml_11_191 rfl rfl ⟨Nat.le_of_ble_eq_true rfl, Nat.le_of_ble_eq_true rfl⟩ rfl (Nat.le_of_ble_eq_true rfl) (fun r5 h6 => ?_)
    refine V_iload_n (pc := 18) (DCa dc_Tide_keepIfDone_0 8 rfl) rfl 1 rfl ?_
    exact V_ireturn (pc := 19) (DCa dc_Tide_keepIfDone_0 9 rfl) rfl
theorem sp_Tide_keepIfDone (F : Nat) (l0 l1 : Int) (h : Hp) : Sp yX11_keepIfDone cX11_keepIfDone 2 (some (.int)) 2 41 [(2, l0), (0, l1)] h (Tide_keepIfDone F l0 l1 h) := Sp_of (by decide +kernel) rfl rfl (Nat.le_of_ble_eq_true rfl) (v_Tide_keepIfDone F l0 l1 h)

-- TideRakes.send
def Tide_send (F : Nat) (l0 l1 l2 : Int) (h : Hp) : Option (Int × Hp) :=
  iv h l0 111 (Tide_isWorker F l0 l1 h) fun r1 h2 =>
  if r1 = 0 then
    (some ((-1), h2))
  else
    (iv h2 l0 111 (Tide_isPart F l0 l2 h2) fun r3 h4 =>
    if r3 = 0 then
      (some ((-1), h4))
    else
      (gf h4 l0 111 6 fun v5 =>
      gf h4 l0 111 5 fun v6 =>
      iv h4 v5 101 (Past_note F v5 v6 l1 l2 h4) fun r7 h8 =>
      gf h8 l0 111 5 fun v9 =>
      gf h8 l0 111 4 fun v10 =>
      iv h8 v9 108 (Stan_rake F v9 v10 l1 l2 h8) fun r11 h12 =>
      iv h12 l0 111 (Tide_keepIfDone F l0 r11 h12) fun r13 h14 =>
      some (r13, h14)))

theorem dc_Tide_send_0 : ∀ q ∈ ([(0, .aload_n 0, 1), (1, .iload_n 1, 1), (2, .invokevirtual 130, 3), (5, .ifCond .eq 11, 3), (8, .aload_n 0, 1), (9, .iload_n 2, 1), (10, .invokevirtual 102, 3), (13, .ifCond .ne 5, 3), (16, .iconst (-1), 1), (17, .ireturn, 1), (18, .aload_n 0, 1), (19, .getfield 41, 3), (22, .aload_n 0, 1), (23, .getfield 34, 3), (26, .iload_n 1, 1), (27, .iload_n 2, 1), (28, .invokevirtual 170, 3), (31, .aload_n 0, 1), (32, .aload_n 0, 1), (33, .getfield 34, 3), (36, .aload_n 0, 1), (37, .getfield 27, 3), (40, .iload_n 1, 1), (41, .iload_n 2, 1), (42, .invokevirtual 174, 3), (45, .invokevirtual 178, 3), (48, .ireturn, 1)] : List (Nat × Instr × Nat)), decode cX11_send q.1 = .ok (q.2.1, q.2.2) := by decide +kernel
abbrev X_Tide_send : MX := (cX11_send, RX11, "send", 3, (some (.int)), 5, 114)
theorem v_Tide_send (F : Nat) (l0 l1 l2 : Int) (h : Hp) : V X_Tide_send 0 [(0, 2, l0), (1, 0, l1), (2, 0, l2)] [] h (Tide_send F l0 l1 l2 h) := by
  unfold Tide_send
  refine V_aload_n (pc := 0) (DCa dc_Tide_send_0 0 rfl) rfl 0 rfl ?_
  refine V_iload_n (pc := 1) (DCa dc_Tide_send_0 1 rfl) rfl 1 rfl ?_
  refine Q_callv (ci := 11) (st := []) (pc := 2) (DCa dc_Tide_send_0 2 rfl) (sp_Tide_isWorker F _ _ _) ce_Tide_isWorker ml_11_130 rfl rfl ⟨Nat.le_of_ble_eq_true rfl, Nat.le_of_ble_eq_true rfl⟩ rfl (Nat.le_of_ble_eq_true rfl) (fun r1 h2 => ?_)
  refine V_if_eq (tgt := 16) (pc := 5) (DCa dc_Tide_send_0 3 rfl) (by decide) (fun _ => ?_) (fun _ => ?_)
  · refine V_iconst (pc := 16) (DCa dc_Tide_send_0 8 rfl) (by decide) ?_
    exact V_ireturn (pc := 17) (DCa dc_Tide_send_0 9 rfl) rfl
  · refine V_aload_n (pc := 8) (DCa dc_Tide_send_0 4 rfl) rfl 0 rfl ?_
    refine V_iload_n (pc := 9) (DCa dc_Tide_send_0 5 rfl) rfl 2 rfl ?_
    refine Q_callv (ci := 11) (st := []) (pc := 10) (DCa dc_Tide_send_0 6 rfl) (sp_Tide_isPart F _ _ _) ce_Tide_isPart ml_11_102 rfl rfl ⟨Nat.le_of_ble_eq_true rfl, Nat.le_of_ble_eq_true rfl⟩ rfl (Nat.le_of_ble_eq_true rfl) (fun r3 h4 => ?_)
    refine V_if_ne (tgt := 18) (pc := 13) (DCa dc_Tide_send_0 7 rfl) (by decide) (fun _ => ?_) (fun _ => ?_)
    · refine V_iconst (pc := 16) (DCa dc_Tide_send_0 8 rfl) (by decide) ?_
      exact V_ireturn (pc := 17) (DCa dc_Tide_send_0 9 rfl) rfl
    · refine V_aload_n (pc := 18) (DCa dc_Tide_send_0 10 rfl) rfl 0 rfl ?_
      refine Q_getf (k := 6) (pc := 19) (DCa dc_Tide_send_0 11 rfl) cls_11 (Nat.le_of_ble_eq_true rfl) fl_11_41 rfl rfl rfl (fun v5 => ?_)
      refine V_aload_n (pc := 22) (DCa dc_Tide_send_0 12 rfl) rfl 0 rfl ?_
      refine Q_getf (k := 5) (pc := 23) (DCa dc_Tide_send_0 13 rfl) cls_11 (Nat.le_of_ble_eq_true rfl) fl_11_34 rfl rfl rfl (fun v6 => ?_)
      refine V_iload_n (pc := 26) (DCa dc_Tide_send_0 14 rfl) rfl 1 rfl ?_
      refine V_iload_n (pc := 27) (DCa dc_Tide_send_0 15 rfl) rfl 2 rfl ?_
      refine Q_callv (ci := 1) (st := []) (pc := 28) (DCa dc_Tide_send_0 16 rfl) (sp_Past_note F _ _ _ _ _) ce_Past_note ml_11_170 rfl rfl ⟨Nat.le_of_ble_eq_true rfl, Nat.le_of_ble_eq_true rfl⟩ rfl (Nat.le_of_ble_eq_true rfl) (fun r7 h8 => ?_)
      refine V_aload_n (pc := 31) (DCa dc_Tide_send_0 17 rfl) rfl 0 rfl ?_
      refine V_aload_n (pc := 32) (DCa dc_Tide_send_0 18 rfl) rfl 0 rfl ?_
      refine Q_getf (k := 5) (pc := 33) (DCa dc_Tide_send_0 19 rfl) cls_11 (Nat.le_of_ble_eq_true rfl) fl_11_34 rfl rfl rfl (fun v9 => ?_)
      refine V_aload_n (pc := 36) (DCa dc_Tide_send_0 20 rfl) rfl 0 rfl ?_
      refine Q_getf (k := 4) (pc := 37) (DCa dc_Tide_send_0 21 rfl) cls_11 (Nat.le_of_ble_eq_true rfl) fl_11_27 rfl rfl rfl (fun v10 => ?_)
      refine V_iload_n (pc := 40) (DCa dc_Tide_send_0 22 rfl) rfl 1 rfl ?_
      refine V_iload_n (pc := 41) (DCa dc_Tide_send_0 23 rfl) rfl 2 rfl ?_
      refine Q_callv (ci := 8) (st := [(2, l0)]) (pc := 42) (DCa dc_Tide_send_0 24 rfl) (sp_Stan_rake F _ _ _ _ _) ce_Stan_rake ml_11_174 rfl rfl ⟨Nat.le_of_ble_eq_true rfl, Nat.le_of_ble_eq_true rfl⟩ rfl (Nat.le_of_ble_eq_true rfl) (fun r11 h12 => ?_)
      refine Q_callv (ci := 11) (st := []) (pc := 45) (DCa dc_Tide_send_0 25 rfl) (sp_Tide_keepIfDone F _ _ _) ce_Tide_keepIfDone ml_11_178 rfl rfl ⟨Nat.le_of_ble_eq_true rfl, Nat.le_of_ble_eq_true rfl⟩ rfl (Nat.le_of_ble_eq_true rfl) (fun r13 h14 => ?_)
      exact V_ireturn (pc := 48) (DCa dc_Tide_send_0 26 rfl) rfl
theorem sp_Tide_send (F : Nat) (l0 l1 l2 : Int) (h : Hp) : Sp yX11_send cX11_send 3 (some (.int)) 5 114 [(2, l0), (0, l1), (0, l2)] h (Tide_send F l0 l1 l2 h) := Sp_of (by decide +kernel) rfl rfl (Nat.le_of_ble_eq_true rfl) (v_Tide_send F l0 l1 l2 h)

-- TideRakes.cross
def Tide_cross_B41 (F : Nat)  (s0 s1 : Int) (h : Hp) : Option (Int × Hp) :=
  iv h s1 111 (Tide_keepIfDone F s1 s0 h) fun r10 h11 =>
  if r10 = 1 then
    (rz 1 h11)
  else
    (rz 0 h11)
def Tide_cross (F : Nat) (l0 l1 : Int) (h : Hp) : Option (Int × Hp) :=
  iv h l0 111 (Tide_isPart F l0 l1 h) fun r1 h2 =>
  if r1 = 0 then
    (rz 0 h2)
  else
    (gf h2 l0 111 6 fun v3 =>
    gf h2 l0 111 5 fun v4 =>
    iv h2 v3 101 (Past_note F v3 v4 0 l1 h2) fun r5 h6 =>
    gf h6 l0 111 5 fun v7 =>
    iv h6 v7 108 (Stan_strike F v7 l1 h6) fun r8 h9 =>
    if r8 = 0 then
      (Tide_cross_B41 F (-2) l0 h9)
    else
      (Tide_cross_B41 F 1 l0 h9))

theorem dc_Tide_cross_0 : ∀ q ∈ ([(0, .aload_n 0, 1), (1, .iload_n 1, 1), (2, .invokevirtual 102, 3), (5, .ifCond .ne 5, 3), (8, .iconst 0, 1), (9, .ireturn, 1), (10, .aload_n 0, 1), (11, .getfield 41, 3), (14, .aload_n 0, 1), (15, .getfield 34, 3), (18, .iconst 0, 1), (19, .iload_n 1, 1), (20, .invokevirtual 170, 3), (23, .aload_n 0, 1), (24, .aload_n 0, 1), (25, .getfield 34, 3), (28, .iload_n 1, 1), (29, .invokevirtual 181, 3), (32, .ifCond .eq 7, 3), (35, .iconst 1, 1), (36, .goto 5, 3), (39, .bipush (-2), 2), (41, .invokevirtual 178, 3), (44, .iconst 1, 1), (45, .if_icmp .ne 7, 3), (48, .iconst 1, 1), (49, .goto 4, 3), (52, .iconst 0, 1), (53, .ireturn, 1)] : List (Nat × Instr × Nat)), decode cX11_cross q.1 = .ok (q.2.1, q.2.2) := by decide +kernel
abbrev X_Tide_cross : MX := (cX11_cross, RX11, "cross", 2, (some (.boolean)), 3, 64)
theorem v_Tide_cross_B41 (F : Nat)  (s0 s1 : Int) (h : Hp) : V X_Tide_cross 41 [] [(0, s0), (2, s1)] h (Tide_cross_B41 F  s0 s1 h) := by
  unfold Tide_cross_B41
  refine Q_callv (ci := 11) (st := []) (pc := 41) (DCa dc_Tide_cross_0 22 rfl) (sp_Tide_keepIfDone F _ _ _) ce_Tide_keepIfDone ml_11_178 rfl rfl ⟨Nat.le_of_ble_eq_true rfl, Nat.le_of_ble_eq_true rfl⟩ rfl (Nat.le_of_ble_eq_true rfl) (fun r10 h11 => ?_)
  refine V_iconst (pc := 44) (DCa dc_Tide_cross_0 23 rfl) (by decide) ?_
  refine V_icmp_ne (tgt := 52) (pc := 45) (DCa dc_Tide_cross_0 24 rfl) (by decide) (fun _ => ?_) (fun _ => ?_)
  · refine V_iconst (pc := 48) (DCa dc_Tide_cross_0 25 rfl) (by decide) ?_
    refine V_goto (tgt := 53) (pc := 49) (DCa dc_Tide_cross_0 26 rfl) (by decide) ?_
    exact V_zreturn (pc := 53) (DCa dc_Tide_cross_0 28 rfl) rfl
  · refine V_iconst (pc := 52) (DCa dc_Tide_cross_0 27 rfl) (by decide) ?_
    exact V_zreturn (pc := 53) (DCa dc_Tide_cross_0 28 rfl) rfl
theorem v_Tide_cross (F : Nat) (l0 l1 : Int) (h : Hp) : V X_Tide_cross 0 [(0, 2, l0), (1, 0, l1)] [] h (Tide_cross F l0 l1 h) := by
  unfold Tide_cross
  refine V_aload_n (pc := 0) (DCa dc_Tide_cross_0 0 rfl) rfl 0 rfl ?_
  refine V_iload_n (pc := 1) (DCa dc_Tide_cross_0 1 rfl) rfl 1 rfl ?_
  refine Q_callv (ci := 11) (st := []) (pc := 2) (DCa dc_Tide_cross_0 2 rfl) (sp_Tide_isPart F _ _ _) ce_Tide_isPart ml_11_102 rfl rfl ⟨Nat.le_of_ble_eq_true rfl, Nat.le_of_ble_eq_true rfl⟩ rfl (Nat.le_of_ble_eq_true rfl) (fun r1 h2 => ?_)
  refine V_if_ne (tgt := 10) (pc := 5) (DCa dc_Tide_cross_0 3 rfl) (by decide) (fun _ => ?_) (fun _ => ?_)
  · refine V_iconst (pc := 8) (DCa dc_Tide_cross_0 4 rfl) (by decide) ?_
    exact V_zreturn (pc := 9) (DCa dc_Tide_cross_0 5 rfl) rfl
  · refine V_aload_n (pc := 10) (DCa dc_Tide_cross_0 6 rfl) rfl 0 rfl ?_
    refine Q_getf (k := 6) (pc := 11) (DCa dc_Tide_cross_0 7 rfl) cls_11 (Nat.le_of_ble_eq_true rfl) fl_11_41 rfl rfl rfl (fun v3 => ?_)
    refine V_aload_n (pc := 14) (DCa dc_Tide_cross_0 8 rfl) rfl 0 rfl ?_
    refine Q_getf (k := 5) (pc := 15) (DCa dc_Tide_cross_0 9 rfl) cls_11 (Nat.le_of_ble_eq_true rfl) fl_11_34 rfl rfl rfl (fun v4 => ?_)
    refine V_iconst (pc := 18) (DCa dc_Tide_cross_0 10 rfl) (by decide) ?_
    refine V_iload_n (pc := 19) (DCa dc_Tide_cross_0 11 rfl) rfl 1 rfl ?_
    refine Q_callv (ci := 1) (st := []) (pc := 20) (DCa dc_Tide_cross_0 12 rfl) (sp_Past_note F _ _ _ _ _) ce_Past_note ml_11_170 rfl rfl ⟨Nat.le_of_ble_eq_true rfl, Nat.le_of_ble_eq_true rfl⟩ rfl (Nat.le_of_ble_eq_true rfl) (fun r5 h6 => ?_)
    refine V_aload_n (pc := 23) (DCa dc_Tide_cross_0 13 rfl) rfl 0 rfl ?_
    refine V_aload_n (pc := 24) (DCa dc_Tide_cross_0 14 rfl) rfl 0 rfl ?_
    refine Q_getf (k := 5) (pc := 25) (DCa dc_Tide_cross_0 15 rfl) cls_11 (Nat.le_of_ble_eq_true rfl) fl_11_34 rfl rfl rfl (fun v7 => ?_)
    refine V_iload_n (pc := 28) (DCa dc_Tide_cross_0 16 rfl) rfl 1 rfl ?_
    refine Q_callv (ci := 8) (st := [(2, l0)]) (pc := 29) (DCa dc_Tide_cross_0 17 rfl) (sp_Stan_strike F _ _ _) ce_Stan_strike ml_11_181 rfl rfl ⟨Nat.le_of_ble_eq_true rfl, Nat.le_of_ble_eq_true rfl⟩ rfl (Nat.le_of_ble_eq_true rfl) (fun r8 h9 => ?_)
    refine V_if_eq (tgt := 39) (pc := 32) (DCa dc_Tide_cross_0 18 rfl) (by decide) (fun _ => ?_) (fun _ => ?_)
    · refine V_bipush (pc := 39) (DCa dc_Tide_cross_0 21 rfl) (by decide) ?_
      refine V_pick [] rfl ?_
      exact v_Tide_cross_B41 F _ _ _
    · refine V_iconst (pc := 35) (DCa dc_Tide_cross_0 19 rfl) (by decide) ?_
      refine V_goto (tgt := 41) (pc := 36) (DCa dc_Tide_cross_0 20 rfl) (by decide) ?_
      refine V_pick [] rfl ?_
      exact v_Tide_cross_B41 F _ _ _
theorem sp_Tide_cross (F : Nat) (l0 l1 : Int) (h : Hp) : Sp yX11_cross cX11_cross 2 (some (.boolean)) 3 64 [(2, l0), (0, l1)] h (Tide_cross F l0 l1 h) := Sp_of (by decide +kernel) rfl rfl (Nat.le_of_ble_eq_true rfl) (v_Tide_cross F l0 l1 h)

-- TideRakes.mend
def Tide_mend (F : Nat) (l0 l1 l2 : Int) (h : Hp) : Option (Int × Hp) :=
  iv h l0 111 (Tide_isWorker F l0 l1 h) fun r1 h2 =>
  if r1 = 0 then
    (some ((-1), h2))
  else
    (iv h2 l0 111 (Tide_isPart F l0 l2 h2) fun r3 h4 =>
    if r3 = 0 then
      (some ((-1), h4))
    else
      (gf h4 l0 111 6 fun v5 =>
      gf h4 l0 111 5 fun v6 =>
      iv h4 v5 101 (Past_note F v5 v6 l1 l2 h4) fun r7 h8 =>
      gf h8 l0 111 5 fun v9 =>
      gf h8 l0 111 4 fun v10 =>
      iv h8 v9 108 (Stan_repair F v9 v10 l1 l2 h8) fun r11 h12 =>
      iv h12 l0 111 (Tide_keepIfDone F l0 r11 h12) fun r13 h14 =>
      some (r13, h14)))

theorem dc_Tide_mend_0 : ∀ q ∈ ([(0, .aload_n 0, 1), (1, .iload_n 1, 1), (2, .invokevirtual 130, 3), (5, .ifCond .eq 11, 3), (8, .aload_n 0, 1), (9, .iload_n 2, 1), (10, .invokevirtual 102, 3), (13, .ifCond .ne 5, 3), (16, .iconst (-1), 1), (17, .ireturn, 1), (18, .aload_n 0, 1), (19, .getfield 41, 3), (22, .aload_n 0, 1), (23, .getfield 34, 3), (26, .iload_n 1, 1), (27, .iload_n 2, 1), (28, .invokevirtual 170, 3), (31, .aload_n 0, 1), (32, .aload_n 0, 1), (33, .getfield 34, 3), (36, .aload_n 0, 1), (37, .getfield 27, 3), (40, .iload_n 1, 1), (41, .iload_n 2, 1), (42, .invokevirtual 184, 3), (45, .invokevirtual 178, 3), (48, .ireturn, 1)] : List (Nat × Instr × Nat)), decode cX11_mend q.1 = .ok (q.2.1, q.2.2) := by decide +kernel
abbrev X_Tide_mend : MX := (cX11_mend, RX11, "mend", 3, (some (.int)), 4, 89)
theorem v_Tide_mend (F : Nat) (l0 l1 l2 : Int) (h : Hp) : V X_Tide_mend 0 [(0, 2, l0), (1, 0, l1), (2, 0, l2)] [] h (Tide_mend F l0 l1 l2 h) := by
  unfold Tide_mend
  refine V_aload_n (pc := 0) (DCa dc_Tide_mend_0 0 rfl) rfl 0 rfl ?_
  refine V_iload_n (pc := 1) (DCa dc_Tide_mend_0 1 rfl) rfl 1 rfl ?_
  refine Q_callv (ci := 11) (st := []) (pc := 2) (DCa dc_Tide_mend_0 2 rfl) (sp_Tide_isWorker F _ _ _) ce_Tide_isWorker ml_11_130 rfl rfl ⟨Nat.le_of_ble_eq_true rfl, Nat.le_of_ble_eq_true rfl⟩ rfl (Nat.le_of_ble_eq_true rfl) (fun r1 h2 => ?_)
  refine V_if_eq (tgt := 16) (pc := 5) (DCa dc_Tide_mend_0 3 rfl) (by decide) (fun _ => ?_) (fun _ => ?_)
  · refine V_iconst (pc := 16) (DCa dc_Tide_mend_0 8 rfl) (by decide) ?_
    exact V_ireturn (pc := 17) (DCa dc_Tide_mend_0 9 rfl) rfl
  · refine V_aload_n (pc := 8) (DCa dc_Tide_mend_0 4 rfl) rfl 0 rfl ?_
    refine V_iload_n (pc := 9) (DCa dc_Tide_mend_0 5 rfl) rfl 2 rfl ?_
    refine Q_callv (ci := 11) (st := []) (pc := 10) (DCa dc_Tide_mend_0 6 rfl) (sp_Tide_isPart F _ _ _) ce_Tide_isPart ml_11_102 rfl rfl ⟨Nat.le_of_ble_eq_true rfl, Nat.le_of_ble_eq_true rfl⟩ rfl (Nat.le_of_ble_eq_true rfl) (fun r3 h4 => ?_)
    refine V_if_ne (tgt := 18) (pc := 13) (DCa dc_Tide_mend_0 7 rfl) (by decide) (fun _ => ?_) (fun _ => ?_)
    · refine V_iconst (pc := 16) (DCa dc_Tide_mend_0 8 rfl) (by decide) ?_
      exact V_ireturn (pc := 17) (DCa dc_Tide_mend_0 9 rfl) rfl
    · refine V_aload_n (pc := 18) (DCa dc_Tide_mend_0 10 rfl) rfl 0 rfl ?_
      refine Q_getf (k := 6) (pc := 19) (DCa dc_Tide_mend_0 11 rfl) cls_11 (Nat.le_of_ble_eq_true rfl) fl_11_41 rfl rfl rfl (fun v5 => ?_)
      refine V_aload_n (pc := 22) (DCa dc_Tide_mend_0 12 rfl) rfl 0 rfl ?_
      refine Q_getf (k := 5) (pc := 23) (DCa dc_Tide_mend_0 13 rfl) cls_11 (Nat.le_of_ble_eq_true rfl) fl_11_34 rfl rfl rfl (fun v6 => ?_)
      refine V_iload_n (pc := 26) (DCa dc_Tide_mend_0 14 rfl) rfl 1 rfl ?_
      refine V_iload_n (pc := 27) (DCa dc_Tide_mend_0 15 rfl) rfl 2 rfl ?_
      refine Q_callv (ci := 1) (st := []) (pc := 28) (DCa dc_Tide_mend_0 16 rfl) (sp_Past_note F _ _ _ _ _) ce_Past_note ml_11_170 rfl rfl ⟨Nat.le_of_ble_eq_true rfl, Nat.le_of_ble_eq_true rfl⟩ rfl (Nat.le_of_ble_eq_true rfl) (fun r7 h8 => ?_)
      refine V_aload_n (pc := 31) (DCa dc_Tide_mend_0 17 rfl) rfl 0 rfl ?_
      refine V_aload_n (pc := 32) (DCa dc_Tide_mend_0 18 rfl) rfl 0 rfl ?_
      refine Q_getf (k := 5) (pc := 33) (DCa dc_Tide_mend_0 19 rfl) cls_11 (Nat.le_of_ble_eq_true rfl) fl_11_34 rfl rfl rfl (fun v9 => ?_)
      refine V_aload_n (pc := 36) (DCa dc_Tide_mend_0 20 rfl) rfl 0 rfl ?_
      refine Q_getf (k := 4) (pc := 37) (DCa dc_Tide_mend_0 21 rfl) cls_11 (Nat.le_of_ble_eq_true rfl) fl_11_27 rfl rfl rfl (fun v10 => ?_)
      refine V_iload_n (pc := 40) (DCa dc_Tide_mend_0 22 rfl) rfl 1 rfl ?_
      refine V_iload_n (pc := 41) (DCa dc_Tide_mend_0 23 rfl) rfl 2 rfl ?_
      refine Q_callv (ci := 8) (st := [(2, l0)]) (pc := 42) (DCa dc_Tide_mend_0 24 rfl) (sp_Stan_repair F _ _ _ _ _) ce_Stan_repair ml_11_184 rfl rfl ⟨Nat.le_of_ble_eq_true rfl, Nat.le_of_ble_eq_true rfl⟩ rfl (Nat.le_of_ble_eq_true rfl) (fun r11 h12 => ?_)
      refine Q_callv (ci := 11) (st := []) (pc := 45) (DCa dc_Tide_mend_0 25 rfl) (sp_Tide_keepIfDone F _ _ _) ce_Tide_keepIfDone ml_11_178 rfl rfl ⟨Nat.le_of_ble_eq_true rfl, Nat.le_of_ble_eq_true rfl⟩ rfl (Nat.le_of_ble_eq_true rfl) (fun r13 h14 => ?_)
      exact V_ireturn (pc := 48) (DCa dc_Tide_mend_0 26 rfl) rfl
theorem sp_Tide_mend (F : Nat) (l0 l1 l2 : Int) (h : Hp) : Sp yX11_mend cX11_mend 3 (some (.int)) 4 89 [(2, l0), (0, l1), (0, l2)] h (Tide_mend F l0 l1 l2 h) := Sp_of (by decide +kernel) rfl rfl (Nat.le_of_ble_eq_true rfl) (v_Tide_mend F l0 l1 l2 h)

-- TideRakes.undo
def Tide_undo (F : Nat) (l0 : Int) (h : Hp) : Option (Int × Hp) :=
  gf h l0 111 6 fun v1 =>
  gf h l0 111 5 fun v2 =>
  iv h v1 101 (Past_takeBack F v1 v2 h) fun r3 h4 =>
  if r3 = 0 then
    (rz r3 h4)
  else
    (gf h4 l0 111 9 fun v5 =>
    iv h4 v5 102 (Plan_forgetRows F v5 h4) fun r6 h7 =>
    rz r3 h7)

theorem dc_Tide_undo_0 : ∀ q ∈ ([(0, .aload_n 0, 1), (1, .getfield 41, 3), (4, .aload_n 0, 1), (5, .getfield 34, 3), (8, .invokevirtual 187, 3), (11, .istore_n 1, 1), (12, .iload_n 1, 1), (13, .ifCond .eq 10, 3), (16, .aload_n 0, 1), (17, .getfield 56, 3), (20, .invokevirtual 191, 3), (23, .iload_n 1, 1), (24, .ireturn, 1)] : List (Nat × Instr × Nat)), decode cX11_undo q.1 = .ok (q.2.1, q.2.2) := by decide +kernel
abbrev X_Tide_undo : MX := (cX11_undo, RX11, "undo", 2, (some (.boolean)), 2, 44)
theorem v_Tide_undo (F : Nat) (l0 : Int) (h : Hp) : V X_Tide_undo 0 [(0, 2, l0)] [] h (Tide_undo F l0 h) := by
  unfold Tide_undo
  refine V_aload_n (pc := 0) (DCa dc_Tide_undo_0 0 rfl) rfl 0 rfl ?_
  refine Q_getf (k := 6) (pc := 1) (DCa dc_Tide_undo_0 1 rfl) cls_11 (Nat.le_of_ble_eq_true rfl) fl_11_41 rfl rfl rfl (fun v1 => ?_)
  refine V_aload_n (pc := 4) (DCa dc_Tide_undo_0 2 rfl) rfl 0 rfl ?_
  refine Q_getf (k := 5) (pc := 5) (DCa dc_Tide_undo_0 3 rfl) cls_11 (Nat.le_of_ble_eq_true rfl) fl_11_34 rfl rfl rfl (fun v2 => ?_)
  refine Q_callv (ci := 1) (st := []) (pc := 8) (DCa dc_Tide_undo_0 4 rfl) (sp_Past_takeBack F _ _ _) ce_Past_takeBack ml_11_187 rfl rfl ⟨Nat.le_of_ble_eq_true rfl, Nat.le_of_ble_eq_true rfl⟩ rfl (Nat.le_of_ble_eq_true rfl) (fun r3 h4 => ?_)
  refine V_istore_n (ls' := [(0, 2, l0), (1, 0, r3)]) (pc := 11) (DCa dc_Tide_undo_0 5 rfl) rfl (Nat.le_of_ble_eq_true rfl) rfl ?_
  refine V_iload_n (pc := 12) (DCa dc_Tide_undo_0 6 rfl) rfl 1 rfl ?_
  refine V_if_eq (tgt := 23) (pc := 13) (DCa dc_Tide_undo_0 7 rfl) (by decide) (fun _ => ?_) (fun _ => ?_)
  · refine V_iload_n (pc := 23) (DCa dc_Tide_undo_0 11 rfl) rfl 1 rfl ?_
    exact V_zreturn (pc := 24) (DCa dc_Tide_undo_0 12 rfl) rfl
  · refine V_aload_n (pc := 16) (DCa dc_Tide_undo_0 8 rfl) rfl 0 rfl ?_
    refine Q_getf (k := 9) (pc := 17) (DCa dc_Tide_undo_0 9 rfl) cls_11 (Nat.le_of_ble_eq_true rfl) fl_11_56 rfl rfl rfl (fun v5 => ?_)
    refine Q_callv (ci := 2) (st := []) (pc := 20) (DCa dc_Tide_undo_0 10 rfl) (sp_Plan_forgetRows F _ _) ce_Plan_forgetRows ml_11_191 rfl rfl ⟨Nat.le_of_ble_eq_true rfl, Nat.le_of_ble_eq_true rfl⟩ rfl (Nat.le_of_ble_eq_true rfl) (fun r6 h7 => ?_)
    refine V_iload_n (pc := 23) (DCa dc_Tide_undo_0 11 rfl) rfl 1 rfl ?_
    exact V_zreturn (pc := 24) (DCa dc_Tide_undo_0 12 rfl) rfl
theorem sp_Tide_undo (F : Nat) (l0 : Int) (h : Hp) : Sp yX11_undo cX11_undo 2 (some (.boolean)) 2 44 [(2, l0)] h (Tide_undo F l0 h) := Sp_of (by decide +kernel) rfl rfl (Nat.le_of_ble_eq_true rfl) (v_Tide_undo F l0 h)

-- TideRakes.seen
def Tide_seen (F : Nat) (l0 l1 : Int) (h : Hp) : Option (Int × Hp) :=
  cl (Tide_isMinute F l1 h) fun r1 h2 =>
  if r1 = 0 then
    (some ((-1), h2))
  else
    (gf h2 l0 111 5 fun v3 =>
    gf h2 l0 111 4 fun v4 =>
    iv h2 v3 108 (Stan_visible F v3 v4 l1 h2) fun r5 h6 =>
    some (r5, h6))

theorem dc_Tide_seen_0 : ∀ q ∈ ([(0, .iload_n 1, 1), (1, .invokestatic 154, 3), (4, .ifCond .eq 18, 3), (7, .aload_n 0, 1), (8, .getfield 34, 3), (11, .aload_n 0, 1), (12, .getfield 27, 3), (15, .iload_n 1, 1), (16, .invokevirtual 194, 3), (19, .goto 4, 3), (22, .iconst (-1), 1), (23, .ireturn, 1)] : List (Nat × Instr × Nat)), decode cX11_seen q.1 = .ok (q.2.1, q.2.2) := by decide +kernel
abbrev X_Tide_seen : MX := (cX11_seen, RX11, "seen", 2, (some (.int)), 5, 110)
theorem v_Tide_seen (F : Nat) (l0 l1 : Int) (h : Hp) : V X_Tide_seen 0 [(0, 2, l0), (1, 0, l1)] [] h (Tide_seen F l0 l1 h) := by
  unfold Tide_seen
  refine V_iload_n (pc := 0) (DCa dc_Tide_seen_0 0 rfl) rfl 1 rfl ?_
  refine Q_calls (st := []) (pc := 1) (DCa dc_Tide_seen_0 1 rfl) (sp_Tide_isMinute F _ _) ce_Tide_isMinute ml_11_154 rfl ⟨Nat.le_of_ble_eq_true rfl, Nat.le_of_ble_eq_true rfl⟩ rfl (Nat.le_of_ble_eq_true rfl) (fun r1 h2 => ?_)
  refine V_if_eq (tgt := 22) (pc := 4) (DCa dc_Tide_seen_0 2 rfl) (by decide) (fun _ => ?_) (fun _ => ?_)
  · refine V_iconst (pc := 22) (DCa dc_Tide_seen_0 10 rfl) (by decide) ?_
    exact V_ireturn (pc := 23) (DCa dc_Tide_seen_0 11 rfl) rfl
  · refine V_aload_n (pc := 7) (DCa dc_Tide_seen_0 3 rfl) rfl 0 rfl ?_
    refine Q_getf (k := 5) (pc := 8) (DCa dc_Tide_seen_0 4 rfl) cls_11 (Nat.le_of_ble_eq_true rfl) fl_11_34 rfl rfl rfl (fun v3 => ?_)
    refine V_aload_n (pc := 11) (DCa dc_Tide_seen_0 5 rfl) rfl 0 rfl ?_
    refine Q_getf (k := 4) (pc := 12) (DCa dc_Tide_seen_0 6 rfl) cls_11 (Nat.le_of_ble_eq_true rfl) fl_11_27 rfl rfl rfl (fun v4 => ?_)
    refine V_iload_n (pc := 15) (DCa dc_Tide_seen_0 7 rfl) rfl 1 rfl ?_
    refine Q_callv (ci := 8) (st := []) (pc := 16) (DCa dc_Tide_seen_0 8 rfl) (sp_Stan_visible F _ _ _ _) ce_Stan_visible ml_11_194 rfl rfl ⟨Nat.le_of_ble_eq_true rfl, Nat.le_of_ble_eq_true rfl⟩ rfl (Nat.le_of_ble_eq_true rfl) (fun r5 h6 => ?_)
    refine V_goto (tgt := 23) (pc := 19) (DCa dc_Tide_seen_0 9 rfl) (by decide) ?_
    exact V_ireturn (pc := 23) (DCa dc_Tide_seen_0 11 rfl) rfl
theorem sp_Tide_seen (F : Nat) (l0 l1 : Int) (h : Hp) : Sp yX11_seen cX11_seen 2 (some (.int)) 5 110 [(2, l0), (0, l1)] h (Tide_seen F l0 l1 h) := Sp_of (by decide +kernel) rfl rfl (Nat.le_of_ble_eq_true rfl) (v_Tide_seen F l0 l1 h)

-- TideRakes.picture
def Tide_picture (F : Nat) (l0 l1 : Int) (h : Hp) : Option (Int × Hp) :=
  gf h l0 111 4 fun v1 =>
  gf h v1 107 4 fun v2 =>
  gf h l0 111 5 fun v3 =>
  gf h l0 111 4 fun v4 =>
  iv h v3 108 (Stan_visible F v3 v4 l1 h) fun r5 h6 =>
  al h6 v2 0 r5 fun v7 =>
  gf h6 l0 111 4 fun v8 =>
  gf h6 v8 107 2 fun v9 =>
  al h6 v9 0 l1 fun v10 =>
  some (w32 (v7 * v10), h6)

theorem dc_Tide_picture_0 : ∀ q ∈ ([(0, .aload_n 0, 1), (1, .getfield 27, 3), (4, .getfield 223, 3), (7, .aload_n 0, 1), (8, .getfield 34, 3), (11, .aload_n 0, 1), (12, .getfield 27, 3), (15, .iload_n 1, 1), (16, .invokevirtual 194, 3), (19, .iaload, 1), (20, .aload_n 0, 1), (21, .getfield 27, 3), (24, .getfield 160, 3), (27, .iload_n 1, 1), (28, .iaload, 1), (29, .imul, 1), (30, .ireturn, 1)] : List (Nat × Instr × Nat)), decode cX11_picture q.1 = .ok (q.2.1, q.2.2) := by decide +kernel
abbrev X_Tide_picture : MX := (cX11_picture, RX11, "picture", 2, (some (.int)), 5, 110)
theorem v_Tide_picture (F : Nat) (l0 l1 : Int) (h : Hp) : V X_Tide_picture 0 [(0, 2, l0), (1, 0, l1)] [] h (Tide_picture F l0 l1 h) := by
  unfold Tide_picture
  refine V_aload_n (pc := 0) (DCa dc_Tide_picture_0 0 rfl) rfl 0 rfl ?_
  refine Q_getf (k := 4) (pc := 1) (DCa dc_Tide_picture_0 1 rfl) cls_11 (Nat.le_of_ble_eq_true rfl) fl_11_27 rfl rfl rfl (fun v1 => ?_)
  refine Q_getf (k := 4) (pc := 4) (DCa dc_Tide_picture_0 2 rfl) cls_7 (Nat.le_of_ble_eq_true rfl) fl_11_223 rfl rfl rfl (fun v2 => ?_)
  refine V_aload_n (pc := 7) (DCa dc_Tide_picture_0 3 rfl) rfl 0 rfl ?_
  refine Q_getf (k := 5) (pc := 8) (DCa dc_Tide_picture_0 4 rfl) cls_11 (Nat.le_of_ble_eq_true rfl) fl_11_34 rfl rfl rfl (fun v3 => ?_)
  refine V_aload_n (pc := 11) (DCa dc_Tide_picture_0 5 rfl) rfl 0 rfl ?_
  refine Q_getf (k := 4) (pc := 12) (DCa dc_Tide_picture_0 6 rfl) cls_11 (Nat.le_of_ble_eq_true rfl) fl_11_27 rfl rfl rfl (fun v4 => ?_)
  refine V_iload_n (pc := 15) (DCa dc_Tide_picture_0 7 rfl) rfl 1 rfl ?_
  refine Q_callv (ci := 8) (st := [(2, v2)]) (pc := 16) (DCa dc_Tide_picture_0 8 rfl) (sp_Stan_visible F _ _ _ _) ce_Stan_visible ml_11_194 rfl rfl ⟨Nat.le_of_ble_eq_true rfl, Nat.le_of_ble_eq_true rfl⟩ rfl (Nat.le_of_ble_eq_true rfl) (fun r5 h6 => ?_)
  refine Q_iaload (pc := 19) (DCa dc_Tide_picture_0 9 rfl) (fun v7 => ?_)
  refine V_aload_n (pc := 20) (DCa dc_Tide_picture_0 10 rfl) rfl 0 rfl ?_
  refine Q_getf (k := 4) (pc := 21) (DCa dc_Tide_picture_0 11 rfl) cls_11 (Nat.le_of_ble_eq_true rfl) fl_11_27 rfl rfl rfl (fun v8 => ?_)
  refine Q_getf (k := 2) (pc := 24) (DCa dc_Tide_picture_0 12 rfl) cls_7 (Nat.le_of_ble_eq_true rfl) fl_11_160 rfl rfl rfl (fun v9 => ?_)
  refine V_iload_n (pc := 27) (DCa dc_Tide_picture_0 13 rfl) rfl 1 rfl ?_
  refine Q_iaload (pc := 28) (DCa dc_Tide_picture_0 14 rfl) (fun v10 => ?_)
  refine V_imul (pc := 29) (DCa dc_Tide_picture_0 15 rfl) ?_
  exact V_ireturn (pc := 30) (DCa dc_Tide_picture_0 16 rfl) rfl
theorem sp_Tide_picture (F : Nat) (l0 l1 : Int) (h : Hp) : Sp yX11_picture cX11_picture 2 (some (.int)) 5 110 [(2, l0), (0, l1)] h (Tide_picture F l0 l1 h) := Sp_of (by decide +kernel) rfl rfl (Nat.le_of_ble_eq_true rfl) (v_Tide_picture F l0 l1 h)

-- TideRakes.photo
def Tide_photo (F : Nat) (l0 l1 : Int) (h : Hp) : Option (Int × Hp) :=
  cl (Tide_isMinute F l1 h) fun r1 h2 =>
  if r1 = 0 then
    (some ((-1), h2))
  else
    (iv h2 l0 111 (Tide_picture F l0 l1 h2) fun r3 h4 =>
    some (r3, h4))

theorem dc_Tide_photo_0 : ∀ q ∈ ([(0, .iload_n 1, 1), (1, .invokestatic 154, 3), (4, .ifCond .eq 11, 3), (7, .aload_n 0, 1), (8, .iload_n 1, 1), (9, .invokevirtual 198, 3), (12, .goto 4, 3), (15, .iconst (-1), 1), (16, .ireturn, 1)] : List (Nat × Instr × Nat)), decode cX11_photo q.1 = .ok (q.2.1, q.2.2) := by decide +kernel
abbrev X_Tide_photo : MX := (cX11_photo, RX11, "photo", 2, (some (.int)), 6, 131)
theorem v_Tide_photo (F : Nat) (l0 l1 : Int) (h : Hp) : V X_Tide_photo 0 [(0, 2, l0), (1, 0, l1)] [] h (Tide_photo F l0 l1 h) := by
  unfold Tide_photo
  refine V_iload_n (pc := 0) (DCa dc_Tide_photo_0 0 rfl) rfl 1 rfl ?_
  refine Q_calls (st := []) (pc := 1) (DCa dc_Tide_photo_0 1 rfl) (sp_Tide_isMinute F _ _) ce_Tide_isMinute ml_11_154 rfl ⟨Nat.le_of_ble_eq_true rfl, Nat.le_of_ble_eq_true rfl⟩ rfl (Nat.le_of_ble_eq_true rfl) (fun r1 h2 => ?_)
  refine V_if_eq (tgt := 15) (pc := 4) (DCa dc_Tide_photo_0 2 rfl) (by decide) (fun _ => ?_) (fun _ => ?_)
  · refine V_iconst (pc := 15) (DCa dc_Tide_photo_0 7 rfl) (by decide) ?_
    exact V_ireturn (pc := 16) (DCa dc_Tide_photo_0 8 rfl) rfl
  · refine V_aload_n (pc := 7) (DCa dc_Tide_photo_0 3 rfl) rfl 0 rfl ?_
    refine V_iload_n (pc := 8) (DCa dc_Tide_photo_0 4 rfl) rfl 1 rfl ?_
    refine Q_callv (ci := 11) (st := []) (pc := 9) (DCa dc_Tide_photo_0 5 rfl) (sp_Tide_picture F _ _ _) ce_Tide_picture ml_11_198 rfl rfl ⟨Nat.le_of_ble_eq_true rfl, Nat.le_of_ble_eq_true rfl⟩ rfl (Nat.le_of_ble_eq_true rfl) (fun r3 h4 => ?_)
    refine V_goto (tgt := 16) (pc := 12) (DCa dc_Tide_photo_0 6 rfl) (by decide) ?_
    exact V_ireturn (pc := 16) (DCa dc_Tide_photo_0 8 rfl) rfl
theorem sp_Tide_photo (F : Nat) (l0 l1 : Int) (h : Hp) : Sp yX11_photo cX11_photo 2 (some (.int)) 6 131 [(2, l0), (0, l1)] h (Tide_photo F l0 l1 h) := Sp_of (by decide +kernel) rfl rfl (Nat.le_of_ble_eq_true rfl) (v_Tide_photo F l0 l1 h)

-- TideRakes.bestMinute
def Tide_bestMinute_L6s (F : Nat)  (R6 : Int → Int → Int → Int → Hp → Option (Int × Hp)) (l0 l1 l2 l3 : Int) (h : Hp) : Option (Int × Hp) :=
  if l3 < 600 then
    (iv h l0 111 (Tide_picture F l0 l3 h) fun r1 h2 =>
    if l2 < r1 then
      (R6 l0 l3 r1 (w32 (l3 + 1)) h2)
    else
      (R6 l0 l1 l2 (w32 (l3 + 1)) h2))
  else
    (some (l1, h))
def Tide_bestMinute_L6 (F : Nat)  : Nat → Int → Int → Int → Int → Hp → Option (Int × Hp)
  | 0 => fun _ _ _ _ _ => none
  | n + 1 => Tide_bestMinute_L6s F  (Tide_bestMinute_L6 F  n)
def Tide_bestMinute (F : Nat) (l0 : Int) (h : Hp) : Option (Int × Hp) :=
  Tide_bestMinute_L6 F F l0 0 0 0 h

theorem dc_Tide_bestMinute_0 : ∀ q ∈ ([(0, .iconst 0, 1), (1, .istore_n 1, 1), (2, .iconst 0, 1), (3, .istore_n 2, 1), (4, .iconst 0, 1), (5, .istore_n 3, 1), (6, .iload_n 3, 1), (7, .sipush 600, 3), (10, .if_icmp .ge 27, 3), (13, .aload_n 0, 1), (14, .iload_n 3, 1), (15, .invokevirtual 198, 3), (18, .istore 4, 2), (20, .iload 4, 2), (22, .iload_n 2, 1), (23, .if_icmp .le 8, 3), (26, .iload 4, 2), (28, .istore_n 2, 1), (29, .iload_n 3, 1), (30, .istore_n 1, 1), (31, .iinc 3 1, 3), (34, .goto (-28), 3), (37, .iload_n 1, 1), (38, .ireturn, 1)] : List (Nat × Instr × Nat)), decode cX11_bestMinute q.1 = .ok (q.2.1, q.2.2) := by decide +kernel
abbrev X_Tide_bestMinute : MX := (cX11_bestMinute, RX11, "bestMinute", 5, (some (.int)), 6, 131)
theorem v_Tide_bestMinute_L6s (F : Nat)  (R6 : Int → Int → Int → Int → Hp → Option (Int × Hp)) (hR6 : ∀ (l0 l1 l2 l3 : Int) (h : Hp), V X_Tide_bestMinute 6 [(0, 2, l0), (1, 0, l1), (2, 0, l2), (3, 0, l3)] [] h (R6 l0 l1 l2 l3 h)) (l0 l1 l2 l3 : Int) (h : Hp) : V X_Tide_bestMinute 6 [(0, 2, l0), (1, 0, l1), (2, 0, l2), (3, 0, l3)] [] h (Tide_bestMinute_L6s F  R6 l0 l1 l2 l3 h) := by
  unfold Tide_bestMinute_L6s
  refine V_iload_n (pc := 6) (DCa dc_Tide_bestMinute_0 6 rfl) rfl 3 rfl ?_
  refine V_sipush (pc := 7) (DCa dc_Tide_bestMinute_0 7 rfl) (by decide) ?_
  refine V_icmp_ge (tgt := 37) (pc := 10) (DCa dc_Tide_bestMinute_0 8 rfl) (by decide) (fun _ => ?_) (fun _ => ?_)
  · refine V_aload_n (pc := 13) (DCa dc_Tide_bestMinute_0 9 rfl) rfl 0 rfl ?_
    refine V_iload_n (pc := 14) (DCa dc_Tide_bestMinute_0 10 rfl) rfl 3 rfl ?_
    refine Q_callv (ci := 11) (st := []) (pc := 15) (DCa dc_Tide_bestMinute_0 11 rfl) (sp_Tide_picture F _ _ _) ce_Tide_picture ml_11_198 rfl rfl ⟨Nat.le_of_ble_eq_true rfl, Nat.le_of_ble_eq_true rfl⟩ rfl (Nat.le_of_ble_eq_true rfl) (fun r1 h2 => ?_)
    refine V_istore (ls' := [(0, 2, l0), (1, 0, l1), (2, 0, l2), (3, 0, l3), (4, 0, r1)]) (pc := 18) (DCa dc_Tide_bestMinute_0 12 rfl) (Nat.le_of_ble_eq_true rfl) rfl ?_
    refine V_iload (pc := 20) (DCa dc_Tide_bestMinute_0 13 rfl) 4 rfl ?_
    refine V_iload_n (pc := 22) (DCa dc_Tide_bestMinute_0 14 rfl) rfl 2 rfl ?_
    refine V_icmp_le (tgt := 31) (pc := 23) (DCa dc_Tide_bestMinute_0 15 rfl) (by decide) (fun _ => ?_) (fun _ => ?_)
    · refine V_iload (pc := 26) (DCa dc_Tide_bestMinute_0 16 rfl) 4 rfl ?_
      refine V_istore_n (ls' := [(0, 2, l0), (1, 0, l1), (2, 0, r1), (3, 0, l3), (4, 0, r1)]) (pc := 28) (DCa dc_Tide_bestMinute_0 17 rfl) rfl (Nat.le_of_ble_eq_true rfl) rfl ?_
      refine V_iload_n (pc := 29) (DCa dc_Tide_bestMinute_0 18 rfl) rfl 3 rfl ?_
      refine V_istore_n (ls' := [(0, 2, l0), (1, 0, l3), (2, 0, r1), (3, 0, l3), (4, 0, r1)]) (pc := 30) (DCa dc_Tide_bestMinute_0 19 rfl) rfl (Nat.le_of_ble_eq_true rfl) rfl ?_
      refine V_iinc (ls' := [(0, 2, l0), (1, 0, l3), (2, 0, r1), (3, 0, w32 (l3 + 1)), (4, 0, r1)]) (pc := 31) (DCa dc_Tide_bestMinute_0 20 rfl) (Nat.le_of_ble_eq_true rfl) (by decide) 3 rfl rfl ?_
      refine V_goto (tgt := 6) (pc := 34) (DCa dc_Tide_bestMinute_0 21 rfl) (by decide) ?_
      refine V_pick [0, 1, 2, 3] rfl ?_
      exact hR6 _ _ _ _ _
    · refine V_iinc (ls' := [(0, 2, l0), (1, 0, l1), (2, 0, l2), (3, 0, w32 (l3 + 1)), (4, 0, r1)]) (pc := 31) (DCa dc_Tide_bestMinute_0 20 rfl) (Nat.le_of_ble_eq_true rfl) (by decide) 3 rfl rfl ?_
      refine V_goto (tgt := 6) (pc := 34) (DCa dc_Tide_bestMinute_0 21 rfl) (by decide) ?_
      refine V_pick [0, 1, 2, 3] rfl ?_
      exact hR6 _ _ _ _ _
  · refine V_iload_n (pc := 37) (DCa dc_Tide_bestMinute_0 22 rfl) rfl 1 rfl ?_
    exact V_ireturn (pc := 38) (DCa dc_Tide_bestMinute_0 23 rfl) rfl
theorem v_Tide_bestMinute_L6 (F : Nat)  (n : Nat) : ∀ (l0 l1 l2 l3 : Int) (h : Hp), V X_Tide_bestMinute 6 [(0, 2, l0), (1, 0, l1), (2, 0, l2), (3, 0, l3)] [] h (Tide_bestMinute_L6 F  n l0 l1 l2 l3 h) := by
  induction n with
  | zero => intros; exact V_none
  | succ n ih => exact fun l0 l1 l2 l3 h => v_Tide_bestMinute_L6s F  _ ih l0 l1 l2 l3 h
theorem v_Tide_bestMinute (F : Nat) (l0 : Int) (h : Hp) : V X_Tide_bestMinute 0 [(0, 2, l0)] [] h (Tide_bestMinute F l0 h) := by
  unfold Tide_bestMinute
  refine V_iconst (pc := 0) (DCa dc_Tide_bestMinute_0 0 rfl) (by decide) ?_
  refine V_istore_n (ls' := [(0, 2, l0), (1, 0, 0)]) (pc := 1) (DCa dc_Tide_bestMinute_0 1 rfl) rfl (Nat.le_of_ble_eq_true rfl) rfl ?_
  refine V_iconst (pc := 2) (DCa dc_Tide_bestMinute_0 2 rfl) (by decide) ?_
  refine V_istore_n (ls' := [(0, 2, l0), (1, 0, 0), (2, 0, 0)]) (pc := 3) (DCa dc_Tide_bestMinute_0 3 rfl) rfl (Nat.le_of_ble_eq_true rfl) rfl ?_
  refine V_iconst (pc := 4) (DCa dc_Tide_bestMinute_0 4 rfl) (by decide) ?_
  refine V_istore_n (ls' := [(0, 2, l0), (1, 0, 0), (2, 0, 0), (3, 0, 0)]) (pc := 5) (DCa dc_Tide_bestMinute_0 5 rfl) rfl (Nat.le_of_ble_eq_true rfl) rfl ?_
  exact v_Tide_bestMinute_L6 F F _ _ _ _ _
theorem sp_Tide_bestMinute (F : Nat) (l0 : Int) (h : Hp) : Sp yX11_bestMinute cX11_bestMinute 5 (some (.int)) 6 131 [(2, l0)] h (Tide_bestMinute F l0 h) := Sp_of (by decide +kernel) rfl rfl (Nat.le_of_ble_eq_true rfl) (v_Tide_bestMinute F l0 h)

-- TideRakes.stays
def Tide_stays_L19s (F : Nat)  (R19 : Int → Int → Int → Int → Hp → Option (Int × Hp)) (l0 l1 l2 l3 : Int) (h : Hp) : Option (Int × Hp) :=
  if l3 < 600 then
    (gf h l0 111 4 fun v5 =>
    gf h v5 107 3 fun v6 =>
    al h v6 5 l1 fun v7 =>
    iv h v7 105 (Sand_freeFor F v7 l3 h) fun r8 h9 =>
    if 0 < r8 then
      (R19 l0 l1 l2 (w32 (l3 + 1)) h9)
    else
      (some (w32 (l3 - l2), h9)))
  else
    (some (w32 (l3 - l2), h))
def Tide_stays_L19 (F : Nat)  : Nat → Int → Int → Int → Int → Hp → Option (Int × Hp)
  | 0 => fun _ _ _ _ _ => none
  | n + 1 => Tide_stays_L19s F  (Tide_stays_L19 F  n)
def Tide_stays (F : Nat) (l0 l1 l2 : Int) (h : Hp) : Option (Int × Hp) :=
  iv h l0 111 (Tide_isPart F l0 l1 h) fun r1 h2 =>
  if r1 = 0 then
    (some ((-1), h2))
  else
    (cl (Tide_isMinute F l2 h2) fun r3 h4 =>
    if r3 = 0 then
      (some ((-1), h4))
    else
      (Tide_stays_L19 F F l0 l1 l2 l2 h4))

theorem dc_Tide_stays_0 : ∀ q ∈ ([(0, .aload_n 0, 1), (1, .iload_n 1, 1), (2, .invokevirtual 102, 3), (5, .ifCond .eq 10, 3), (8, .iload_n 2, 1), (9, .invokestatic 154, 3), (12, .ifCond .ne 5, 3), (15, .iconst (-1), 1), (16, .ireturn, 1), (17, .iload_n 2, 1), (18, .istore_n 3, 1), (19, .iload_n 3, 1), (20, .sipush 600, 3), (23, .if_icmp .ge 25, 3), (26, .aload_n 0, 1), (27, .getfield 27, 3), (30, .getfield 106, 3), (33, .iload_n 1, 1), (34, .aaload, 1), (35, .iload_n 3, 1), (36, .invokevirtual 163, 3), (39, .ifCond .le 9, 3), (42, .iinc 3 1, 3), (45, .goto (-26), 3), (48, .iload_n 3, 1), (49, .iload_n 2, 1), (50, .isub, 1), (51, .ireturn, 1)] : List (Nat × Instr × Nat)), decode cX11_stays q.1 = .ok (q.2.1, q.2.2) := by decide +kernel
abbrev X_Tide_stays : MX := (cX11_stays, RX11, "stays", 4, (some (.int)), 2, 41)
theorem v_Tide_stays_L19s (F : Nat)  (R19 : Int → Int → Int → Int → Hp → Option (Int × Hp)) (hR19 : ∀ (l0 l1 l2 l3 : Int) (h : Hp), V X_Tide_stays 19 [(0, 2, l0), (1, 0, l1), (2, 0, l2), (3, 0, l3)] [] h (R19 l0 l1 l2 l3 h)) (l0 l1 l2 l3 : Int) (h : Hp) : V X_Tide_stays 19 [(0, 2, l0), (1, 0, l1), (2, 0, l2), (3, 0, l3)] [] h (Tide_stays_L19s F  R19 l0 l1 l2 l3 h) := by
  unfold Tide_stays_L19s
  refine V_iload_n (pc := 19) (DCa dc_Tide_stays_0 11 rfl) rfl 3 rfl ?_
  refine V_sipush (pc := 20) (DCa dc_Tide_stays_0 12 rfl) (by decide) ?_
  refine V_icmp_ge (tgt := 48) (pc := 23) (DCa dc_Tide_stays_0 13 rfl) (by decide) (fun _ => ?_) (fun _ => ?_)
  · refine V_aload_n (pc := 26) (DCa dc_Tide_stays_0 14 rfl) rfl 0 rfl ?_
    refine Q_getf (k := 4) (pc := 27) (DCa dc_Tide_stays_0 15 rfl) cls_11 (Nat.le_of_ble_eq_true rfl) fl_11_27 rfl rfl rfl (fun v5 => ?_)
    refine Q_getf (k := 3) (pc := 30) (DCa dc_Tide_stays_0 16 rfl) cls_7 (Nat.le_of_ble_eq_true rfl) fl_11_106 rfl rfl rfl (fun v6 => ?_)
    refine V_iload_n (pc := 33) (DCa dc_Tide_stays_0 17 rfl) rfl 1 rfl ?_
    refine Q_aaload (pc := 34) (DCa dc_Tide_stays_0 18 rfl) (by decide) rfl rfl (fun v7 => ?_)
    refine V_iload_n (pc := 35) (DCa dc_Tide_stays_0 19 rfl) rfl 3 rfl ?_
    refine Q_callv (ci := 5) (st := []) (pc := 36) (DCa dc_Tide_stays_0 20 rfl) (sp_Sand_freeFor F _ _ _) ce_Sand_freeFor ml_11_163 rfl rfl ⟨Nat.le_of_ble_eq_true rfl, Nat.le_of_ble_eq_true rfl⟩ rfl (Nat.le_of_ble_eq_true rfl) (fun r8 h9 => ?_)
    refine V_if_le (tgt := 48) (pc := 39) (DCa dc_Tide_stays_0 21 rfl) (by decide) (fun _ => ?_) (fun _ => ?_)
    · refine V_iinc (ls' := [(0, 2, l0), (1, 0, l1), (2, 0, l2), (3, 0, w32 (l3 + 1))]) (pc := 42) (DCa dc_Tide_stays_0 22 rfl) (Nat.le_of_ble_eq_true rfl) (by decide) 3 rfl rfl ?_
      refine V_goto (tgt := 19) (pc := 45) (DCa dc_Tide_stays_0 23 rfl) (by decide) ?_
      exact hR19 _ _ _ _ _
    · refine V_iload_n (pc := 48) (DCa dc_Tide_stays_0 24 rfl) rfl 3 rfl ?_
      refine V_iload_n (pc := 49) (DCa dc_Tide_stays_0 25 rfl) rfl 2 rfl ?_
      refine V_isub (pc := 50) (DCa dc_Tide_stays_0 26 rfl) ?_
      exact V_ireturn (pc := 51) (DCa dc_Tide_stays_0 27 rfl) rfl
  · refine V_iload_n (pc := 48) (DCa dc_Tide_stays_0 24 rfl) rfl 3 rfl ?_
    refine V_iload_n (pc := 49) (DCa dc_Tide_stays_0 25 rfl) rfl 2 rfl ?_
    refine V_isub (pc := 50) (DCa dc_Tide_stays_0 26 rfl) ?_
    exact V_ireturn (pc := 51) (DCa dc_Tide_stays_0 27 rfl) rfl
theorem v_Tide_stays_L19 (F : Nat)  (n : Nat) : ∀ (l0 l1 l2 l3 : Int) (h : Hp), V X_Tide_stays 19 [(0, 2, l0), (1, 0, l1), (2, 0, l2), (3, 0, l3)] [] h (Tide_stays_L19 F  n l0 l1 l2 l3 h) := by
  induction n with
  | zero => intros; exact V_none
  | succ n ih => exact fun l0 l1 l2 l3 h => v_Tide_stays_L19s F  _ ih l0 l1 l2 l3 h
theorem v_Tide_stays (F : Nat) (l0 l1 l2 : Int) (h : Hp) : V X_Tide_stays 0 [(0, 2, l0), (1, 0, l1), (2, 0, l2)] [] h (Tide_stays F l0 l1 l2 h) := by
  unfold Tide_stays
  refine V_aload_n (pc := 0) (DCa dc_Tide_stays_0 0 rfl) rfl 0 rfl ?_
  refine V_iload_n (pc := 1) (DCa dc_Tide_stays_0 1 rfl) rfl 1 rfl ?_
  refine Q_callv (ci := 11) (st := []) (pc := 2) (DCa dc_Tide_stays_0 2 rfl) (sp_Tide_isPart F _ _ _) ce_Tide_isPart ml_11_102 rfl rfl ⟨Nat.le_of_ble_eq_true rfl, Nat.le_of_ble_eq_true rfl⟩ rfl (Nat.le_of_ble_eq_true rfl) (fun r1 h2 => ?_)
  refine V_if_eq (tgt := 15) (pc := 5) (DCa dc_Tide_stays_0 3 rfl) (by decide) (fun _ => ?_) (fun _ => ?_)
  · refine V_iconst (pc := 15) (DCa dc_Tide_stays_0 7 rfl) (by decide) ?_
    exact V_ireturn (pc := 16) (DCa dc_Tide_stays_0 8 rfl) rfl
  · refine V_iload_n (pc := 8) (DCa dc_Tide_stays_0 4 rfl) rfl 2 rfl ?_
    refine Q_calls (st := []) (pc := 9) (DCa dc_Tide_stays_0 5 rfl) (sp_Tide_isMinute F _ _) ce_Tide_isMinute ml_11_154 rfl ⟨Nat.le_of_ble_eq_true rfl, Nat.le_of_ble_eq_true rfl⟩ rfl (Nat.le_of_ble_eq_true rfl) (fun r3 h4 => ?_)
    refine V_if_ne (tgt := 17) (pc := 12) (DCa dc_Tide_stays_0 6 rfl) (by decide) (fun _ => ?_) (fun _ => ?_)
    · refine V_iconst (pc := 15) (DCa dc_Tide_stays_0 7 rfl) (by decide) ?_
      exact V_ireturn (pc := 16) (DCa dc_Tide_stays_0 8 rfl) rfl
    · refine V_iload_n (pc := 17) (DCa dc_Tide_stays_0 9 rfl) rfl 2 rfl ?_
      refine V_istore_n (ls' := [(0, 2, l0), (1, 0, l1), (2, 0, l2), (3, 0, l2)]) (pc := 18) (DCa dc_Tide_stays_0 10 rfl) rfl (Nat.le_of_ble_eq_true rfl) rfl ?_
      exact v_Tide_stays_L19 F F _ _ _ _ _
theorem sp_Tide_stays (F : Nat) (l0 l1 l2 : Int) (h : Hp) : Sp yX11_stays cX11_stays 4 (some (.int)) 2 41 [(2, l0), (0, l1), (0, l2)] h (Tide_stays F l0 l1 l2 h) := Sp_of (by decide +kernel) rfl rfl (Nat.le_of_ble_eq_true rfl) (v_Tide_stays F l0 l1 l2 h)

-- TideRakes.answer
def Tide_answer (F : Nat) (l0 l1 l2 l3 : Int) (h : Hp) : Option (Int × Hp) :=
  gf h l0 111 4 fun v1 =>
  gf h v1 107 4 fun v2 =>
  iv h l1 104 (Rows_bestSet F l1 v2 l2 h) fun r3 h4 =>
  tsw l3 0 3 (fun i => match i with
    | 0 => (gf h4 l0 111 4 fun v5 =>
    gf h4 v5 107 4 fun v6 =>
    al h4 v6 0 r3 fun v7 =>
    some (v7, h4))
    | 1 => (gf h4 l1 104 6 fun v8 =>
    al h4 v8 0 r3 fun v9 =>
    some (v9, h4))
    | _ => (some (r3, h4)))
    (some ((-1), h4))

theorem dc_Tide_answer_0 : ∀ q ∈ ([(0, .aload_n 1, 1), (1, .aload_n 0, 1), (2, .getfield 27, 3), (5, .getfield 223, 3), (8, .iload_n 2, 1), (9, .invokevirtual 347, 3), (12, .istore 4, 2), (14, .iload_n 3, 1), (15, .tableswitch 47 0 2 #[25, 36, 44], 25), (40, .aload_n 0, 1), (41, .getfield 27, 3), (44, .getfield 223, 3), (47, .iload 4, 2), (49, .iaload, 1), (50, .ireturn, 1), (51, .aload_n 1, 1), (52, .getfield 353, 3), (55, .iload 4, 2), (57, .iaload, 1), (58, .ireturn, 1), (59, .iload 4, 2), (61, .ireturn, 1), (62, .iconst (-1), 1), (63, .ireturn, 1)] : List (Nat × Instr × Nat)), decode cX11_answer q.1 = .ok (q.2.1, q.2.2) := by decide +kernel
abbrev X_Tide_answer : MX := (cX11_answer, RX11, "answer", 5, (some (.int)), 2, 44)
theorem v_Tide_answer (F : Nat) (l0 l1 l2 l3 : Int) (h : Hp) : V X_Tide_answer 0 [(0, 2, l0), (1, 2, l1), (2, 0, l2), (3, 0, l3)] [] h (Tide_answer F l0 l1 l2 l3 h) := by
  unfold Tide_answer
  refine V_aload_n (pc := 0) (DCa dc_Tide_answer_0 0 rfl) rfl 1 rfl ?_
  refine V_aload_n (pc := 1) (DCa dc_Tide_answer_0 1 rfl) rfl 0 rfl ?_
  refine Q_getf (k := 4) (pc := 2) (DCa dc_Tide_answer_0 2 rfl) cls_11 (Nat.le_of_ble_eq_true rfl) fl_11_27 rfl rfl rfl (fun v1 => ?_)
  refine Q_getf (k := 4) (pc := 5) (DCa dc_Tide_answer_0 3 rfl) cls_7 (Nat.le_of_ble_eq_true rfl) fl_11_223 rfl rfl rfl (fun v2 => ?_)
  refine V_iload_n (pc := 8) (DCa dc_Tide_answer_0 4 rfl) rfl 2 rfl ?_
  refine Q_callv (ci := 4) (st := []) (pc := 9) (DCa dc_Tide_answer_0 5 rfl) (sp_Rows_bestSet F _ _ _ _) ce_Rows_bestSet ml_11_347 rfl rfl ⟨Nat.le_of_ble_eq_true rfl, Nat.le_of_ble_eq_true rfl⟩ rfl (Nat.le_of_ble_eq_true rfl) (fun r3 h4 => ?_)
  refine V_istore (ls' := [(0, 2, l0), (1, 2, l1), (2, 0, l2), (3, 0, l3), (4, 0, r3)]) (pc := 12) (DCa dc_Tide_answer_0 6 rfl) (Nat.le_of_ble_eq_true rfl) rfl ?_
  refine V_iload_n (pc := 14) (DCa dc_Tide_answer_0 7 rfl) rfl 3 rfl ?_
  refine V_table (tgt := 62) (pc := 15) (DCa dc_Tide_answer_0 8 rfl) (by decide) (by decide) ?_ (fun i hi _ => ?_)
  · refine V_iconst (pc := 62) (DCa dc_Tide_answer_0 22 rfl) (by decide) ?_
    exact V_ireturn (pc := 63) (DCa dc_Tide_answer_0 23 rfl) rfl
  · match i, hi with
    | 0, _ =>
      refine ⟨_, 40, rfl, by decide, ?_⟩
      refine V_aload_n (pc := 40) (DCa dc_Tide_answer_0 9 rfl) rfl 0 rfl ?_
      refine Q_getf (k := 4) (pc := 41) (DCa dc_Tide_answer_0 10 rfl) cls_11 (Nat.le_of_ble_eq_true rfl) fl_11_27 rfl rfl rfl (fun v5 => ?_)
      refine Q_getf (k := 4) (pc := 44) (DCa dc_Tide_answer_0 11 rfl) cls_7 (Nat.le_of_ble_eq_true rfl) fl_11_223 rfl rfl rfl (fun v6 => ?_)
      refine V_iload (pc := 47) (DCa dc_Tide_answer_0 12 rfl) 4 rfl ?_
      refine Q_iaload (pc := 49) (DCa dc_Tide_answer_0 13 rfl) (fun v7 => ?_)
      exact V_ireturn (pc := 50) (DCa dc_Tide_answer_0 14 rfl) rfl
    | 1, _ =>
      refine ⟨_, 51, rfl, by decide, ?_⟩
      refine V_aload_n (pc := 51) (DCa dc_Tide_answer_0 15 rfl) rfl 1 rfl ?_
      refine Q_getf (k := 6) (pc := 52) (DCa dc_Tide_answer_0 16 rfl) cls_4 (Nat.le_of_ble_eq_true rfl) fl_11_353 rfl rfl rfl (fun v8 => ?_)
      refine V_iload (pc := 55) (DCa dc_Tide_answer_0 17 rfl) 4 rfl ?_
      refine Q_iaload (pc := 57) (DCa dc_Tide_answer_0 18 rfl) (fun v9 => ?_)
      exact V_ireturn (pc := 58) (DCa dc_Tide_answer_0 19 rfl) rfl
    | 2, _ =>
      refine ⟨_, 59, rfl, by decide, ?_⟩
      refine V_iload (pc := 59) (DCa dc_Tide_answer_0 20 rfl) 4 rfl ?_
      exact V_ireturn (pc := 61) (DCa dc_Tide_answer_0 21 rfl) rfl
    | k + 3, hi => exact absurd hi (by omega)
theorem sp_Tide_answer (F : Nat) (l0 l1 l2 l3 : Int) (h : Hp) : Sp yX11_answer cX11_answer 5 (some (.int)) 2 44 [(2, l0), (2, l1), (0, l2), (0, l3)] h (Tide_answer F l0 l1 l2 l3 h) := Sp_of (by decide +kernel) rfl rfl (Nat.le_of_ble_eq_true rfl) (v_Tide_answer F l0 l1 l2 l3 h)

-- TideRakes.isBound
def Tide_isBound (F : Nat) (l0 : Int) (h : Hp) : Option (Int × Hp) :=
  if l0 < 0 then
    (rz 0 h)
  else
    (if 600 < l0 then
      (rz 0 h)
    else
      (rz 1 h))

theorem dc_Tide_isBound_0 : ∀ q ∈ ([(0, .iload_n 0, 1), (1, .ifCond .lt 14, 3), (4, .iload_n 0, 1), (5, .sipush 600, 3), (8, .if_icmp .gt 7, 3), (11, .iconst 1, 1), (12, .goto 4, 3), (15, .iconst 0, 1), (16, .ireturn, 1)] : List (Nat × Instr × Nat)), decode cX11_isBound q.1 = .ok (q.2.1, q.2.2) := by decide +kernel
abbrev X_Tide_isBound : MX := (cX11_isBound, RX11, "isBound", 1, (some (.boolean)), 1, 20)
theorem v_Tide_isBound (F : Nat) (l0 : Int) (h : Hp) : V X_Tide_isBound 0 [(0, 0, l0)] [] h (Tide_isBound F l0 h) := by
  unfold Tide_isBound
  refine V_iload_n (pc := 0) (DCa dc_Tide_isBound_0 0 rfl) rfl 0 rfl ?_
  refine V_if_lt (tgt := 15) (pc := 1) (DCa dc_Tide_isBound_0 1 rfl) (by decide) (fun _ => ?_) (fun _ => ?_)
  · refine V_iconst (pc := 15) (DCa dc_Tide_isBound_0 7 rfl) (by decide) ?_
    exact V_zreturn (pc := 16) (DCa dc_Tide_isBound_0 8 rfl) rfl
  · refine V_iload_n (pc := 4) (DCa dc_Tide_isBound_0 2 rfl) rfl 0 rfl ?_
    refine V_sipush (pc := 5) (DCa dc_Tide_isBound_0 3 rfl) (by decide) ?_
    refine V_icmp_gt (tgt := 15) (pc := 8) (DCa dc_Tide_isBound_0 4 rfl) (by decide) (fun _ => ?_) (fun _ => ?_)
    · refine V_iconst (pc := 15) (DCa dc_Tide_isBound_0 7 rfl) (by decide) ?_
      exact V_zreturn (pc := 16) (DCa dc_Tide_isBound_0 8 rfl) rfl
    · refine V_iconst (pc := 11) (DCa dc_Tide_isBound_0 5 rfl) (by decide) ?_
      refine V_goto (tgt := 16) (pc := 12) (DCa dc_Tide_isBound_0 6 rfl) (by decide) ?_
      exact V_zreturn (pc := 16) (DCa dc_Tide_isBound_0 8 rfl) rfl
theorem sp_Tide_isBound (F : Nat) (l0 : Int) (h : Hp) : Sp yX11_isBound cX11_isBound 1 (some (.boolean)) 1 20 [(0, l0)] h (Tide_isBound F l0 h) := Sp_of (by decide +kernel) rfl rfl (Nat.le_of_ble_eq_true rfl) (v_Tide_isBound F l0 h)

-- TideRakes.plan
def Tide_plan (F : Nat) (l0 l1 l2 l3 : Int) (h : Hp) : Option (Int × Hp) :=
  iv h l0 111 (Tide_isWorker F l0 l1 h) fun r1 h2 =>
  if r1 = 0 then
    (some ((-1), h2))
  else
    (cl (Tide_isBound F l2 h2) fun r3 h4 =>
    if r3 = 0 then
      (some ((-1), h4))
    else
      (gf h4 l0 111 9 fun v5 =>
      gf h4 l0 111 4 fun v6 =>
      gf h4 l0 111 5 fun v7 =>
      iv h4 v5 102 (Plan_rowsOf F v5 v6 v7 l1 h4) fun r8 h9 =>
      iv h9 l0 111 (Tide_answer F l0 r8 l2 l3 h9) fun r10 h11 =>
      some (r10, h11)))

theorem dc_Tide_plan_0 : ∀ q ∈ ([(0, .aload_n 0, 1), (1, .iload_n 1, 1), (2, .invokevirtual 130, 3), (5, .ifCond .eq 10, 3), (8, .iload_n 2, 1), (9, .invokestatic 201, 3), (12, .ifCond .ne 5, 3), (15, .iconst (-1), 1), (16, .ireturn, 1), (17, .aload_n 0, 1), (18, .aload_n 0, 1), (19, .getfield 56, 3), (22, .aload_n 0, 1), (23, .getfield 27, 3), (26, .aload_n 0, 1), (27, .getfield 34, 3), (30, .iload_n 1, 1), (31, .invokevirtual 204, 3), (34, .iload_n 2, 1), (35, .iload_n 3, 1), (36, .invokevirtual 208, 3), (39, .ireturn, 1)] : List (Nat × Instr × Nat)), decode cX11_plan q.1 = .ok (q.2.1, q.2.2) := by decide +kernel
abbrev X_Tide_plan : MX := (cX11_plan, RX11, "plan", 4, (some (.int)), 6, 141)
theorem v_Tide_plan (F : Nat) (l0 l1 l2 l3 : Int) (h : Hp) : V X_Tide_plan 0 [(0, 2, l0), (1, 0, l1), (2, 0, l2), (3, 0, l3)] [] h (Tide_plan F l0 l1 l2 l3 h) := by
  unfold Tide_plan
  refine V_aload_n (pc := 0) (DCa dc_Tide_plan_0 0 rfl) rfl 0 rfl ?_
  refine V_iload_n (pc := 1) (DCa dc_Tide_plan_0 1 rfl) rfl 1 rfl ?_
  refine Q_callv (ci := 11) (st := []) (pc := 2) (DCa dc_Tide_plan_0 2 rfl) (sp_Tide_isWorker F _ _ _) ce_Tide_isWorker ml_11_130 rfl rfl ⟨Nat.le_of_ble_eq_true rfl, Nat.le_of_ble_eq_true rfl⟩ rfl (Nat.le_of_ble_eq_true rfl) (fun r1 h2 => ?_)
  refine V_if_eq (tgt := 15) (pc := 5) (DCa dc_Tide_plan_0 3 rfl) (by decide) (fun _ => ?_) (fun _ => ?_)
  · refine V_iconst (pc := 15) (DCa dc_Tide_plan_0 7 rfl) (by decide) ?_
    exact V_ireturn (pc := 16) (DCa dc_Tide_plan_0 8 rfl) rfl
  · refine V_iload_n (pc := 8) (DCa dc_Tide_plan_0 4 rfl) rfl 2 rfl ?_
    refine Q_calls (st := []) (pc := 9) (DCa dc_Tide_plan_0 5 rfl) (sp_Tide_isBound F _ _) ce_Tide_isBound ml_11_201 rfl ⟨Nat.le_of_ble_eq_true rfl, Nat.le_of_ble_eq_true rfl⟩ rfl (Nat.le_of_ble_eq_true rfl) (fun r3 h4 => ?_)
    refine V_if_ne (tgt := 17) (pc := 12) (DCa dc_Tide_plan_0 6 rfl) (by decide) (fun _ => ?_) (fun _ => ?_)
    · refine V_iconst (pc := 15) (DCa dc_Tide_plan_0 7 rfl) (by decide) ?_
      exact V_ireturn (pc := 16) (DCa dc_Tide_plan_0 8 rfl) rfl
    · refine V_aload_n (pc := 17) (DCa dc_Tide_plan_0 9 rfl) rfl 0 rfl ?_
      refine V_aload_n (pc := 18) (DCa dc_Tide_plan_0 10 rfl) rfl 0 rfl ?_
      refine Q_getf (k := 9) (pc := 19) (DCa dc_Tide_plan_0 11 rfl) cls_11 (Nat.le_of_ble_eq_true rfl) fl_11_56 rfl rfl rfl (fun v5 => ?_)
      refine V_aload_n (pc := 22) (DCa dc_Tide_plan_0 12 rfl) rfl 0 rfl ?_
      refine Q_getf (k := 4) (pc := 23) (DCa dc_Tide_plan_0 13 rfl) cls_11 (Nat.le_of_ble_eq_true rfl) fl_11_27 rfl rfl rfl (fun v6 => ?_)
      refine V_aload_n (pc := 26) (DCa dc_Tide_plan_0 14 rfl) rfl 0 rfl ?_
      refine Q_getf (k := 5) (pc := 27) (DCa dc_Tide_plan_0 15 rfl) cls_11 (Nat.le_of_ble_eq_true rfl) fl_11_34 rfl rfl rfl (fun v7 => ?_)
      refine V_iload_n (pc := 30) (DCa dc_Tide_plan_0 16 rfl) rfl 1 rfl ?_
      refine Q_callv (ci := 2) (st := [(2, l0)]) (pc := 31) (DCa dc_Tide_plan_0 17 rfl) (sp_Plan_rowsOf F _ _ _ _ _) ce_Plan_rowsOf ml_11_204 rfl rfl ⟨Nat.le_of_ble_eq_true rfl, Nat.le_of_ble_eq_true rfl⟩ rfl (Nat.le_of_ble_eq_true rfl) (fun r8 h9 => ?_)
      refine V_iload_n (pc := 34) (DCa dc_Tide_plan_0 18 rfl) rfl 2 rfl ?_
      refine V_iload_n (pc := 35) (DCa dc_Tide_plan_0 19 rfl) rfl 3 rfl ?_
      refine Q_callv (ci := 11) (st := []) (pc := 36) (DCa dc_Tide_plan_0 20 rfl) (sp_Tide_answer F _ _ _ _ _) ce_Tide_answer ml_11_208 rfl rfl ⟨Nat.le_of_ble_eq_true rfl, Nat.le_of_ble_eq_true rfl⟩ rfl (Nat.le_of_ble_eq_true rfl) (fun r10 h11 => ?_)
      exact V_ireturn (pc := 39) (DCa dc_Tide_plan_0 21 rfl) rfl
theorem sp_Tide_plan (F : Nat) (l0 l1 l2 l3 : Int) (h : Hp) : Sp yX11_plan cX11_plan 4 (some (.int)) 6 141 [(2, l0), (0, l1), (0, l2), (0, l3)] h (Tide_plan F l0 l1 l2 l3 h) := Sp_of (by decide +kernel) rfl rfl (Nat.le_of_ble_eq_true rfl) (v_Tide_plan F l0 l1 l2 l3 h)

-- TideRakes.planAt
def Tide_planAt (F : Nat) (l0 l1 l2 l3 : Int) (h : Hp) : Option (Int × Hp) :=
  iv h l0 111 (Tide_isWorker F l0 l1 h) fun r1 h2 =>
  if r1 = 0 then
    (some ((-1), h2))
  else
    (cl (Tide_isBound F l2 h2) fun r3 h4 =>
    if r3 = 0 then
      (some ((-1), h4))
    else
      (if l3 < 0 then
        (some ((-1), h4))
      else
        (gf h4 l0 111 9 fun v5 =>
        gf h4 l0 111 4 fun v6 =>
        gf h4 l0 111 5 fun v7 =>
        iv h4 v5 102 (Plan_trace F v5 v6 v7 l1 l2 h4) fun r8 h9 =>
        if l3 < r8 then
          (gf h9 l0 111 9 fun v10 =>
          gf h9 v10 102 4 fun v11 =>
          al h9 v11 0 l3 fun v12 =>
          some (v12, h9))
        else
          (some ((-2), h9)))))

theorem dc_Tide_planAt_0 : ∀ q ∈ ([(0, .aload_n 0, 1), (1, .iload_n 1, 1), (2, .invokevirtual 130, 3), (5, .ifCond .eq 14, 3), (8, .iload_n 2, 1), (9, .invokestatic 201, 3), (12, .ifCond .eq 7, 3), (15, .iload_n 3, 1), (16, .ifCond .ge 5, 3), (19, .iconst (-1), 1), (20, .ireturn, 1), (21, .aload_n 0, 1), (22, .getfield 56, 3), (25, .aload_n 0, 1), (26, .getfield 27, 3), (29, .aload_n 0, 1), (30, .getfield 34, 3), (33, .iload_n 1, 1), (34, .iload_n 2, 1), (35, .invokevirtual 212, 3), (38, .istore 4, 2), (40, .iload_n 3, 1), (41, .iload 4, 2), (43, .if_icmp .ge 15, 3), (46, .aload_n 0, 1), (47, .getfield 56, 3), (50, .getfield 216, 3), (53, .iload_n 3, 1), (54, .iaload, 1), (55, .goto 5, 3), (58, .bipush (-2), 2), (60, .ireturn, 1)] : List (Nat × Instr × Nat)), decode cX11_planAt q.1 = .ok (q.2.1, q.2.2) := by decide +kernel
abbrev X_Tide_planAt : MX := (cX11_planAt, RX11, "planAt", 5, (some (.int)), 7, 166)
theorem v_Tide_planAt (F : Nat) (l0 l1 l2 l3 : Int) (h : Hp) : V X_Tide_planAt 0 [(0, 2, l0), (1, 0, l1), (2, 0, l2), (3, 0, l3)] [] h (Tide_planAt F l0 l1 l2 l3 h) := by
  unfold Tide_planAt
  refine V_aload_n (pc := 0) (DCa dc_Tide_planAt_0 0 rfl) rfl 0 rfl ?_
  refine V_iload_n (pc := 1) (DCa dc_Tide_planAt_0 1 rfl) rfl 1 rfl ?_
  refine Q_callv (ci := 11) (st := []) (pc := 2) (DCa dc_Tide_planAt_0 2 rfl) (sp_Tide_isWorker F _ _ _) ce_Tide_isWorker ml_11_130 rfl rfl ⟨Nat.le_of_ble_eq_true rfl, Nat.le_of_ble_eq_true rfl⟩ rfl (Nat.le_of_ble_eq_true rfl) (fun r1 h2 => ?_)
  refine V_if_eq (tgt := 19) (pc := 5) (DCa dc_Tide_planAt_0 3 rfl) (by decide) (fun _ => ?_) (fun _ => ?_)
  · refine V_iconst (pc := 19) (DCa dc_Tide_planAt_0 9 rfl) (by decide) ?_
    exact V_ireturn (pc := 20) (DCa dc_Tide_planAt_0 10 rfl) rfl
  · refine V_iload_n (pc := 8) (DCa dc_Tide_planAt_0 4 rfl) rfl 2 rfl ?_
    refine Q_calls (st := []) (pc := 9) (DCa dc_Tide_planAt_0 5 rfl) (sp_Tide_isBound F _ _) ce_Tide_isBound ml_11_201 rfl ⟨Nat.le_of_ble_eq_true rfl, Nat.le_of_ble_eq_true rfl⟩ rfl (Nat.le_of_ble_eq_true rfl) (fun r3 h4 => ?_)
    refine V_if_eq (tgt := 19) (pc := 12) (DCa dc_Tide_planAt_0 6 rfl) (by decide) (fun _ => ?_) (fun _ => ?_)
    · refine V_iconst (pc := 19) (DCa dc_Tide_planAt_0 9 rfl) (by decide) ?_
      exact V_ireturn (pc := 20) (DCa dc_Tide_planAt_0 10 rfl) rfl
    · refine V_iload_n (pc := 15) (DCa dc_Tide_planAt_0 7 rfl) rfl 3 rfl ?_
      refine V_if_ge (tgt := 21) (pc := 16) (DCa dc_Tide_planAt_0 8 rfl) (by decide) (fun _ => ?_) (fun _ => ?_)
      · refine V_iconst (pc := 19) (DCa dc_Tide_planAt_0 9 rfl) (by decide) ?_
        exact V_ireturn (pc := 20) (DCa dc_Tide_planAt_0 10 rfl) rfl
      · refine V_aload_n (pc := 21) (DCa dc_Tide_planAt_0 11 rfl) rfl 0 rfl ?_
        refine Q_getf (k := 9) (pc := 22) (DCa dc_Tide_planAt_0 12 rfl) cls_11 (Nat.le_of_ble_eq_true rfl) fl_11_56 rfl rfl rfl (fun v5 => ?_)
        refine V_aload_n (pc := 25) (DCa dc_Tide_planAt_0 13 rfl) rfl 0 rfl ?_
        refine Q_getf (k := 4) (pc := 26) (DCa dc_Tide_planAt_0 14 rfl) cls_11 (Nat.le_of_ble_eq_true rfl) fl_11_27 rfl rfl rfl (fun v6 => ?_)
        refine V_aload_n (pc := 29) (DCa dc_Tide_planAt_0 15 rfl) rfl 0 rfl ?_
        refine Q_getf (k := 5) (pc := 30) (DCa dc_Tide_planAt_0 16 rfl) cls_11 (Nat.le_of_ble_eq_true rfl) fl_11_34 rfl rfl rfl (fun v7 => ?_)
        refine V_iload_n (pc := 33) (DCa dc_Tide_planAt_0 17 rfl) rfl 1 rfl ?_
        refine V_iload_n (pc := 34) (DCa dc_Tide_planAt_0 18 rfl) rfl 2 rfl ?_
        refine Q_callv (ci := 2) (st := []) (pc := 35) (DCa dc_Tide_planAt_0 19 rfl) (sp_Plan_trace F _ _ _ _ _ _) ce_Plan_trace ml_11_212 rfl rfl ⟨Nat.le_of_ble_eq_true rfl, Nat.le_of_ble_eq_true rfl⟩ rfl (Nat.le_of_ble_eq_true rfl) (fun r8 h9 => ?_)
        refine V_istore (ls' := [(0, 2, l0), (1, 0, l1), (2, 0, l2), (3, 0, l3), (4, 0, r8)]) (pc := 38) (DCa dc_Tide_planAt_0 20 rfl) (Nat.le_of_ble_eq_true rfl) rfl ?_
        refine V_iload_n (pc := 40) (DCa dc_Tide_planAt_0 21 rfl) rfl 3 rfl ?_
        refine V_iload (pc := 41) (DCa dc_Tide_planAt_0 22 rfl) 4 rfl ?_
        refine V_icmp_ge (tgt := 58) (pc := 43) (DCa dc_Tide_planAt_0 23 rfl) (by decide) (fun _ => ?_) (fun _ => ?_)
        · refine V_aload_n (pc := 46) (DCa dc_Tide_planAt_0 24 rfl) rfl 0 rfl ?_
          refine Q_getf (k := 9) (pc := 47) (DCa dc_Tide_planAt_0 25 rfl) cls_11 (Nat.le_of_ble_eq_true rfl) fl_11_56 rfl rfl rfl (fun v10 => ?_)
          refine Q_getf (k := 4) (pc := 50) (DCa dc_Tide_planAt_0 26 rfl) cls_2 (Nat.le_of_ble_eq_true rfl) fl_11_216 rfl rfl rfl (fun v11 => ?_)
          refine V_iload_n (pc := 53) (DCa dc_Tide_planAt_0 27 rfl) rfl 3 rfl ?_
          refine Q_iaload (pc := 54) (DCa dc_Tide_planAt_0 28 rfl) (fun v12 => ?_)
          refine V_goto (tgt := 60) (pc := 55) (DCa dc_Tide_planAt_0 29 rfl) (by decide) ?_
          exact V_ireturn (pc := 60) (DCa dc_Tide_planAt_0 31 rfl) rfl
        · refine V_bipush (pc := 58) (DCa dc_Tide_planAt_0 30 rfl) (by decide) ?_
          exact V_ireturn (pc := 60) (DCa dc_Tide_planAt_0 31 rfl) rfl
theorem sp_Tide_planAt (F : Nat) (l0 l1 l2 l3 : Int) (h : Hp) : Sp yX11_planAt cX11_planAt 5 (some (.int)) 7 166 [(2, l0), (0, l1), (0, l2), (0, l3)] h (Tide_planAt F l0 l1 l2 l3 h) := Sp_of (by decide +kernel) rfl rfl (Nat.le_of_ble_eq_true rfl) (v_Tide_planAt F l0 l1 l2 l3 h)

-- TideRakes.two
def Tide_two (F : Nat) (l0 l1 l2 l3 l4 : Int) (h : Hp) : Option (Int × Hp) :=
  iv h l0 111 (Tide_isWorker F l0 l1 h) fun r1 h2 =>
  if r1 = 0 then
    (some ((-1), h2))
  else
    (iv h2 l0 111 (Tide_isWorker F l0 l2 h2) fun r3 h4 =>
    if r3 = 0 then
      (some ((-1), h4))
    else
      (if l1 = l2 then
        (some ((-1), h4))
      else
        (cl (Tide_isBound F l3 h4) fun r5 h6 =>
        if r5 = 0 then
          (some ((-1), h6))
        else
          (if l4 < 0 then
            (some ((-1), h6))
          else
            (if 2 < l4 then
              (some ((-1), h6))
            else
              (gf h6 l0 111 9 fun v7 =>
              gf h6 l0 111 4 fun v8 =>
              gf h6 l0 111 5 fun v9 =>
              iv h6 v7 102 (Plan_rowsOf F v7 v8 v9 l1 h6) fun r10 h11 =>
              gf h11 l0 111 9 fun v12 =>
              gf h11 l0 111 4 fun v13 =>
              gf h11 l0 111 5 fun v14 =>
              iv h11 v12 102 (Plan_rowsOf F v12 v13 v14 l2 h11) fun r15 h16 =>
              gf h16 l0 111 9 fun v17 =>
              gf h16 l0 111 4 fun v18 =>
              iv h16 v17 102 (Plan_bestPair F v17 v18 r10 r15 l3 h16) fun r19 h20 =>
              dv r19 256 fun v21 =>
              dm r19 256 fun v22 =>
              if l4 = 0 then
                (gf h20 l0 111 4 fun v23 =>
                gf h20 v23 107 4 fun v24 =>
                al h20 v24 0 v21 fun v25 =>
                gf h20 l0 111 4 fun v26 =>
                gf h20 v26 107 4 fun v27 =>
                al h20 v27 0 v22 fun v28 =>
                some (w32 (v25 + v28), h20))
              else
                (if l4 = 1 then
                  (some (v21, h20))
                else
                  (some (v22, h20)))))))))

theorem dc_Tide_two_0 : ∀ q ∈ ([(0, .aload_n 0, 1), (1, .iload_n 1, 1), (2, .invokevirtual 130, 3), (5, .ifCond .eq 23, 3), (8, .aload_n 0, 1), (9, .iload_n 2, 1), (10, .invokevirtual 130, 3), (13, .ifCond .eq 15, 3), (16, .iload_n 1, 1), (17, .iload_n 2, 1), (18, .if_icmp .eq 10, 3), (21, .iload_n 3, 1), (22, .invokestatic 201, 3), (25, .ifCond .ne 5, 3), (28, .iconst (-1), 1), (29, .ireturn, 1), (30, .iload 4, 2), (32, .ifCond .lt 9, 3), (35, .iload 4, 2), (37, .iconst 2, 1), (38, .if_icmp .le 5, 3), (41, .iconst (-1), 1), (42, .ireturn, 1), (43, .aload_n 0, 1), (44, .getfield 56, 3), (47, .aload_n 0, 1), (48, .getfield 27, 3), (51, .aload_n 0, 1), (52, .getfield 34, 3), (55, .iload_n 1, 1), (56, .invokevirtual 204, 3), (59, .astore 5, 2), (61, .aload_n 0, 1), (62, .getfield 56, 3), (65, .aload_n 0, 1), (66, .getfield 27, 3), (69, .aload_n 0, 1), (70, .getfield 34, 3), (73, .iload_n 2, 1), (74, .invokevirtual 204, 3), (77, .astore 6, 2), (79, .aload_n 0, 1), (80, .getfield 56, 3), (83, .aload_n 0, 1), (84, .getfield 27, 3), (87, .aload 5, 2), (89, .aload 6, 2), (91, .iload_n 3, 1), (92, .invokevirtual 219, 3), (95, .istore 7, 2)] : List (Nat × Instr × Nat)), decode cX11_two q.1 = .ok (q.2.1, q.2.2) := by decide +kernel
theorem dc_Tide_two_1 : ∀ q ∈ ([(97, .iload 7, 2), (99, .sipush 256, 3), (102, .idiv, 1), (103, .istore 8, 2), (105, .iload 7, 2), (107, .sipush 256, 3), (110, .irem, 1), (111, .istore 9, 2), (113, .iload 4, 2), (115, .ifCond .ne 25, 3), (118, .aload_n 0, 1), (119, .getfield 27, 3), (122, .getfield 223, 3), (125, .iload 8, 2), (127, .iaload, 1), (128, .aload_n 0, 1), (129, .getfield 27, 3), (132, .getfield 223, 3), (135, .iload 9, 2), (137, .iaload, 1), (138, .iadd, 1), (139, .ireturn, 1), (140, .iload 4, 2), (142, .iconst 1, 1), (143, .if_icmp .ne 8, 3), (146, .iload 8, 2), (148, .goto 5, 3), (151, .iload 9, 2), (153, .ireturn, 1)] : List (Nat × Instr × Nat)), decode cX11_two q.1 = .ok (q.2.1, q.2.2) := by decide +kernel
abbrev X_Tide_two : MX := (cX11_two, RX11, "two", 10, (some (.int)), 6, 141)
theorem v_Tide_two (F : Nat) (l0 l1 l2 l3 l4 : Int) (h : Hp) : V X_Tide_two 0 [(0, 2, l0), (1, 0, l1), (2, 0, l2), (3, 0, l3), (4, 0, l4)] [] h (Tide_two F l0 l1 l2 l3 l4 h) := by
  unfold Tide_two
  refine V_aload_n (pc := 0) (DCa dc_Tide_two_0 0 rfl) rfl 0 rfl ?_
  refine V_iload_n (pc := 1) (DCa dc_Tide_two_0 1 rfl) rfl 1 rfl ?_
  refine Q_callv (ci := 11) (st := []) (pc := 2) (DCa dc_Tide_two_0 2 rfl) (sp_Tide_isWorker F _ _ _) ce_Tide_isWorker ml_11_130 rfl rfl ⟨Nat.le_of_ble_eq_true rfl, Nat.le_of_ble_eq_true rfl⟩ rfl (Nat.le_of_ble_eq_true rfl) (fun r1 h2 => ?_)
  refine V_if_eq (tgt := 28) (pc := 5) (DCa dc_Tide_two_0 3 rfl) (by decide) (fun _ => ?_) (fun _ => ?_)
  · refine V_iconst (pc := 28) (DCa dc_Tide_two_0 14 rfl) (by decide) ?_
    exact V_ireturn (pc := 29) (DCa dc_Tide_two_0 15 rfl) rfl
  · refine V_aload_n (pc := 8) (DCa dc_Tide_two_0 4 rfl) rfl 0 rfl ?_
    refine V_iload_n (pc := 9) (DCa dc_Tide_two_0 5 rfl) rfl 2 rfl ?_
    refine Q_callv (ci := 11) (st := []) (pc := 10) (DCa dc_Tide_two_0 6 rfl) (sp_Tide_isWorker F _ _ _) ce_Tide_isWorker ml_11_130 rfl rfl ⟨Nat.le_of_ble_eq_true rfl, Nat.le_of_ble_eq_true rfl⟩ rfl (Nat.le_of_ble_eq_true rfl) (fun r3 h4 => ?_)
    refine V_if_eq (tgt := 28) (pc := 13) (DCa dc_Tide_two_0 7 rfl) (by decide) (fun _ => ?_) (fun _ => ?_)
    · refine V_iconst (pc := 28) (DCa dc_Tide_two_0 14 rfl) (by decide) ?_
      exact V_ireturn (pc := 29) (DCa dc_Tide_two_0 15 rfl) rfl
    · refine V_iload_n (pc := 16) (DCa dc_Tide_two_0 8 rfl) rfl 1 rfl ?_
      refine V_iload_n (pc := 17) (DCa dc_Tide_two_0 9 rfl) rfl 2 rfl ?_
      refine V_icmp_eq (tgt := 28) (pc := 18) (DCa dc_Tide_two_0 10 rfl) (by decide) (fun _ => ?_) (fun _ => ?_)
      · refine V_iconst (pc := 28) (DCa dc_Tide_two_0 14 rfl) (by decide) ?_
        exact V_ireturn (pc := 29) (DCa dc_Tide_two_0 15 rfl) rfl
      · refine V_iload_n (pc := 21) (DCa dc_Tide_two_0 11 rfl) rfl 3 rfl ?_
        refine Q_calls (st := []) (pc := 22) (DCa dc_Tide_two_0 12 rfl) (sp_Tide_isBound F _ _) ce_Tide_isBound ml_11_201 rfl ⟨Nat.le_of_ble_eq_true rfl, Nat.le_of_ble_eq_true rfl⟩ rfl (Nat.le_of_ble_eq_true rfl) (fun r5 h6 => ?_)
        refine V_if_ne (tgt := 30) (pc := 25) (DCa dc_Tide_two_0 13 rfl) (by decide) (fun _ => ?_) (fun _ => ?_)
        · refine V_iconst (pc := 28) (DCa dc_Tide_two_0 14 rfl) (by decide) ?_
          exact V_ireturn (pc := 29) (DCa dc_Tide_two_0 15 rfl) rfl
        · refine V_iload (pc := 30) (DCa dc_Tide_two_0 16 rfl) 4 rfl ?_
          refine V_if_lt (tgt := 41) (pc := 32) (DCa dc_Tide_two_0 17 rfl) (by decide) (fun _ => ?_) (fun _ => ?_)
          · refine V_iconst (pc := 41) (DCa dc_Tide_two_0 21 rfl) (by decide) ?_
            exact V_ireturn (pc := 42) (DCa dc_Tide_two_0 22 rfl) rfl
          · refine V_iload (pc := 35) (DCa dc_Tide_two_0 18 rfl) 4 rfl ?_
            refine V_iconst (pc := 37) (DCa dc_Tide_two_0 19 rfl) (by decide) ?_
            refine V_icmp_le (tgt := 43) (pc := 38) (DCa dc_Tide_two_0 20 rfl) (by decide) (fun _ => ?_) (fun _ => ?_)
            · refine V_iconst (pc := 41) (DCa dc_Tide_two_0 21 rfl) (by decide) ?_
              exact V_ireturn (pc := 42) (DCa dc_Tide_two_0 22 rfl) rfl
            · refine V_aload_n (pc := 43) (DCa dc_Tide_two_0 23 rfl) rfl 0 rfl ?_
              refine Q_getf (k := 9) (pc := 44) (DCa dc_Tide_two_0 24 rfl) cls_11 (Nat.le_of_ble_eq_true rfl) fl_11_56 rfl rfl rfl (fun v7 => ?_)
              refine V_aload_n (pc := 47) (DCa dc_Tide_two_0 25 rfl) rfl 0 rfl ?_
              refine Q_getf (k := 4) (pc := 48) (DCa dc_Tide_two_0 26 rfl) cls_11 (Nat.le_of_ble_eq_true rfl) fl_11_27 rfl rfl rfl (fun v8 => ?_)
              refine V_aload_n (pc := 51) (DCa dc_Tide_two_0 27 rfl) rfl 0 rfl ?_
              refine Q_getf (k := 5) (pc := 52) (DCa dc_Tide_two_0 28 rfl) cls_11 (Nat.le_of_ble_eq_true rfl) fl_11_34 rfl rfl rfl (fun v9 => ?_)
              refine V_iload_n (pc := 55) (DCa dc_Tide_two_0 29 rfl) rfl 1 rfl ?_
              refine Q_callv (ci := 2) (st := []) (pc := 56) (DCa dc_Tide_two_0 30 rfl) (sp_Plan_rowsOf F _ _ _ _ _) ce_Plan_rowsOf ml_11_204 rfl rfl ⟨Nat.le_of_ble_eq_true rfl, Nat.le_of_ble_eq_true rfl⟩ rfl (Nat.le_of_ble_eq_true rfl) (fun r10 h11 => ?_)
              refine V_astore (ls' := [(0, 2, l0), (1, 0, l1), (2, 0, l2), (3, 0, l3), (4, 0, l4), (5, 2, r10)]) (pc := 59) (DCa dc_Tide_two_0 31 rfl) (Nat.le_of_ble_eq_true rfl) rfl ?_
              refine V_aload_n (pc := 61) (DCa dc_Tide_two_0 32 rfl) rfl 0 rfl ?_
              refine Q_getf (k := 9) (pc := 62) (DCa dc_Tide_two_0 33 rfl) cls_11 (Nat.le_of_ble_eq_true rfl) fl_11_56 rfl rfl rfl (fun v12 => ?_)
              refine V_aload_n (pc := 65) (DCa dc_Tide_two_0 34 rfl) rfl 0 rfl ?_
              refine Q_getf (k := 4) (pc := 66) (DCa dc_Tide_two_0 35 rfl) cls_11 (Nat.le_of_ble_eq_true rfl) fl_11_27 rfl rfl rfl (fun v13 => ?_)
              refine V_aload_n (pc := 69) (DCa dc_Tide_two_0 36 rfl) rfl 0 rfl ?_
              refine Q_getf (k := 5) (pc := 70) (DCa dc_Tide_two_0 37 rfl) cls_11 (Nat.le_of_ble_eq_true rfl) fl_11_34 rfl rfl rfl (fun v14 => ?_)
              refine V_iload_n (pc := 73) (DCa dc_Tide_two_0 38 rfl) rfl 2 rfl ?_
              refine Q_callv (ci := 2) (st := []) (pc := 74) (DCa dc_Tide_two_0 39 rfl) (sp_Plan_rowsOf F _ _ _ _ _) ce_Plan_rowsOf ml_11_204 rfl rfl ⟨Nat.le_of_ble_eq_true rfl, Nat.le_of_ble_eq_true rfl⟩ rfl (Nat.le_of_ble_eq_true rfl) (fun r15 h16 => ?_)
              refine V_astore (ls' := [(0, 2, l0), (1, 0, l1), (2, 0, l2), (3, 0, l3), (4, 0, l4), (5, 2, r10), (6, 2, r15)]) (pc := 77) (DCa dc_Tide_two_0 40 rfl) (Nat.le_of_ble_eq_true rfl) rfl ?_
              refine V_aload_n (pc := 79) (DCa dc_Tide_two_0 41 rfl) rfl 0 rfl ?_
              refine Q_getf (k := 9) (pc := 80) (DCa dc_Tide_two_0 42 rfl) cls_11 (Nat.le_of_ble_eq_true rfl) fl_11_56 rfl rfl rfl (fun v17 => ?_)
              refine V_aload_n (pc := 83) (DCa dc_Tide_two_0 43 rfl) rfl 0 rfl ?_
              refine Q_getf (k := 4) (pc := 84) (DCa dc_Tide_two_0 44 rfl) cls_11 (Nat.le_of_ble_eq_true rfl) fl_11_27 rfl rfl rfl (fun v18 => ?_)
              refine V_aload (pc := 87) (DCa dc_Tide_two_0 45 rfl) 5 rfl ?_
              refine V_aload (pc := 89) (DCa dc_Tide_two_0 46 rfl) 6 rfl ?_
              refine V_iload_n (pc := 91) (DCa dc_Tide_two_0 47 rfl) rfl 3 rfl ?_
              refine Q_callv (ci := 2) (st := []) (pc := 92) (DCa dc_Tide_two_0 48 rfl) (sp_Plan_bestPair F _ _ _ _ _ _) ce_Plan_bestPair ml_11_219 rfl rfl ⟨Nat.le_of_ble_eq_true rfl, Nat.le_of_ble_eq_true rfl⟩ rfl (Nat.le_of_ble_eq_true rfl) (fun r19 h20 => ?_)
              refine V_istore (ls' := [(0, 2, l0), (1, 0, l1), (2, 0, l2), (3, 0, l3), (4, 0, l4), (5, 2, r10), (6, 2, r15), (7, 0, r19)]) (pc := 95) (DCa dc_Tide_two_0 49 rfl) (Nat.le_of_ble_eq_true rfl) rfl ?_
              refine V_iload (pc := 97) (DCa dc_Tide_two_1 0 rfl) 7 rfl ?_
              refine V_sipush (pc := 99) (DCa dc_Tide_two_1 1 rfl) (by decide) ?_
              refine Q_idiv (pc := 102) (DCa dc_Tide_two_1 2 rfl) (fun v21 => ?_)
              refine V_istore (ls' := [(0, 2, l0), (1, 0, l1), (2, 0, l2), (3, 0, l3), (4, 0, l4), (5, 2, r10), (6, 2, r15), (7, 0, r19), (8, 0, v21)]) (pc := 103) (DCa dc_Tide_two_1 3 rfl) (Nat.le_of_ble_eq_true rfl) rfl ?_
              refine V_iload (pc := 105) (DCa dc_Tide_two_1 4 rfl) 7 rfl ?_
              refine V_sipush (pc := 107) (DCa dc_Tide_two_1 5 rfl) (by decide) ?_
              refine Q_irem (pc := 110) (DCa dc_Tide_two_1 6 rfl) (fun v22 => ?_)
              refine V_istore (ls' := [(0, 2, l0), (1, 0, l1), (2, 0, l2), (3, 0, l3), (4, 0, l4), (5, 2, r10), (6, 2, r15), (7, 0, r19), (8, 0, v21), (9, 0, v22)]) (pc := 111) (DCa dc_Tide_two_1 7 rfl) (Nat.le_of_ble_eq_true rfl) rfl ?_
              refine V_iload (pc := 113) (DCa dc_Tide_two_1 8 rfl) 4 rfl ?_
              refine V_if_ne (tgt := 140) (pc := 115) (DCa dc_Tide_two_1 9 rfl) (by decide) (fun _ => ?_) (fun _ => ?_)
              · refine V_aload_n (pc := 118) (DCa dc_Tide_two_1 10 rfl) rfl 0 rfl ?_
                refine Q_getf (k := 4) (pc := 119) (DCa dc_Tide_two_1 11 rfl) cls_11 (Nat.le_of_ble_eq_true rfl) fl_11_27 rfl rfl rfl (fun v23 => ?_)
                refine Q_getf (k := 4) (pc := 122) (DCa dc_Tide_two_1 12 rfl) cls_7 (Nat.le_of_ble_eq_true rfl) fl_11_223 rfl rfl rfl (fun v24 => ?_)
                refine V_iload (pc := 125) (DCa dc_Tide_two_1 13 rfl) 8 rfl ?_
                refine Q_iaload (pc := 127) (DCa dc_Tide_two_1 14 rfl) (fun v25 => ?_)
                refine V_aload_n (pc := 128) (DCa dc_Tide_two_1 15 rfl) rfl 0 rfl ?_
                refine Q_getf (k := 4) (pc := 129) (DCa dc_Tide_two_1 16 rfl) cls_11 (Nat.le_of_ble_eq_true rfl) fl_11_27 rfl rfl rfl (fun v26 => ?_)
                refine Q_getf (k := 4) (pc := 132) (DCa dc_Tide_two_1 17 rfl) cls_7 (Nat.le_of_ble_eq_true rfl) fl_11_223 rfl rfl rfl (fun v27 => ?_)
                refine V_iload (pc := 135) (DCa dc_Tide_two_1 18 rfl) 9 rfl ?_
                refine Q_iaload (pc := 137) (DCa dc_Tide_two_1 19 rfl) (fun v28 => ?_)
                refine V_iadd (pc := 138) (DCa dc_Tide_two_1 20 rfl) ?_
                exact V_ireturn (pc := 139) (DCa dc_Tide_two_1 21 rfl) rfl
              · refine V_iload (pc := 140) (DCa dc_Tide_two_1 22 rfl) 4 rfl ?_
                refine V_iconst (pc := 142) (DCa dc_Tide_two_1 23 rfl) (by decide) ?_
                refine V_icmp_ne (tgt := 151) (pc := 143) (DCa dc_Tide_two_1 24 rfl) (by decide) (fun _ => ?_) (fun _ => ?_)
                · refine V_iload (pc := 146) (DCa dc_Tide_two_1 25 rfl) 8 rfl ?_
                  refine V_goto (tgt := 153) (pc := 148) (DCa dc_Tide_two_1 26 rfl) (by decide) ?_
                  exact V_ireturn (pc := 153) (DCa dc_Tide_two_1 28 rfl) rfl
                · refine V_iload (pc := 151) (DCa dc_Tide_two_1 27 rfl) 9 rfl ?_
                  exact V_ireturn (pc := 153) (DCa dc_Tide_two_1 28 rfl) rfl
theorem sp_Tide_two (F : Nat) (l0 l1 l2 l3 l4 : Int) (h : Hp) : Sp yX11_two cX11_two 10 (some (.int)) 6 141 [(2, l0), (0, l1), (0, l2), (0, l3), (0, l4)] h (Tide_two F l0 l1 l2 l3 l4 h) := Sp_of (by decide +kernel) rfl rfl (Nat.le_of_ble_eq_true rfl) (v_Tide_two F l0 l1 l2 l3 l4 h)

-- TideRakes.hands
def Tide_hands (F : Nat) (l0 l1 l2 : Int) (h : Hp) : Option (Int × Hp) :=
  cl (Tide_isBound F l1 h) fun r1 h2 =>
  if r1 = 0 then
    (some ((-1), h2))
  else
    (if l2 < 0 then
      (some ((-1), h2))
    else
      (if 1 < l2 then
        (some ((-1), h2))
      else
        (gf h2 l0 111 9 fun v3 =>
        gf h2 l0 111 4 fun v4 =>
        gf h2 l0 111 5 fun v5 =>
        iv h2 v3 102 (Plan_sharedSet F v3 v4 v5 l1 h2) fun r6 h7 =>
        if l2 = 0 then
          (gf h7 l0 111 4 fun v8 =>
          gf h7 v8 107 4 fun v9 =>
          al h7 v9 0 r6 fun v10 =>
          some (v10, h7))
        else
          (some (r6, h7)))))

theorem dc_Tide_hands_0 : ∀ q ∈ ([(0, .iload_n 1, 1), (1, .invokestatic 201, 3), (4, .ifCond .eq 12, 3), (7, .iload_n 2, 1), (8, .ifCond .lt 8, 3), (11, .iload_n 2, 1), (12, .iconst 1, 1), (13, .if_icmp .le 5, 3), (16, .iconst (-1), 1), (17, .ireturn, 1), (18, .aload_n 0, 1), (19, .getfield 56, 3), (22, .aload_n 0, 1), (23, .getfield 27, 3), (26, .aload_n 0, 1), (27, .getfield 34, 3), (30, .iload_n 1, 1), (31, .invokevirtual 226, 3), (34, .istore_n 3, 1), (35, .iload_n 2, 1), (36, .ifCond .ne 15, 3), (39, .aload_n 0, 1), (40, .getfield 27, 3), (43, .getfield 223, 3), (46, .iload_n 3, 1), (47, .iaload, 1), (48, .goto 4, 3), (51, .iload_n 3, 1), (52, .ireturn, 1)] : List (Nat × Instr × Nat)), decode cX11_hands q.1 = .ok (q.2.1, q.2.2) := by decide +kernel
abbrev X_Tide_hands : MX := (cX11_hands, RX11, "hands", 4, (some (.int)), 7, 166)
theorem v_Tide_hands (F : Nat) (l0 l1 l2 : Int) (h : Hp) : V X_Tide_hands 0 [(0, 2, l0), (1, 0, l1), (2, 0, l2)] [] h (Tide_hands F l0 l1 l2 h) := by
  unfold Tide_hands
  refine V_iload_n (pc := 0) (DCa dc_Tide_hands_0 0 rfl) rfl 1 rfl ?_
  refine Q_calls (st := []) (pc := 1) (DCa dc_Tide_hands_0 1 rfl) (sp_Tide_isBound F _ _) ce_Tide_isBound ml_11_201 rfl ⟨Nat.le_of_ble_eq_true rfl, Nat.le_of_ble_eq_true rfl⟩ rfl (Nat.le_of_ble_eq_true rfl) (fun r1 h2 => ?_)
  refine V_if_eq (tgt := 16) (pc := 4) (DCa dc_Tide_hands_0 2 rfl) (by decide) (fun _ => ?_) (fun _ => ?_)
  · refine V_iconst (pc := 16) (DCa dc_Tide_hands_0 8 rfl) (by decide) ?_
    exact V_ireturn (pc := 17) (DCa dc_Tide_hands_0 9 rfl) rfl
  · refine V_iload_n (pc := 7) (DCa dc_Tide_hands_0 3 rfl) rfl 2 rfl ?_
    refine V_if_lt (tgt := 16) (pc := 8) (DCa dc_Tide_hands_0 4 rfl) (by decide) (fun _ => ?_) (fun _ => ?_)
    · refine V_iconst (pc := 16) (DCa dc_Tide_hands_0 8 rfl) (by decide) ?_
      exact V_ireturn (pc := 17) (DCa dc_Tide_hands_0 9 rfl) rfl
    · refine V_iload_n (pc := 11) (DCa dc_Tide_hands_0 5 rfl) rfl 2 rfl ?_
      refine V_iconst (pc := 12) (DCa dc_Tide_hands_0 6 rfl) (by decide) ?_
      refine V_icmp_le (tgt := 18) (pc := 13) (DCa dc_Tide_hands_0 7 rfl) (by decide) (fun _ => ?_) (fun _ => ?_)
      · refine V_iconst (pc := 16) (DCa dc_Tide_hands_0 8 rfl) (by decide) ?_
        exact V_ireturn (pc := 17) (DCa dc_Tide_hands_0 9 rfl) rfl
      · refine V_aload_n (pc := 18) (DCa dc_Tide_hands_0 10 rfl) rfl 0 rfl ?_
        refine Q_getf (k := 9) (pc := 19) (DCa dc_Tide_hands_0 11 rfl) cls_11 (Nat.le_of_ble_eq_true rfl) fl_11_56 rfl rfl rfl (fun v3 => ?_)
        refine V_aload_n (pc := 22) (DCa dc_Tide_hands_0 12 rfl) rfl 0 rfl ?_
        refine Q_getf (k := 4) (pc := 23) (DCa dc_Tide_hands_0 13 rfl) cls_11 (Nat.le_of_ble_eq_true rfl) fl_11_27 rfl rfl rfl (fun v4 => ?_)
        refine V_aload_n (pc := 26) (DCa dc_Tide_hands_0 14 rfl) rfl 0 rfl ?_
        refine Q_getf (k := 5) (pc := 27) (DCa dc_Tide_hands_0 15 rfl) cls_11 (Nat.le_of_ble_eq_true rfl) fl_11_34 rfl rfl rfl (fun v5 => ?_)
        refine V_iload_n (pc := 30) (DCa dc_Tide_hands_0 16 rfl) rfl 1 rfl ?_
        refine Q_callv (ci := 2) (st := []) (pc := 31) (DCa dc_Tide_hands_0 17 rfl) (sp_Plan_sharedSet F _ _ _ _ _) ce_Plan_sharedSet ml_11_226 rfl rfl ⟨Nat.le_of_ble_eq_true rfl, Nat.le_of_ble_eq_true rfl⟩ rfl (Nat.le_of_ble_eq_true rfl) (fun r6 h7 => ?_)
        refine V_istore_n (ls' := [(0, 2, l0), (1, 0, l1), (2, 0, l2), (3, 0, r6)]) (pc := 34) (DCa dc_Tide_hands_0 18 rfl) rfl (Nat.le_of_ble_eq_true rfl) rfl ?_
        refine V_iload_n (pc := 35) (DCa dc_Tide_hands_0 19 rfl) rfl 2 rfl ?_
        refine V_if_ne (tgt := 51) (pc := 36) (DCa dc_Tide_hands_0 20 rfl) (by decide) (fun _ => ?_) (fun _ => ?_)
        · refine V_aload_n (pc := 39) (DCa dc_Tide_hands_0 21 rfl) rfl 0 rfl ?_
          refine Q_getf (k := 4) (pc := 40) (DCa dc_Tide_hands_0 22 rfl) cls_11 (Nat.le_of_ble_eq_true rfl) fl_11_27 rfl rfl rfl (fun v8 => ?_)
          refine Q_getf (k := 4) (pc := 43) (DCa dc_Tide_hands_0 23 rfl) cls_7 (Nat.le_of_ble_eq_true rfl) fl_11_223 rfl rfl rfl (fun v9 => ?_)
          refine V_iload_n (pc := 46) (DCa dc_Tide_hands_0 24 rfl) rfl 3 rfl ?_
          refine Q_iaload (pc := 47) (DCa dc_Tide_hands_0 25 rfl) (fun v10 => ?_)
          refine V_goto (tgt := 52) (pc := 48) (DCa dc_Tide_hands_0 26 rfl) (by decide) ?_
          exact V_ireturn (pc := 52) (DCa dc_Tide_hands_0 28 rfl) rfl
        · refine V_iload_n (pc := 51) (DCa dc_Tide_hands_0 27 rfl) rfl 3 rfl ?_
          exact V_ireturn (pc := 52) (DCa dc_Tide_hands_0 28 rfl) rfl
theorem sp_Tide_hands (F : Nat) (l0 l1 l2 : Int) (h : Hp) : Sp yX11_hands cX11_hands 4 (some (.int)) 7 166 [(2, l0), (0, l1), (0, l2)] h (Tide_hands F l0 l1 l2 h) := Sp_of (by decide +kernel) rfl rfl (Nat.le_of_ble_eq_true rfl) (v_Tide_hands F l0 l1 l2 h)

-- TideRakes.spare
def Tide_spare (F : Nat) (l0 l1 l2 : Int) (h : Hp) : Option (Int × Hp) :=
  iv h l0 111 (Tide_isWorker F l0 l1 h) fun r1 h2 =>
  if r1 = 0 then
    (some ((-1), h2))
  else
    (cl (Tide_isBound F l2 h2) fun r3 h4 =>
    if r3 = 0 then
      (some ((-1), h4))
    else
      (gf h4 l0 111 9 fun v5 =>
      gf h4 l0 111 4 fun v6 =>
      gf h4 l0 111 5 fun v7 =>
      iv h4 v5 102 (Plan_slack F v5 v6 v7 l1 l2 h4) fun r8 h9 =>
      some (r8, h9)))

theorem dc_Tide_spare_0 : ∀ q ∈ ([(0, .aload_n 0, 1), (1, .iload_n 1, 1), (2, .invokevirtual 130, 3), (5, .ifCond .eq 30, 3), (8, .iload_n 2, 1), (9, .invokestatic 201, 3), (12, .ifCond .eq 23, 3), (15, .aload_n 0, 1), (16, .getfield 56, 3), (19, .aload_n 0, 1), (20, .getfield 27, 3), (23, .aload_n 0, 1), (24, .getfield 34, 3), (27, .iload_n 1, 1), (28, .iload_n 2, 1), (29, .invokevirtual 230, 3), (32, .goto 4, 3), (35, .iconst (-1), 1), (36, .ireturn, 1)] : List (Nat × Instr × Nat)), decode cX11_spare q.1 = .ok (q.2.1, q.2.2) := by decide +kernel
abbrev X_Tide_spare : MX := (cX11_spare, RX11, "spare", 3, (some (.int)), 7, 173)
theorem v_Tide_spare (F : Nat) (l0 l1 l2 : Int) (h : Hp) : V X_Tide_spare 0 [(0, 2, l0), (1, 0, l1), (2, 0, l2)] [] h (Tide_spare F l0 l1 l2 h) := by
  unfold Tide_spare
  refine V_aload_n (pc := 0) (DCa dc_Tide_spare_0 0 rfl) rfl 0 rfl ?_
  refine V_iload_n (pc := 1) (DCa dc_Tide_spare_0 1 rfl) rfl 1 rfl ?_
  refine Q_callv (ci := 11) (st := []) (pc := 2) (DCa dc_Tide_spare_0 2 rfl) (sp_Tide_isWorker F _ _ _) ce_Tide_isWorker ml_11_130 rfl rfl ⟨Nat.le_of_ble_eq_true rfl, Nat.le_of_ble_eq_true rfl⟩ rfl (Nat.le_of_ble_eq_true rfl) (fun r1 h2 => ?_)
  refine V_if_eq (tgt := 35) (pc := 5) (DCa dc_Tide_spare_0 3 rfl) (by decide) (fun _ => ?_) (fun _ => ?_)
  · refine V_iconst (pc := 35) (DCa dc_Tide_spare_0 17 rfl) (by decide) ?_
    exact V_ireturn (pc := 36) (DCa dc_Tide_spare_0 18 rfl) rfl
  · refine V_iload_n (pc := 8) (DCa dc_Tide_spare_0 4 rfl) rfl 2 rfl ?_
    refine Q_calls (st := []) (pc := 9) (DCa dc_Tide_spare_0 5 rfl) (sp_Tide_isBound F _ _) ce_Tide_isBound ml_11_201 rfl ⟨Nat.le_of_ble_eq_true rfl, Nat.le_of_ble_eq_true rfl⟩ rfl (Nat.le_of_ble_eq_true rfl) (fun r3 h4 => ?_)
    refine V_if_eq (tgt := 35) (pc := 12) (DCa dc_Tide_spare_0 6 rfl) (by decide) (fun _ => ?_) (fun _ => ?_)
    · refine V_iconst (pc := 35) (DCa dc_Tide_spare_0 17 rfl) (by decide) ?_
      exact V_ireturn (pc := 36) (DCa dc_Tide_spare_0 18 rfl) rfl
    · refine V_aload_n (pc := 15) (DCa dc_Tide_spare_0 7 rfl) rfl 0 rfl ?_
      refine Q_getf (k := 9) (pc := 16) (DCa dc_Tide_spare_0 8 rfl) cls_11 (Nat.le_of_ble_eq_true rfl) fl_11_56 rfl rfl rfl (fun v5 => ?_)
      refine V_aload_n (pc := 19) (DCa dc_Tide_spare_0 9 rfl) rfl 0 rfl ?_
      refine Q_getf (k := 4) (pc := 20) (DCa dc_Tide_spare_0 10 rfl) cls_11 (Nat.le_of_ble_eq_true rfl) fl_11_27 rfl rfl rfl (fun v6 => ?_)
      refine V_aload_n (pc := 23) (DCa dc_Tide_spare_0 11 rfl) rfl 0 rfl ?_
      refine Q_getf (k := 5) (pc := 24) (DCa dc_Tide_spare_0 12 rfl) cls_11 (Nat.le_of_ble_eq_true rfl) fl_11_34 rfl rfl rfl (fun v7 => ?_)
      refine V_iload_n (pc := 27) (DCa dc_Tide_spare_0 13 rfl) rfl 1 rfl ?_
      refine V_iload_n (pc := 28) (DCa dc_Tide_spare_0 14 rfl) rfl 2 rfl ?_
      refine Q_callv (ci := 2) (st := []) (pc := 29) (DCa dc_Tide_spare_0 15 rfl) (sp_Plan_slack F _ _ _ _ _ _) ce_Plan_slack ml_11_230 rfl rfl ⟨Nat.le_of_ble_eq_true rfl, Nat.le_of_ble_eq_true rfl⟩ rfl (Nat.le_of_ble_eq_true rfl) (fun r8 h9 => ?_)
      refine V_goto (tgt := 36) (pc := 32) (DCa dc_Tide_spare_0 16 rfl) (by decide) ?_
      exact V_ireturn (pc := 36) (DCa dc_Tide_spare_0 18 rfl) rfl
theorem sp_Tide_spare (F : Nat) (l0 l1 l2 : Int) (h : Hp) : Sp yX11_spare cX11_spare 3 (some (.int)) 7 173 [(2, l0), (0, l1), (0, l2)] h (Tide_spare F l0 l1 l2 h) := Sp_of (by decide +kernel) rfl rfl (Nat.le_of_ble_eq_true rfl) (v_Tide_spare F l0 l1 l2 h)

-- TideRakes.quickest
def Tide_quickest_B85 (F : Nat)  (l2 l3 l4 : Int) (h : Hp) : Option (Int × Hp) :=
  if l2 = 0 then
    (some (l4, h))
  else
    (if l4 < 0 then
      (some (l4, h))
    else
      (some (l3, h)))
def Tide_quickest_L30s (F : Nat)  (R30 : Int → Int → Int → Int → Int → Int → Hp → Option (Int × Hp)) (l0 l1 l2 l3 l4 l5 : Int) (h : Hp) : Option (Int × Hp) :=
  gf h l0 111 4 fun v3 =>
  gf h v3 107 0 fun v4 =>
  gf h v4 106 4 fun v5 =>
  if l5 < v5 then
    (gf h l0 111 5 fun v6 =>
    gf h l0 111 4 fun v7 =>
    iv h v6 108 (Stan_wouldBeDone F v6 v7 l1 l5 h) fun r8 h9 =>
    if r8 < 0 then
      (R30 l0 l1 l2 l3 l4 (w32 (l5 + 1)) h9)
    else
      (if r8 < l3 then
        (R30 l0 l1 l2 r8 l5 (w32 (l5 + 1)) h9)
      else
        (R30 l0 l1 l2 l3 l4 (w32 (l5 + 1)) h9)))
  else
    (Tide_quickest_B85 F l2 l3 l4 h)
def Tide_quickest_L30 (F : Nat)  : Nat → Int → Int → Int → Int → Int → Int → Hp → Option (Int × Hp)
  | 0 => fun _ _ _ _ _ _ _ => none
  | n + 1 => Tide_quickest_L30s F  (Tide_quickest_L30 F  n)
def Tide_quickest (F : Nat) (l0 l1 l2 : Int) (h : Hp) : Option (Int × Hp) :=
  iv h l0 111 (Tide_isWorker F l0 l1 h) fun r1 h2 =>
  if r1 = 0 then
    (some ((-1), h2))
  else
    (if l2 < 0 then
      (some ((-1), h2))
    else
      (if 1 < l2 then
        (some ((-1), h2))
      else
        (Tide_quickest_L30 F F l0 l1 l2 10000 (-2) 0 h2)))

theorem dc_Tide_quickest_0 : ∀ q ∈ ([(0, .aload_n 0, 1), (1, .iload_n 1, 1), (2, .invokevirtual 130, 3), (5, .ifCond .eq 12, 3), (8, .iload_n 2, 1), (9, .ifCond .lt 8, 3), (12, .iload_n 2, 1), (13, .iconst 1, 1), (14, .if_icmp .le 5, 3), (17, .iconst (-1), 1), (18, .ireturn, 1), (19, .sipush 10000, 3), (22, .istore_n 3, 1), (23, .bipush (-2), 2), (25, .istore 4, 2), (27, .iconst 0, 1), (28, .istore 5, 2), (30, .iload 5, 2), (32, .aload_n 0, 1), (33, .getfield 27, 3), (36, .getfield 77, 3), (39, .getfield 233, 3), (42, .if_icmp .ge 43, 3), (45, .aload_n 0, 1), (46, .getfield 34, 3), (49, .aload_n 0, 1), (50, .getfield 27, 3), (53, .iload_n 1, 1), (54, .iload 5, 2), (56, .invokevirtual 236, 3), (59, .istore 6, 2), (61, .iload 6, 2), (63, .ifCond .lt 16, 3), (66, .iload 6, 2), (68, .iload_n 3, 1), (69, .if_icmp .ge 10, 3), (72, .iload 6, 2), (74, .istore_n 3, 1), (75, .iload 5, 2), (77, .istore 4, 2), (79, .iinc 5 1, 3), (82, .goto (-52), 3), (85, .iload_n 2, 1), (86, .ifCond .eq 8, 3), (89, .iload 4, 2), (91, .ifCond .ge 8, 3), (94, .iload 4, 2), (96, .goto 4, 3), (99, .iload_n 3, 1), (100, .ireturn, 1)] : List (Nat × Instr × Nat)), decode cX11_quickest q.1 = .ok (q.2.1, q.2.2) := by decide +kernel
abbrev X_Tide_quickest : MX := (cX11_quickest, RX11, "quickest", 7, (some (.int)), 4, 90)
theorem v_Tide_quickest_B85 (F : Nat)  (l2 l3 l4 : Int) (h : Hp) : V X_Tide_quickest 85 [(2, 0, l2), (3, 0, l3), (4, 0, l4)] [] h (Tide_quickest_B85 F  l2 l3 l4 h) := by
  unfold Tide_quickest_B85
  refine V_iload_n (pc := 85) (DCa dc_Tide_quickest_0 42 rfl) rfl 0 rfl ?_
  refine V_if_eq (tgt := 94) (pc := 86) (DCa dc_Tide_quickest_0 43 rfl) (by decide) (fun _ => ?_) (fun _ => ?_)
  · refine V_iload (pc := 94) (DCa dc_Tide_quickest_0 46 rfl) 2 rfl ?_
    refine V_goto (tgt := 100) (pc := 96) (DCa dc_Tide_quickest_0 47 rfl) (by decide) ?_
    exact V_ireturn (pc := 100) (DCa dc_Tide_quickest_0 49 rfl) rfl
  · refine V_iload (pc := 89) (DCa dc_Tide_quickest_0 44 rfl) 2 rfl ?_
    refine V_if_ge (tgt := 99) (pc := 91) (DCa dc_Tide_quickest_0 45 rfl) (by decide) (fun _ => ?_) (fun _ => ?_)
    · refine V_iload (pc := 94) (DCa dc_Tide_quickest_0 46 rfl) 2 rfl ?_
      refine V_goto (tgt := 100) (pc := 96) (DCa dc_Tide_quickest_0 47 rfl) (by decide) ?_
      exact V_ireturn (pc := 100) (DCa dc_Tide_quickest_0 49 rfl) rfl
    · refine V_iload_n (pc := 99) (DCa dc_Tide_quickest_0 48 rfl) rfl 1 rfl ?_
      exact V_ireturn (pc := 100) (DCa dc_Tide_quickest_0 49 rfl) rfl
theorem v_Tide_quickest_L30s (F : Nat)  (R30 : Int → Int → Int → Int → Int → Int → Hp → Option (Int × Hp)) (hR30 : ∀ (l0 l1 l2 l3 l4 l5 : Int) (h : Hp), V X_Tide_quickest 30 [(0, 2, l0), (1, 0, l1), (2, 0, l2), (3, 0, l3), (4, 0, l4), (5, 0, l5)] [] h (R30 l0 l1 l2 l3 l4 l5 h)) (l0 l1 l2 l3 l4 l5 : Int) (h : Hp) : V X_Tide_quickest 30 [(0, 2, l0), (1, 0, l1), (2, 0, l2), (3, 0, l3), (4, 0, l4), (5, 0, l5)] [] h (Tide_quickest_L30s F  R30 l0 l1 l2 l3 l4 l5 h) := by
  unfold Tide_quickest_L30s
  refine V_iload (pc := 30) (DCa dc_Tide_quickest_0 17 rfl) 5 rfl ?_
  refine V_aload_n (pc := 32) (DCa dc_Tide_quickest_0 18 rfl) rfl 0 rfl ?_
  refine Q_getf (k := 4) (pc := 33) (DCa dc_Tide_quickest_0 19 rfl) cls_11 (Nat.le_of_ble_eq_true rfl) fl_11_27 rfl rfl rfl (fun v3 => ?_)
  refine Q_getf (k := 0) (pc := 36) (DCa dc_Tide_quickest_0 20 rfl) cls_7 (Nat.le_of_ble_eq_true rfl) fl_11_77 rfl rfl rfl (fun v4 => ?_)
  refine Q_getf (k := 4) (pc := 39) (DCa dc_Tide_quickest_0 21 rfl) cls_6 (Nat.le_of_ble_eq_true rfl) fl_11_233 rfl rfl rfl (fun v5 => ?_)
  refine V_icmp_ge (tgt := 85) (pc := 42) (DCa dc_Tide_quickest_0 22 rfl) (by decide) (fun _ => ?_) (fun _ => ?_)
  · refine V_aload_n (pc := 45) (DCa dc_Tide_quickest_0 23 rfl) rfl 0 rfl ?_
    refine Q_getf (k := 5) (pc := 46) (DCa dc_Tide_quickest_0 24 rfl) cls_11 (Nat.le_of_ble_eq_true rfl) fl_11_34 rfl rfl rfl (fun v6 => ?_)
    refine V_aload_n (pc := 49) (DCa dc_Tide_quickest_0 25 rfl) rfl 0 rfl ?_
    refine Q_getf (k := 4) (pc := 50) (DCa dc_Tide_quickest_0 26 rfl) cls_11 (Nat.le_of_ble_eq_true rfl) fl_11_27 rfl rfl rfl (fun v7 => ?_)
    refine V_iload_n (pc := 53) (DCa dc_Tide_quickest_0 27 rfl) rfl 1 rfl ?_
    refine V_iload (pc := 54) (DCa dc_Tide_quickest_0 28 rfl) 5 rfl ?_
    refine Q_callv (ci := 8) (st := []) (pc := 56) (DCa dc_Tide_quickest_0 29 rfl) (sp_Stan_wouldBeDone F _ _ _ _ _) ce_Stan_wouldBeDone ml_11_236 rfl rfl ⟨Nat.le_of_ble_eq_true rfl, Nat.le_of_ble_eq_true rfl⟩ rfl (Nat.le_of_ble_eq_true rfl) (fun r8 h9 => ?_)
    refine V_istore (ls' := [(0, 2, l0), (1, 0, l1), (2, 0, l2), (3, 0, l3), (4, 0, l4), (5, 0, l5), (6, 0, r8)]) (pc := 59) (DCa dc_Tide_quickest_0 30 rfl) (Nat.le_of_ble_eq_true rfl) rfl ?_
    refine V_iload (pc := 61) (DCa dc_Tide_quickest_0 31 rfl) 6 rfl ?_
    refine V_if_lt (tgt := 79) (pc := 63) (DCa dc_Tide_quickest_0 32 rfl) (by decide) (fun _ => ?_) (fun _ => ?_)
    · refine V_iinc (ls' := [(0, 2, l0), (1, 0, l1), (2, 0, l2), (3, 0, l3), (4, 0, l4), (5, 0, w32 (l5 + 1)), (6, 0, r8)]) (pc := 79) (DCa dc_Tide_quickest_0 40 rfl) (Nat.le_of_ble_eq_true rfl) (by decide) 5 rfl rfl ?_
      refine V_goto (tgt := 30) (pc := 82) (DCa dc_Tide_quickest_0 41 rfl) (by decide) ?_
      refine V_pick [0, 1, 2, 3, 4, 5] rfl ?_
      exact hR30 _ _ _ _ _ _ _
    · refine V_iload (pc := 66) (DCa dc_Tide_quickest_0 33 rfl) 6 rfl ?_
      refine V_iload_n (pc := 68) (DCa dc_Tide_quickest_0 34 rfl) rfl 3 rfl ?_
      refine V_icmp_ge (tgt := 79) (pc := 69) (DCa dc_Tide_quickest_0 35 rfl) (by decide) (fun _ => ?_) (fun _ => ?_)
      · refine V_iload (pc := 72) (DCa dc_Tide_quickest_0 36 rfl) 6 rfl ?_
        refine V_istore_n (ls' := [(0, 2, l0), (1, 0, l1), (2, 0, l2), (3, 0, r8), (4, 0, l4), (5, 0, l5), (6, 0, r8)]) (pc := 74) (DCa dc_Tide_quickest_0 37 rfl) rfl (Nat.le_of_ble_eq_true rfl) rfl ?_
        refine V_iload (pc := 75) (DCa dc_Tide_quickest_0 38 rfl) 5 rfl ?_
        refine V_istore (ls' := [(0, 2, l0), (1, 0, l1), (2, 0, l2), (3, 0, r8), (4, 0, l5), (5, 0, l5), (6, 0, r8)]) (pc := 77) (DCa dc_Tide_quickest_0 39 rfl) (Nat.le_of_ble_eq_true rfl) rfl ?_
        refine V_iinc (ls' := [(0, 2, l0), (1, 0, l1), (2, 0, l2), (3, 0, r8), (4, 0, l5), (5, 0, w32 (l5 + 1)), (6, 0, r8)]) (pc := 79) (DCa dc_Tide_quickest_0 40 rfl) (Nat.le_of_ble_eq_true rfl) (by decide) 5 rfl rfl ?_
        refine V_goto (tgt := 30) (pc := 82) (DCa dc_Tide_quickest_0 41 rfl) (by decide) ?_
        refine V_pick [0, 1, 2, 3, 4, 5] rfl ?_
        exact hR30 _ _ _ _ _ _ _
      · refine V_iinc (ls' := [(0, 2, l0), (1, 0, l1), (2, 0, l2), (3, 0, l3), (4, 0, l4), (5, 0, w32 (l5 + 1)), (6, 0, r8)]) (pc := 79) (DCa dc_Tide_quickest_0 40 rfl) (Nat.le_of_ble_eq_true rfl) (by decide) 5 rfl rfl ?_
        refine V_goto (tgt := 30) (pc := 82) (DCa dc_Tide_quickest_0 41 rfl) (by decide) ?_
        refine V_pick [0, 1, 2, 3, 4, 5] rfl ?_
        exact hR30 _ _ _ _ _ _ _
  · refine V_pick [2, 3, 4] rfl ?_
    exact v_Tide_quickest_B85 F _ _ _ _
theorem v_Tide_quickest_L30 (F : Nat)  (n : Nat) : ∀ (l0 l1 l2 l3 l4 l5 : Int) (h : Hp), V X_Tide_quickest 30 [(0, 2, l0), (1, 0, l1), (2, 0, l2), (3, 0, l3), (4, 0, l4), (5, 0, l5)] [] h (Tide_quickest_L30 F  n l0 l1 l2 l3 l4 l5 h) := by
  induction n with
  | zero => intros; exact V_none
  | succ n ih => exact fun l0 l1 l2 l3 l4 l5 h => v_Tide_quickest_L30s F  _ ih l0 l1 l2 l3 l4 l5 h
theorem v_Tide_quickest (F : Nat) (l0 l1 l2 : Int) (h : Hp) : V X_Tide_quickest 0 [(0, 2, l0), (1, 0, l1), (2, 0, l2)] [] h (Tide_quickest F l0 l1 l2 h) := by
  unfold Tide_quickest
  refine V_aload_n (pc := 0) (DCa dc_Tide_quickest_0 0 rfl) rfl 0 rfl ?_
  refine V_iload_n (pc := 1) (DCa dc_Tide_quickest_0 1 rfl) rfl 1 rfl ?_
  refine Q_callv (ci := 11) (st := []) (pc := 2) (DCa dc_Tide_quickest_0 2 rfl) (sp_Tide_isWorker F _ _ _) ce_Tide_isWorker ml_11_130 rfl rfl ⟨Nat.le_of_ble_eq_true rfl, Nat.le_of_ble_eq_true rfl⟩ rfl (Nat.le_of_ble_eq_true rfl) (fun r1 h2 => ?_)
  refine V_if_eq (tgt := 17) (pc := 5) (DCa dc_Tide_quickest_0 3 rfl) (by decide) (fun _ => ?_) (fun _ => ?_)
  · refine V_iconst (pc := 17) (DCa dc_Tide_quickest_0 9 rfl) (by decide) ?_
    exact V_ireturn (pc := 18) (DCa dc_Tide_quickest_0 10 rfl) rfl
  · refine V_iload_n (pc := 8) (DCa dc_Tide_quickest_0 4 rfl) rfl 2 rfl ?_
    refine V_if_lt (tgt := 17) (pc := 9) (DCa dc_Tide_quickest_0 5 rfl) (by decide) (fun _ => ?_) (fun _ => ?_)
    · refine V_iconst (pc := 17) (DCa dc_Tide_quickest_0 9 rfl) (by decide) ?_
      exact V_ireturn (pc := 18) (DCa dc_Tide_quickest_0 10 rfl) rfl
    · refine V_iload_n (pc := 12) (DCa dc_Tide_quickest_0 6 rfl) rfl 2 rfl ?_
      refine V_iconst (pc := 13) (DCa dc_Tide_quickest_0 7 rfl) (by decide) ?_
      refine V_icmp_le (tgt := 19) (pc := 14) (DCa dc_Tide_quickest_0 8 rfl) (by decide) (fun _ => ?_) (fun _ => ?_)
      · refine V_iconst (pc := 17) (DCa dc_Tide_quickest_0 9 rfl) (by decide) ?_
        exact V_ireturn (pc := 18) (DCa dc_Tide_quickest_0 10 rfl) rfl
      · refine V_sipush (pc := 19) (DCa dc_Tide_quickest_0 11 rfl) (by decide) ?_
        refine V_istore_n (ls' := [(0, 2, l0), (1, 0, l1), (2, 0, l2), (3, 0, 10000)]) (pc := 22) (DCa dc_Tide_quickest_0 12 rfl) rfl (Nat.le_of_ble_eq_true rfl) rfl ?_
        refine V_bipush (pc := 23) (DCa dc_Tide_quickest_0 13 rfl) (by decide) ?_
        refine V_istore (ls' := [(0, 2, l0), (1, 0, l1), (2, 0, l2), (3, 0, 10000), (4, 0, (-2))]) (pc := 25) (DCa dc_Tide_quickest_0 14 rfl) (Nat.le_of_ble_eq_true rfl) rfl ?_
        refine V_iconst (pc := 27) (DCa dc_Tide_quickest_0 15 rfl) (by decide) ?_
        refine V_istore (ls' := [(0, 2, l0), (1, 0, l1), (2, 0, l2), (3, 0, 10000), (4, 0, (-2)), (5, 0, 0)]) (pc := 28) (DCa dc_Tide_quickest_0 16 rfl) (Nat.le_of_ble_eq_true rfl) rfl ?_
        exact v_Tide_quickest_L30 F F _ _ _ _ _ _ _
theorem sp_Tide_quickest (F : Nat) (l0 l1 l2 : Int) (h : Hp) : Sp yX11_quickest cX11_quickest 7 (some (.int)) 4 90 [(2, l0), (0, l1), (0, l2)] h (Tide_quickest F l0 l1 l2 h) := Sp_of (by decide +kernel) rfl rfl (Nat.le_of_ble_eq_true rfl) (v_Tide_quickest F l0 l1 l2 h)

-- TideRakes.mends
def Tide_mends (F : Nat) (l0 l1 l2 l3 : Int) (h : Hp) : Option (Int × Hp) :=
  iv h l0 111 (Tide_isWorker F l0 l1 h) fun r1 h2 =>
  if r1 = 0 then
    (some ((-1), h2))
  else
    (cl (Tide_isBound F l2 h2) fun r3 h4 =>
    if r3 = 0 then
      (some ((-1), h4))
    else
      (gf h4 l0 111 9 fun v5 =>
      gf h4 l0 111 4 fun v6 =>
      gf h4 l0 111 5 fun v7 =>
      iv h4 v5 102 (Plan_mendingRows F v5 v6 v7 l1 h4) fun r8 h9 =>
      iv h9 l0 111 (Tide_answer F l0 r8 l2 l3 h9) fun r10 h11 =>
      some (r10, h11)))

theorem dc_Tide_mends_0 : ∀ q ∈ ([(0, .aload_n 0, 1), (1, .iload_n 1, 1), (2, .invokevirtual 130, 3), (5, .ifCond .eq 10, 3), (8, .iload_n 2, 1), (9, .invokestatic 201, 3), (12, .ifCond .ne 5, 3), (15, .iconst (-1), 1), (16, .ireturn, 1), (17, .aload_n 0, 1), (18, .aload_n 0, 1), (19, .getfield 56, 3), (22, .aload_n 0, 1), (23, .getfield 27, 3), (26, .aload_n 0, 1), (27, .getfield 34, 3), (30, .iload_n 1, 1), (31, .invokevirtual 239, 3), (34, .iload_n 2, 1), (35, .iload_n 3, 1), (36, .invokevirtual 208, 3), (39, .ireturn, 1)] : List (Nat × Instr × Nat)), decode cX11_mends q.1 = .ok (q.2.1, q.2.2) := by decide +kernel
abbrev X_Tide_mends : MX := (cX11_mends, RX11, "mends", 4, (some (.int)), 6, 141)
theorem v_Tide_mends (F : Nat) (l0 l1 l2 l3 : Int) (h : Hp) : V X_Tide_mends 0 [(0, 2, l0), (1, 0, l1), (2, 0, l2), (3, 0, l3)] [] h (Tide_mends F l0 l1 l2 l3 h) := by
  unfold Tide_mends
  refine V_aload_n (pc := 0) (DCa dc_Tide_mends_0 0 rfl) rfl 0 rfl ?_
  refine V_iload_n (pc := 1) (DCa dc_Tide_mends_0 1 rfl) rfl 1 rfl ?_
  refine Q_callv (ci := 11) (st := []) (pc := 2) (DCa dc_Tide_mends_0 2 rfl) (sp_Tide_isWorker F _ _ _) ce_Tide_isWorker ml_11_130 rfl rfl ⟨Nat.le_of_ble_eq_true rfl, Nat.le_of_ble_eq_true rfl⟩ rfl (Nat.le_of_ble_eq_true rfl) (fun r1 h2 => ?_)
  refine V_if_eq (tgt := 15) (pc := 5) (DCa dc_Tide_mends_0 3 rfl) (by decide) (fun _ => ?_) (fun _ => ?_)
  · refine V_iconst (pc := 15) (DCa dc_Tide_mends_0 7 rfl) (by decide) ?_
    exact V_ireturn (pc := 16) (DCa dc_Tide_mends_0 8 rfl) rfl
  · refine V_iload_n (pc := 8) (DCa dc_Tide_mends_0 4 rfl) rfl 2 rfl ?_
    refine Q_calls (st := []) (pc := 9) (DCa dc_Tide_mends_0 5 rfl) (sp_Tide_isBound F _ _) ce_Tide_isBound ml_11_201 rfl ⟨Nat.le_of_ble_eq_true rfl, Nat.le_of_ble_eq_true rfl⟩ rfl (Nat.le_of_ble_eq_true rfl) (fun r3 h4 => ?_)
    refine V_if_ne (tgt := 17) (pc := 12) (DCa dc_Tide_mends_0 6 rfl) (by decide) (fun _ => ?_) (fun _ => ?_)
    · refine V_iconst (pc := 15) (DCa dc_Tide_mends_0 7 rfl) (by decide) ?_
      exact V_ireturn (pc := 16) (DCa dc_Tide_mends_0 8 rfl) rfl
    · refine V_aload_n (pc := 17) (DCa dc_Tide_mends_0 9 rfl) rfl 0 rfl ?_
      refine V_aload_n (pc := 18) (DCa dc_Tide_mends_0 10 rfl) rfl 0 rfl ?_
      refine Q_getf (k := 9) (pc := 19) (DCa dc_Tide_mends_0 11 rfl) cls_11 (Nat.le_of_ble_eq_true rfl) fl_11_56 rfl rfl rfl (fun v5 => ?_)
      refine V_aload_n (pc := 22) (DCa dc_Tide_mends_0 12 rfl) rfl 0 rfl ?_
      refine Q_getf (k := 4) (pc := 23) (DCa dc_Tide_mends_0 13 rfl) cls_11 (Nat.le_of_ble_eq_true rfl) fl_11_27 rfl rfl rfl (fun v6 => ?_)
      refine V_aload_n (pc := 26) (DCa dc_Tide_mends_0 14 rfl) rfl 0 rfl ?_
      refine Q_getf (k := 5) (pc := 27) (DCa dc_Tide_mends_0 15 rfl) cls_11 (Nat.le_of_ble_eq_true rfl) fl_11_34 rfl rfl rfl (fun v7 => ?_)
      refine V_iload_n (pc := 30) (DCa dc_Tide_mends_0 16 rfl) rfl 1 rfl ?_
      refine Q_callv (ci := 2) (st := [(2, l0)]) (pc := 31) (DCa dc_Tide_mends_0 17 rfl) (sp_Plan_mendingRows F _ _ _ _ _) ce_Plan_mendingRows ml_11_239 rfl rfl ⟨Nat.le_of_ble_eq_true rfl, Nat.le_of_ble_eq_true rfl⟩ rfl (Nat.le_of_ble_eq_true rfl) (fun r8 h9 => ?_)
      refine V_iload_n (pc := 34) (DCa dc_Tide_mends_0 18 rfl) rfl 2 rfl ?_
      refine V_iload_n (pc := 35) (DCa dc_Tide_mends_0 19 rfl) rfl 3 rfl ?_
      refine Q_callv (ci := 11) (st := []) (pc := 36) (DCa dc_Tide_mends_0 20 rfl) (sp_Tide_answer F _ _ _ _ _) ce_Tide_answer ml_11_208 rfl rfl ⟨Nat.le_of_ble_eq_true rfl, Nat.le_of_ble_eq_true rfl⟩ rfl (Nat.le_of_ble_eq_true rfl) (fun r10 h11 => ?_)
      exact V_ireturn (pc := 39) (DCa dc_Tide_mends_0 21 rfl) rfl
theorem sp_Tide_mends (F : Nat) (l0 l1 l2 l3 : Int) (h : Hp) : Sp yX11_mends cX11_mends 4 (some (.int)) 6 141 [(2, l0), (0, l1), (0, l2), (0, l3)] h (Tide_mends F l0 l1 l2 l3 h) := Sp_of (by decide +kernel) rfl rfl (Nat.le_of_ble_eq_true rfl) (v_Tide_mends F l0 l1 l2 l3 h)

-- TideRakes.after
def Tide_after (F : Nat) (l0 l1 l2 l3 : Int) (h : Hp) : Option (Int × Hp) :=
  iv h l0 111 (Tide_isWorker F l0 l1 h) fun r1 h2 =>
  if r1 = 0 then
    (some ((-1), h2))
  else
    (cl (Tide_isBound F l2 h2) fun r3 h4 =>
    if r3 = 0 then
      (some ((-1), h4))
    else
      (cl (Tide_isMinute F l3 h4) fun r5 h6 =>
      if r5 = 0 then
        (some ((-1), h6))
      else
        (gf h6 l0 111 5 fun v7 =>
        gf h6 l0 111 4 fun v8 =>
        iv h6 v7 108 (Stan_visible F v7 v8 l3 h6) fun r9 h10 =>
        gf h10 l0 111 9 fun v11 =>
        gf h10 l0 111 4 fun v12 =>
        gf h10 l0 111 5 fun v13 =>
        iv h10 v11 102 (Plan_visibleAfter F v11 v12 v13 l1 l2 l3 h10) fun r14 h15 =>
        lt (ior r9 r14) fun x16 =>
        gf h15 l0 111 4 fun v17 =>
        gf h15 v17 107 4 fun v18 =>
        al h15 v18 0 x16 fun v19 =>
        gf h15 l0 111 4 fun v20 =>
        gf h15 v20 107 2 fun v21 =>
        al h15 v21 0 l3 fun v22 =>
        some (w32 (v19 * v22), h15))))

theorem dc_Tide_after_0 : ∀ q ∈ ([(0, .aload_n 0, 1), (1, .iload_n 1, 1), (2, .invokevirtual 130, 3), (5, .ifCond .eq 17, 3), (8, .iload_n 2, 1), (9, .invokestatic 201, 3), (12, .ifCond .eq 10, 3), (15, .iload_n 3, 1), (16, .invokestatic 154, 3), (19, .ifCond .ne 5, 3), (22, .iconst (-1), 1), (23, .ireturn, 1), (24, .aload_n 0, 1), (25, .getfield 34, 3), (28, .aload_n 0, 1), (29, .getfield 27, 3), (32, .iload_n 3, 1), (33, .invokevirtual 194, 3), (36, .aload_n 0, 1), (37, .getfield 56, 3), (40, .aload_n 0, 1), (41, .getfield 27, 3), (44, .aload_n 0, 1), (45, .getfield 34, 3), (48, .iload_n 1, 1), (49, .iload_n 2, 1), (50, .iload_n 3, 1), (51, .invokevirtual 242, 3), (54, .ior, 1), (55, .istore 4, 2), (57, .aload_n 0, 1), (58, .getfield 27, 3), (61, .getfield 223, 3), (64, .iload 4, 2), (66, .iaload, 1), (67, .aload_n 0, 1), (68, .getfield 27, 3), (71, .getfield 160, 3), (74, .iload_n 3, 1), (75, .iaload, 1), (76, .imul, 1), (77, .ireturn, 1)] : List (Nat × Instr × Nat)), decode cX11_after q.1 = .ok (q.2.1, q.2.2) := by decide +kernel
abbrev X_Tide_after : MX := (cX11_after, RX11, "after", 5, (some (.int)), 7, 173)
theorem v_Tide_after (F : Nat) (l0 l1 l2 l3 : Int) (h : Hp) : V X_Tide_after 0 [(0, 2, l0), (1, 0, l1), (2, 0, l2), (3, 0, l3)] [] h (Tide_after F l0 l1 l2 l3 h) := by
  unfold Tide_after
  refine V_aload_n (pc := 0) (DCa dc_Tide_after_0 0 rfl) rfl 0 rfl ?_
  refine V_iload_n (pc := 1) (DCa dc_Tide_after_0 1 rfl) rfl 1 rfl ?_
  refine Q_callv (ci := 11) (st := []) (pc := 2) (DCa dc_Tide_after_0 2 rfl) (sp_Tide_isWorker F _ _ _) ce_Tide_isWorker ml_11_130 rfl rfl ⟨Nat.le_of_ble_eq_true rfl, Nat.le_of_ble_eq_true rfl⟩ rfl (Nat.le_of_ble_eq_true rfl) (fun r1 h2 => ?_)
  refine V_if_eq (tgt := 22) (pc := 5) (DCa dc_Tide_after_0 3 rfl) (by decide) (fun _ => ?_) (fun _ => ?_)
  · refine V_iconst (pc := 22) (DCa dc_Tide_after_0 10 rfl) (by decide) ?_
    exact V_ireturn (pc := 23) (DCa dc_Tide_after_0 11 rfl) rfl
  · refine V_iload_n (pc := 8) (DCa dc_Tide_after_0 4 rfl) rfl 2 rfl ?_
    refine Q_calls (st := []) (pc := 9) (DCa dc_Tide_after_0 5 rfl) (sp_Tide_isBound F _ _) ce_Tide_isBound ml_11_201 rfl ⟨Nat.le_of_ble_eq_true rfl, Nat.le_of_ble_eq_true rfl⟩ rfl (Nat.le_of_ble_eq_true rfl) (fun r3 h4 => ?_)
    refine V_if_eq (tgt := 22) (pc := 12) (DCa dc_Tide_after_0 6 rfl) (by decide) (fun _ => ?_) (fun _ => ?_)
    · refine V_iconst (pc := 22) (DCa dc_Tide_after_0 10 rfl) (by decide) ?_
      exact V_ireturn (pc := 23) (DCa dc_Tide_after_0 11 rfl) rfl
    · refine V_iload_n (pc := 15) (DCa dc_Tide_after_0 7 rfl) rfl 3 rfl ?_
      refine Q_calls (st := []) (pc := 16) (DCa dc_Tide_after_0 8 rfl) (sp_Tide_isMinute F _ _) ce_Tide_isMinute ml_11_154 rfl ⟨Nat.le_of_ble_eq_true rfl, Nat.le_of_ble_eq_true rfl⟩ rfl (Nat.le_of_ble_eq_true rfl) (fun r5 h6 => ?_)
      refine V_if_ne (tgt := 24) (pc := 19) (DCa dc_Tide_after_0 9 rfl) (by decide) (fun _ => ?_) (fun _ => ?_)
      · refine V_iconst (pc := 22) (DCa dc_Tide_after_0 10 rfl) (by decide) ?_
        exact V_ireturn (pc := 23) (DCa dc_Tide_after_0 11 rfl) rfl
      · refine V_aload_n (pc := 24) (DCa dc_Tide_after_0 12 rfl) rfl 0 rfl ?_
        refine Q_getf (k := 5) (pc := 25) (DCa dc_Tide_after_0 13 rfl) cls_11 (Nat.le_of_ble_eq_true rfl) fl_11_34 rfl rfl rfl (fun v7 => ?_)
        refine V_aload_n (pc := 28) (DCa dc_Tide_after_0 14 rfl) rfl 0 rfl ?_
        refine Q_getf (k := 4) (pc := 29) (DCa dc_Tide_after_0 15 rfl) cls_11 (Nat.le_of_ble_eq_true rfl) fl_11_27 rfl rfl rfl (fun v8 => ?_)
        refine V_iload_n (pc := 32) (DCa dc_Tide_after_0 16 rfl) rfl 3 rfl ?_
        refine Q_callv (ci := 8) (st := []) (pc := 33) (DCa dc_Tide_after_0 17 rfl) (sp_Stan_visible F _ _ _ _) ce_Stan_visible ml_11_194 rfl rfl ⟨Nat.le_of_ble_eq_true rfl, Nat.le_of_ble_eq_true rfl⟩ rfl (Nat.le_of_ble_eq_true rfl) (fun r9 h10 => ?_)
        refine V_aload_n (pc := 36) (DCa dc_Tide_after_0 18 rfl) rfl 0 rfl ?_
        refine Q_getf (k := 9) (pc := 37) (DCa dc_Tide_after_0 19 rfl) cls_11 (Nat.le_of_ble_eq_true rfl) fl_11_56 rfl rfl rfl (fun v11 => ?_)
        refine V_aload_n (pc := 40) (DCa dc_Tide_after_0 20 rfl) rfl 0 rfl ?_
        refine Q_getf (k := 4) (pc := 41) (DCa dc_Tide_after_0 21 rfl) cls_11 (Nat.le_of_ble_eq_true rfl) fl_11_27 rfl rfl rfl (fun v12 => ?_)
        refine V_aload_n (pc := 44) (DCa dc_Tide_after_0 22 rfl) rfl 0 rfl ?_
        refine Q_getf (k := 5) (pc := 45) (DCa dc_Tide_after_0 23 rfl) cls_11 (Nat.le_of_ble_eq_true rfl) fl_11_34 rfl rfl rfl (fun v13 => ?_)
        refine V_iload_n (pc := 48) (DCa dc_Tide_after_0 24 rfl) rfl 1 rfl ?_
        refine V_iload_n (pc := 49) (DCa dc_Tide_after_0 25 rfl) rfl 2 rfl ?_
        refine V_iload_n (pc := 50) (DCa dc_Tide_after_0 26 rfl) rfl 3 rfl ?_
        refine Q_callv (ci := 2) (st := [(0, r9)]) (pc := 51) (DCa dc_Tide_after_0 27 rfl) (sp_Plan_visibleAfter F _ _ _ _ _ _ _) ce_Plan_visibleAfter ml_11_242 rfl rfl ⟨Nat.le_of_ble_eq_true rfl, Nat.le_of_ble_eq_true rfl⟩ rfl (Nat.le_of_ble_eq_true rfl) (fun r14 h15 => ?_)
        refine V_ior (pc := 54) (DCa dc_Tide_after_0 28 rfl) ?_
        refine Q_lt (fun x16 => ?_)
        refine V_istore (ls' := [(0, 2, l0), (1, 0, l1), (2, 0, l2), (3, 0, l3), (4, 0, x16)]) (pc := 55) (DCa dc_Tide_after_0 29 rfl) (Nat.le_of_ble_eq_true rfl) rfl ?_
        refine V_aload_n (pc := 57) (DCa dc_Tide_after_0 30 rfl) rfl 0 rfl ?_
        refine Q_getf (k := 4) (pc := 58) (DCa dc_Tide_after_0 31 rfl) cls_11 (Nat.le_of_ble_eq_true rfl) fl_11_27 rfl rfl rfl (fun v17 => ?_)
        refine Q_getf (k := 4) (pc := 61) (DCa dc_Tide_after_0 32 rfl) cls_7 (Nat.le_of_ble_eq_true rfl) fl_11_223 rfl rfl rfl (fun v18 => ?_)
        refine V_iload (pc := 64) (DCa dc_Tide_after_0 33 rfl) 4 rfl ?_
        refine Q_iaload (pc := 66) (DCa dc_Tide_after_0 34 rfl) (fun v19 => ?_)
        refine V_aload_n (pc := 67) (DCa dc_Tide_after_0 35 rfl) rfl 0 rfl ?_
        refine Q_getf (k := 4) (pc := 68) (DCa dc_Tide_after_0 36 rfl) cls_11 (Nat.le_of_ble_eq_true rfl) fl_11_27 rfl rfl rfl (fun v20 => ?_)
        refine Q_getf (k := 2) (pc := 71) (DCa dc_Tide_after_0 37 rfl) cls_7 (Nat.le_of_ble_eq_true rfl) fl_11_160 rfl rfl rfl (fun v21 => ?_)
        refine V_iload_n (pc := 74) (DCa dc_Tide_after_0 38 rfl) rfl 3 rfl ?_
        refine Q_iaload (pc := 75) (DCa dc_Tide_after_0 39 rfl) (fun v22 => ?_)
        refine V_imul (pc := 76) (DCa dc_Tide_after_0 40 rfl) ?_
        exact V_ireturn (pc := 77) (DCa dc_Tide_after_0 41 rfl) rfl
theorem sp_Tide_after (F : Nat) (l0 l1 l2 l3 : Int) (h : Hp) : Sp yX11_after cX11_after 5 (some (.int)) 7 173 [(2, l0), (0, l1), (0, l2), (0, l3)] h (Tide_after F l0 l1 l2 l3 h) := Sp_of (by decide +kernel) rfl rfl (Nat.le_of_ble_eq_true rfl) (v_Tide_after F l0 l1 l2 l3 h)

-- TideRakes.lastHolding
def Tide_lastHolding_L2s (F : Nat)  (R2 : Int → Int → Int → Hp → Option (Int × Hp)) (l0 l1 l3 : Int) (h : Hp) : Option (Int × Hp) :=
  if (w32 (l3 + 1)) < 600 then
    (gf h l0 111 4 fun v1 =>
    iv h v1 107 (Shor_holds F v1 l1 (w32 (l3 + 1)) h) fun r2 h3 =>
    if r2 = 0 then
      (some (l3, h3))
    else
      (R2 l0 l1 (w32 (l3 + 1)) h3))
  else
    (some (l3, h))
def Tide_lastHolding_L2 (F : Nat)  : Nat → Int → Int → Int → Hp → Option (Int × Hp)
  | 0 => fun _ _ _ _ => none
  | n + 1 => Tide_lastHolding_L2s F  (Tide_lastHolding_L2 F  n)
def Tide_lastHolding (F : Nat) (l0 l1 l2 : Int) (h : Hp) : Option (Int × Hp) :=
  Tide_lastHolding_L2 F F l0 l1 l2 h

theorem dc_Tide_lastHolding_0 : ∀ q ∈ ([(0, .iload_n 2, 1), (1, .istore_n 3, 1), (2, .iload_n 3, 1), (3, .iconst 1, 1), (4, .iadd, 1), (5, .sipush 600, 3), (8, .if_icmp .ge 23, 3), (11, .aload_n 0, 1), (12, .getfield 27, 3), (15, .aload_n 1, 1), (16, .iload_n 3, 1), (17, .iconst 1, 1), (18, .iadd, 1), (19, .invokevirtual 246, 3), (22, .ifCond .eq 9, 3), (25, .iinc 3 1, 3), (28, .goto (-26), 3), (31, .iload_n 3, 1), (32, .ireturn, 1)] : List (Nat × Instr × Nat)), decode cX11_lastHolding q.1 = .ok (q.2.1, q.2.2) := by decide +kernel
abbrev X_Tide_lastHolding : MX := (cX11_lastHolding, RX11, "lastHolding", 4, (some (.int)), 3, 64)
theorem v_Tide_lastHolding_L2s (F : Nat)  (R2 : Int → Int → Int → Hp → Option (Int × Hp)) (hR2 : ∀ (l0 l1 l3 : Int) (h : Hp), V X_Tide_lastHolding 2 [(0, 2, l0), (1, 2, l1), (3, 0, l3)] [] h (R2 l0 l1 l3 h)) (l0 l1 l3 : Int) (h : Hp) : V X_Tide_lastHolding 2 [(0, 2, l0), (1, 2, l1), (3, 0, l3)] [] h (Tide_lastHolding_L2s F  R2 l0 l1 l3 h) := by
  unfold Tide_lastHolding_L2s
  refine V_iload_n (pc := 2) (DCa dc_Tide_lastHolding_0 2 rfl) rfl 2 rfl ?_
  refine V_iconst (pc := 3) (DCa dc_Tide_lastHolding_0 3 rfl) (by decide) ?_
  refine V_iadd (pc := 4) (DCa dc_Tide_lastHolding_0 4 rfl) ?_
  refine V_sipush (pc := 5) (DCa dc_Tide_lastHolding_0 5 rfl) (by decide) ?_
  refine V_icmp_ge (tgt := 31) (pc := 8) (DCa dc_Tide_lastHolding_0 6 rfl) (by decide) (fun _ => ?_) (fun _ => ?_)
  · refine V_aload_n (pc := 11) (DCa dc_Tide_lastHolding_0 7 rfl) rfl 0 rfl ?_
    refine Q_getf (k := 4) (pc := 12) (DCa dc_Tide_lastHolding_0 8 rfl) cls_11 (Nat.le_of_ble_eq_true rfl) fl_11_27 rfl rfl rfl (fun v1 => ?_)
    refine V_aload_n (pc := 15) (DCa dc_Tide_lastHolding_0 9 rfl) rfl 1 rfl ?_
    refine V_iload_n (pc := 16) (DCa dc_Tide_lastHolding_0 10 rfl) rfl 2 rfl ?_
    refine V_iconst (pc := 17) (DCa dc_Tide_lastHolding_0 11 rfl) (by decide) ?_
    refine V_iadd (pc := 18) (DCa dc_Tide_lastHolding_0 12 rfl) ?_
    refine Q_callv (ci := 7) (st := []) (pc := 19) (DCa dc_Tide_lastHolding_0 13 rfl) (sp_Shor_holds F _ _ _ _) ce_Shor_holds ml_11_246 rfl rfl ⟨Nat.le_of_ble_eq_true rfl, Nat.le_of_ble_eq_true rfl⟩ rfl (Nat.le_of_ble_eq_true rfl) (fun r2 h3 => ?_)
    refine V_if_eq (tgt := 31) (pc := 22) (DCa dc_Tide_lastHolding_0 14 rfl) (by decide) (fun _ => ?_) (fun _ => ?_)
    · refine V_iload_n (pc := 31) (DCa dc_Tide_lastHolding_0 17 rfl) rfl 2 rfl ?_
      exact V_ireturn (pc := 32) (DCa dc_Tide_lastHolding_0 18 rfl) rfl
    · refine V_iinc (ls' := [(0, 2, l0), (1, 2, l1), (3, 0, w32 (l3 + 1))]) (pc := 25) (DCa dc_Tide_lastHolding_0 15 rfl) (Nat.le_of_ble_eq_true rfl) (by decide) 2 rfl rfl ?_
      refine V_goto (tgt := 2) (pc := 28) (DCa dc_Tide_lastHolding_0 16 rfl) (by decide) ?_
      exact hR2 _ _ _ _
  · refine V_iload_n (pc := 31) (DCa dc_Tide_lastHolding_0 17 rfl) rfl 2 rfl ?_
    exact V_ireturn (pc := 32) (DCa dc_Tide_lastHolding_0 18 rfl) rfl
theorem v_Tide_lastHolding_L2 (F : Nat)  (n : Nat) : ∀ (l0 l1 l3 : Int) (h : Hp), V X_Tide_lastHolding 2 [(0, 2, l0), (1, 2, l1), (3, 0, l3)] [] h (Tide_lastHolding_L2 F  n l0 l1 l3 h) := by
  induction n with
  | zero => intros; exact V_none
  | succ n ih => exact fun l0 l1 l3 h => v_Tide_lastHolding_L2s F  _ ih l0 l1 l3 h
theorem v_Tide_lastHolding (F : Nat) (l0 l1 l2 : Int) (h : Hp) : V X_Tide_lastHolding 0 [(0, 2, l0), (1, 2, l1), (2, 0, l2)] [] h (Tide_lastHolding F l0 l1 l2 h) := by
  unfold Tide_lastHolding
  refine V_iload_n (pc := 0) (DCa dc_Tide_lastHolding_0 0 rfl) rfl 2 rfl ?_
  refine V_istore_n (ls' := [(0, 2, l0), (1, 2, l1), (2, 0, l2), (3, 0, l2)]) (pc := 1) (DCa dc_Tide_lastHolding_0 1 rfl) rfl (Nat.le_of_ble_eq_true rfl) rfl ?_
  refine V_pick [0, 1, 3] rfl ?_
  exact v_Tide_lastHolding_L2 F F _ _ _ _
theorem sp_Tide_lastHolding (F : Nat) (l0 l1 l2 : Int) (h : Hp) : Sp yX11_lastHolding cX11_lastHolding 4 (some (.int)) 3 64 [(2, l0), (2, l1), (0, l2)] h (Tide_lastHolding F l0 l1 l2 h) := Sp_of (by decide +kernel) rfl rfl (Nat.le_of_ble_eq_true rfl) (v_Tide_lastHolding F l0 l1 l2 h)

-- TideRakes.window
def Tide_window_B103 (F : Nat)  (l2 l5 : Int) (h : Hp) : Option (Int × Hp) :=
  if l2 = (-1) then
    (some (l5, h))
  else
    (some ((-1), h))
def Tide_window_B72 (F : Nat)  (l0 l3 l4 l7 : Int) (h : Hp) : Option (Int × Hp) :=
  if l3 = 0 then
    (some (l7, h))
  else
    (iv h l0 111 (Tide_lastHolding F l0 l4 l7 h) fun r9 h10 =>
    some (r9, h10))
def Tide_window_L35s (F : Nat)  (R35 : Int → Int → Int → Int → Int → Int → Int → Hp → Option (Int × Hp)) (l0 l2 l3 l4 l5 l6 l7 : Int) (h : Hp) : Option (Int × Hp) :=
  if l7 < 600 then
    (gf h l0 111 4 fun v6 =>
    iv h v6 107 (Shor_holds F v6 l4 l7 h) fun r7 h8 =>
    if r7 = 0 then
      (R35 l0 l2 l3 l4 l5 r7 (w32 (l7 + 1)) h8)
    else
      (if l6 = 0 then
        (if l5 = l2 then
          (Tide_window_B72 F l0 l3 l4 l7 h8)
        else
          (R35 l0 l2 l3 l4 (w32 (l5 + 1)) r7 (w32 (l7 + 1)) h8))
      else
        (R35 l0 l2 l3 l4 l5 r7 (w32 (l7 + 1)) h8)))
  else
    (Tide_window_B103 F l2 l5 h)
def Tide_window_L35 (F : Nat)  : Nat → Int → Int → Int → Int → Int → Int → Int → Hp → Option (Int × Hp)
  | 0 => fun _ _ _ _ _ _ _ _ => none
  | n + 1 => Tide_window_L35s F  (Tide_window_L35 F  n)
def Tide_window (F : Nat) (l0 l1 l2 l3 : Int) (h : Hp) : Option (Int × Hp) :=
  iv h l0 111 (Tide_isPart F l0 l1 h) fun r1 h2 =>
  if r1 = 0 then
    (some ((-1), h2))
  else
    (if l2 < (-1) then
      (some ((-1), h2))
    else
      (gf h2 l0 111 4 fun v3 =>
      gf h2 v3 107 3 fun v4 =>
      al h2 v4 5 l1 fun v5 =>
      Tide_window_L35 F F l0 l2 l3 v5 0 0 0 h2))

theorem dc_Tide_window_0 : ∀ q ∈ ([(0, .aload_n 0, 1), (1, .iload_n 1, 1), (2, .invokevirtual 102, 3), (5, .ifCond .eq 8, 3), (8, .iload_n 2, 1), (9, .iconst (-1), 1), (10, .if_icmp .ge 5, 3), (13, .iconst (-1), 1), (14, .ireturn, 1), (15, .aload_n 0, 1), (16, .getfield 27, 3), (19, .getfield 106, 3), (22, .iload_n 1, 1), (23, .aaload, 1), (24, .astore 4, 2), (26, .iconst 0, 1), (27, .istore 5, 2), (29, .iconst 0, 1), (30, .istore 6, 2), (32, .iconst 0, 1), (33, .istore 7, 2), (35, .iload 7, 2), (37, .sipush 600, 3), (40, .if_icmp .ge 63, 3), (43, .aload_n 0, 1), (44, .getfield 27, 3), (47, .aload 4, 2), (49, .iload 7, 2), (51, .invokevirtual 246, 3), (54, .istore 8, 2), (56, .iload 8, 2), (58, .ifCond .eq 35, 3), (61, .iload 6, 2), (63, .ifCond .ne 30, 3), (66, .iload 5, 2), (68, .iload_n 2, 1), (69, .if_icmp .ne 21, 3), (72, .iload_n 3, 1), (73, .ifCond .eq 14, 3), (76, .aload_n 0, 1), (77, .aload 4, 2), (79, .iload 7, 2), (81, .invokevirtual 250, 3), (84, .goto 5, 3), (87, .iload 7, 2), (89, .ireturn, 1), (90, .iinc 5 1, 3), (93, .iload 8, 2), (95, .istore 6, 2), (97, .iinc 7 1, 3)] : List (Nat × Instr × Nat)), decode cX11_window q.1 = .ok (q.2.1, q.2.2) := by decide +kernel
theorem dc_Tide_window_1 : ∀ q ∈ ([(100, .goto (-65), 3), (103, .iload_n 2, 1), (104, .iconst (-1), 1), (105, .if_icmp .ne 8, 3), (108, .iload 5, 2), (110, .goto 4, 3), (113, .iconst (-1), 1), (114, .ireturn, 1)] : List (Nat × Instr × Nat)), decode cX11_window q.1 = .ok (q.2.1, q.2.2) := by decide +kernel
abbrev X_Tide_window : MX := (cX11_window, RX11, "window", 9, (some (.int)), 4, 87)
theorem v_Tide_window_B103 (F : Nat)  (l2 l5 : Int) (h : Hp) : V X_Tide_window 103 [(2, 0, l2), (5, 0, l5)] [] h (Tide_window_B103 F  l2 l5 h) := by
  unfold Tide_window_B103
  refine V_iload_n (pc := 103) (DCa dc_Tide_window_1 1 rfl) rfl 0 rfl ?_
  refine V_iconst (pc := 104) (DCa dc_Tide_window_1 2 rfl) (by decide) ?_
  refine V_icmp_ne (tgt := 113) (pc := 105) (DCa dc_Tide_window_1 3 rfl) (by decide) (fun _ => ?_) (fun _ => ?_)
  · refine V_iload (pc := 108) (DCa dc_Tide_window_1 4 rfl) 1 rfl ?_
    refine V_goto (tgt := 114) (pc := 110) (DCa dc_Tide_window_1 5 rfl) (by decide) ?_
    exact V_ireturn (pc := 114) (DCa dc_Tide_window_1 7 rfl) rfl
  · refine V_iconst (pc := 113) (DCa dc_Tide_window_1 6 rfl) (by decide) ?_
    exact V_ireturn (pc := 114) (DCa dc_Tide_window_1 7 rfl) rfl
theorem v_Tide_window_B72 (F : Nat)  (l0 l3 l4 l7 : Int) (h : Hp) : V X_Tide_window 72 [(0, 2, l0), (3, 0, l3), (4, 2, l4), (7, 0, l7)] [] h (Tide_window_B72 F  l0 l3 l4 l7 h) := by
  unfold Tide_window_B72
  refine V_iload_n (pc := 72) (DCa dc_Tide_window_0 37 rfl) rfl 1 rfl ?_
  refine V_if_eq (tgt := 87) (pc := 73) (DCa dc_Tide_window_0 38 rfl) (by decide) (fun _ => ?_) (fun _ => ?_)
  · refine V_iload (pc := 87) (DCa dc_Tide_window_0 44 rfl) 3 rfl ?_
    exact V_ireturn (pc := 89) (DCa dc_Tide_window_0 45 rfl) rfl
  · refine V_aload_n (pc := 76) (DCa dc_Tide_window_0 39 rfl) rfl 0 rfl ?_
    refine V_aload (pc := 77) (DCa dc_Tide_window_0 40 rfl) 2 rfl ?_
    refine V_iload (pc := 79) (DCa dc_Tide_window_0 41 rfl) 3 rfl ?_
    refine Q_callv (ci := 11) (st := []) (pc := 81) (DCa dc_Tide_window_0 42 rfl) (sp_Tide_lastHolding F _ _ _ _) ce_Tide_lastHolding ml_11_250 rfl rfl ⟨Nat.le_of_ble_eq_true rfl, Nat.le_of_ble_eq_true rfl⟩ rfl (Nat.le_of_ble_eq_true rfl) (fun r9 h10 => ?_)
    refine V_goto (tgt := 89) (pc := 84) (DCa dc_Tide_window_0 43 rfl) (by decide) ?_
    exact V_ireturn (pc := 89) (DCa dc_Tide_window_0 45 rfl) rfl
theorem v_Tide_window_L35s (F : Nat)  (R35 : Int → Int → Int → Int → Int → Int → Int → Hp → Option (Int × Hp)) (hR35 : ∀ (l0 l2 l3 l4 l5 l6 l7 : Int) (h : Hp), V X_Tide_window 35 [(0, 2, l0), (2, 0, l2), (3, 0, l3), (4, 2, l4), (5, 0, l5), (6, 0, l6), (7, 0, l7)] [] h (R35 l0 l2 l3 l4 l5 l6 l7 h)) (l0 l2 l3 l4 l5 l6 l7 : Int) (h : Hp) : V X_Tide_window 35 [(0, 2, l0), (2, 0, l2), (3, 0, l3), (4, 2, l4), (5, 0, l5), (6, 0, l6), (7, 0, l7)] [] h (Tide_window_L35s F  R35 l0 l2 l3 l4 l5 l6 l7 h) := by
  unfold Tide_window_L35s
  refine V_iload (pc := 35) (DCa dc_Tide_window_0 21 rfl) 6 rfl ?_
  refine V_sipush (pc := 37) (DCa dc_Tide_window_0 22 rfl) (by decide) ?_
  refine V_icmp_ge (tgt := 103) (pc := 40) (DCa dc_Tide_window_0 23 rfl) (by decide) (fun _ => ?_) (fun _ => ?_)
  · refine V_aload_n (pc := 43) (DCa dc_Tide_window_0 24 rfl) rfl 0 rfl ?_
    refine Q_getf (k := 4) (pc := 44) (DCa dc_Tide_window_0 25 rfl) cls_11 (Nat.le_of_ble_eq_true rfl) fl_11_27 rfl rfl rfl (fun v6 => ?_)
    refine V_aload (pc := 47) (DCa dc_Tide_window_0 26 rfl) 3 rfl ?_
    refine V_iload (pc := 49) (DCa dc_Tide_window_0 27 rfl) 6 rfl ?_
    refine Q_callv (ci := 7) (st := []) (pc := 51) (DCa dc_Tide_window_0 28 rfl) (sp_Shor_holds F _ _ _ _) ce_Shor_holds ml_11_246 rfl rfl ⟨Nat.le_of_ble_eq_true rfl, Nat.le_of_ble_eq_true rfl⟩ rfl (Nat.le_of_ble_eq_true rfl) (fun r7 h8 => ?_)
    refine V_istore (ls' := [(0, 2, l0), (2, 0, l2), (3, 0, l3), (4, 2, l4), (5, 0, l5), (6, 0, l6), (7, 0, l7), (8, 0, r7)]) (pc := 54) (DCa dc_Tide_window_0 29 rfl) (Nat.le_of_ble_eq_true rfl) rfl ?_
    refine V_iload (pc := 56) (DCa dc_Tide_window_0 30 rfl) 7 rfl ?_
    refine V_if_eq (tgt := 93) (pc := 58) (DCa dc_Tide_window_0 31 rfl) (by decide) (fun _ => ?_) (fun _ => ?_)
    · refine V_iload (pc := 93) (DCa dc_Tide_window_0 47 rfl) 7 rfl ?_
      refine V_istore (ls' := [(0, 2, l0), (2, 0, l2), (3, 0, l3), (4, 2, l4), (5, 0, l5), (6, 0, r7), (7, 0, l7), (8, 0, r7)]) (pc := 95) (DCa dc_Tide_window_0 48 rfl) (Nat.le_of_ble_eq_true rfl) rfl ?_
      refine V_iinc (ls' := [(0, 2, l0), (2, 0, l2), (3, 0, l3), (4, 2, l4), (5, 0, l5), (6, 0, r7), (7, 0, w32 (l7 + 1)), (8, 0, r7)]) (pc := 97) (DCa dc_Tide_window_0 49 rfl) (Nat.le_of_ble_eq_true rfl) (by decide) 6 rfl rfl ?_
      refine V_goto (tgt := 35) (pc := 100) (DCa dc_Tide_window_1 0 rfl) (by decide) ?_
      refine V_pick [0, 1, 2, 3, 4, 5, 6] rfl ?_
      exact hR35 _ _ _ _ _ _ _ _
    · refine V_iload (pc := 61) (DCa dc_Tide_window_0 32 rfl) 5 rfl ?_
      refine V_if_ne (tgt := 93) (pc := 63) (DCa dc_Tide_window_0 33 rfl) (by decide) (fun _ => ?_) (fun _ => ?_)
      · refine V_iload (pc := 66) (DCa dc_Tide_window_0 34 rfl) 4 rfl ?_
        refine V_iload_n (pc := 68) (DCa dc_Tide_window_0 35 rfl) rfl 1 rfl ?_
        refine V_icmp_ne (tgt := 90) (pc := 69) (DCa dc_Tide_window_0 36 rfl) (by decide) (fun _ => ?_) (fun _ => ?_)
        · refine V_pick [0, 2, 3, 6] rfl ?_
          exact v_Tide_window_B72 F _ _ _ _ _
        · refine V_iinc (ls' := [(0, 2, l0), (2, 0, l2), (3, 0, l3), (4, 2, l4), (5, 0, w32 (l5 + 1)), (6, 0, l6), (7, 0, l7), (8, 0, r7)]) (pc := 90) (DCa dc_Tide_window_0 46 rfl) (Nat.le_of_ble_eq_true rfl) (by decide) 4 rfl rfl ?_
          refine V_iload (pc := 93) (DCa dc_Tide_window_0 47 rfl) 7 rfl ?_
          refine V_istore (ls' := [(0, 2, l0), (2, 0, l2), (3, 0, l3), (4, 2, l4), (5, 0, w32 (l5 + 1)), (6, 0, r7), (7, 0, l7), (8, 0, r7)]) (pc := 95) (DCa dc_Tide_window_0 48 rfl) (Nat.le_of_ble_eq_true rfl) rfl ?_
          refine V_iinc (ls' := [(0, 2, l0), (2, 0, l2), (3, 0, l3), (4, 2, l4), (5, 0, w32 (l5 + 1)), (6, 0, r7), (7, 0, w32 (l7 + 1)), (8, 0, r7)]) (pc := 97) (DCa dc_Tide_window_0 49 rfl) (Nat.le_of_ble_eq_true rfl) (by decide) 6 rfl rfl ?_
          refine V_goto (tgt := 35) (pc := 100) (DCa dc_Tide_window_1 0 rfl) (by decide) ?_
          refine V_pick [0, 1, 2, 3, 4, 5, 6] rfl ?_
          exact hR35 _ _ _ _ _ _ _ _
      · refine V_iload (pc := 93) (DCa dc_Tide_window_0 47 rfl) 7 rfl ?_
        refine V_istore (ls' := [(0, 2, l0), (2, 0, l2), (3, 0, l3), (4, 2, l4), (5, 0, l5), (6, 0, r7), (7, 0, l7), (8, 0, r7)]) (pc := 95) (DCa dc_Tide_window_0 48 rfl) (Nat.le_of_ble_eq_true rfl) rfl ?_
        refine V_iinc (ls' := [(0, 2, l0), (2, 0, l2), (3, 0, l3), (4, 2, l4), (5, 0, l5), (6, 0, r7), (7, 0, w32 (l7 + 1)), (8, 0, r7)]) (pc := 97) (DCa dc_Tide_window_0 49 rfl) (Nat.le_of_ble_eq_true rfl) (by decide) 6 rfl rfl ?_
        refine V_goto (tgt := 35) (pc := 100) (DCa dc_Tide_window_1 0 rfl) (by decide) ?_
        refine V_pick [0, 1, 2, 3, 4, 5, 6] rfl ?_
        exact hR35 _ _ _ _ _ _ _ _
  · refine V_pick [1, 4] rfl ?_
    exact v_Tide_window_B103 F _ _ _
theorem v_Tide_window_L35 (F : Nat)  (n : Nat) : ∀ (l0 l2 l3 l4 l5 l6 l7 : Int) (h : Hp), V X_Tide_window 35 [(0, 2, l0), (2, 0, l2), (3, 0, l3), (4, 2, l4), (5, 0, l5), (6, 0, l6), (7, 0, l7)] [] h (Tide_window_L35 F  n l0 l2 l3 l4 l5 l6 l7 h) := by
  induction n with
  | zero => intros; exact V_none
  | succ n ih => exact fun l0 l2 l3 l4 l5 l6 l7 h => v_Tide_window_L35s F  _ ih l0 l2 l3 l4 l5 l6 l7 h
theorem v_Tide_window (F : Nat) (l0 l1 l2 l3 : Int) (h : Hp) : V X_Tide_window 0 [(0, 2, l0), (1, 0, l1), (2, 0, l2), (3, 0, l3)] [] h (Tide_window F l0 l1 l2 l3 h) := by
  unfold Tide_window
  refine V_aload_n (pc := 0) (DCa dc_Tide_window_0 0 rfl) rfl 0 rfl ?_
  refine V_iload_n (pc := 1) (DCa dc_Tide_window_0 1 rfl) rfl 1 rfl ?_
  refine Q_callv (ci := 11) (st := []) (pc := 2) (DCa dc_Tide_window_0 2 rfl) (sp_Tide_isPart F _ _ _) ce_Tide_isPart ml_11_102 rfl rfl ⟨Nat.le_of_ble_eq_true rfl, Nat.le_of_ble_eq_true rfl⟩ rfl (Nat.le_of_ble_eq_true rfl) (fun r1 h2 => ?_)
  refine V_if_eq (tgt := 13) (pc := 5) (DCa dc_Tide_window_0 3 rfl) (by decide) (fun _ => ?_) (fun _ => ?_)
  · refine V_iconst (pc := 13) (DCa dc_Tide_window_0 7 rfl) (by decide) ?_
    exact V_ireturn (pc := 14) (DCa dc_Tide_window_0 8 rfl) rfl
  · refine V_iload_n (pc := 8) (DCa dc_Tide_window_0 4 rfl) rfl 2 rfl ?_
    refine V_iconst (pc := 9) (DCa dc_Tide_window_0 5 rfl) (by decide) ?_
    refine V_icmp_ge (tgt := 15) (pc := 10) (DCa dc_Tide_window_0 6 rfl) (by decide) (fun _ => ?_) (fun _ => ?_)
    · refine V_iconst (pc := 13) (DCa dc_Tide_window_0 7 rfl) (by decide) ?_
      exact V_ireturn (pc := 14) (DCa dc_Tide_window_0 8 rfl) rfl
    · refine V_aload_n (pc := 15) (DCa dc_Tide_window_0 9 rfl) rfl 0 rfl ?_
      refine Q_getf (k := 4) (pc := 16) (DCa dc_Tide_window_0 10 rfl) cls_11 (Nat.le_of_ble_eq_true rfl) fl_11_27 rfl rfl rfl (fun v3 => ?_)
      refine Q_getf (k := 3) (pc := 19) (DCa dc_Tide_window_0 11 rfl) cls_7 (Nat.le_of_ble_eq_true rfl) fl_11_106 rfl rfl rfl (fun v4 => ?_)
      refine V_iload_n (pc := 22) (DCa dc_Tide_window_0 12 rfl) rfl 1 rfl ?_
      refine Q_aaload (pc := 23) (DCa dc_Tide_window_0 13 rfl) (by decide) rfl rfl (fun v5 => ?_)
      refine V_astore (ls' := [(0, 2, l0), (1, 0, l1), (2, 0, l2), (3, 0, l3), (4, 2, v5)]) (pc := 24) (DCa dc_Tide_window_0 14 rfl) (Nat.le_of_ble_eq_true rfl) rfl ?_
      refine V_iconst (pc := 26) (DCa dc_Tide_window_0 15 rfl) (by decide) ?_
      refine V_istore (ls' := [(0, 2, l0), (1, 0, l1), (2, 0, l2), (3, 0, l3), (4, 2, v5), (5, 0, 0)]) (pc := 27) (DCa dc_Tide_window_0 16 rfl) (Nat.le_of_ble_eq_true rfl) rfl ?_
      refine V_iconst (pc := 29) (DCa dc_Tide_window_0 17 rfl) (by decide) ?_
      refine V_istore (ls' := [(0, 2, l0), (1, 0, l1), (2, 0, l2), (3, 0, l3), (4, 2, v5), (5, 0, 0), (6, 0, 0)]) (pc := 30) (DCa dc_Tide_window_0 18 rfl) (Nat.le_of_ble_eq_true rfl) rfl ?_
      refine V_iconst (pc := 32) (DCa dc_Tide_window_0 19 rfl) (by decide) ?_
      refine V_istore (ls' := [(0, 2, l0), (1, 0, l1), (2, 0, l2), (3, 0, l3), (4, 2, v5), (5, 0, 0), (6, 0, 0), (7, 0, 0)]) (pc := 33) (DCa dc_Tide_window_0 20 rfl) (Nat.le_of_ble_eq_true rfl) rfl ?_
      refine V_pick [0, 2, 3, 4, 5, 6, 7] rfl ?_
      exact v_Tide_window_L35 F F _ _ _ _ _ _ _ _
theorem sp_Tide_window (F : Nat) (l0 l1 l2 l3 : Int) (h : Hp) : Sp yX11_window cX11_window 9 (some (.int)) 4 87 [(2, l0), (0, l1), (0, l2), (0, l3)] h (Tide_window F l0 l1 l2 l3 h) := Sp_of (by decide +kernel) rfl rfl (Nat.le_of_ble_eq_true rfl) (v_Tide_window F l0 l1 l2 l3 h)

-- TideRakes.large
def Tide_large (F : Nat) (l0 l1 : Int) (h : Hp) : Option (Int × Hp) :=
  cl (Tide_isBound F l1 h) fun r1 h2 =>
  if r1 = 0 then
    (some ((-1), h2))
  else
    (gf h2 l0 111 9 fun v3 =>
    gf h2 l0 111 4 fun v4 =>
    iv h2 v3 102 (Plan_largest F v3 v4 l1 h2) fun r5 h6 =>
    some (r5, h6))

theorem dc_Tide_large_0 : ∀ q ∈ ([(0, .iload_n 1, 1), (1, .invokestatic 201, 3), (4, .ifCond .eq 18, 3), (7, .aload_n 0, 1), (8, .getfield 56, 3), (11, .aload_n 0, 1), (12, .getfield 27, 3), (15, .iload_n 1, 1), (16, .invokevirtual 254, 3), (19, .goto 4, 3), (22, .iconst (-1), 1), (23, .ireturn, 1)] : List (Nat × Instr × Nat)), decode cX11_large q.1 = .ok (q.2.1, q.2.2) := by decide +kernel
abbrev X_Tide_large : MX := (cX11_large, RX11, "large", 2, (some (.int)), 7, 166)
theorem v_Tide_large (F : Nat) (l0 l1 : Int) (h : Hp) : V X_Tide_large 0 [(0, 2, l0), (1, 0, l1)] [] h (Tide_large F l0 l1 h) := by
  unfold Tide_large
  refine V_iload_n (pc := 0) (DCa dc_Tide_large_0 0 rfl) rfl 1 rfl ?_
  refine Q_calls (st := []) (pc := 1) (DCa dc_Tide_large_0 1 rfl) (sp_Tide_isBound F _ _) ce_Tide_isBound ml_11_201 rfl ⟨Nat.le_of_ble_eq_true rfl, Nat.le_of_ble_eq_true rfl⟩ rfl (Nat.le_of_ble_eq_true rfl) (fun r1 h2 => ?_)
  refine V_if_eq (tgt := 22) (pc := 4) (DCa dc_Tide_large_0 2 rfl) (by decide) (fun _ => ?_) (fun _ => ?_)
  · refine V_iconst (pc := 22) (DCa dc_Tide_large_0 10 rfl) (by decide) ?_
    exact V_ireturn (pc := 23) (DCa dc_Tide_large_0 11 rfl) rfl
  · refine V_aload_n (pc := 7) (DCa dc_Tide_large_0 3 rfl) rfl 0 rfl ?_
    refine Q_getf (k := 9) (pc := 8) (DCa dc_Tide_large_0 4 rfl) cls_11 (Nat.le_of_ble_eq_true rfl) fl_11_56 rfl rfl rfl (fun v3 => ?_)
    refine V_aload_n (pc := 11) (DCa dc_Tide_large_0 5 rfl) rfl 0 rfl ?_
    refine Q_getf (k := 4) (pc := 12) (DCa dc_Tide_large_0 6 rfl) cls_11 (Nat.le_of_ble_eq_true rfl) fl_11_27 rfl rfl rfl (fun v4 => ?_)
    refine V_iload_n (pc := 15) (DCa dc_Tide_large_0 7 rfl) rfl 1 rfl ?_
    refine Q_callv (ci := 2) (st := []) (pc := 16) (DCa dc_Tide_large_0 8 rfl) (sp_Plan_largest F _ _ _ _) ce_Plan_largest ml_11_254 rfl rfl ⟨Nat.le_of_ble_eq_true rfl, Nat.le_of_ble_eq_true rfl⟩ rfl (Nat.le_of_ble_eq_true rfl) (fun r5 h6 => ?_)
    refine V_goto (tgt := 23) (pc := 19) (DCa dc_Tide_large_0 9 rfl) (by decide) ?_
    exact V_ireturn (pc := 23) (DCa dc_Tide_large_0 11 rfl) rfl
theorem sp_Tide_large (F : Nat) (l0 l1 : Int) (h : Hp) : Sp yX11_large cX11_large 2 (some (.int)) 7 166 [(2, l0), (0, l1)] h (Tide_large F l0 l1 h) := Sp_of (by decide +kernel) rfl rfl (Nat.le_of_ble_eq_true rfl) (v_Tide_large F l0 l1 h)
