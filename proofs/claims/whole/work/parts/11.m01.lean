-- TideRakes$Rows.fill
def Rows_fill_L99s (F : Nat) (R75 : Int → Int → Int → Hp → Option (Int × Hp)) (R99 : Int → Int → Int → Int → Hp → Option (Int × Hp)) (l0 l3 l6 l7 : Int) (h : Hp) : Option (Int × Hp) :=
  gf h l0 104 1 fun v23 =>
  if l7 < v23 then
    (if (iand l6 (ixor l3 (-1))) = 0 then
      (lt (ixor l6 (ishl 1 l7)) fun x24 =>
      if x24 < l6 then
        (iv h l0 104 (Rows_endOf F l0 x24 l7 h) fun r25 h26 =>
        gf h26 l0 104 5 fun v27 =>
        as h26 v27 0 (w32 ((w32 (l6 * 8)) + l7)) r25 fun h28 =>
        gf h28 l0 104 6 fun v29 =>
        gf h28 l0 104 6 fun v30 =>
        al h28 v30 0 l6 fun v31 =>
        lt (imin v31 r25) fun r32 =>
        as h28 v29 0 l6 r32 fun h33 =>
        R99 l0 l3 l6 (w32 (l7 + 1)) h33)
      else
        (R99 l0 l3 l6 (w32 (l7 + 1)) h))
    else
      (R75 l0 l3 (w32 (l6 + 1)) h))
  else
    (R75 l0 l3 (w32 (l6 + 1)) h)
def Rows_fill_L99 (F : Nat) (R75 : Int → Int → Int → Hp → Option (Int × Hp)) : Nat → Int → Int → Int → Int → Hp → Option (Int × Hp)
  | 0 => fun _ _ _ _ _ => none
  | n + 1 => Rows_fill_L99s F R75 (Rows_fill_L99 F R75 n)
def Rows_fill_L75s (F : Nat)  (R75 : Int → Int → Int → Hp → Option (Int × Hp)) (l0 l3 l6 : Int) (h : Hp) : Option (Int × Hp) :=
  gf h l0 104 1 fun v20 =>
  if l6 < (ishl 1 v20) then
    (gf h l0 104 6 fun v21 =>
    as h v21 0 l6 10000 fun h22 =>
    Rows_fill_L99 F R75 F l0 l3 l6 0 h22)
  else
    (some (0, h))
def Rows_fill_L75 (F : Nat)  : Nat → Int → Int → Int → Hp → Option (Int × Hp)
  | 0 => fun _ _ _ _ => none
  | n + 1 => Rows_fill_L75s F  (Rows_fill_L75 F  n)
def Rows_fill_B55 (F : Nat)  (l0 l3 l4 : Int) (h : Hp) : Option (Int × Hp) :=
  iv h l0 104 (Rows_measure F l0 l4 h) fun r15 h16 =>
  gf h16 l0 104 6 fun v17 =>
  gf h16 l4 110 3 fun v18 =>
  as h16 v17 0 0 v18 fun h19 =>
  Rows_fill_L75 F F l0 l3 1 h19
def Rows_fill (F : Nat) (l0 l1 l2 l3 l4 l5 : Int) (h : Hp) : Option (Int × Hp) :=
  pf h l0 104 0 l1 fun h1 =>
  aln h1 l1 5 fun v2 =>
  lt (imin 8 v2) fun r3 =>
  lt (imin l2 r3) fun r4 =>
  pf h1 l0 104 1 r4 fun h5 =>
  pz h5 l0 104 2 l5 fun h6 =>
  gf h6 l0 104 5 fun v7 =>
  aln h6 v7 0 fun v8 =>
  if v8 < 2048 then
    (na h6 0 2048 fun v9 h10 =>
    pf h10 l0 104 5 v9 fun h11 =>
    na h11 0 256 fun v12 h13 =>
    pf h13 l0 104 6 v12 fun h14 =>
    Rows_fill_B55 F l0 l3 l4 h14)
  else
    (Rows_fill_B55 F l0 l3 l4 h6)

theorem dc_Rows_fill_0 : ∀ q ∈ ([(0, .aload_n 0, 1), (1, .aload_n 1, 1), (2, .putfield 11, 3), (5, .aload_n 0, 1), (6, .iload_n 2, 1), (7, .bipush 8, 2), (9, .aload_n 1, 1), (10, .arraylength, 1), (11, .invokestatic 30, 3), (14, .invokestatic 30, 3), (17, .putfield 36, 3), (20, .aload_n 0, 1), (21, .iload 5, 2), (23, .putfield 40, 3), (26, .aload_n 0, 1), (27, .getfield 24, 3), (30, .arraylength, 1), (31, .sipush 2048, 3), (34, .if_icmp .ge 21, 3), (37, .aload_n 0, 1), (38, .sipush 2048, 3), (41, .newarray .int, 2), (43, .putfield 24, 3), (46, .aload_n 0, 1), (47, .sipush 256, 3), (50, .newarray .int, 2), (52, .putfield 27, 3), (55, .aload_n 0, 1), (56, .aload 4, 2), (58, .invokevirtual 44, 3), (61, .aload_n 0, 1), (62, .getfield 27, 3), (65, .iconst 0, 1), (66, .aload 4, 2), (68, .getfield 48, 3), (71, .iastore, 1), (72, .iconst 1, 1), (73, .istore 6, 2), (75, .iload 6, 2), (77, .iconst 1, 1), (78, .aload_n 0, 1), (79, .getfield 36, 3), (82, .ishl, 1), (83, .if_icmp .ge 106, 3), (86, .aload_n 0, 1), (87, .getfield 27, 3), (90, .iload 6, 2), (92, .sipush 10000, 3), (95, .iastore, 1), (96, .iconst 0, 1)] : List (Nat × Instr × Nat)), decode cX4_fill q.1 = .ok (q.2.1, q.2.2) := by decide +kernel
theorem dc_Rows_fill_1 : ∀ q ∈ ([(97, .istore 7, 2), (99, .iload 7, 2), (101, .aload_n 0, 1), (102, .getfield 36, 3), (105, .if_icmp .ge 78, 3), (108, .iload 6, 2), (110, .iload_n 3, 1), (111, .iconst (-1), 1), (112, .ixor, 1), (113, .iand, 1), (114, .ifCond .ne 69, 3), (117, .iload 6, 2), (119, .iconst 1, 1), (120, .iload 7, 2), (122, .ishl, 1), (123, .ixor, 1), (124, .istore 8, 2), (126, .iload 8, 2), (128, .iload 6, 2), (130, .if_icmp .ge 47, 3), (133, .aload_n 0, 1), (134, .iload 8, 2), (136, .iload 7, 2), (138, .invokevirtual 53, 3), (141, .istore 9, 2), (143, .aload_n 0, 1), (144, .getfield 24, 3), (147, .iload 6, 2), (149, .bipush 8, 2), (151, .imul, 1), (152, .iload 7, 2), (154, .iadd, 1), (155, .iload 9, 2), (157, .iastore, 1), (158, .aload_n 0, 1), (159, .getfield 27, 3), (162, .iload 6, 2), (164, .aload_n 0, 1), (165, .getfield 27, 3), (168, .iload 6, 2), (170, .iaload, 1), (171, .iload 9, 2), (173, .invokestatic 30, 3), (176, .iastore, 1), (177, .iinc 7 1, 3), (180, .goto (-81), 3), (183, .iinc 6 1, 3), (186, .goto (-111), 3), (189, .return_, 1)] : List (Nat × Instr × Nat)), decode cX4_fill q.1 = .ok (q.2.1, q.2.2) := by decide +kernel
abbrev X_Rows_fill : MX := (cX4_fill, RX4, "fill", 10, none, 4, 89)
theorem v_Rows_fill_L99s (F : Nat) (R75 : Int → Int → Int → Hp → Option (Int × Hp)) (hR75 : ∀ (l0 l3 l6 : Int) (h : Hp), V X_Rows_fill 75 [(0, 2, l0), (3, 0, l3), (6, 0, l6)] [] h (R75 l0 l3 l6 h)) (R99 : Int → Int → Int → Int → Hp → Option (Int × Hp)) (hR99 : ∀ (l0 l3 l6 l7 : Int) (h : Hp), V X_Rows_fill 99 [(0, 2, l0), (3, 0, l3), (6, 0, l6), (7, 0, l7)] [] h (R99 l0 l3 l6 l7 h)) (l0 l3 l6 l7 : Int) (h : Hp) : V X_Rows_fill 99 [(0, 2, l0), (3, 0, l3), (6, 0, l6), (7, 0, l7)] [] h (Rows_fill_L99s F R75 R99 l0 l3 l6 l7 h) := by
  unfold Rows_fill_L99s
  refine V_iload (pc := 99) (DCa dc_Rows_fill_1 1 rfl) 3 rfl ?_
  refine V_aload_n (pc := 101) (DCa dc_Rows_fill_1 2 rfl) rfl 0 rfl ?_
  refine Q_getf (k := 1) (pc := 102) (DCa dc_Rows_fill_1 3 rfl) cls_4 (Nat.le_of_ble_eq_true rfl) fl_4_36 rfl rfl rfl (fun v23 => ?_)
  refine V_icmp_ge (tgt := 183) (pc := 105) (DCa dc_Rows_fill_1 4 rfl) (by decide) (fun _ => ?_) (fun _ => ?_)
  · refine V_iload (pc := 108) (DCa dc_Rows_fill_1 5 rfl) 2 rfl ?_
    refine V_iload_n (pc := 110) (DCa dc_Rows_fill_1 6 rfl) rfl 1 rfl ?_
    refine V_iconst (pc := 111) (DCa dc_Rows_fill_1 7 rfl) (by decide) ?_
    refine V_ixor (pc := 112) (DCa dc_Rows_fill_1 8 rfl) ?_
    refine V_iand (pc := 113) (DCa dc_Rows_fill_1 9 rfl) ?_
    refine V_if_ne (tgt := 183) (pc := 114) (DCa dc_Rows_fill_1 10 rfl) (by decide) (fun _ => ?_) (fun _ => ?_)
    · refine V_iload (pc := 117) (DCa dc_Rows_fill_1 11 rfl) 2 rfl ?_
      refine V_iconst (pc := 119) (DCa dc_Rows_fill_1 12 rfl) (by decide) ?_
      refine V_iload (pc := 120) (DCa dc_Rows_fill_1 13 rfl) 3 rfl ?_
      refine V_ishl (pc := 122) (DCa dc_Rows_fill_1 14 rfl) ?_
      refine V_ixor (pc := 123) (DCa dc_Rows_fill_1 15 rfl) ?_
      refine Q_lt (fun x24 => ?_)
      refine V_istore (ls' := [(0, 2, l0), (3, 0, l3), (6, 0, l6), (7, 0, l7), (8, 0, x24)]) (pc := 124) (DCa dc_Rows_fill_1 16 rfl) (Nat.le_of_ble_eq_true rfl) rfl ?_
      refine V_iload (pc := 126) (DCa dc_Rows_fill_1 17 rfl) 4 rfl ?_
      refine V_iload (pc := 128) (DCa dc_Rows_fill_1 18 rfl) 2 rfl ?_
      refine V_icmp_ge (tgt := 177) (pc := 130) (DCa dc_Rows_fill_1 19 rfl) (by decide) (fun _ => ?_) (fun _ => ?_)
      · refine V_aload_n (pc := 133) (DCa dc_Rows_fill_1 20 rfl) rfl 0 rfl ?_
        refine V_iload (pc := 134) (DCa dc_Rows_fill_1 21 rfl) 4 rfl ?_
        refine V_iload (pc := 136) (DCa dc_Rows_fill_1 22 rfl) 3 rfl ?_
        refine Q_callv (ci := 4) (st := []) (pc := 138) (DCa dc_Rows_fill_1 23 rfl) (sp_Rows_endOf F _ _ _ _) ce_Rows_endOf ml_4_53 rfl rfl ⟨Nat.le_of_ble_eq_true rfl, Nat.le_of_ble_eq_true rfl⟩ rfl (Nat.le_of_ble_eq_true rfl) (fun r25 h26 => ?_)
        refine V_istore (ls' := [(0, 2, l0), (3, 0, l3), (6, 0, l6), (7, 0, l7), (8, 0, x24), (9, 0, r25)]) (pc := 141) (DCa dc_Rows_fill_1 24 rfl) (Nat.le_of_ble_eq_true rfl) rfl ?_
        refine V_aload_n (pc := 143) (DCa dc_Rows_fill_1 25 rfl) rfl 0 rfl ?_
        refine Q_getf (k := 5) (pc := 144) (DCa dc_Rows_fill_1 26 rfl) cls_4 (Nat.le_of_ble_eq_true rfl) fl_4_24 rfl rfl rfl (fun v27 => ?_)
        refine V_iload (pc := 147) (DCa dc_Rows_fill_1 27 rfl) 2 rfl ?_
        refine V_bipush (pc := 149) (DCa dc_Rows_fill_1 28 rfl) (by decide) ?_
        refine V_imul (pc := 151) (DCa dc_Rows_fill_1 29 rfl) ?_
        refine V_iload (pc := 152) (DCa dc_Rows_fill_1 30 rfl) 3 rfl ?_
        refine V_iadd (pc := 154) (DCa dc_Rows_fill_1 31 rfl) ?_
        refine V_iload (pc := 155) (DCa dc_Rows_fill_1 32 rfl) 5 rfl ?_
        refine Q_iastore (pc := 157) (DCa dc_Rows_fill_1 33 rfl) (fun h28 => ?_)
        refine V_aload_n (pc := 158) (DCa dc_Rows_fill_1 34 rfl) rfl 0 rfl ?_
        refine Q_getf (k := 6) (pc := 159) (DCa dc_Rows_fill_1 35 rfl) cls_4 (Nat.le_of_ble_eq_true rfl) fl_4_27 rfl rfl rfl (fun v29 => ?_)
        refine V_iload (pc := 162) (DCa dc_Rows_fill_1 36 rfl) 2 rfl ?_
        refine V_aload_n (pc := 164) (DCa dc_Rows_fill_1 37 rfl) rfl 0 rfl ?_
        refine Q_getf (k := 6) (pc := 165) (DCa dc_Rows_fill_1 38 rfl) cls_4 (Nat.le_of_ble_eq_true rfl) fl_4_27 rfl rfl rfl (fun v30 => ?_)
        refine V_iload (pc := 168) (DCa dc_Rows_fill_1 39 rfl) 2 rfl ?_
        refine Q_iaload (pc := 170) (DCa dc_Rows_fill_1 40 rfl) (fun v31 => ?_)
        refine V_iload (pc := 171) (DCa dc_Rows_fill_1 41 rfl) 5 rfl ?_
        refine V_mmin (pc := 173) (DCa dc_Rows_fill_1 42 rfl) (tb5 60 rfl rfl) mt_smin mt_i mt_cmin ⟨Nat.le_of_ble_eq_true rfl, Nat.le_of_ble_eq_true rfl⟩ ?_
        refine Q_lt (fun r32 => ?_)
        refine Q_iastore (pc := 176) (DCa dc_Rows_fill_1 43 rfl) (fun h33 => ?_)
        refine V_iinc (ls' := [(0, 2, l0), (3, 0, l3), (6, 0, l6), (7, 0, w32 (l7 + 1)), (8, 0, x24), (9, 0, r25)]) (pc := 177) (DCa dc_Rows_fill_1 44 rfl) (Nat.le_of_ble_eq_true rfl) (by decide) 3 rfl rfl ?_
        refine V_goto (tgt := 99) (pc := 180) (DCa dc_Rows_fill_1 45 rfl) (by decide) ?_
        refine V_pick [0, 1, 2, 3] rfl ?_
        exact hR99 _ _ _ _ _
      · refine V_iinc (ls' := [(0, 2, l0), (3, 0, l3), (6, 0, l6), (7, 0, w32 (l7 + 1)), (8, 0, x24)]) (pc := 177) (DCa dc_Rows_fill_1 44 rfl) (Nat.le_of_ble_eq_true rfl) (by decide) 3 rfl rfl ?_
        refine V_goto (tgt := 99) (pc := 180) (DCa dc_Rows_fill_1 45 rfl) (by decide) ?_
        refine V_pick [0, 1, 2, 3] rfl ?_
        exact hR99 _ _ _ _ _
    · refine V_iinc (ls' := [(0, 2, l0), (3, 0, l3), (6, 0, w32 (l6 + 1)), (7, 0, l7)]) (pc := 183) (DCa dc_Rows_fill_1 46 rfl) (Nat.le_of_ble_eq_true rfl) (by decide) 2 rfl rfl ?_
      refine V_goto (tgt := 75) (pc := 186) (DCa dc_Rows_fill_1 47 rfl) (by decide) ?_
      refine V_pick [0, 1, 2] rfl ?_
      exact hR75 _ _ _ _
  · refine V_iinc (ls' := [(0, 2, l0), (3, 0, l3), (6, 0, w32 (l6 + 1)), (7, 0, l7)]) (pc := 183) (DCa dc_Rows_fill_1 46 rfl) (Nat.le_of_ble_eq_true rfl) (by decide) 2 rfl rfl ?_
    refine V_goto (tgt := 75) (pc := 186) (DCa dc_Rows_fill_1 47 rfl) (by decide) ?_
    refine V_pick [0, 1, 2] rfl ?_
    exact hR75 _ _ _ _
theorem v_Rows_fill_L99 (F : Nat) (R75 : Int → Int → Int → Hp → Option (Int × Hp)) (hR75 : ∀ (l0 l3 l6 : Int) (h : Hp), V X_Rows_fill 75 [(0, 2, l0), (3, 0, l3), (6, 0, l6)] [] h (R75 l0 l3 l6 h)) (n : Nat) : ∀ (l0 l3 l6 l7 : Int) (h : Hp), V X_Rows_fill 99 [(0, 2, l0), (3, 0, l3), (6, 0, l6), (7, 0, l7)] [] h (Rows_fill_L99 F R75 n l0 l3 l6 l7 h) := by
  induction n with
  | zero => intros; exact V_none
  | succ n ih => exact fun l0 l3 l6 l7 h => v_Rows_fill_L99s F R75 hR75 _ ih l0 l3 l6 l7 h
theorem v_Rows_fill_L75s (F : Nat)  (R75 : Int → Int → Int → Hp → Option (Int × Hp)) (hR75 : ∀ (l0 l3 l6 : Int) (h : Hp), V X_Rows_fill 75 [(0, 2, l0), (3, 0, l3), (6, 0, l6)] [] h (R75 l0 l3 l6 h)) (l0 l3 l6 : Int) (h : Hp) : V X_Rows_fill 75 [(0, 2, l0), (3, 0, l3), (6, 0, l6)] [] h (Rows_fill_L75s F  R75 l0 l3 l6 h) := by
  unfold Rows_fill_L75s
  refine V_iload (pc := 75) (DCa dc_Rows_fill_0 38 rfl) 2 rfl ?_
  refine V_iconst (pc := 77) (DCa dc_Rows_fill_0 39 rfl) (by decide) ?_
  refine V_aload_n (pc := 78) (DCa dc_Rows_fill_0 40 rfl) rfl 0 rfl ?_
  refine Q_getf (k := 1) (pc := 79) (DCa dc_Rows_fill_0 41 rfl) cls_4 (Nat.le_of_ble_eq_true rfl) fl_4_36 rfl rfl rfl (fun v20 => ?_)
  refine V_ishl (pc := 82) (DCa dc_Rows_fill_0 42 rfl) ?_
  refine V_icmp_ge (tgt := 189) (pc := 83) (DCa dc_Rows_fill_0 43 rfl) (by decide) (fun _ => ?_) (fun _ => ?_)
  · refine V_aload_n (pc := 86) (DCa dc_Rows_fill_0 44 rfl) rfl 0 rfl ?_
    refine Q_getf (k := 6) (pc := 87) (DCa dc_Rows_fill_0 45 rfl) cls_4 (Nat.le_of_ble_eq_true rfl) fl_4_27 rfl rfl rfl (fun v21 => ?_)
    refine V_iload (pc := 90) (DCa dc_Rows_fill_0 46 rfl) 2 rfl ?_
    refine V_sipush (pc := 92) (DCa dc_Rows_fill_0 47 rfl) (by decide) ?_
    refine Q_iastore (pc := 95) (DCa dc_Rows_fill_0 48 rfl) (fun h22 => ?_)
    refine V_iconst (pc := 96) (DCa dc_Rows_fill_0 49 rfl) (by decide) ?_
    refine V_istore (ls' := [(0, 2, l0), (3, 0, l3), (6, 0, l6), (7, 0, 0)]) (pc := 97) (DCa dc_Rows_fill_1 0 rfl) (Nat.le_of_ble_eq_true rfl) rfl ?_
    exact v_Rows_fill_L99 F R75 hR75 F _ _ _ _ _
  · exact V_return (pc := 189) (DCa dc_Rows_fill_1 48 rfl) rfl
theorem v_Rows_fill_L75 (F : Nat)  (n : Nat) : ∀ (l0 l3 l6 : Int) (h : Hp), V X_Rows_fill 75 [(0, 2, l0), (3, 0, l3), (6, 0, l6)] [] h (Rows_fill_L75 F  n l0 l3 l6 h) := by
  induction n with
  | zero => intros; exact V_none
  | succ n ih => exact fun l0 l3 l6 h => v_Rows_fill_L75s F  _ ih l0 l3 l6 h
theorem v_Rows_fill_B55 (F : Nat)  (l0 l3 l4 : Int) (h : Hp) : V X_Rows_fill 55 [(0, 2, l0), (3, 0, l3), (4, 2, l4)] [] h (Rows_fill_B55 F  l0 l3 l4 h) := by
  unfold Rows_fill_B55
  refine V_aload_n (pc := 55) (DCa dc_Rows_fill_0 27 rfl) rfl 0 rfl ?_
  refine V_aload (pc := 56) (DCa dc_Rows_fill_0 28 rfl) 2 rfl ?_
  refine Q_callv (ci := 4) (st := []) (pc := 58) (DCa dc_Rows_fill_0 29 rfl) (sp_Rows_measure F _ _ _) ce_Rows_measure ml_4_44 rfl rfl ⟨Nat.le_of_ble_eq_true rfl, Nat.le_of_ble_eq_true rfl⟩ rfl (Nat.le_of_ble_eq_true rfl) (fun r15 h16 => ?_)
  refine V_aload_n (pc := 61) (DCa dc_Rows_fill_0 30 rfl) rfl 0 rfl ?_
  refine Q_getf (k := 6) (pc := 62) (DCa dc_Rows_fill_0 31 rfl) cls_4 (Nat.le_of_ble_eq_true rfl) fl_4_27 rfl rfl rfl (fun v17 => ?_)
  refine V_iconst (pc := 65) (DCa dc_Rows_fill_0 32 rfl) (by decide) ?_
  refine V_aload (pc := 66) (DCa dc_Rows_fill_0 33 rfl) 2 rfl ?_
  refine Q_getf (k := 3) (pc := 68) (DCa dc_Rows_fill_0 34 rfl) cls_10 (Nat.le_of_ble_eq_true rfl) fl_4_48 rfl rfl rfl (fun v18 => ?_)
  refine Q_iastore (pc := 71) (DCa dc_Rows_fill_0 35 rfl) (fun h19 => ?_)
  refine V_iconst (pc := 72) (DCa dc_Rows_fill_0 36 rfl) (by decide) ?_
  refine V_istore (ls' := [(0, 2, l0), (3, 0, l3), (4, 2, l4), (6, 0, 1)]) (pc := 73) (DCa dc_Rows_fill_0 37 rfl) (Nat.le_of_ble_eq_true rfl) rfl ?_
  refine V_pick [0, 1, 3] rfl ?_
  exact v_Rows_fill_L75 F F _ _ _ _
theorem v_Rows_fill (F : Nat) (l0 l1 l2 l3 l4 l5 : Int) (h : Hp) : V X_Rows_fill 0 [(0, 2, l0), (1, 2, l1), (2, 0, l2), (3, 0, l3), (4, 2, l4), (5, 0, l5)] [] h (Rows_fill F l0 l1 l2 l3 l4 l5 h) := by
  unfold Rows_fill
  refine V_aload_n (pc := 0) (DCa dc_Rows_fill_0 0 rfl) rfl 0 rfl ?_
  refine V_aload_n (pc := 1) (DCa dc_Rows_fill_0 1 rfl) rfl 1 rfl ?_
  refine Q_putf (k := 0) (pc := 2) (DCa dc_Rows_fill_0 2 rfl) cls_4 (Nat.le_of_ble_eq_true rfl) fl_4_11 rfl rfl rfl (Or.inl rfl) (Or.inr ⟨Or.inr ⟨_, rfl⟩, rfl⟩) (fun h1 => ?_)
  refine V_aload_n (pc := 5) (DCa dc_Rows_fill_0 3 rfl) rfl 0 rfl ?_
  refine V_iload_n (pc := 6) (DCa dc_Rows_fill_0 4 rfl) rfl 2 rfl ?_
  refine V_bipush (pc := 7) (DCa dc_Rows_fill_0 5 rfl) (by decide) ?_
  refine V_aload_n (pc := 9) (DCa dc_Rows_fill_0 6 rfl) rfl 1 rfl ?_
  refine Q_alen (pc := 10) (DCa dc_Rows_fill_0 7 rfl) (by decide) (fun v2 => ?_)
  refine V_mmin (pc := 11) (DCa dc_Rows_fill_0 8 rfl) (tb5 60 rfl rfl) mt_smin mt_i mt_cmin ⟨Nat.le_of_ble_eq_true rfl, Nat.le_of_ble_eq_true rfl⟩ ?_
  refine Q_lt (fun r3 => ?_)
  refine V_mmin (pc := 14) (DCa dc_Rows_fill_0 9 rfl) (tb5 60 rfl rfl) mt_smin mt_i mt_cmin ⟨Nat.le_of_ble_eq_true rfl, Nat.le_of_ble_eq_true rfl⟩ ?_
  refine Q_lt (fun r4 => ?_)
  refine Q_putf (k := 1) (pc := 17) (DCa dc_Rows_fill_0 10 rfl) cls_4 (Nat.le_of_ble_eq_true rfl) fl_4_36 rfl rfl rfl (Or.inl rfl) (Or.inl ⟨rfl, rfl⟩) (fun h5 => ?_)
  refine V_aload_n (pc := 20) (DCa dc_Rows_fill_0 11 rfl) rfl 0 rfl ?_
  refine V_iload (pc := 21) (DCa dc_Rows_fill_0 12 rfl) 5 rfl ?_
  refine Q_putz (k := 2) (pc := 23) (DCa dc_Rows_fill_0 13 rfl) cls_4 (Nat.le_of_ble_eq_true rfl) fl_4_40 rfl rfl rfl (Or.inl rfl) rfl (fun h6 => ?_)
  refine V_aload_n (pc := 26) (DCa dc_Rows_fill_0 14 rfl) rfl 0 rfl ?_
  refine Q_getf (k := 5) (pc := 27) (DCa dc_Rows_fill_0 15 rfl) cls_4 (Nat.le_of_ble_eq_true rfl) fl_4_24 rfl rfl rfl (fun v7 => ?_)
  refine Q_alen (pc := 30) (DCa dc_Rows_fill_0 16 rfl) (by decide) (fun v8 => ?_)
  refine V_sipush (pc := 31) (DCa dc_Rows_fill_0 17 rfl) (by decide) ?_
  refine V_icmp_ge (tgt := 55) (pc := 34) (DCa dc_Rows_fill_0 18 rfl) (by decide) (fun _ => ?_) (fun _ => ?_)
  · refine V_aload_n (pc := 37) (DCa dc_Rows_fill_0 19 rfl) rfl 0 rfl ?_
    refine V_sipush (pc := 38) (DCa dc_Rows_fill_0 20 rfl) (by decide) ?_
    refine Q_newa (pc := 41) (DCa dc_Rows_fill_0 21 rfl) nas_0 (fun v9 h10 => ?_)
    refine Q_putf (k := 5) (pc := 43) (DCa dc_Rows_fill_0 22 rfl) cls_4 (Nat.le_of_ble_eq_true rfl) fl_4_24 rfl rfl rfl (Or.inl rfl) (Or.inr ⟨Or.inr ⟨_, rfl⟩, rfl⟩) (fun h11 => ?_)
    refine V_aload_n (pc := 46) (DCa dc_Rows_fill_0 23 rfl) rfl 0 rfl ?_
    refine V_sipush (pc := 47) (DCa dc_Rows_fill_0 24 rfl) (by decide) ?_
    refine Q_newa (pc := 50) (DCa dc_Rows_fill_0 25 rfl) nas_0 (fun v12 h13 => ?_)
    refine Q_putf (k := 6) (pc := 52) (DCa dc_Rows_fill_0 26 rfl) cls_4 (Nat.le_of_ble_eq_true rfl) fl_4_27 rfl rfl rfl (Or.inl rfl) (Or.inr ⟨Or.inr ⟨_, rfl⟩, rfl⟩) (fun h14 => ?_)
    refine V_pick [0, 3, 4] rfl ?_
    exact v_Rows_fill_B55 F _ _ _ _
  · refine V_pick [0, 3, 4] rfl ?_
    exact v_Rows_fill_B55 F _ _ _ _
theorem sp_Rows_fill (F : Nat) (l0 l1 l2 l3 l4 l5 : Int) (h : Hp) : Sp yX4_fill cX4_fill 10 none 4 89 [(2, l0), (2, l1), (0, l2), (0, l3), (2, l4), (0, l5)] h (Rows_fill F l0 l1 l2 l3 l4 l5 h) := Sp_of (by decide +kernel) rfl rfl (Nat.le_of_ble_eq_true rfl) (v_Rows_fill F l0 l1 l2 l3 l4 l5 h)

-- TideRakes$Stand.neverDone
def Stan_neverDone_L4s (F : Nat)  (R4 : Int → Int → Int → Hp → Option (Int × Hp)) (l0 l1 l2 : Int) (h : Hp) : Option (Int × Hp) :=
  if l2 < 8 then
    (gf h l0 108 1 fun v1 =>
    al h v1 0 l2 fun v2 =>
    if v2 < 0 then
      (lt (ior l1 (ishl 1 l2)) fun x3 =>
      R4 l0 x3 (w32 (l2 + 1)) h)
    else
      (R4 l0 l1 (w32 (l2 + 1)) h))
  else
    (some (l1, h))
def Stan_neverDone_L4 (F : Nat)  : Nat → Int → Int → Int → Hp → Option (Int × Hp)
  | 0 => fun _ _ _ _ => none
  | n + 1 => Stan_neverDone_L4s F  (Stan_neverDone_L4 F  n)
def Stan_neverDone (F : Nat) (l0 : Int) (h : Hp) : Option (Int × Hp) :=
  Stan_neverDone_L4 F F l0 0 0 h

theorem dc_Stan_neverDone_0 : ∀ q ∈ ([(0, .iconst 0, 1), (1, .istore_n 1, 1), (2, .iconst 0, 1), (3, .istore_n 2, 1), (4, .iload_n 2, 1), (5, .bipush 8, 2), (7, .if_icmp .ge 24, 3), (10, .aload_n 0, 1), (11, .getfield 17, 3), (14, .iload_n 2, 1), (15, .iaload, 1), (16, .ifCond .ge 9, 3), (19, .iload_n 1, 1), (20, .iconst 1, 1), (21, .iload_n 2, 1), (22, .ishl, 1), (23, .ior, 1), (24, .istore_n 1, 1), (25, .iinc 2 1, 3), (28, .goto (-24), 3), (31, .iload_n 1, 1), (32, .ireturn, 1)] : List (Nat × Instr × Nat)), decode cX8_neverDone q.1 = .ok (q.2.1, q.2.2) := by decide +kernel
abbrev X_Stan_neverDone : MX := (cX8_neverDone, RX8, "neverDone", 3, (some (.int)), 1, 20)
theorem v_Stan_neverDone_L4s (F : Nat)  (R4 : Int → Int → Int → Hp → Option (Int × Hp)) (hR4 : ∀ (l0 l1 l2 : Int) (h : Hp), V X_Stan_neverDone 4 [(0, 2, l0), (1, 0, l1), (2, 0, l2)] [] h (R4 l0 l1 l2 h)) (l0 l1 l2 : Int) (h : Hp) : V X_Stan_neverDone 4 [(0, 2, l0), (1, 0, l1), (2, 0, l2)] [] h (Stan_neverDone_L4s F  R4 l0 l1 l2 h) := by
  unfold Stan_neverDone_L4s
  refine V_iload_n (pc := 4) (DCa dc_Stan_neverDone_0 4 rfl) rfl 2 rfl ?_
  refine V_bipush (pc := 5) (DCa dc_Stan_neverDone_0 5 rfl) (by decide) ?_
  refine V_icmp_ge (tgt := 31) (pc := 7) (DCa dc_Stan_neverDone_0 6 rfl) (by decide) (fun _ => ?_) (fun _ => ?_)
  · refine V_aload_n (pc := 10) (DCa dc_Stan_neverDone_0 7 rfl) rfl 0 rfl ?_
    refine Q_getf (k := 1) (pc := 11) (DCa dc_Stan_neverDone_0 8 rfl) cls_8 (Nat.le_of_ble_eq_true rfl) fl_8_17 rfl rfl rfl (fun v1 => ?_)
    refine V_iload_n (pc := 14) (DCa dc_Stan_neverDone_0 9 rfl) rfl 2 rfl ?_
    refine Q_iaload (pc := 15) (DCa dc_Stan_neverDone_0 10 rfl) (fun v2 => ?_)
    refine V_if_ge (tgt := 25) (pc := 16) (DCa dc_Stan_neverDone_0 11 rfl) (by decide) (fun _ => ?_) (fun _ => ?_)
    · refine V_iload_n (pc := 19) (DCa dc_Stan_neverDone_0 12 rfl) rfl 1 rfl ?_
      refine V_iconst (pc := 20) (DCa dc_Stan_neverDone_0 13 rfl) (by decide) ?_
      refine V_iload_n (pc := 21) (DCa dc_Stan_neverDone_0 14 rfl) rfl 2 rfl ?_
      refine V_ishl (pc := 22) (DCa dc_Stan_neverDone_0 15 rfl) ?_
      refine V_ior (pc := 23) (DCa dc_Stan_neverDone_0 16 rfl) ?_
      refine Q_lt (fun x3 => ?_)
      refine V_istore_n (ls' := [(0, 2, l0), (1, 0, x3), (2, 0, l2)]) (pc := 24) (DCa dc_Stan_neverDone_0 17 rfl) rfl (Nat.le_of_ble_eq_true rfl) rfl ?_
      refine V_iinc (ls' := [(0, 2, l0), (1, 0, x3), (2, 0, w32 (l2 + 1))]) (pc := 25) (DCa dc_Stan_neverDone_0 18 rfl) (Nat.le_of_ble_eq_true rfl) (by decide) 2 rfl rfl ?_
      refine V_goto (tgt := 4) (pc := 28) (DCa dc_Stan_neverDone_0 19 rfl) (by decide) ?_
      exact hR4 _ _ _ _
    · refine V_iinc (ls' := [(0, 2, l0), (1, 0, l1), (2, 0, w32 (l2 + 1))]) (pc := 25) (DCa dc_Stan_neverDone_0 18 rfl) (Nat.le_of_ble_eq_true rfl) (by decide) 2 rfl rfl ?_
      refine V_goto (tgt := 4) (pc := 28) (DCa dc_Stan_neverDone_0 19 rfl) (by decide) ?_
      exact hR4 _ _ _ _
  · refine V_iload_n (pc := 31) (DCa dc_Stan_neverDone_0 20 rfl) rfl 1 rfl ?_
    exact V_ireturn (pc := 32) (DCa dc_Stan_neverDone_0 21 rfl) rfl
theorem v_Stan_neverDone_L4 (F : Nat)  (n : Nat) : ∀ (l0 l1 l2 : Int) (h : Hp), V X_Stan_neverDone 4 [(0, 2, l0), (1, 0, l1), (2, 0, l2)] [] h (Stan_neverDone_L4 F  n l0 l1 l2 h) := by
  induction n with
  | zero => intros; exact V_none
  | succ n ih => exact fun l0 l1 l2 h => v_Stan_neverDone_L4s F  _ ih l0 l1 l2 h
theorem v_Stan_neverDone (F : Nat) (l0 : Int) (h : Hp) : V X_Stan_neverDone 0 [(0, 2, l0)] [] h (Stan_neverDone F l0 h) := by
  unfold Stan_neverDone
  refine V_iconst (pc := 0) (DCa dc_Stan_neverDone_0 0 rfl) (by decide) ?_
  refine V_istore_n (ls' := [(0, 2, l0), (1, 0, 0)]) (pc := 1) (DCa dc_Stan_neverDone_0 1 rfl) rfl (Nat.le_of_ble_eq_true rfl) rfl ?_
  refine V_iconst (pc := 2) (DCa dc_Stan_neverDone_0 2 rfl) (by decide) ?_
  refine V_istore_n (ls' := [(0, 2, l0), (1, 0, 0), (2, 0, 0)]) (pc := 3) (DCa dc_Stan_neverDone_0 3 rfl) rfl (Nat.le_of_ble_eq_true rfl) rfl ?_
  exact v_Stan_neverDone_L4 F F _ _ _ _
theorem sp_Stan_neverDone (F : Nat) (l0 : Int) (h : Hp) : Sp yX8_neverDone cX8_neverDone 3 (some (.int)) 1 20 [(2, l0)] h (Stan_neverDone F l0 h) := Sp_of (by decide +kernel) rfl rfl (Nat.le_of_ble_eq_true rfl) (v_Stan_neverDone F l0 h)

-- TideRakes$Planner.rowsOf
def Plan_rowsOf (F : Nat) (l0 l1 l2 l3 : Int) (h : Hp) : Option (Int × Hp) :=
  gf h l0 102 1 fun v1 =>
  al h v1 2 l3 fun v2 =>
  if v2 = 0 then
    (gf h l0 102 0 fun v3 =>
    al h v3 4 l3 fun v4 =>
    gf h l1 107 3 fun v5 =>
    gf h l1 107 0 fun v6 =>
    gf h v6 106 4 fun v7 =>
    iv h l2 108 (Stan_neverDone F l2 h) fun r8 h9 =>
    gf h9 l2 108 0 fun v10 =>
    al h9 v10 7 l3 fun v11 =>
    iv h9 v4 104 (Rows_fill F v4 v5 v7 r8 v11 0 h9) fun r12 h13 =>
    gf h13 l0 102 1 fun v14 =>
    az h13 v14 l3 1 fun h15 =>
    gf h15 l0 102 0 fun v16 =>
    al h15 v16 4 l3 fun v17 =>
    some (v17, h15))
  else
    (gf h l0 102 0 fun v18 =>
    al h v18 4 l3 fun v19 =>
    some (v19, h))

theorem dc_Plan_rowsOf_0 : ∀ q ∈ ([(0, .aload_n 0, 1), (1, .getfield 17, 3), (4, .iload_n 3, 1), (5, .baload, 1), (6, .ifCond .ne 41, 3), (9, .aload_n 0, 1), (10, .getfield 11, 3), (13, .iload_n 3, 1), (14, .aaload, 1), (15, .aload_n 1, 1), (16, .getfield 57, 3), (19, .aload_n 1, 1), (20, .getfield 62, 3), (23, .getfield 66, 3), (26, .aload_n 2, 1), (27, .invokevirtual 72, 3), (30, .aload_n 2, 1), (31, .getfield 78, 3), (34, .iload_n 3, 1), (35, .aaload, 1), (36, .iconst 0, 1), (37, .invokevirtual 82, 3), (40, .aload_n 0, 1), (41, .getfield 17, 3), (44, .iload_n 3, 1), (45, .iconst 1, 1), (46, .bastore, 1), (47, .aload_n 0, 1), (48, .getfield 11, 3), (51, .iload_n 3, 1), (52, .aaload, 1), (53, .areturn, 1)] : List (Nat × Instr × Nat)), decode cX2_rowsOf q.1 = .ok (q.2.1, q.2.2) := by decide +kernel
abbrev X_Plan_rowsOf : MX := (cX2_rowsOf, RX2, "rowsOf", 4, (some (.object "TideRakes$Rows")), 5, 118)
theorem v_Plan_rowsOf (F : Nat) (l0 l1 l2 l3 : Int) (h : Hp) : V X_Plan_rowsOf 0 [(0, 2, l0), (1, 2, l1), (2, 2, l2), (3, 0, l3)] [] h (Plan_rowsOf F l0 l1 l2 l3 h) := by
  unfold Plan_rowsOf
  refine V_aload_n (pc := 0) (DCa dc_Plan_rowsOf_0 0 rfl) rfl 0 rfl ?_
  refine Q_getf (k := 1) (pc := 1) (DCa dc_Plan_rowsOf_0 1 rfl) cls_2 (Nat.le_of_ble_eq_true rfl) fl_2_17 rfl rfl rfl (fun v1 => ?_)
  refine V_iload_n (pc := 4) (DCa dc_Plan_rowsOf_0 2 rfl) rfl 3 rfl ?_
  refine Q_zaload (pc := 5) (DCa dc_Plan_rowsOf_0 3 rfl) (fun v2 => ?_)
  refine V_if_ne (tgt := 47) (pc := 6) (DCa dc_Plan_rowsOf_0 4 rfl) (by decide) (fun _ => ?_) (fun _ => ?_)
  · refine V_aload_n (pc := 9) (DCa dc_Plan_rowsOf_0 5 rfl) rfl 0 rfl ?_
    refine Q_getf (k := 0) (pc := 10) (DCa dc_Plan_rowsOf_0 6 rfl) cls_2 (Nat.le_of_ble_eq_true rfl) fl_2_11 rfl rfl rfl (fun v3 => ?_)
    refine V_iload_n (pc := 13) (DCa dc_Plan_rowsOf_0 7 rfl) rfl 3 rfl ?_
    refine Q_aaload (pc := 14) (DCa dc_Plan_rowsOf_0 8 rfl) (by decide) rfl rfl (fun v4 => ?_)
    refine V_aload_n (pc := 15) (DCa dc_Plan_rowsOf_0 9 rfl) rfl 1 rfl ?_
    refine Q_getf (k := 3) (pc := 16) (DCa dc_Plan_rowsOf_0 10 rfl) cls_7 (Nat.le_of_ble_eq_true rfl) fl_2_57 rfl rfl rfl (fun v5 => ?_)
    refine V_aload_n (pc := 19) (DCa dc_Plan_rowsOf_0 11 rfl) rfl 1 rfl ?_
    refine Q_getf (k := 0) (pc := 20) (DCa dc_Plan_rowsOf_0 12 rfl) cls_7 (Nat.le_of_ble_eq_true rfl) fl_2_62 rfl rfl rfl (fun v6 => ?_)
    refine Q_getf (k := 4) (pc := 23) (DCa dc_Plan_rowsOf_0 13 rfl) cls_6 (Nat.le_of_ble_eq_true rfl) fl_2_66 rfl rfl rfl (fun v7 => ?_)
    refine V_aload_n (pc := 26) (DCa dc_Plan_rowsOf_0 14 rfl) rfl 2 rfl ?_
    refine Q_callv (ci := 8) (st := [(0, v7), (2, v5), (2, v4)]) (pc := 27) (DCa dc_Plan_rowsOf_0 15 rfl) (sp_Stan_neverDone F _ _) ce_Stan_neverDone ml_2_72 rfl rfl ⟨Nat.le_of_ble_eq_true rfl, Nat.le_of_ble_eq_true rfl⟩ rfl (Nat.le_of_ble_eq_true rfl) (fun r8 h9 => ?_)
    refine V_aload_n (pc := 30) (DCa dc_Plan_rowsOf_0 16 rfl) rfl 2 rfl ?_
    refine Q_getf (k := 0) (pc := 31) (DCa dc_Plan_rowsOf_0 17 rfl) cls_8 (Nat.le_of_ble_eq_true rfl) fl_2_78 rfl rfl rfl (fun v10 => ?_)
    refine V_iload_n (pc := 34) (DCa dc_Plan_rowsOf_0 18 rfl) rfl 3 rfl ?_
    refine Q_aaload (pc := 35) (DCa dc_Plan_rowsOf_0 19 rfl) (by decide) rfl rfl (fun v11 => ?_)
    refine V_iconst (pc := 36) (DCa dc_Plan_rowsOf_0 20 rfl) (by decide) ?_
    refine Q_callv (ci := 4) (st := []) (pc := 37) (DCa dc_Plan_rowsOf_0 21 rfl) (sp_Rows_fill F _ _ _ _ _ _ _) ce_Rows_fill ml_2_82 rfl rfl ⟨Nat.le_of_ble_eq_true rfl, Nat.le_of_ble_eq_true rfl⟩ rfl (Nat.le_of_ble_eq_true rfl) (fun r12 h13 => ?_)
    refine V_aload_n (pc := 40) (DCa dc_Plan_rowsOf_0 22 rfl) rfl 0 rfl ?_
    refine Q_getf (k := 1) (pc := 41) (DCa dc_Plan_rowsOf_0 23 rfl) cls_2 (Nat.le_of_ble_eq_true rfl) fl_2_17 rfl rfl rfl (fun v14 => ?_)
    refine V_iload_n (pc := 44) (DCa dc_Plan_rowsOf_0 24 rfl) rfl 3 rfl ?_
    refine V_iconst (pc := 45) (DCa dc_Plan_rowsOf_0 25 rfl) (by decide) ?_
    refine Q_zastore (pc := 46) (DCa dc_Plan_rowsOf_0 26 rfl) (fun h15 => ?_)
    refine V_aload_n (pc := 47) (DCa dc_Plan_rowsOf_0 27 rfl) rfl 0 rfl ?_
    refine Q_getf (k := 0) (pc := 48) (DCa dc_Plan_rowsOf_0 28 rfl) cls_2 (Nat.le_of_ble_eq_true rfl) fl_2_11 rfl rfl rfl (fun v16 => ?_)
    refine V_iload_n (pc := 51) (DCa dc_Plan_rowsOf_0 29 rfl) rfl 3 rfl ?_
    refine Q_aaload (pc := 52) (DCa dc_Plan_rowsOf_0 30 rfl) (by decide) rfl rfl (fun v17 => ?_)
    exact V_areturn (pc := 53) (DCa dc_Plan_rowsOf_0 31 rfl) rfl
  · refine V_aload_n (pc := 47) (DCa dc_Plan_rowsOf_0 27 rfl) rfl 0 rfl ?_
    refine Q_getf (k := 0) (pc := 48) (DCa dc_Plan_rowsOf_0 28 rfl) cls_2 (Nat.le_of_ble_eq_true rfl) fl_2_11 rfl rfl rfl (fun v18 => ?_)
    refine V_iload_n (pc := 51) (DCa dc_Plan_rowsOf_0 29 rfl) rfl 3 rfl ?_
    refine Q_aaload (pc := 52) (DCa dc_Plan_rowsOf_0 30 rfl) (by decide) rfl rfl (fun v19 => ?_)
    exact V_areturn (pc := 53) (DCa dc_Plan_rowsOf_0 31 rfl) rfl
theorem sp_Plan_rowsOf (F : Nat) (l0 l1 l2 l3 : Int) (h : Hp) : Sp yX2_rowsOf cX2_rowsOf 4 (some (.object "TideRakes$Rows")) 5 118 [(2, l0), (2, l1), (2, l2), (0, l3)] h (Plan_rowsOf F l0 l1 l2 l3 h) := Sp_of (by decide +kernel) rfl rfl (Nat.le_of_ble_eq_true rfl) (v_Plan_rowsOf F l0 l1 l2 l3 h)

-- TideRakes$Stand.crossedSet
def Stan_crossedSet_L4s (F : Nat)  (R4 : Int → Int → Int → Hp → Option (Int × Hp)) (l0 l1 l2 : Int) (h : Hp) : Option (Int × Hp) :=
  if l2 < 8 then
    (gf h l0 108 4 fun v1 =>
    al h v1 2 l2 fun v2 =>
    if v2 = 0 then
      (R4 l0 l1 (w32 (l2 + 1)) h)
    else
      (lt (ior l1 (ishl 1 l2)) fun x3 =>
      R4 l0 x3 (w32 (l2 + 1)) h))
  else
    (some (l1, h))
def Stan_crossedSet_L4 (F : Nat)  : Nat → Int → Int → Int → Hp → Option (Int × Hp)
  | 0 => fun _ _ _ _ => none
  | n + 1 => Stan_crossedSet_L4s F  (Stan_crossedSet_L4 F  n)
def Stan_crossedSet (F : Nat) (l0 : Int) (h : Hp) : Option (Int × Hp) :=
  Stan_crossedSet_L4 F F l0 0 0 h

theorem dc_Stan_crossedSet_0 : ∀ q ∈ ([(0, .iconst 0, 1), (1, .istore_n 1, 1), (2, .iconst 0, 1), (3, .istore_n 2, 1), (4, .iload_n 2, 1), (5, .bipush 8, 2), (7, .if_icmp .ge 24, 3), (10, .aload_n 0, 1), (11, .getfield 27, 3), (14, .iload_n 2, 1), (15, .baload, 1), (16, .ifCond .eq 9, 3), (19, .iload_n 1, 1), (20, .iconst 1, 1), (21, .iload_n 2, 1), (22, .ishl, 1), (23, .ior, 1), (24, .istore_n 1, 1), (25, .iinc 2 1, 3), (28, .goto (-24), 3), (31, .iload_n 1, 1), (32, .ireturn, 1)] : List (Nat × Instr × Nat)), decode cX8_crossedSet q.1 = .ok (q.2.1, q.2.2) := by decide +kernel
abbrev X_Stan_crossedSet : MX := (cX8_crossedSet, RX8, "crossedSet", 3, (some (.int)), 1, 20)
theorem v_Stan_crossedSet_L4s (F : Nat)  (R4 : Int → Int → Int → Hp → Option (Int × Hp)) (hR4 : ∀ (l0 l1 l2 : Int) (h : Hp), V X_Stan_crossedSet 4 [(0, 2, l0), (1, 0, l1), (2, 0, l2)] [] h (R4 l0 l1 l2 h)) (l0 l1 l2 : Int) (h : Hp) : V X_Stan_crossedSet 4 [(0, 2, l0), (1, 0, l1), (2, 0, l2)] [] h (Stan_crossedSet_L4s F  R4 l0 l1 l2 h) := by
  unfold Stan_crossedSet_L4s
  refine V_iload_n (pc := 4) (DCa dc_Stan_crossedSet_0 4 rfl) rfl 2 rfl ?_
  refine V_bipush (pc := 5) (DCa dc_Stan_crossedSet_0 5 rfl) (by decide) ?_
  refine V_icmp_ge (tgt := 31) (pc := 7) (DCa dc_Stan_crossedSet_0 6 rfl) (by decide) (fun _ => ?_) (fun _ => ?_)
  · refine V_aload_n (pc := 10) (DCa dc_Stan_crossedSet_0 7 rfl) rfl 0 rfl ?_
    refine Q_getf (k := 4) (pc := 11) (DCa dc_Stan_crossedSet_0 8 rfl) cls_8 (Nat.le_of_ble_eq_true rfl) fl_8_27 rfl rfl rfl (fun v1 => ?_)
    refine V_iload_n (pc := 14) (DCa dc_Stan_crossedSet_0 9 rfl) rfl 2 rfl ?_
    refine Q_zaload (pc := 15) (DCa dc_Stan_crossedSet_0 10 rfl) (fun v2 => ?_)
    refine V_if_eq (tgt := 25) (pc := 16) (DCa dc_Stan_crossedSet_0 11 rfl) (by decide) (fun _ => ?_) (fun _ => ?_)
    · refine V_iinc (ls' := [(0, 2, l0), (1, 0, l1), (2, 0, w32 (l2 + 1))]) (pc := 25) (DCa dc_Stan_crossedSet_0 18 rfl) (Nat.le_of_ble_eq_true rfl) (by decide) 2 rfl rfl ?_
      refine V_goto (tgt := 4) (pc := 28) (DCa dc_Stan_crossedSet_0 19 rfl) (by decide) ?_
      exact hR4 _ _ _ _
    · refine V_iload_n (pc := 19) (DCa dc_Stan_crossedSet_0 12 rfl) rfl 1 rfl ?_
      refine V_iconst (pc := 20) (DCa dc_Stan_crossedSet_0 13 rfl) (by decide) ?_
      refine V_iload_n (pc := 21) (DCa dc_Stan_crossedSet_0 14 rfl) rfl 2 rfl ?_
      refine V_ishl (pc := 22) (DCa dc_Stan_crossedSet_0 15 rfl) ?_
      refine V_ior (pc := 23) (DCa dc_Stan_crossedSet_0 16 rfl) ?_
      refine Q_lt (fun x3 => ?_)
      refine V_istore_n (ls' := [(0, 2, l0), (1, 0, x3), (2, 0, l2)]) (pc := 24) (DCa dc_Stan_crossedSet_0 17 rfl) rfl (Nat.le_of_ble_eq_true rfl) rfl ?_
      refine V_iinc (ls' := [(0, 2, l0), (1, 0, x3), (2, 0, w32 (l2 + 1))]) (pc := 25) (DCa dc_Stan_crossedSet_0 18 rfl) (Nat.le_of_ble_eq_true rfl) (by decide) 2 rfl rfl ?_
      refine V_goto (tgt := 4) (pc := 28) (DCa dc_Stan_crossedSet_0 19 rfl) (by decide) ?_
      exact hR4 _ _ _ _
  · refine V_iload_n (pc := 31) (DCa dc_Stan_crossedSet_0 20 rfl) rfl 1 rfl ?_
    exact V_ireturn (pc := 32) (DCa dc_Stan_crossedSet_0 21 rfl) rfl
theorem v_Stan_crossedSet_L4 (F : Nat)  (n : Nat) : ∀ (l0 l1 l2 : Int) (h : Hp), V X_Stan_crossedSet 4 [(0, 2, l0), (1, 0, l1), (2, 0, l2)] [] h (Stan_crossedSet_L4 F  n l0 l1 l2 h) := by
  induction n with
  | zero => intros; exact V_none
  | succ n ih => exact fun l0 l1 l2 h => v_Stan_crossedSet_L4s F  _ ih l0 l1 l2 h
theorem v_Stan_crossedSet (F : Nat) (l0 : Int) (h : Hp) : V X_Stan_crossedSet 0 [(0, 2, l0)] [] h (Stan_crossedSet F l0 h) := by
  unfold Stan_crossedSet
  refine V_iconst (pc := 0) (DCa dc_Stan_crossedSet_0 0 rfl) (by decide) ?_
  refine V_istore_n (ls' := [(0, 2, l0), (1, 0, 0)]) (pc := 1) (DCa dc_Stan_crossedSet_0 1 rfl) rfl (Nat.le_of_ble_eq_true rfl) rfl ?_
  refine V_iconst (pc := 2) (DCa dc_Stan_crossedSet_0 2 rfl) (by decide) ?_
  refine V_istore_n (ls' := [(0, 2, l0), (1, 0, 0), (2, 0, 0)]) (pc := 3) (DCa dc_Stan_crossedSet_0 3 rfl) rfl (Nat.le_of_ble_eq_true rfl) rfl ?_
  exact v_Stan_crossedSet_L4 F F _ _ _ _
theorem sp_Stan_crossedSet (F : Nat) (l0 : Int) (h : Hp) : Sp yX8_crossedSet cX8_crossedSet 3 (some (.int)) 1 20 [(2, l0)] h (Stan_crossedSet F l0 h) := Sp_of (by decide +kernel) rfl rfl (Nat.le_of_ble_eq_true rfl) (v_Stan_crossedSet F l0 h)

-- TideRakes$Planner.mendingRows
def Plan_mendingRows (F : Nat) (l0 l1 l2 l3 : Int) (h : Hp) : Option (Int × Hp) :=
  gf h l0 102 2 fun v1 =>
  gf h l1 107 3 fun v2 =>
  gf h l1 107 0 fun v3 =>
  gf h v3 106 4 fun v4 =>
  iv h l2 108 (Stan_crossedSet F l2 h) fun r5 h6 =>
  gf h6 l2 108 0 fun v7 =>
  al h6 v7 7 l3 fun v8 =>
  iv h6 v1 104 (Rows_fill F v1 v2 v4 r5 v8 1 h6) fun r9 h10 =>
  gf h10 l0 102 2 fun v11 =>
  some (v11, h10)

theorem dc_Plan_mendingRows_0 : ∀ q ∈ ([(0, .aload_n 0, 1), (1, .getfield 22, 3), (4, .aload_n 1, 1), (5, .getfield 57, 3), (8, .aload_n 1, 1), (9, .getfield 62, 3), (12, .getfield 66, 3), (15, .aload_n 2, 1), (16, .invokevirtual 86, 3), (19, .aload_n 2, 1), (20, .getfield 78, 3), (23, .iload_n 3, 1), (24, .aaload, 1), (25, .iconst 1, 1), (26, .invokevirtual 82, 3), (29, .aload_n 0, 1), (30, .getfield 22, 3), (33, .areturn, 1)] : List (Nat × Instr × Nat)), decode cX2_mendingRows q.1 = .ok (q.2.1, q.2.2) := by decide +kernel
abbrev X_Plan_mendingRows : MX := (cX2_mendingRows, RX2, "mendingRows", 4, (some (.object "TideRakes$Rows")), 5, 118)
theorem v_Plan_mendingRows (F : Nat) (l0 l1 l2 l3 : Int) (h : Hp) : V X_Plan_mendingRows 0 [(0, 2, l0), (1, 2, l1), (2, 2, l2), (3, 0, l3)] [] h (Plan_mendingRows F l0 l1 l2 l3 h) := by
  unfold Plan_mendingRows
  refine V_aload_n (pc := 0) (DCa dc_Plan_mendingRows_0 0 rfl) rfl 0 rfl ?_
  refine Q_getf (k := 2) (pc := 1) (DCa dc_Plan_mendingRows_0 1 rfl) cls_2 (Nat.le_of_ble_eq_true rfl) fl_2_22 rfl rfl rfl (fun v1 => ?_)
  refine V_aload_n (pc := 4) (DCa dc_Plan_mendingRows_0 2 rfl) rfl 1 rfl ?_
  refine Q_getf (k := 3) (pc := 5) (DCa dc_Plan_mendingRows_0 3 rfl) cls_7 (Nat.le_of_ble_eq_true rfl) fl_2_57 rfl rfl rfl (fun v2 => ?_)
  refine V_aload_n (pc := 8) (DCa dc_Plan_mendingRows_0 4 rfl) rfl 1 rfl ?_
  refine Q_getf (k := 0) (pc := 9) (DCa dc_Plan_mendingRows_0 5 rfl) cls_7 (Nat.le_of_ble_eq_true rfl) fl_2_62 rfl rfl rfl (fun v3 => ?_)
  refine Q_getf (k := 4) (pc := 12) (DCa dc_Plan_mendingRows_0 6 rfl) cls_6 (Nat.le_of_ble_eq_true rfl) fl_2_66 rfl rfl rfl (fun v4 => ?_)
  refine V_aload_n (pc := 15) (DCa dc_Plan_mendingRows_0 7 rfl) rfl 2 rfl ?_
  refine Q_callv (ci := 8) (st := [(0, v4), (2, v2), (2, v1)]) (pc := 16) (DCa dc_Plan_mendingRows_0 8 rfl) (sp_Stan_crossedSet F _ _) ce_Stan_crossedSet ml_2_86 rfl rfl ⟨Nat.le_of_ble_eq_true rfl, Nat.le_of_ble_eq_true rfl⟩ rfl (Nat.le_of_ble_eq_true rfl) (fun r5 h6 => ?_)
  refine V_aload_n (pc := 19) (DCa dc_Plan_mendingRows_0 9 rfl) rfl 2 rfl ?_
  refine Q_getf (k := 0) (pc := 20) (DCa dc_Plan_mendingRows_0 10 rfl) cls_8 (Nat.le_of_ble_eq_true rfl) fl_2_78 rfl rfl rfl (fun v7 => ?_)
  refine V_iload_n (pc := 23) (DCa dc_Plan_mendingRows_0 11 rfl) rfl 3 rfl ?_
  refine Q_aaload (pc := 24) (DCa dc_Plan_mendingRows_0 12 rfl) (by decide) rfl rfl (fun v8 => ?_)
  refine V_iconst (pc := 25) (DCa dc_Plan_mendingRows_0 13 rfl) (by decide) ?_
  refine Q_callv (ci := 4) (st := []) (pc := 26) (DCa dc_Plan_mendingRows_0 14 rfl) (sp_Rows_fill F _ _ _ _ _ _ _) ce_Rows_fill ml_2_82 rfl rfl ⟨Nat.le_of_ble_eq_true rfl, Nat.le_of_ble_eq_true rfl⟩ rfl (Nat.le_of_ble_eq_true rfl) (fun r9 h10 => ?_)
  refine V_aload_n (pc := 29) (DCa dc_Plan_mendingRows_0 15 rfl) rfl 0 rfl ?_
  refine Q_getf (k := 2) (pc := 30) (DCa dc_Plan_mendingRows_0 16 rfl) cls_2 (Nat.le_of_ble_eq_true rfl) fl_2_22 rfl rfl rfl (fun v11 => ?_)
  exact V_areturn (pc := 33) (DCa dc_Plan_mendingRows_0 17 rfl) rfl
theorem sp_Plan_mendingRows (F : Nat) (l0 l1 l2 l3 : Int) (h : Hp) : Sp yX2_mendingRows cX2_mendingRows 4 (some (.object "TideRakes$Rows")) 5 118 [(2, l0), (2, l1), (2, l2), (0, l3)] h (Plan_mendingRows F l0 l1 l2 l3 h) := Sp_of (by decide +kernel) rfl rfl (Nat.le_of_ble_eq_true rfl) (v_Plan_mendingRows F l0 l1 l2 l3 h)

-- TideRakes$Rows.bestSet
def Rows_bestSet_L5s (F : Nat)  (R5 : Int → Int → Int → Int → Int → Hp → Option (Int × Hp)) (l0 l1 l2 l3 l4 : Int) (h : Hp) : Option (Int × Hp) :=
  gf h l0 104 1 fun v1 =>
  if l4 < (ishl 1 v1) then
    (gf h l0 104 6 fun v2 =>
    al h v2 0 l4 fun v3 =>
    if l2 < v3 then
      (R5 l0 l1 l2 l3 (w32 (l4 + 1)) h)
    else
      (al h l1 0 l4 fun v4 =>
      al h l1 0 l3 fun v5 =>
      if v4 < v5 then
        (R5 l0 l1 l2 l3 (w32 (l4 + 1)) h)
      else
        (al h l1 0 l4 fun v6 =>
        al h l1 0 l3 fun v7 =>
        if v7 < v6 then
          (R5 l0 l1 l2 l4 (w32 (l4 + 1)) h)
        else
          (gf h l0 104 6 fun v8 =>
          al h v8 0 l4 fun v9 =>
          gf h l0 104 6 fun v10 =>
          al h v10 0 l3 fun v11 =>
          if v9 < v11 then
            (R5 l0 l1 l2 l4 (w32 (l4 + 1)) h)
          else
            (R5 l0 l1 l2 l3 (w32 (l4 + 1)) h)))))
  else
    (some (l3, h))
def Rows_bestSet_L5 (F : Nat)  : Nat → Int → Int → Int → Int → Int → Hp → Option (Int × Hp)
  | 0 => fun _ _ _ _ _ _ => none
  | n + 1 => Rows_bestSet_L5s F  (Rows_bestSet_L5 F  n)
def Rows_bestSet (F : Nat) (l0 l1 l2 : Int) (h : Hp) : Option (Int × Hp) :=
  Rows_bestSet_L5 F F l0 l1 l2 0 1 h

theorem dc_Rows_bestSet_0 : ∀ q ∈ ([(0, .iconst 0, 1), (1, .istore_n 3, 1), (2, .iconst 1, 1), (3, .istore 4, 2), (5, .iload 4, 2), (7, .iconst 1, 1), (8, .aload_n 0, 1), (9, .getfield 36, 3), (12, .ishl, 1), (13, .if_icmp .ge 62, 3), (16, .aload_n 0, 1), (17, .getfield 27, 3), (20, .iload 4, 2), (22, .iaload, 1), (23, .iload_n 2, 1), (24, .if_icmp .gt 45, 3), (27, .aload_n 1, 1), (28, .iload 4, 2), (30, .iaload, 1), (31, .aload_n 1, 1), (32, .iload_n 3, 1), (33, .iaload, 1), (34, .if_icmp .ge 6, 3), (37, .goto 32, 3), (40, .aload_n 1, 1), (41, .iload 4, 2), (43, .iaload, 1), (44, .aload_n 1, 1), (45, .iload_n 3, 1), (46, .iaload, 1), (47, .if_icmp .gt 19, 3), (50, .aload_n 0, 1), (51, .getfield 27, 3), (54, .iload 4, 2), (56, .iaload, 1), (57, .aload_n 0, 1), (58, .getfield 27, 3), (61, .iload_n 3, 1), (62, .iaload, 1), (63, .if_icmp .ge 6, 3), (66, .iload 4, 2), (68, .istore_n 3, 1), (69, .iinc 4 1, 3), (72, .goto (-67), 3), (75, .iload_n 3, 1), (76, .ireturn, 1)] : List (Nat × Instr × Nat)), decode cX4_bestSet q.1 = .ok (q.2.1, q.2.2) := by decide +kernel
abbrev X_Rows_bestSet : MX := (cX4_bestSet, RX4, "bestSet", 5, (some (.int)), 1, 20)
theorem v_Rows_bestSet_L5s (F : Nat)  (R5 : Int → Int → Int → Int → Int → Hp → Option (Int × Hp)) (hR5 : ∀ (l0 l1 l2 l3 l4 : Int) (h : Hp), V X_Rows_bestSet 5 [(0, 2, l0), (1, 2, l1), (2, 0, l2), (3, 0, l3), (4, 0, l4)] [] h (R5 l0 l1 l2 l3 l4 h)) (l0 l1 l2 l3 l4 : Int) (h : Hp) : V X_Rows_bestSet 5 [(0, 2, l0), (1, 2, l1), (2, 0, l2), (3, 0, l3), (4, 0, l4)] [] h (Rows_bestSet_L5s F  R5 l0 l1 l2 l3 l4 h) := by
  unfold Rows_bestSet_L5s
  refine V_iload (pc := 5) (DCa dc_Rows_bestSet_0 4 rfl) 4 rfl ?_
  refine V_iconst (pc := 7) (DCa dc_Rows_bestSet_0 5 rfl) (by decide) ?_
  refine V_aload_n (pc := 8) (DCa dc_Rows_bestSet_0 6 rfl) rfl 0 rfl ?_
  refine Q_getf (k := 1) (pc := 9) (DCa dc_Rows_bestSet_0 7 rfl) cls_4 (Nat.le_of_ble_eq_true rfl) fl_4_36 rfl rfl rfl (fun v1 => ?_)
  refine V_ishl (pc := 12) (DCa dc_Rows_bestSet_0 8 rfl) ?_
  refine V_icmp_ge (tgt := 75) (pc := 13) (DCa dc_Rows_bestSet_0 9 rfl) (by decide) (fun _ => ?_) (fun _ => ?_)
  · refine V_aload_n (pc := 16) (DCa dc_Rows_bestSet_0 10 rfl) rfl 0 rfl ?_
    refine Q_getf (k := 6) (pc := 17) (DCa dc_Rows_bestSet_0 11 rfl) cls_4 (Nat.le_of_ble_eq_true rfl) fl_4_27 rfl rfl rfl (fun v2 => ?_)
    refine V_iload (pc := 20) (DCa dc_Rows_bestSet_0 12 rfl) 4 rfl ?_
    refine Q_iaload (pc := 22) (DCa dc_Rows_bestSet_0 13 rfl) (fun v3 => ?_)
    refine V_iload_n (pc := 23) (DCa dc_Rows_bestSet_0 14 rfl) rfl 2 rfl ?_
    refine V_icmp_gt (tgt := 69) (pc := 24) (DCa dc_Rows_bestSet_0 15 rfl) (by decide) (fun _ => ?_) (fun _ => ?_)
    · refine V_iinc (ls' := [(0, 2, l0), (1, 2, l1), (2, 0, l2), (3, 0, l3), (4, 0, w32 (l4 + 1))]) (pc := 69) (DCa dc_Rows_bestSet_0 42 rfl) (Nat.le_of_ble_eq_true rfl) (by decide) 4 rfl rfl ?_
      refine V_goto (tgt := 5) (pc := 72) (DCa dc_Rows_bestSet_0 43 rfl) (by decide) ?_
      exact hR5 _ _ _ _ _ _
    · refine V_aload_n (pc := 27) (DCa dc_Rows_bestSet_0 16 rfl) rfl 1 rfl ?_
      refine V_iload (pc := 28) (DCa dc_Rows_bestSet_0 17 rfl) 4 rfl ?_
      refine Q_iaload (pc := 30) (DCa dc_Rows_bestSet_0 18 rfl) (fun v4 => ?_)
      refine V_aload_n (pc := 31) (DCa dc_Rows_bestSet_0 19 rfl) rfl 1 rfl ?_
      refine V_iload_n (pc := 32) (DCa dc_Rows_bestSet_0 20 rfl) rfl 3 rfl ?_
      refine Q_iaload (pc := 33) (DCa dc_Rows_bestSet_0 21 rfl) (fun v5 => ?_)
      refine V_icmp_ge (tgt := 40) (pc := 34) (DCa dc_Rows_bestSet_0 22 rfl) (by decide) (fun _ => ?_) (fun _ => ?_)
      · refine V_goto (tgt := 69) (pc := 37) (DCa dc_Rows_bestSet_0 23 rfl) (by decide) ?_
        refine V_iinc (ls' := [(0, 2, l0), (1, 2, l1), (2, 0, l2), (3, 0, l3), (4, 0, w32 (l4 + 1))]) (pc := 69) (DCa dc_Rows_bestSet_0 42 rfl) (Nat.le_of_ble_eq_true rfl) (by decide) 4 rfl rfl ?_
        refine V_goto (tgt := 5) (pc := 72) (DCa dc_Rows_bestSet_0 43 rfl) (by decide) ?_
        exact hR5 _ _ _ _ _ _
      · refine V_aload_n (pc := 40) (DCa dc_Rows_bestSet_0 24 rfl) rfl 1 rfl ?_
        refine V_iload (pc := 41) (DCa dc_Rows_bestSet_0 25 rfl) 4 rfl ?_
        refine Q_iaload (pc := 43) (DCa dc_Rows_bestSet_0 26 rfl) (fun v6 => ?_)
        refine V_aload_n (pc := 44) (DCa dc_Rows_bestSet_0 27 rfl) rfl 1 rfl ?_
        refine V_iload_n (pc := 45) (DCa dc_Rows_bestSet_0 28 rfl) rfl 3 rfl ?_
        refine Q_iaload (pc := 46) (DCa dc_Rows_bestSet_0 29 rfl) (fun v7 => ?_)
        refine V_icmp_gt (tgt := 66) (pc := 47) (DCa dc_Rows_bestSet_0 30 rfl) (by decide) (fun _ => ?_) (fun _ => ?_)
        · refine V_iload (pc := 66) (DCa dc_Rows_bestSet_0 40 rfl) 4 rfl ?_
          refine V_istore_n (ls' := [(0, 2, l0), (1, 2, l1), (2, 0, l2), (3, 0, l4), (4, 0, l4)]) (pc := 68) (DCa dc_Rows_bestSet_0 41 rfl) rfl (Nat.le_of_ble_eq_true rfl) rfl ?_
          refine V_iinc (ls' := [(0, 2, l0), (1, 2, l1), (2, 0, l2), (3, 0, l4), (4, 0, w32 (l4 + 1))]) (pc := 69) (DCa dc_Rows_bestSet_0 42 rfl) (Nat.le_of_ble_eq_true rfl) (by decide) 4 rfl rfl ?_
          refine V_goto (tgt := 5) (pc := 72) (DCa dc_Rows_bestSet_0 43 rfl) (by decide) ?_
          exact hR5 _ _ _ _ _ _
        · refine V_aload_n (pc := 50) (DCa dc_Rows_bestSet_0 31 rfl) rfl 0 rfl ?_
          refine Q_getf (k := 6) (pc := 51) (DCa dc_Rows_bestSet_0 32 rfl) cls_4 (Nat.le_of_ble_eq_true rfl) fl_4_27 rfl rfl rfl (fun v8 => ?_)
          refine V_iload (pc := 54) (DCa dc_Rows_bestSet_0 33 rfl) 4 rfl ?_
          refine Q_iaload (pc := 56) (DCa dc_Rows_bestSet_0 34 rfl) (fun v9 => ?_)
          refine V_aload_n (pc := 57) (DCa dc_Rows_bestSet_0 35 rfl) rfl 0 rfl ?_
          refine Q_getf (k := 6) (pc := 58) (DCa dc_Rows_bestSet_0 36 rfl) cls_4 (Nat.le_of_ble_eq_true rfl) fl_4_27 rfl rfl rfl (fun v10 => ?_)
          refine V_iload_n (pc := 61) (DCa dc_Rows_bestSet_0 37 rfl) rfl 3 rfl ?_
          refine Q_iaload (pc := 62) (DCa dc_Rows_bestSet_0 38 rfl) (fun v11 => ?_)
          refine V_icmp_ge (tgt := 69) (pc := 63) (DCa dc_Rows_bestSet_0 39 rfl) (by decide) (fun _ => ?_) (fun _ => ?_)
          · refine V_iload (pc := 66) (DCa dc_Rows_bestSet_0 40 rfl) 4 rfl ?_
            refine V_istore_n (ls' := [(0, 2, l0), (1, 2, l1), (2, 0, l2), (3, 0, l4), (4, 0, l4)]) (pc := 68) (DCa dc_Rows_bestSet_0 41 rfl) rfl (Nat.le_of_ble_eq_true rfl) rfl ?_
            refine V_iinc (ls' := [(0, 2, l0), (1, 2, l1), (2, 0, l2), (3, 0, l4), (4, 0, w32 (l4 + 1))]) (pc := 69) (DCa dc_Rows_bestSet_0 42 rfl) (Nat.le_of_ble_eq_true rfl) (by decide) 4 rfl rfl ?_
            refine V_goto (tgt := 5) (pc := 72) (DCa dc_Rows_bestSet_0 43 rfl) (by decide) ?_
            exact hR5 _ _ _ _ _ _
          · refine V_iinc (ls' := [(0, 2, l0), (1, 2, l1), (2, 0, l2), (3, 0, l3), (4, 0, w32 (l4 + 1))]) (pc := 69) (DCa dc_Rows_bestSet_0 42 rfl) (Nat.le_of_ble_eq_true rfl) (by decide) 4 rfl rfl ?_
            refine V_goto (tgt := 5) (pc := 72) (DCa dc_Rows_bestSet_0 43 rfl) (by decide) ?_
            exact hR5 _ _ _ _ _ _
  · refine V_iload_n (pc := 75) (DCa dc_Rows_bestSet_0 44 rfl) rfl 3 rfl ?_
    exact V_ireturn (pc := 76) (DCa dc_Rows_bestSet_0 45 rfl) rfl
theorem v_Rows_bestSet_L5 (F : Nat)  (n : Nat) : ∀ (l0 l1 l2 l3 l4 : Int) (h : Hp), V X_Rows_bestSet 5 [(0, 2, l0), (1, 2, l1), (2, 0, l2), (3, 0, l3), (4, 0, l4)] [] h (Rows_bestSet_L5 F  n l0 l1 l2 l3 l4 h) := by
  induction n with
  | zero => intros; exact V_none
  | succ n ih => exact fun l0 l1 l2 l3 l4 h => v_Rows_bestSet_L5s F  _ ih l0 l1 l2 l3 l4 h
theorem v_Rows_bestSet (F : Nat) (l0 l1 l2 : Int) (h : Hp) : V X_Rows_bestSet 0 [(0, 2, l0), (1, 2, l1), (2, 0, l2)] [] h (Rows_bestSet F l0 l1 l2 h) := by
  unfold Rows_bestSet
  refine V_iconst (pc := 0) (DCa dc_Rows_bestSet_0 0 rfl) (by decide) ?_
  refine V_istore_n (ls' := [(0, 2, l0), (1, 2, l1), (2, 0, l2), (3, 0, 0)]) (pc := 1) (DCa dc_Rows_bestSet_0 1 rfl) rfl (Nat.le_of_ble_eq_true rfl) rfl ?_
  refine V_iconst (pc := 2) (DCa dc_Rows_bestSet_0 2 rfl) (by decide) ?_
  refine V_istore (ls' := [(0, 2, l0), (1, 2, l1), (2, 0, l2), (3, 0, 0), (4, 0, 1)]) (pc := 3) (DCa dc_Rows_bestSet_0 3 rfl) (Nat.le_of_ble_eq_true rfl) rfl ?_
  exact v_Rows_bestSet_L5 F F _ _ _ _ _ _
theorem sp_Rows_bestSet (F : Nat) (l0 l1 l2 : Int) (h : Hp) : Sp yX4_bestSet cX4_bestSet 5 (some (.int)) 1 20 [(2, l0), (2, l1), (0, l2)] h (Rows_bestSet F l0 l1 l2 h) := Sp_of (by decide +kernel) rfl rfl (Nat.le_of_ble_eq_true rfl) (v_Rows_bestSet F l0 l1 l2 h)

-- TideRakes$Rows.firstLast
def Rows_firstLast_B64 (F : Nat) (R3 : Int → Int → Int → Int → Int → Hp → Option (Int × Hp)) (l0 l1 l2 l3 l4 l5 : Int) (h : Hp) : Option (Int × Hp) :=
  if l5 = l3 then
    (some (l4, h))
  else
    (R3 l0 l1 l2 l3 (w32 (l4 + 1)) h)
def Rows_firstLast_L3s (F : Nat)  (R3 : Int → Int → Int → Int → Int → Hp → Option (Int × Hp)) (l0 l1 l2 l3 l4 : Int) (h : Hp) : Option (Int × Hp) :=
  gf h l0 104 1 fun v1 =>
  if l4 < v1 then
    (if (iand (ishr l1 l4) 1) = 0 then
      (R3 l0 l1 l2 l3 (w32 (l4 + 1)) h)
    else
      (gf h l0 104 5 fun v2 =>
      al h v2 0 (w32 ((w32 (l1 * 8)) + l4)) fun v3 =>
      if l2 < 0 then
        (Rows_firstLast_B64 F R3 l0 l1 l2 l3 l4 v3 h)
      else
        (gf h l0 104 3 fun v4 =>
        al h v4 0 (w32 ((w32 (l4 * 8)) + l2)) fun v5 =>
        iv h l0 104 (Rows_endFrom F l0 (w32 (v3 + v5)) l2 h) fun r6 h7 =>
        Rows_firstLast_B64 F R3 l0 l1 l2 l3 l4 r6 h7)))
  else
    (some ((-1), h))
def Rows_firstLast_L3 (F : Nat)  : Nat → Int → Int → Int → Int → Int → Hp → Option (Int × Hp)
  | 0 => fun _ _ _ _ _ _ => none
  | n + 1 => Rows_firstLast_L3s F  (Rows_firstLast_L3 F  n)
def Rows_firstLast (F : Nat) (l0 l1 l2 l3 : Int) (h : Hp) : Option (Int × Hp) :=
  Rows_firstLast_L3 F F l0 l1 l2 l3 0 h

theorem dc_Rows_firstLast_0 : ∀ q ∈ ([(0, .iconst 0, 1), (1, .istore 4, 2), (3, .iload 4, 2), (5, .aload_n 0, 1), (6, .getfield 36, 3), (9, .if_icmp .ge 70, 3), (12, .iload_n 1, 1), (13, .iload 4, 2), (15, .ishr, 1), (16, .iconst 1, 1), (17, .iand, 1), (18, .ifCond .ne 6, 3), (21, .goto 52, 3), (24, .aload_n 0, 1), (25, .getfield 24, 3), (28, .iload_n 1, 1), (29, .bipush 8, 2), (31, .imul, 1), (32, .iload 4, 2), (34, .iadd, 1), (35, .iaload, 1), (36, .istore 5, 2), (38, .iload_n 2, 1), (39, .ifCond .lt 25, 3), (42, .aload_n 0, 1), (43, .iload 5, 2), (45, .aload_n 0, 1), (46, .getfield 17, 3), (49, .iload 4, 2), (51, .bipush 8, 2), (53, .imul, 1), (54, .iload_n 2, 1), (55, .iadd, 1), (56, .iaload, 1), (57, .iadd, 1), (58, .iload_n 2, 1), (59, .invokevirtual 76, 3), (62, .istore 5, 2), (64, .iload 5, 2), (66, .iload_n 3, 1), (67, .if_icmp .ne 6, 3), (70, .iload 4, 2), (72, .ireturn, 1), (73, .iinc 4 1, 3), (76, .goto (-73), 3), (79, .iconst (-1), 1), (80, .ireturn, 1)] : List (Nat × Instr × Nat)), decode cX4_firstLast q.1 = .ok (q.2.1, q.2.2) := by decide +kernel
abbrev X_Rows_firstLast : MX := (cX4_firstLast, RX4, "firstLast", 6, (some (.int)), 3, 65)
theorem v_Rows_firstLast_B64 (F : Nat) (R3 : Int → Int → Int → Int → Int → Hp → Option (Int × Hp)) (hR3 : ∀ (l0 l1 l2 l3 l4 : Int) (h : Hp), V X_Rows_firstLast 3 [(0, 2, l0), (1, 0, l1), (2, 0, l2), (3, 0, l3), (4, 0, l4)] [] h (R3 l0 l1 l2 l3 l4 h)) (l0 l1 l2 l3 l4 l5 : Int) (h : Hp) : V X_Rows_firstLast 64 [(0, 2, l0), (1, 0, l1), (2, 0, l2), (3, 0, l3), (4, 0, l4), (5, 0, l5)] [] h (Rows_firstLast_B64 F R3 l0 l1 l2 l3 l4 l5 h) := by
  unfold Rows_firstLast_B64
  refine V_iload (pc := 64) (DCa dc_Rows_firstLast_0 38 rfl) 5 rfl ?_
  refine V_iload_n (pc := 66) (DCa dc_Rows_firstLast_0 39 rfl) rfl 3 rfl ?_
  refine V_icmp_ne (tgt := 73) (pc := 67) (DCa dc_Rows_firstLast_0 40 rfl) (by decide) (fun _ => ?_) (fun _ => ?_)
  · refine V_iload (pc := 70) (DCa dc_Rows_firstLast_0 41 rfl) 4 rfl ?_
    exact V_ireturn (pc := 72) (DCa dc_Rows_firstLast_0 42 rfl) rfl
  · refine V_iinc (ls' := [(0, 2, l0), (1, 0, l1), (2, 0, l2), (3, 0, l3), (4, 0, w32 (l4 + 1)), (5, 0, l5)]) (pc := 73) (DCa dc_Rows_firstLast_0 43 rfl) (Nat.le_of_ble_eq_true rfl) (by decide) 4 rfl rfl ?_
    refine V_goto (tgt := 3) (pc := 76) (DCa dc_Rows_firstLast_0 44 rfl) (by decide) ?_
    refine V_pick [0, 1, 2, 3, 4] rfl ?_
    exact hR3 _ _ _ _ _ _
theorem v_Rows_firstLast_L3s (F : Nat)  (R3 : Int → Int → Int → Int → Int → Hp → Option (Int × Hp)) (hR3 : ∀ (l0 l1 l2 l3 l4 : Int) (h : Hp), V X_Rows_firstLast 3 [(0, 2, l0), (1, 0, l1), (2, 0, l2), (3, 0, l3), (4, 0, l4)] [] h (R3 l0 l1 l2 l3 l4 h)) (l0 l1 l2 l3 l4 : Int) (h : Hp) : V X_Rows_firstLast 3 [(0, 2, l0), (1, 0, l1), (2, 0, l2), (3, 0, l3), (4, 0, l4)] [] h (Rows_firstLast_L3s F  R3 l0 l1 l2 l3 l4 h) := by
  unfold Rows_firstLast_L3s
  refine V_iload (pc := 3) (DCa dc_Rows_firstLast_0 2 rfl) 4 rfl ?_
  refine V_aload_n (pc := 5) (DCa dc_Rows_firstLast_0 3 rfl) rfl 0 rfl ?_
  refine Q_getf (k := 1) (pc := 6) (DCa dc_Rows_firstLast_0 4 rfl) cls_4 (Nat.le_of_ble_eq_true rfl) fl_4_36 rfl rfl rfl (fun v1 => ?_)
  refine V_icmp_ge (tgt := 79) (pc := 9) (DCa dc_Rows_firstLast_0 5 rfl) (by decide) (fun _ => ?_) (fun _ => ?_)
  · refine V_iload_n (pc := 12) (DCa dc_Rows_firstLast_0 6 rfl) rfl 1 rfl ?_
    refine V_iload (pc := 13) (DCa dc_Rows_firstLast_0 7 rfl) 4 rfl ?_
    refine V_ishr (pc := 15) (DCa dc_Rows_firstLast_0 8 rfl) ?_
    refine V_iconst (pc := 16) (DCa dc_Rows_firstLast_0 9 rfl) (by decide) ?_
    refine V_iand (pc := 17) (DCa dc_Rows_firstLast_0 10 rfl) ?_
    refine V_if_ne (tgt := 24) (pc := 18) (DCa dc_Rows_firstLast_0 11 rfl) (by decide) (fun _ => ?_) (fun _ => ?_)
    · refine V_goto (tgt := 73) (pc := 21) (DCa dc_Rows_firstLast_0 12 rfl) (by decide) ?_
      refine V_iinc (ls' := [(0, 2, l0), (1, 0, l1), (2, 0, l2), (3, 0, l3), (4, 0, w32 (l4 + 1))]) (pc := 73) (DCa dc_Rows_firstLast_0 43 rfl) (Nat.le_of_ble_eq_true rfl) (by decide) 4 rfl rfl ?_
      refine V_goto (tgt := 3) (pc := 76) (DCa dc_Rows_firstLast_0 44 rfl) (by decide) ?_
      exact hR3 _ _ _ _ _ _
    · refine V_aload_n (pc := 24) (DCa dc_Rows_firstLast_0 13 rfl) rfl 0 rfl ?_
      refine Q_getf (k := 5) (pc := 25) (DCa dc_Rows_firstLast_0 14 rfl) cls_4 (Nat.le_of_ble_eq_true rfl) fl_4_24 rfl rfl rfl (fun v2 => ?_)
      refine V_iload_n (pc := 28) (DCa dc_Rows_firstLast_0 15 rfl) rfl 1 rfl ?_
      refine V_bipush (pc := 29) (DCa dc_Rows_firstLast_0 16 rfl) (by decide) ?_
      refine V_imul (pc := 31) (DCa dc_Rows_firstLast_0 17 rfl) ?_
      refine V_iload (pc := 32) (DCa dc_Rows_firstLast_0 18 rfl) 4 rfl ?_
      refine V_iadd (pc := 34) (DCa dc_Rows_firstLast_0 19 rfl) ?_
      refine Q_iaload (pc := 35) (DCa dc_Rows_firstLast_0 20 rfl) (fun v3 => ?_)
      refine V_istore (ls' := [(0, 2, l0), (1, 0, l1), (2, 0, l2), (3, 0, l3), (4, 0, l4), (5, 0, v3)]) (pc := 36) (DCa dc_Rows_firstLast_0 21 rfl) (Nat.le_of_ble_eq_true rfl) rfl ?_
      refine V_iload_n (pc := 38) (DCa dc_Rows_firstLast_0 22 rfl) rfl 2 rfl ?_
      refine V_if_lt (tgt := 64) (pc := 39) (DCa dc_Rows_firstLast_0 23 rfl) (by decide) (fun _ => ?_) (fun _ => ?_)
      · exact v_Rows_firstLast_B64 F R3 hR3 _ _ _ _ _ _ _
      · refine V_aload_n (pc := 42) (DCa dc_Rows_firstLast_0 24 rfl) rfl 0 rfl ?_
        refine V_iload (pc := 43) (DCa dc_Rows_firstLast_0 25 rfl) 5 rfl ?_
        refine V_aload_n (pc := 45) (DCa dc_Rows_firstLast_0 26 rfl) rfl 0 rfl ?_
        refine Q_getf (k := 3) (pc := 46) (DCa dc_Rows_firstLast_0 27 rfl) cls_4 (Nat.le_of_ble_eq_true rfl) fl_4_17 rfl rfl rfl (fun v4 => ?_)
        refine V_iload (pc := 49) (DCa dc_Rows_firstLast_0 28 rfl) 4 rfl ?_
        refine V_bipush (pc := 51) (DCa dc_Rows_firstLast_0 29 rfl) (by decide) ?_
        refine V_imul (pc := 53) (DCa dc_Rows_firstLast_0 30 rfl) ?_
        refine V_iload_n (pc := 54) (DCa dc_Rows_firstLast_0 31 rfl) rfl 2 rfl ?_
        refine V_iadd (pc := 55) (DCa dc_Rows_firstLast_0 32 rfl) ?_
        refine Q_iaload (pc := 56) (DCa dc_Rows_firstLast_0 33 rfl) (fun v5 => ?_)
        refine V_iadd (pc := 57) (DCa dc_Rows_firstLast_0 34 rfl) ?_
        refine V_iload_n (pc := 58) (DCa dc_Rows_firstLast_0 35 rfl) rfl 2 rfl ?_
        refine Q_callv (ci := 4) (st := []) (pc := 59) (DCa dc_Rows_firstLast_0 36 rfl) (sp_Rows_endFrom F _ _ _ _) ce_Rows_endFrom ml_4_76 rfl rfl ⟨Nat.le_of_ble_eq_true rfl, Nat.le_of_ble_eq_true rfl⟩ rfl (Nat.le_of_ble_eq_true rfl) (fun r6 h7 => ?_)
        refine V_istore (ls' := [(0, 2, l0), (1, 0, l1), (2, 0, l2), (3, 0, l3), (4, 0, l4), (5, 0, r6)]) (pc := 62) (DCa dc_Rows_firstLast_0 37 rfl) (Nat.le_of_ble_eq_true rfl) rfl ?_
        exact v_Rows_firstLast_B64 F R3 hR3 _ _ _ _ _ _ _
  · refine V_iconst (pc := 79) (DCa dc_Rows_firstLast_0 45 rfl) (by decide) ?_
    exact V_ireturn (pc := 80) (DCa dc_Rows_firstLast_0 46 rfl) rfl
theorem v_Rows_firstLast_L3 (F : Nat)  (n : Nat) : ∀ (l0 l1 l2 l3 l4 : Int) (h : Hp), V X_Rows_firstLast 3 [(0, 2, l0), (1, 0, l1), (2, 0, l2), (3, 0, l3), (4, 0, l4)] [] h (Rows_firstLast_L3 F  n l0 l1 l2 l3 l4 h) := by
  induction n with
  | zero => intros; exact V_none
  | succ n ih => exact fun l0 l1 l2 l3 l4 h => v_Rows_firstLast_L3s F  _ ih l0 l1 l2 l3 l4 h
theorem v_Rows_firstLast (F : Nat) (l0 l1 l2 l3 : Int) (h : Hp) : V X_Rows_firstLast 0 [(0, 2, l0), (1, 0, l1), (2, 0, l2), (3, 0, l3)] [] h (Rows_firstLast F l0 l1 l2 l3 h) := by
  unfold Rows_firstLast
  refine V_iconst (pc := 0) (DCa dc_Rows_firstLast_0 0 rfl) (by decide) ?_
  refine V_istore (ls' := [(0, 2, l0), (1, 0, l1), (2, 0, l2), (3, 0, l3), (4, 0, 0)]) (pc := 1) (DCa dc_Rows_firstLast_0 1 rfl) (Nat.le_of_ble_eq_true rfl) rfl ?_
  exact v_Rows_firstLast_L3 F F _ _ _ _ _ _
theorem sp_Rows_firstLast (F : Nat) (l0 l1 l2 l3 : Int) (h : Hp) : Sp yX4_firstLast cX4_firstLast 6 (some (.int)) 3 65 [(2, l0), (0, l1), (0, l2), (0, l3)] h (Rows_firstLast F l0 l1 l2 l3 h) := Sp_of (by decide +kernel) rfl rfl (Nat.le_of_ble_eq_true rfl) (v_Rows_firstLast F l0 l1 l2 l3 h)

-- java/lang/Integer.bitCount
def Intg_bitCount (F : Nat) (l0 : Int) (h : Hp) : Option (Int × Hp) :=
  lt (w32 (l0 - (iand (iushr l0 1) 1431655765))) fun x1 =>
  lt (w32 ((iand x1 858993459) + (iand (iushr x1 2) 858993459))) fun x2 =>
  lt (iand (w32 (x2 + (iushr x2 4))) 252645135) fun x3 =>
  lt (w32 (x3 + (iushr x3 8))) fun x4 =>
  lt (w32 (x4 + (iushr x4 16))) fun x5 =>
  some (iand x5 63, h)

theorem dc_Intg_bitCount_0 : ∀ q ∈ ([(0, .iload_n 0, 1), (1, .iload_n 0, 1), (2, .iconst 1, 1), (3, .iushr, 1), (4, .ldc_w 265, 3), (7, .iand, 1), (8, .isub, 1), (9, .istore_n 0, 1), (10, .iload_n 0, 1), (11, .ldc_w 266, 3), (14, .iand, 1), (15, .iload_n 0, 1), (16, .iconst 2, 1), (17, .iushr, 1), (18, .ldc_w 266, 3), (21, .iand, 1), (22, .iadd, 1), (23, .istore_n 0, 1), (24, .iload_n 0, 1), (25, .iload_n 0, 1), (26, .iconst 4, 1), (27, .iushr, 1), (28, .iadd, 1), (29, .ldc_w 267, 3), (32, .iand, 1), (33, .istore_n 0, 1), (34, .iload_n 0, 1), (35, .iload_n 0, 1), (36, .bipush 8, 2), (38, .iushr, 1), (39, .iadd, 1), (40, .istore_n 0, 1), (41, .iload_n 0, 1), (42, .iload_n 0, 1), (43, .bipush 16, 2), (45, .iushr, 1), (46, .iadd, 1), (47, .istore_n 0, 1), (48, .iload_n 0, 1), (49, .bipush 63, 2), (51, .iand, 1), (52, .ireturn, 1)] : List (Nat × Instr × Nat)), decode cJ6_bitCount_0f7a4 q.1 = .ok (q.2.1, q.2.2) := by decide +kernel
abbrev X_Intg_bitCount : MX := (cJ6_bitCount_0f7a4, RJ6, "bitCount", 1, (some (.int)), 1, 20)
theorem v_Intg_bitCount (F : Nat) (l0 : Int) (h : Hp) : V X_Intg_bitCount 0 [(0, 0, l0)] [] h (Intg_bitCount F l0 h) := by
  unfold Intg_bitCount
  refine V_iload_n (pc := 0) (DCa dc_Intg_bitCount_0 0 rfl) rfl 0 rfl ?_
  refine V_iload_n (pc := 1) (DCa dc_Intg_bitCount_0 1 rfl) rfl 0 rfl ?_
  refine V_iconst (pc := 2) (DCa dc_Intg_bitCount_0 2 rfl) (by decide) ?_
  refine V_iushr (pc := 3) (DCa dc_Intg_bitCount_0 3 rfl) ?_
  refine V_ldcw (v := 1431655765) (x := 1431655765) (pc := 4) (DCa dc_Intg_bitCount_0 4 rfl) (tb5 102 rfl rfl) rfl ?_
  refine V_iand (pc := 7) (DCa dc_Intg_bitCount_0 5 rfl) ?_
  refine V_isub (pc := 8) (DCa dc_Intg_bitCount_0 6 rfl) ?_
  refine Q_lt (fun x1 => ?_)
  refine V_istore_n (ls' := [(0, 0, x1)]) (pc := 9) (DCa dc_Intg_bitCount_0 7 rfl) rfl (Nat.le_of_ble_eq_true rfl) rfl ?_
  refine V_iload_n (pc := 10) (DCa dc_Intg_bitCount_0 8 rfl) rfl 0 rfl ?_
  refine V_ldcw (v := 858993459) (x := 858993459) (pc := 11) (DCa dc_Intg_bitCount_0 9 rfl) (tb5 103 rfl rfl) rfl ?_
  refine V_iand (pc := 14) (DCa dc_Intg_bitCount_0 10 rfl) ?_
  refine V_iload_n (pc := 15) (DCa dc_Intg_bitCount_0 11 rfl) rfl 0 rfl ?_
  refine V_iconst (pc := 16) (DCa dc_Intg_bitCount_0 12 rfl) (by decide) ?_
  refine V_iushr (pc := 17) (DCa dc_Intg_bitCount_0 13 rfl) ?_
  refine V_ldcw (v := 858993459) (x := 858993459) (pc := 18) (DCa dc_Intg_bitCount_0 14 rfl) (tb5 103 rfl rfl) rfl ?_
  refine V_iand (pc := 21) (DCa dc_Intg_bitCount_0 15 rfl) ?_
  refine V_iadd (pc := 22) (DCa dc_Intg_bitCount_0 16 rfl) ?_
  refine Q_lt (fun x2 => ?_)
  refine V_istore_n (ls' := [(0, 0, x2)]) (pc := 23) (DCa dc_Intg_bitCount_0 17 rfl) rfl (Nat.le_of_ble_eq_true rfl) rfl ?_
  refine V_iload_n (pc := 24) (DCa dc_Intg_bitCount_0 18 rfl) rfl 0 rfl ?_
  refine V_iload_n (pc := 25) (DCa dc_Intg_bitCount_0 19 rfl) rfl 0 rfl ?_
  refine V_iconst (pc := 26) (DCa dc_Intg_bitCount_0 20 rfl) (by decide) ?_
  refine V_iushr (pc := 27) (DCa dc_Intg_bitCount_0 21 rfl) ?_
  refine V_iadd (pc := 28) (DCa dc_Intg_bitCount_0 22 rfl) ?_
  refine V_ldcw (v := 252645135) (x := 252645135) (pc := 29) (DCa dc_Intg_bitCount_0 23 rfl) (tb5 104 rfl rfl) rfl ?_
  refine V_iand (pc := 32) (DCa dc_Intg_bitCount_0 24 rfl) ?_
  refine Q_lt (fun x3 => ?_)
  refine V_istore_n (ls' := [(0, 0, x3)]) (pc := 33) (DCa dc_Intg_bitCount_0 25 rfl) rfl (Nat.le_of_ble_eq_true rfl) rfl ?_
  refine V_iload_n (pc := 34) (DCa dc_Intg_bitCount_0 26 rfl) rfl 0 rfl ?_
  refine V_iload_n (pc := 35) (DCa dc_Intg_bitCount_0 27 rfl) rfl 0 rfl ?_
  refine V_bipush (pc := 36) (DCa dc_Intg_bitCount_0 28 rfl) (by decide) ?_
  refine V_iushr (pc := 38) (DCa dc_Intg_bitCount_0 29 rfl) ?_
  refine V_iadd (pc := 39) (DCa dc_Intg_bitCount_0 30 rfl) ?_
  refine Q_lt (fun x4 => ?_)
  refine V_istore_n (ls' := [(0, 0, x4)]) (pc := 40) (DCa dc_Intg_bitCount_0 31 rfl) rfl (Nat.le_of_ble_eq_true rfl) rfl ?_
  refine V_iload_n (pc := 41) (DCa dc_Intg_bitCount_0 32 rfl) rfl 0 rfl ?_
  refine V_iload_n (pc := 42) (DCa dc_Intg_bitCount_0 33 rfl) rfl 0 rfl ?_
  refine V_bipush (pc := 43) (DCa dc_Intg_bitCount_0 34 rfl) (by decide) ?_
  refine V_iushr (pc := 45) (DCa dc_Intg_bitCount_0 35 rfl) ?_
  refine V_iadd (pc := 46) (DCa dc_Intg_bitCount_0 36 rfl) ?_
  refine Q_lt (fun x5 => ?_)
  refine V_istore_n (ls' := [(0, 0, x5)]) (pc := 47) (DCa dc_Intg_bitCount_0 37 rfl) rfl (Nat.le_of_ble_eq_true rfl) rfl ?_
  refine V_iload_n (pc := 48) (DCa dc_Intg_bitCount_0 38 rfl) rfl 0 rfl ?_
  refine V_bipush (pc := 49) (DCa dc_Intg_bitCount_0 39 rfl) (by decide) ?_
  refine V_iand (pc := 51) (DCa dc_Intg_bitCount_0 40 rfl) ?_
  exact V_ireturn (pc := 52) (DCa dc_Intg_bitCount_0 41 rfl) rfl
theorem sp_Intg_bitCount (F : Nat) (l0 : Int) (h : Hp) : Sp yJ6_bitCount_0f7a4 cJ6_bitCount_0f7a4 1 (some (.int)) 1 20 [(0, l0)] h (Intg_bitCount F l0 h) := Sp_of (by decide +kernel) rfl rfl (Nat.le_of_ble_eq_true rfl) (v_Intg_bitCount F l0 h)

-- TideRakes$Rows.trace
def Rows_trace_L24s (F : Nat)  (R24 : Int → Int → Int → Int → Int → Int → Int → Hp → Option (Int × Hp)) (l0 l2 l3 l4 l5 l6 l7 : Int) (h : Hp) : Option (Int × Hp) :=
  if l7 < 0 then
    (some (l3, h))
  else
    (iv h l0 104 (Rows_firstLast F l0 l4 l5 l6 h) fun r6 h7 =>
    if r6 < 0 then
      (some (0, h7))
    else
      (aln h7 l2 0 fun v8 =>
      if l7 < v8 then
        (as h7 l2 0 l7 r6 fun h9 =>
        gf h9 l0 104 5 fun v10 =>
        al h9 v10 0 (w32 ((w32 (l4 * 8)) + r6)) fun v11 =>
        lt (ixor l4 (ishl 1 r6)) fun x12 =>
        R24 l0 l2 l3 x12 r6 v11 (w32 (l7 + (-1))) h9)
      else
        (some (0, h7))))
def Rows_trace_L24 (F : Nat)  : Nat → Int → Int → Int → Int → Int → Int → Int → Hp → Option (Int × Hp)
  | 0 => fun _ _ _ _ _ _ _ _ => none
  | n + 1 => Rows_trace_L24s F  (Rows_trace_L24 F  n)
def Rows_trace (F : Nat) (l0 l1 l2 : Int) (h : Hp) : Option (Int × Hp) :=
  cl (Intg_bitCount F l1 h) fun r1 h2 =>
  gf h2 l0 104 6 fun v3 =>
  al h2 v3 0 l1 fun v4 =>
  lt (w32 (r1 - 1)) fun x5 =>
  Rows_trace_L24 F F l0 l2 r1 l1 (-1) v4 x5 h2

theorem dc_Rows_trace_0 : ∀ q ∈ ([(0, .iload_n 1, 1), (1, .invokestatic 86, 3), (4, .istore_n 3, 1), (5, .iload_n 1, 1), (6, .istore 4, 2), (8, .iconst (-1), 1), (9, .istore 5, 2), (11, .aload_n 0, 1), (12, .getfield 27, 3), (15, .iload_n 1, 1), (16, .iaload, 1), (17, .istore 6, 2), (19, .iload_n 3, 1), (20, .iconst 1, 1), (21, .isub, 1), (22, .istore 7, 2), (24, .iload 7, 2), (26, .ifCond .lt 69, 3), (29, .aload_n 0, 1), (30, .iload 4, 2), (32, .iload 5, 2), (34, .iload 6, 2), (36, .invokevirtual 91, 3), (39, .istore 8, 2), (41, .iload 8, 2), (43, .ifCond .lt 10, 3), (46, .iload 7, 2), (48, .aload_n 2, 1), (49, .arraylength, 1), (50, .if_icmp .lt 5, 3), (53, .iconst 0, 1), (54, .ireturn, 1), (55, .aload_n 2, 1), (56, .iload 7, 2), (58, .iload 8, 2), (60, .iastore, 1), (61, .aload_n 0, 1), (62, .getfield 24, 3), (65, .iload 4, 2), (67, .bipush 8, 2), (69, .imul, 1), (70, .iload 8, 2), (72, .iadd, 1), (73, .iaload, 1), (74, .istore 6, 2), (76, .iload 4, 2), (78, .iconst 1, 1), (79, .iload 8, 2), (81, .ishl, 1), (82, .ixor, 1)] : List (Nat × Instr × Nat)), decode cX4_trace q.1 = .ok (q.2.1, q.2.2) := by decide +kernel
theorem dc_Rows_trace_1 : ∀ q ∈ ([(83, .istore 4, 2), (85, .iload 8, 2), (87, .istore 5, 2), (89, .iinc 7 (-1), 3), (92, .goto (-68), 3), (95, .iload_n 3, 1), (96, .ireturn, 1)] : List (Nat × Instr × Nat)), decode cX4_trace q.1 = .ok (q.2.1, q.2.2) := by decide +kernel
abbrev X_Rows_trace : MX := (cX4_trace, RX4, "trace", 9, (some (.int)), 4, 90)
theorem v_Rows_trace_L24s (F : Nat)  (R24 : Int → Int → Int → Int → Int → Int → Int → Hp → Option (Int × Hp)) (hR24 : ∀ (l0 l2 l3 l4 l5 l6 l7 : Int) (h : Hp), V X_Rows_trace 24 [(0, 2, l0), (2, 2, l2), (3, 0, l3), (4, 0, l4), (5, 0, l5), (6, 0, l6), (7, 0, l7)] [] h (R24 l0 l2 l3 l4 l5 l6 l7 h)) (l0 l2 l3 l4 l5 l6 l7 : Int) (h : Hp) : V X_Rows_trace 24 [(0, 2, l0), (2, 2, l2), (3, 0, l3), (4, 0, l4), (5, 0, l5), (6, 0, l6), (7, 0, l7)] [] h (Rows_trace_L24s F  R24 l0 l2 l3 l4 l5 l6 l7 h) := by
  unfold Rows_trace_L24s
  refine V_iload (pc := 24) (DCa dc_Rows_trace_0 16 rfl) 6 rfl ?_
  refine V_if_lt (tgt := 95) (pc := 26) (DCa dc_Rows_trace_0 17 rfl) (by decide) (fun _ => ?_) (fun _ => ?_)
  · refine V_iload_n (pc := 95) (DCa dc_Rows_trace_1 5 rfl) rfl 2 rfl ?_
    exact V_ireturn (pc := 96) (DCa dc_Rows_trace_1 6 rfl) rfl
  · refine V_aload_n (pc := 29) (DCa dc_Rows_trace_0 18 rfl) rfl 0 rfl ?_
    refine V_iload (pc := 30) (DCa dc_Rows_trace_0 19 rfl) 3 rfl ?_
    refine V_iload (pc := 32) (DCa dc_Rows_trace_0 20 rfl) 4 rfl ?_
    refine V_iload (pc := 34) (DCa dc_Rows_trace_0 21 rfl) 5 rfl ?_
    refine Q_callv (ci := 4) (st := []) (pc := 36) (DCa dc_Rows_trace_0 22 rfl) (sp_Rows_firstLast F _ _ _ _ _) ce_Rows_firstLast ml_4_91 rfl rfl ⟨Nat.le_of_ble_eq_true rfl, Nat.le_of_ble_eq_true rfl⟩ rfl (Nat.le_of_ble_eq_true rfl) (fun r6 h7 => ?_)
    refine V_istore (ls' := [(0, 2, l0), (2, 2, l2), (3, 0, l3), (4, 0, l4), (5, 0, l5), (6, 0, l6), (7, 0, l7), (8, 0, r6)]) (pc := 39) (DCa dc_Rows_trace_0 23 rfl) (Nat.le_of_ble_eq_true rfl) rfl ?_
    refine V_iload (pc := 41) (DCa dc_Rows_trace_0 24 rfl) 7 rfl ?_
    refine V_if_lt (tgt := 53) (pc := 43) (DCa dc_Rows_trace_0 25 rfl) (by decide) (fun _ => ?_) (fun _ => ?_)
    · refine V_iconst (pc := 53) (DCa dc_Rows_trace_0 30 rfl) (by decide) ?_
      exact V_ireturn (pc := 54) (DCa dc_Rows_trace_0 31 rfl) rfl
    · refine V_iload (pc := 46) (DCa dc_Rows_trace_0 26 rfl) 6 rfl ?_
      refine V_aload_n (pc := 48) (DCa dc_Rows_trace_0 27 rfl) rfl 1 rfl ?_
      refine Q_alen (pc := 49) (DCa dc_Rows_trace_0 28 rfl) (by decide) (fun v8 => ?_)
      refine V_icmp_lt (tgt := 55) (pc := 50) (DCa dc_Rows_trace_0 29 rfl) (by decide) (fun _ => ?_) (fun _ => ?_)
      · refine V_aload_n (pc := 55) (DCa dc_Rows_trace_0 32 rfl) rfl 1 rfl ?_
        refine V_iload (pc := 56) (DCa dc_Rows_trace_0 33 rfl) 6 rfl ?_
        refine V_iload (pc := 58) (DCa dc_Rows_trace_0 34 rfl) 7 rfl ?_
        refine Q_iastore (pc := 60) (DCa dc_Rows_trace_0 35 rfl) (fun h9 => ?_)
        refine V_aload_n (pc := 61) (DCa dc_Rows_trace_0 36 rfl) rfl 0 rfl ?_
        refine Q_getf (k := 5) (pc := 62) (DCa dc_Rows_trace_0 37 rfl) cls_4 (Nat.le_of_ble_eq_true rfl) fl_4_24 rfl rfl rfl (fun v10 => ?_)
        refine V_iload (pc := 65) (DCa dc_Rows_trace_0 38 rfl) 3 rfl ?_
        refine V_bipush (pc := 67) (DCa dc_Rows_trace_0 39 rfl) (by decide) ?_
        refine V_imul (pc := 69) (DCa dc_Rows_trace_0 40 rfl) ?_
        refine V_iload (pc := 70) (DCa dc_Rows_trace_0 41 rfl) 7 rfl ?_
        refine V_iadd (pc := 72) (DCa dc_Rows_trace_0 42 rfl) ?_
        refine Q_iaload (pc := 73) (DCa dc_Rows_trace_0 43 rfl) (fun v11 => ?_)
        refine V_istore (ls' := [(0, 2, l0), (2, 2, l2), (3, 0, l3), (4, 0, l4), (5, 0, l5), (6, 0, v11), (7, 0, l7), (8, 0, r6)]) (pc := 74) (DCa dc_Rows_trace_0 44 rfl) (Nat.le_of_ble_eq_true rfl) rfl ?_
        refine V_iload (pc := 76) (DCa dc_Rows_trace_0 45 rfl) 3 rfl ?_
        refine V_iconst (pc := 78) (DCa dc_Rows_trace_0 46 rfl) (by decide) ?_
        refine V_iload (pc := 79) (DCa dc_Rows_trace_0 47 rfl) 7 rfl ?_
        refine V_ishl (pc := 81) (DCa dc_Rows_trace_0 48 rfl) ?_
        refine V_ixor (pc := 82) (DCa dc_Rows_trace_0 49 rfl) ?_
        refine Q_lt (fun x12 => ?_)
        refine V_istore (ls' := [(0, 2, l0), (2, 2, l2), (3, 0, l3), (4, 0, x12), (5, 0, l5), (6, 0, v11), (7, 0, l7), (8, 0, r6)]) (pc := 83) (DCa dc_Rows_trace_1 0 rfl) (Nat.le_of_ble_eq_true rfl) rfl ?_
        refine V_iload (pc := 85) (DCa dc_Rows_trace_1 1 rfl) 7 rfl ?_
        refine V_istore (ls' := [(0, 2, l0), (2, 2, l2), (3, 0, l3), (4, 0, x12), (5, 0, r6), (6, 0, v11), (7, 0, l7), (8, 0, r6)]) (pc := 87) (DCa dc_Rows_trace_1 2 rfl) (Nat.le_of_ble_eq_true rfl) rfl ?_
        refine V_iinc (ls' := [(0, 2, l0), (2, 2, l2), (3, 0, l3), (4, 0, x12), (5, 0, r6), (6, 0, v11), (7, 0, w32 (l7 + (-1))), (8, 0, r6)]) (pc := 89) (DCa dc_Rows_trace_1 3 rfl) (Nat.le_of_ble_eq_true rfl) (by decide) 6 rfl rfl ?_
        refine V_goto (tgt := 24) (pc := 92) (DCa dc_Rows_trace_1 4 rfl) (by decide) ?_
        refine V_pick [0, 1, 2, 3, 4, 5, 6] rfl ?_
        exact hR24 _ _ _ _ _ _ _ _
      · refine V_iconst (pc := 53) (DCa dc_Rows_trace_0 30 rfl) (by decide) ?_
        exact V_ireturn (pc := 54) (DCa dc_Rows_trace_0 31 rfl) rfl
theorem v_Rows_trace_L24 (F : Nat)  (n : Nat) : ∀ (l0 l2 l3 l4 l5 l6 l7 : Int) (h : Hp), V X_Rows_trace 24 [(0, 2, l0), (2, 2, l2), (3, 0, l3), (4, 0, l4), (5, 0, l5), (6, 0, l6), (7, 0, l7)] [] h (Rows_trace_L24 F  n l0 l2 l3 l4 l5 l6 l7 h) := by
  induction n with
  | zero => intros; exact V_none
  | succ n ih => exact fun l0 l2 l3 l4 l5 l6 l7 h => v_Rows_trace_L24s F  _ ih l0 l2 l3 l4 l5 l6 l7 h
theorem v_Rows_trace (F : Nat) (l0 l1 l2 : Int) (h : Hp) : V X_Rows_trace 0 [(0, 2, l0), (1, 0, l1), (2, 2, l2)] [] h (Rows_trace F l0 l1 l2 h) := by
  unfold Rows_trace
  refine V_iload_n (pc := 0) (DCa dc_Rows_trace_0 0 rfl) rfl 1 rfl ?_
  refine Q_calls (st := []) (pc := 1) (DCa dc_Rows_trace_0 1 rfl) (sp_Intg_bitCount F _ _) ce_Intg_bitCount ml_4_86 rfl ⟨Nat.le_of_ble_eq_true rfl, Nat.le_of_ble_eq_true rfl⟩ rfl (Nat.le_of_ble_eq_true rfl) (fun r1 h2 => ?_)
  refine V_istore_n (ls' := [(0, 2, l0), (1, 0, l1), (2, 2, l2), (3, 0, r1)]) (pc := 4) (DCa dc_Rows_trace_0 2 rfl) rfl (Nat.le_of_ble_eq_true rfl) rfl ?_
  refine V_iload_n (pc := 5) (DCa dc_Rows_trace_0 3 rfl) rfl 1 rfl ?_
  refine V_istore (ls' := [(0, 2, l0), (1, 0, l1), (2, 2, l2), (3, 0, r1), (4, 0, l1)]) (pc := 6) (DCa dc_Rows_trace_0 4 rfl) (Nat.le_of_ble_eq_true rfl) rfl ?_
  refine V_iconst (pc := 8) (DCa dc_Rows_trace_0 5 rfl) (by decide) ?_
  refine V_istore (ls' := [(0, 2, l0), (1, 0, l1), (2, 2, l2), (3, 0, r1), (4, 0, l1), (5, 0, (-1))]) (pc := 9) (DCa dc_Rows_trace_0 6 rfl) (Nat.le_of_ble_eq_true rfl) rfl ?_
  refine V_aload_n (pc := 11) (DCa dc_Rows_trace_0 7 rfl) rfl 0 rfl ?_
  refine Q_getf (k := 6) (pc := 12) (DCa dc_Rows_trace_0 8 rfl) cls_4 (Nat.le_of_ble_eq_true rfl) fl_4_27 rfl rfl rfl (fun v3 => ?_)
  refine V_iload_n (pc := 15) (DCa dc_Rows_trace_0 9 rfl) rfl 1 rfl ?_
  refine Q_iaload (pc := 16) (DCa dc_Rows_trace_0 10 rfl) (fun v4 => ?_)
  refine V_istore (ls' := [(0, 2, l0), (1, 0, l1), (2, 2, l2), (3, 0, r1), (4, 0, l1), (5, 0, (-1)), (6, 0, v4)]) (pc := 17) (DCa dc_Rows_trace_0 11 rfl) (Nat.le_of_ble_eq_true rfl) rfl ?_
  refine V_iload_n (pc := 19) (DCa dc_Rows_trace_0 12 rfl) rfl 3 rfl ?_
  refine V_iconst (pc := 20) (DCa dc_Rows_trace_0 13 rfl) (by decide) ?_
  refine V_isub (pc := 21) (DCa dc_Rows_trace_0 14 rfl) ?_
  refine Q_lt (fun x5 => ?_)
  refine V_istore (ls' := [(0, 2, l0), (1, 0, l1), (2, 2, l2), (3, 0, r1), (4, 0, l1), (5, 0, (-1)), (6, 0, v4), (7, 0, x5)]) (pc := 22) (DCa dc_Rows_trace_0 15 rfl) (Nat.le_of_ble_eq_true rfl) rfl ?_
  refine V_pick [0, 2, 3, 4, 5, 6, 7] rfl ?_
  exact v_Rows_trace_L24 F F _ _ _ _ _ _ _ _
theorem sp_Rows_trace (F : Nat) (l0 l1 l2 : Int) (h : Hp) : Sp yX4_trace cX4_trace 9 (some (.int)) 4 90 [(2, l0), (0, l1), (2, l2)] h (Rows_trace F l0 l1 l2 h) := Sp_of (by decide +kernel) rfl rfl (Nat.le_of_ble_eq_true rfl) (v_Rows_trace F l0 l1 l2 h)

-- TideRakes$Planner.trace
def Plan_trace (F : Nat) (l0 l1 l2 l3 l4 : Int) (h : Hp) : Option (Int × Hp) :=
  iv h l0 102 (Plan_rowsOf F l0 l1 l2 l3 h) fun r1 h2 =>
  gf h2 l1 107 4 fun v3 =>
  iv h2 r1 104 (Rows_bestSet F r1 v3 l4 h2) fun r4 h5 =>
  gf h5 l0 102 4 fun v6 =>
  iv h5 r1 104 (Rows_trace F r1 r4 v6 h5) fun r7 h8 =>
  some (r7, h8)

theorem dc_Plan_trace_0 : ∀ q ∈ ([(0, .aload_n 0, 1), (1, .aload_n 1, 1), (2, .aload_n 2, 1), (3, .iload_n 3, 1), (4, .invokevirtual 89, 3), (7, .astore 5, 2), (9, .aload 5, 2), (11, .aload 5, 2), (13, .aload_n 1, 1), (14, .getfield 93, 3), (17, .iload 4, 2), (19, .invokevirtual 96, 3), (22, .aload_n 0, 1), (23, .getfield 33, 3), (26, .invokevirtual 100, 3), (29, .ireturn, 1)] : List (Nat × Instr × Nat)), decode cX2_trace q.1 = .ok (q.2.1, q.2.2) := by decide +kernel
abbrev X_Plan_trace : MX := (cX2_trace, RX2, "trace", 6, (some (.int)), 6, 141)
theorem v_Plan_trace (F : Nat) (l0 l1 l2 l3 l4 : Int) (h : Hp) : V X_Plan_trace 0 [(0, 2, l0), (1, 2, l1), (2, 2, l2), (3, 0, l3), (4, 0, l4)] [] h (Plan_trace F l0 l1 l2 l3 l4 h) := by
  unfold Plan_trace
  refine V_aload_n (pc := 0) (DCa dc_Plan_trace_0 0 rfl) rfl 0 rfl ?_
  refine V_aload_n (pc := 1) (DCa dc_Plan_trace_0 1 rfl) rfl 1 rfl ?_
  refine V_aload_n (pc := 2) (DCa dc_Plan_trace_0 2 rfl) rfl 2 rfl ?_
  refine V_iload_n (pc := 3) (DCa dc_Plan_trace_0 3 rfl) rfl 3 rfl ?_
  refine Q_callv (ci := 2) (st := []) (pc := 4) (DCa dc_Plan_trace_0 4 rfl) (sp_Plan_rowsOf F _ _ _ _ _) ce_Plan_rowsOf ml_2_89 rfl rfl ⟨Nat.le_of_ble_eq_true rfl, Nat.le_of_ble_eq_true rfl⟩ rfl (Nat.le_of_ble_eq_true rfl) (fun r1 h2 => ?_)
  refine V_astore (ls' := [(0, 2, l0), (1, 2, l1), (2, 2, l2), (3, 0, l3), (4, 0, l4), (5, 2, r1)]) (pc := 7) (DCa dc_Plan_trace_0 5 rfl) (Nat.le_of_ble_eq_true rfl) rfl ?_
  refine V_aload (pc := 9) (DCa dc_Plan_trace_0 6 rfl) 5 rfl ?_
  refine V_aload (pc := 11) (DCa dc_Plan_trace_0 7 rfl) 5 rfl ?_
  refine V_aload_n (pc := 13) (DCa dc_Plan_trace_0 8 rfl) rfl 1 rfl ?_
  refine Q_getf (k := 4) (pc := 14) (DCa dc_Plan_trace_0 9 rfl) cls_7 (Nat.le_of_ble_eq_true rfl) fl_2_93 rfl rfl rfl (fun v3 => ?_)
  refine V_iload (pc := 17) (DCa dc_Plan_trace_0 10 rfl) 4 rfl ?_
  refine Q_callv (ci := 4) (st := [(2, r1)]) (pc := 19) (DCa dc_Plan_trace_0 11 rfl) (sp_Rows_bestSet F _ _ _ _) ce_Rows_bestSet ml_2_96 rfl rfl ⟨Nat.le_of_ble_eq_true rfl, Nat.le_of_ble_eq_true rfl⟩ rfl (Nat.le_of_ble_eq_true rfl) (fun r4 h5 => ?_)
  refine V_aload_n (pc := 22) (DCa dc_Plan_trace_0 12 rfl) rfl 0 rfl ?_
  refine Q_getf (k := 4) (pc := 23) (DCa dc_Plan_trace_0 13 rfl) cls_2 (Nat.le_of_ble_eq_true rfl) fl_2_33 rfl rfl rfl (fun v6 => ?_)
  refine Q_callv (ci := 4) (st := []) (pc := 26) (DCa dc_Plan_trace_0 14 rfl) (sp_Rows_trace F _ _ _ _) ce_Rows_trace ml_2_100 rfl rfl ⟨Nat.le_of_ble_eq_true rfl, Nat.le_of_ble_eq_true rfl⟩ rfl (Nat.le_of_ble_eq_true rfl) (fun r7 h8 => ?_)
  exact V_ireturn (pc := 29) (DCa dc_Plan_trace_0 15 rfl) rfl
theorem sp_Plan_trace (F : Nat) (l0 l1 l2 l3 l4 : Int) (h : Hp) : Sp yX2_trace cX2_trace 6 (some (.int)) 6 141 [(2, l0), (2, l1), (2, l2), (0, l3), (0, l4)] h (Plan_trace F l0 l1 l2 l3 l4 h) := Sp_of (by decide +kernel) rfl rfl (Nat.le_of_ble_eq_true rfl) (v_Plan_trace F l0 l1 l2 l3 l4 h)

-- TideRakes$Sand.freeFor
def Sand_freeFor (F : Nat) (l0 l1 : Int) (h : Hp) : Option (Int × Hp) :=
  if l1 < 0 then
    (some (0, h))
  else
    (gf h l0 105 4 fun v1 =>
    aln h v1 0 fun v2 =>
    if l1 < v2 then
      (gf h l0 105 4 fun v3 =>
      al h v3 0 l1 fun v4 =>
      some (v4, h))
    else
      (some (0, h)))

theorem dc_Sand_freeFor_0 : ∀ q ∈ ([(0, .iload_n 1, 1), (1, .ifCond .lt 21, 3), (4, .iload_n 1, 1), (5, .aload_n 0, 1), (6, .getfield 9, 3), (9, .arraylength, 1), (10, .if_icmp .ge 12, 3), (13, .aload_n 0, 1), (14, .getfield 9, 3), (17, .iload_n 1, 1), (18, .iaload, 1), (19, .goto 4, 3), (22, .iconst 0, 1), (23, .ireturn, 1)] : List (Nat × Instr × Nat)), decode cX5_freeFor q.1 = .ok (q.2.1, q.2.2) := by decide +kernel
abbrev X_Sand_freeFor : MX := (cX5_freeFor, RX5, "freeFor", 2, (some (.int)), 1, 20)
theorem v_Sand_freeFor (F : Nat) (l0 l1 : Int) (h : Hp) : V X_Sand_freeFor 0 [(0, 2, l0), (1, 0, l1)] [] h (Sand_freeFor F l0 l1 h) := by
  unfold Sand_freeFor
  refine V_iload_n (pc := 0) (DCa dc_Sand_freeFor_0 0 rfl) rfl 1 rfl ?_
  refine V_if_lt (tgt := 22) (pc := 1) (DCa dc_Sand_freeFor_0 1 rfl) (by decide) (fun _ => ?_) (fun _ => ?_)
  · refine V_iconst (pc := 22) (DCa dc_Sand_freeFor_0 12 rfl) (by decide) ?_
    exact V_ireturn (pc := 23) (DCa dc_Sand_freeFor_0 13 rfl) rfl
  · refine V_iload_n (pc := 4) (DCa dc_Sand_freeFor_0 2 rfl) rfl 1 rfl ?_
    refine V_aload_n (pc := 5) (DCa dc_Sand_freeFor_0 3 rfl) rfl 0 rfl ?_
    refine Q_getf (k := 4) (pc := 6) (DCa dc_Sand_freeFor_0 4 rfl) cls_5 (Nat.le_of_ble_eq_true rfl) fl_5_9 rfl rfl rfl (fun v1 => ?_)
    refine Q_alen (pc := 9) (DCa dc_Sand_freeFor_0 5 rfl) (by decide) (fun v2 => ?_)
    refine V_icmp_ge (tgt := 22) (pc := 10) (DCa dc_Sand_freeFor_0 6 rfl) (by decide) (fun _ => ?_) (fun _ => ?_)
    · refine V_aload_n (pc := 13) (DCa dc_Sand_freeFor_0 7 rfl) rfl 0 rfl ?_
      refine Q_getf (k := 4) (pc := 14) (DCa dc_Sand_freeFor_0 8 rfl) cls_5 (Nat.le_of_ble_eq_true rfl) fl_5_9 rfl rfl rfl (fun v3 => ?_)
      refine V_iload_n (pc := 17) (DCa dc_Sand_freeFor_0 9 rfl) rfl 1 rfl ?_
      refine Q_iaload (pc := 18) (DCa dc_Sand_freeFor_0 10 rfl) (fun v4 => ?_)
      refine V_goto (tgt := 23) (pc := 19) (DCa dc_Sand_freeFor_0 11 rfl) (by decide) ?_
      exact V_ireturn (pc := 23) (DCa dc_Sand_freeFor_0 13 rfl) rfl
    · refine V_iconst (pc := 22) (DCa dc_Sand_freeFor_0 12 rfl) (by decide) ?_
      exact V_ireturn (pc := 23) (DCa dc_Sand_freeFor_0 13 rfl) rfl
theorem sp_Sand_freeFor (F : Nat) (l0 l1 : Int) (h : Hp) : Sp yX5_freeFor cX5_freeFor 2 (some (.int)) 1 20 [(2, l0), (0, l1)] h (Sand_freeFor F l0 l1 h) := Sp_of (by decide +kernel) rfl rfl (Nat.le_of_ble_eq_true rfl) (v_Sand_freeFor F l0 l1 h)

-- TideRakes$Sand.washed
def Sand_washed (F : Nat) (l0 l1 l2 : Int) (h : Hp) : Option (Int × Hp) :=
  iv h l0 105 (Sand_freeFor F l0 l2 h) fun r1 h2 =>
  if (w32 (l2 - l1)) < r1 then
    (rz 0 h2)
  else
    (rz 1 h2)

theorem dc_Sand_washed_0 : ∀ q ∈ ([(0, .aload_n 0, 1), (1, .iload_n 2, 1), (2, .invokevirtual 25, 3), (5, .iload_n 2, 1), (6, .iload_n 1, 1), (7, .isub, 1), (8, .if_icmp .gt 7, 3), (11, .iconst 1, 1), (12, .goto 4, 3), (15, .iconst 0, 1), (16, .ireturn, 1)] : List (Nat × Instr × Nat)), decode cX5_washed q.1 = .ok (q.2.1, q.2.2) := by decide +kernel
abbrev X_Sand_washed : MX := (cX5_washed, RX5, "washed", 3, (some (.boolean)), 2, 41)
theorem v_Sand_washed (F : Nat) (l0 l1 l2 : Int) (h : Hp) : V X_Sand_washed 0 [(0, 2, l0), (1, 0, l1), (2, 0, l2)] [] h (Sand_washed F l0 l1 l2 h) := by
  unfold Sand_washed
  refine V_aload_n (pc := 0) (DCa dc_Sand_washed_0 0 rfl) rfl 0 rfl ?_
  refine V_iload_n (pc := 1) (DCa dc_Sand_washed_0 1 rfl) rfl 2 rfl ?_
  refine Q_callv (ci := 5) (st := []) (pc := 2) (DCa dc_Sand_washed_0 2 rfl) (sp_Sand_freeFor F _ _ _) ce_Sand_freeFor ml_5_25 rfl rfl ⟨Nat.le_of_ble_eq_true rfl, Nat.le_of_ble_eq_true rfl⟩ rfl (Nat.le_of_ble_eq_true rfl) (fun r1 h2 => ?_)
  refine V_iload_n (pc := 5) (DCa dc_Sand_washed_0 3 rfl) rfl 2 rfl ?_
  refine V_iload_n (pc := 6) (DCa dc_Sand_washed_0 4 rfl) rfl 1 rfl ?_
  refine V_isub (pc := 7) (DCa dc_Sand_washed_0 5 rfl) ?_
  refine V_icmp_gt (tgt := 15) (pc := 8) (DCa dc_Sand_washed_0 6 rfl) (by decide) (fun _ => ?_) (fun _ => ?_)
  · refine V_iconst (pc := 15) (DCa dc_Sand_washed_0 9 rfl) (by decide) ?_
    exact V_zreturn (pc := 16) (DCa dc_Sand_washed_0 10 rfl) rfl
  · refine V_iconst (pc := 11) (DCa dc_Sand_washed_0 7 rfl) (by decide) ?_
    refine V_goto (tgt := 16) (pc := 12) (DCa dc_Sand_washed_0 8 rfl) (by decide) ?_
    exact V_zreturn (pc := 16) (DCa dc_Sand_washed_0 10 rfl) rfl
theorem sp_Sand_washed (F : Nat) (l0 l1 l2 : Int) (h : Hp) : Sp yX5_washed cX5_washed 3 (some (.boolean)) 2 41 [(2, l0), (0, l1), (0, l2)] h (Sand_washed F l0 l1 l2 h) := Sp_of (by decide +kernel) rfl rfl (Nat.le_of_ble_eq_true rfl) (v_Sand_washed F l0 l1 l2 h)

-- TideRakes$Planner.visibleAfter
def Plan_visibleAfter_L40s (F : Nat)  (R40 : Int → Int → Int → Int → Int → Int → Int → Int → Hp → Option (Int × Hp)) (l0 l1 l5 l6 l7 l8 l9 l10 : Int) (h : Hp) : Option (Int × Hp) :=
  if l10 < l7 then
    (gf h l0 102 4 fun v9 =>
    al h v9 0 l10 fun v10 =>
    lt (ior l8 (ishl 1 v10)) fun x11 =>
    gf h l6 104 5 fun v12 =>
    al h v12 0 (w32 ((w32 (x11 * 8)) + v10)) fun v13 =>
    if l5 < v13 then
      (R40 l0 l1 l5 l6 l7 x11 l9 (w32 (l10 + 1)) h)
    else
      (gf h l1 107 3 fun v14 =>
      al h v14 5 v10 fun v15 =>
      iv h v15 105 (Sand_washed F v15 v13 l5 h) fun r16 h17 =>
      if r16 = 0 then
        (lt (ior l9 (ishl 1 v10)) fun x18 =>
        R40 l0 l1 l5 l6 l7 x11 x18 (w32 (l10 + 1)) h17)
      else
        (R40 l0 l1 l5 l6 l7 x11 l9 (w32 (l10 + 1)) h17)))
  else
    (some (l9, h))
def Plan_visibleAfter_L40 (F : Nat)  : Nat → Int → Int → Int → Int → Int → Int → Int → Int → Hp → Option (Int × Hp)
  | 0 => fun _ _ _ _ _ _ _ _ _ => none
  | n + 1 => Plan_visibleAfter_L40s F  (Plan_visibleAfter_L40 F  n)
def Plan_visibleAfter (F : Nat) (l0 l1 l2 l3 l4 l5 : Int) (h : Hp) : Option (Int × Hp) :=
  iv h l0 102 (Plan_rowsOf F l0 l1 l2 l3 h) fun r1 h2 =>
  gf h2 l1 107 4 fun v3 =>
  iv h2 r1 104 (Rows_bestSet F r1 v3 l4 h2) fun r4 h5 =>
  gf h5 l0 102 4 fun v6 =>
  iv h5 r1 104 (Rows_trace F r1 r4 v6 h5) fun r7 h8 =>
  Plan_visibleAfter_L40 F F l0 l1 l5 r1 r7 0 0 0 h8

theorem dc_Plan_visibleAfter_0 : ∀ q ∈ ([(0, .aload_n 0, 1), (1, .aload_n 1, 1), (2, .aload_n 2, 1), (3, .iload_n 3, 1), (4, .invokevirtual 89, 3), (7, .astore 6, 2), (9, .aload 6, 2), (11, .aload 6, 2), (13, .aload_n 1, 1), (14, .getfield 93, 3), (17, .iload 4, 2), (19, .invokevirtual 96, 3), (22, .aload_n 0, 1), (23, .getfield 33, 3), (26, .invokevirtual 100, 3), (29, .istore 7, 2), (31, .iconst 0, 1), (32, .istore 8, 2), (34, .iconst 0, 1), (35, .istore 9, 2), (37, .iconst 0, 1), (38, .istore 10, 2), (40, .iload 10, 2), (42, .iload 7, 2), (44, .if_icmp .ge 76, 3), (47, .aload_n 0, 1), (48, .getfield 33, 3), (51, .iload 10, 2), (53, .iaload, 1), (54, .istore 11, 2), (56, .iload 8, 2), (58, .iconst 1, 1), (59, .iload 11, 2), (61, .ishl, 1), (62, .ior, 1), (63, .istore 8, 2), (65, .aload 6, 2), (67, .getfield 104, 3), (70, .iload 8, 2), (72, .bipush 8, 2), (74, .imul, 1), (75, .iload 11, 2), (77, .iadd, 1), (78, .iaload, 1), (79, .istore 12, 2), (81, .iload 12, 2), (83, .iload 5, 2), (85, .if_icmp .gt 29, 3), (88, .aload_n 1, 1), (89, .getfield 57, 3)] : List (Nat × Instr × Nat)), decode cX2_visibleAfter q.1 = .ok (q.2.1, q.2.2) := by decide +kernel
theorem dc_Plan_visibleAfter_1 : ∀ q ∈ ([(92, .iload 11, 2), (94, .aaload, 1), (95, .iload 12, 2), (97, .iload 5, 2), (99, .invokevirtual 107, 3), (102, .ifCond .ne 12, 3), (105, .iload 9, 2), (107, .iconst 1, 1), (108, .iload 11, 2), (110, .ishl, 1), (111, .ior, 1), (112, .istore 9, 2), (114, .iinc 10 1, 3), (117, .goto (-77), 3), (120, .iload 9, 2), (122, .ireturn, 1)] : List (Nat × Instr × Nat)), decode cX2_visibleAfter q.1 = .ok (q.2.1, q.2.2) := by decide +kernel
abbrev X_Plan_visibleAfter : MX := (cX2_visibleAfter, RX2, "visibleAfter", 13, (some (.int)), 6, 141)
theorem v_Plan_visibleAfter_L40s (F : Nat)  (R40 : Int → Int → Int → Int → Int → Int → Int → Int → Hp → Option (Int × Hp)) (hR40 : ∀ (l0 l1 l5 l6 l7 l8 l9 l10 : Int) (h : Hp), V X_Plan_visibleAfter 40 [(0, 2, l0), (1, 2, l1), (5, 0, l5), (6, 2, l6), (7, 0, l7), (8, 0, l8), (9, 0, l9), (10, 0, l10)] [] h (R40 l0 l1 l5 l6 l7 l8 l9 l10 h)) (l0 l1 l5 l6 l7 l8 l9 l10 : Int) (h : Hp) : V X_Plan_visibleAfter 40 [(0, 2, l0), (1, 2, l1), (5, 0, l5), (6, 2, l6), (7, 0, l7), (8, 0, l8), (9, 0, l9), (10, 0, l10)] [] h (Plan_visibleAfter_L40s F  R40 l0 l1 l5 l6 l7 l8 l9 l10 h) := by
  unfold Plan_visibleAfter_L40s
  refine V_iload (pc := 40) (DCa dc_Plan_visibleAfter_0 22 rfl) 7 rfl ?_
  refine V_iload (pc := 42) (DCa dc_Plan_visibleAfter_0 23 rfl) 4 rfl ?_
  refine V_icmp_ge (tgt := 120) (pc := 44) (DCa dc_Plan_visibleAfter_0 24 rfl) (by decide) (fun _ => ?_) (fun _ => ?_)
  · refine V_aload_n (pc := 47) (DCa dc_Plan_visibleAfter_0 25 rfl) rfl 0 rfl ?_
    refine Q_getf (k := 4) (pc := 48) (DCa dc_Plan_visibleAfter_0 26 rfl) cls_2 (Nat.le_of_ble_eq_true rfl) fl_2_33 rfl rfl rfl (fun v9 => ?_)
    refine V_iload (pc := 51) (DCa dc_Plan_visibleAfter_0 27 rfl) 7 rfl ?_
    refine Q_iaload (pc := 53) (DCa dc_Plan_visibleAfter_0 28 rfl) (fun v10 => ?_)
    refine V_istore (ls' := [(0, 2, l0), (1, 2, l1), (5, 0, l5), (6, 2, l6), (7, 0, l7), (8, 0, l8), (9, 0, l9), (10, 0, l10), (11, 0, v10)]) (pc := 54) (DCa dc_Plan_visibleAfter_0 29 rfl) (Nat.le_of_ble_eq_true rfl) rfl ?_
    refine V_iload (pc := 56) (DCa dc_Plan_visibleAfter_0 30 rfl) 5 rfl ?_
    refine V_iconst (pc := 58) (DCa dc_Plan_visibleAfter_0 31 rfl) (by decide) ?_
    refine V_iload (pc := 59) (DCa dc_Plan_visibleAfter_0 32 rfl) 8 rfl ?_
    refine V_ishl (pc := 61) (DCa dc_Plan_visibleAfter_0 33 rfl) ?_
    refine V_ior (pc := 62) (DCa dc_Plan_visibleAfter_0 34 rfl) ?_
    refine Q_lt (fun x11 => ?_)
    refine V_istore (ls' := [(0, 2, l0), (1, 2, l1), (5, 0, l5), (6, 2, l6), (7, 0, l7), (8, 0, x11), (9, 0, l9), (10, 0, l10), (11, 0, v10)]) (pc := 63) (DCa dc_Plan_visibleAfter_0 35 rfl) (Nat.le_of_ble_eq_true rfl) rfl ?_
    refine V_aload (pc := 65) (DCa dc_Plan_visibleAfter_0 36 rfl) 3 rfl ?_
    refine Q_getf (k := 5) (pc := 67) (DCa dc_Plan_visibleAfter_0 37 rfl) cls_4 (Nat.le_of_ble_eq_true rfl) fl_2_104 rfl rfl rfl (fun v12 => ?_)
    refine V_iload (pc := 70) (DCa dc_Plan_visibleAfter_0 38 rfl) 5 rfl ?_
    refine V_bipush (pc := 72) (DCa dc_Plan_visibleAfter_0 39 rfl) (by decide) ?_
    refine V_imul (pc := 74) (DCa dc_Plan_visibleAfter_0 40 rfl) ?_
    refine V_iload (pc := 75) (DCa dc_Plan_visibleAfter_0 41 rfl) 8 rfl ?_
    refine V_iadd (pc := 77) (DCa dc_Plan_visibleAfter_0 42 rfl) ?_
    refine Q_iaload (pc := 78) (DCa dc_Plan_visibleAfter_0 43 rfl) (fun v13 => ?_)
    refine V_istore (ls' := [(0, 2, l0), (1, 2, l1), (5, 0, l5), (6, 2, l6), (7, 0, l7), (8, 0, x11), (9, 0, l9), (10, 0, l10), (11, 0, v10), (12, 0, v13)]) (pc := 79) (DCa dc_Plan_visibleAfter_0 44 rfl) (Nat.le_of_ble_eq_true rfl) rfl ?_
    refine V_iload (pc := 81) (DCa dc_Plan_visibleAfter_0 45 rfl) 9 rfl ?_
    refine V_iload (pc := 83) (DCa dc_Plan_visibleAfter_0 46 rfl) 2 rfl ?_
    refine V_icmp_gt (tgt := 114) (pc := 85) (DCa dc_Plan_visibleAfter_0 47 rfl) (by decide) (fun _ => ?_) (fun _ => ?_)
    · refine V_iinc (ls' := [(0, 2, l0), (1, 2, l1), (5, 0, l5), (6, 2, l6), (7, 0, l7), (8, 0, x11), (9, 0, l9), (10, 0, w32 (l10 + 1)), (11, 0, v10), (12, 0, v13)]) (pc := 114) (DCa dc_Plan_visibleAfter_1 12 rfl) (Nat.le_of_ble_eq_true rfl) (by decide) 7 rfl rfl ?_
      refine V_goto (tgt := 40) (pc := 117) (DCa dc_Plan_visibleAfter_1 13 rfl) (by decide) ?_
      refine V_pick [0, 1, 2, 3, 4, 5, 6, 7] rfl ?_
      exact hR40 _ _ _ _ _ _ _ _ _
    · refine V_aload_n (pc := 88) (DCa dc_Plan_visibleAfter_0 48 rfl) rfl 1 rfl ?_
      refine Q_getf (k := 3) (pc := 89) (DCa dc_Plan_visibleAfter_0 49 rfl) cls_7 (Nat.le_of_ble_eq_true rfl) fl_2_57 rfl rfl rfl (fun v14 => ?_)
      refine V_iload (pc := 92) (DCa dc_Plan_visibleAfter_1 0 rfl) 8 rfl ?_
      refine Q_aaload (pc := 94) (DCa dc_Plan_visibleAfter_1 1 rfl) (by decide) rfl rfl (fun v15 => ?_)
      refine V_iload (pc := 95) (DCa dc_Plan_visibleAfter_1 2 rfl) 9 rfl ?_
      refine V_iload (pc := 97) (DCa dc_Plan_visibleAfter_1 3 rfl) 2 rfl ?_
      refine Q_callv (ci := 5) (st := []) (pc := 99) (DCa dc_Plan_visibleAfter_1 4 rfl) (sp_Sand_washed F _ _ _ _) ce_Sand_washed ml_2_107 rfl rfl ⟨Nat.le_of_ble_eq_true rfl, Nat.le_of_ble_eq_true rfl⟩ rfl (Nat.le_of_ble_eq_true rfl) (fun r16 h17 => ?_)
      refine V_if_ne (tgt := 114) (pc := 102) (DCa dc_Plan_visibleAfter_1 5 rfl) (by decide) (fun _ => ?_) (fun _ => ?_)
      · refine V_iload (pc := 105) (DCa dc_Plan_visibleAfter_1 6 rfl) 6 rfl ?_
        refine V_iconst (pc := 107) (DCa dc_Plan_visibleAfter_1 7 rfl) (by decide) ?_
        refine V_iload (pc := 108) (DCa dc_Plan_visibleAfter_1 8 rfl) 8 rfl ?_
        refine V_ishl (pc := 110) (DCa dc_Plan_visibleAfter_1 9 rfl) ?_
        refine V_ior (pc := 111) (DCa dc_Plan_visibleAfter_1 10 rfl) ?_
        refine Q_lt (fun x18 => ?_)
        refine V_istore (ls' := [(0, 2, l0), (1, 2, l1), (5, 0, l5), (6, 2, l6), (7, 0, l7), (8, 0, x11), (9, 0, x18), (10, 0, l10), (11, 0, v10), (12, 0, v13)]) (pc := 112) (DCa dc_Plan_visibleAfter_1 11 rfl) (Nat.le_of_ble_eq_true rfl) rfl ?_
        refine V_iinc (ls' := [(0, 2, l0), (1, 2, l1), (5, 0, l5), (6, 2, l6), (7, 0, l7), (8, 0, x11), (9, 0, x18), (10, 0, w32 (l10 + 1)), (11, 0, v10), (12, 0, v13)]) (pc := 114) (DCa dc_Plan_visibleAfter_1 12 rfl) (Nat.le_of_ble_eq_true rfl) (by decide) 7 rfl rfl ?_
        refine V_goto (tgt := 40) (pc := 117) (DCa dc_Plan_visibleAfter_1 13 rfl) (by decide) ?_
        refine V_pick [0, 1, 2, 3, 4, 5, 6, 7] rfl ?_
        exact hR40 _ _ _ _ _ _ _ _ _
      · refine V_iinc (ls' := [(0, 2, l0), (1, 2, l1), (5, 0, l5), (6, 2, l6), (7, 0, l7), (8, 0, x11), (9, 0, l9), (10, 0, w32 (l10 + 1)), (11, 0, v10), (12, 0, v13)]) (pc := 114) (DCa dc_Plan_visibleAfter_1 12 rfl) (Nat.le_of_ble_eq_true rfl) (by decide) 7 rfl rfl ?_
        refine V_goto (tgt := 40) (pc := 117) (DCa dc_Plan_visibleAfter_1 13 rfl) (by decide) ?_
        refine V_pick [0, 1, 2, 3, 4, 5, 6, 7] rfl ?_
        exact hR40 _ _ _ _ _ _ _ _ _
  · refine V_iload (pc := 120) (DCa dc_Plan_visibleAfter_1 14 rfl) 6 rfl ?_
    exact V_ireturn (pc := 122) (DCa dc_Plan_visibleAfter_1 15 rfl) rfl
theorem v_Plan_visibleAfter_L40 (F : Nat)  (n : Nat) : ∀ (l0 l1 l5 l6 l7 l8 l9 l10 : Int) (h : Hp), V X_Plan_visibleAfter 40 [(0, 2, l0), (1, 2, l1), (5, 0, l5), (6, 2, l6), (7, 0, l7), (8, 0, l8), (9, 0, l9), (10, 0, l10)] [] h (Plan_visibleAfter_L40 F  n l0 l1 l5 l6 l7 l8 l9 l10 h) := by
  induction n with
  | zero => intros; exact V_none
  | succ n ih => exact fun l0 l1 l5 l6 l7 l8 l9 l10 h => v_Plan_visibleAfter_L40s F  _ ih l0 l1 l5 l6 l7 l8 l9 l10 h
theorem v_Plan_visibleAfter (F : Nat) (l0 l1 l2 l3 l4 l5 : Int) (h : Hp) : V X_Plan_visibleAfter 0 [(0, 2, l0), (1, 2, l1), (2, 2, l2), (3, 0, l3), (4, 0, l4), (5, 0, l5)] [] h (Plan_visibleAfter F l0 l1 l2 l3 l4 l5 h) := by
  unfold Plan_visibleAfter
  refine V_aload_n (pc := 0) (DCa dc_Plan_visibleAfter_0 0 rfl) rfl 0 rfl ?_
  refine V_aload_n (pc := 1) (DCa dc_Plan_visibleAfter_0 1 rfl) rfl 1 rfl ?_
  refine V_aload_n (pc := 2) (DCa dc_Plan_visibleAfter_0 2 rfl) rfl 2 rfl ?_
  refine V_iload_n (pc := 3) (DCa dc_Plan_visibleAfter_0 3 rfl) rfl 3 rfl ?_
  refine Q_callv (ci := 2) (st := []) (pc := 4) (DCa dc_Plan_visibleAfter_0 4 rfl) (sp_Plan_rowsOf F _ _ _ _ _) ce_Plan_rowsOf ml_2_89 rfl rfl ⟨Nat.le_of_ble_eq_true rfl, Nat.le_of_ble_eq_true rfl⟩ rfl (Nat.le_of_ble_eq_true rfl) (fun r1 h2 => ?_)
  refine V_astore (ls' := [(0, 2, l0), (1, 2, l1), (2, 2, l2), (3, 0, l3), (4, 0, l4), (5, 0, l5), (6, 2, r1)]) (pc := 7) (DCa dc_Plan_visibleAfter_0 5 rfl) (Nat.le_of_ble_eq_true rfl) rfl ?_
  refine V_aload (pc := 9) (DCa dc_Plan_visibleAfter_0 6 rfl) 6 rfl ?_
  refine V_aload (pc := 11) (DCa dc_Plan_visibleAfter_0 7 rfl) 6 rfl ?_
  refine V_aload_n (pc := 13) (DCa dc_Plan_visibleAfter_0 8 rfl) rfl 1 rfl ?_
  refine Q_getf (k := 4) (pc := 14) (DCa dc_Plan_visibleAfter_0 9 rfl) cls_7 (Nat.le_of_ble_eq_true rfl) fl_2_93 rfl rfl rfl (fun v3 => ?_)
  refine V_iload (pc := 17) (DCa dc_Plan_visibleAfter_0 10 rfl) 4 rfl ?_
  refine Q_callv (ci := 4) (st := [(2, r1)]) (pc := 19) (DCa dc_Plan_visibleAfter_0 11 rfl) (sp_Rows_bestSet F _ _ _ _) ce_Rows_bestSet ml_2_96 rfl rfl ⟨Nat.le_of_ble_eq_true rfl, Nat.le_of_ble_eq_true rfl⟩ rfl (Nat.le_of_ble_eq_true rfl) (fun r4 h5 => ?_)
  refine V_aload_n (pc := 22) (DCa dc_Plan_visibleAfter_0 12 rfl) rfl 0 rfl ?_
  refine Q_getf (k := 4) (pc := 23) (DCa dc_Plan_visibleAfter_0 13 rfl) cls_2 (Nat.le_of_ble_eq_true rfl) fl_2_33 rfl rfl rfl (fun v6 => ?_)
  refine Q_callv (ci := 4) (st := []) (pc := 26) (DCa dc_Plan_visibleAfter_0 14 rfl) (sp_Rows_trace F _ _ _ _) ce_Rows_trace ml_2_100 rfl rfl ⟨Nat.le_of_ble_eq_true rfl, Nat.le_of_ble_eq_true rfl⟩ rfl (Nat.le_of_ble_eq_true rfl) (fun r7 h8 => ?_)
  refine V_istore (ls' := [(0, 2, l0), (1, 2, l1), (2, 2, l2), (3, 0, l3), (4, 0, l4), (5, 0, l5), (6, 2, r1), (7, 0, r7)]) (pc := 29) (DCa dc_Plan_visibleAfter_0 15 rfl) (Nat.le_of_ble_eq_true rfl) rfl ?_
  refine V_iconst (pc := 31) (DCa dc_Plan_visibleAfter_0 16 rfl) (by decide) ?_
  refine V_istore (ls' := [(0, 2, l0), (1, 2, l1), (2, 2, l2), (3, 0, l3), (4, 0, l4), (5, 0, l5), (6, 2, r1), (7, 0, r7), (8, 0, 0)]) (pc := 32) (DCa dc_Plan_visibleAfter_0 17 rfl) (Nat.le_of_ble_eq_true rfl) rfl ?_
  refine V_iconst (pc := 34) (DCa dc_Plan_visibleAfter_0 18 rfl) (by decide) ?_
  refine V_istore (ls' := [(0, 2, l0), (1, 2, l1), (2, 2, l2), (3, 0, l3), (4, 0, l4), (5, 0, l5), (6, 2, r1), (7, 0, r7), (8, 0, 0), (9, 0, 0)]) (pc := 35) (DCa dc_Plan_visibleAfter_0 19 rfl) (Nat.le_of_ble_eq_true rfl) rfl ?_
  refine V_iconst (pc := 37) (DCa dc_Plan_visibleAfter_0 20 rfl) (by decide) ?_
  refine V_istore (ls' := [(0, 2, l0), (1, 2, l1), (2, 2, l2), (3, 0, l3), (4, 0, l4), (5, 0, l5), (6, 2, r1), (7, 0, r7), (8, 0, 0), (9, 0, 0), (10, 0, 0)]) (pc := 38) (DCa dc_Plan_visibleAfter_0 21 rfl) (Nat.le_of_ble_eq_true rfl) rfl ?_
  refine V_pick [0, 1, 5, 6, 7, 8, 9, 10] rfl ?_
  exact v_Plan_visibleAfter_L40 F F _ _ _ _ _ _ _ _ _
theorem sp_Plan_visibleAfter (F : Nat) (l0 l1 l2 l3 l4 l5 : Int) (h : Hp) : Sp yX2_visibleAfter cX2_visibleAfter 13 (some (.int)) 6 141 [(2, l0), (2, l1), (2, l2), (0, l3), (0, l4), (0, l5)] h (Plan_visibleAfter F l0 l1 l2 l3 l4 l5 h) := Sp_of (by decide +kernel) rfl rfl (Nat.le_of_ble_eq_true rfl) (v_Plan_visibleAfter F l0 l1 l2 l3 l4 l5 h)

-- TideRakes$Rows.isBy
def Rows_isBy (F : Nat) (l0 l1 l2 : Int) (h : Hp) : Option (Int × Hp) :=
  if l1 = 0 then
    (rz 1 h)
  else
    (gf h l0 104 6 fun v1 =>
    al h v1 0 l1 fun v2 =>
    if l2 < v2 then
      (rz 0 h)
    else
      (rz 1 h))

theorem dc_Rows_isBy_0 : ∀ q ∈ ([(0, .iload_n 1, 1), (1, .ifCond .eq 13, 3), (4, .aload_n 0, 1), (5, .getfield 27, 3), (8, .iload_n 1, 1), (9, .iaload, 1), (10, .iload_n 2, 1), (11, .if_icmp .gt 7, 3), (14, .iconst 1, 1), (15, .goto 4, 3), (18, .iconst 0, 1), (19, .ireturn, 1)] : List (Nat × Instr × Nat)), decode cX4_isBy q.1 = .ok (q.2.1, q.2.2) := by decide +kernel
abbrev X_Rows_isBy : MX := (cX4_isBy, RX4, "isBy", 3, (some (.boolean)), 1, 20)
theorem v_Rows_isBy (F : Nat) (l0 l1 l2 : Int) (h : Hp) : V X_Rows_isBy 0 [(0, 2, l0), (1, 0, l1), (2, 0, l2)] [] h (Rows_isBy F l0 l1 l2 h) := by
  unfold Rows_isBy
  refine V_iload_n (pc := 0) (DCa dc_Rows_isBy_0 0 rfl) rfl 1 rfl ?_
  refine V_if_eq (tgt := 14) (pc := 1) (DCa dc_Rows_isBy_0 1 rfl) (by decide) (fun _ => ?_) (fun _ => ?_)
  · refine V_iconst (pc := 14) (DCa dc_Rows_isBy_0 8 rfl) (by decide) ?_
    refine V_goto (tgt := 19) (pc := 15) (DCa dc_Rows_isBy_0 9 rfl) (by decide) ?_
    exact V_zreturn (pc := 19) (DCa dc_Rows_isBy_0 11 rfl) rfl
  · refine V_aload_n (pc := 4) (DCa dc_Rows_isBy_0 2 rfl) rfl 0 rfl ?_
    refine Q_getf (k := 6) (pc := 5) (DCa dc_Rows_isBy_0 3 rfl) cls_4 (Nat.le_of_ble_eq_true rfl) fl_4_27 rfl rfl rfl (fun v1 => ?_)
    refine V_iload_n (pc := 8) (DCa dc_Rows_isBy_0 4 rfl) rfl 1 rfl ?_
    refine Q_iaload (pc := 9) (DCa dc_Rows_isBy_0 5 rfl) (fun v2 => ?_)
    refine V_iload_n (pc := 10) (DCa dc_Rows_isBy_0 6 rfl) rfl 2 rfl ?_
    refine V_icmp_gt (tgt := 18) (pc := 11) (DCa dc_Rows_isBy_0 7 rfl) (by decide) (fun _ => ?_) (fun _ => ?_)
    · refine V_iconst (pc := 18) (DCa dc_Rows_isBy_0 10 rfl) (by decide) ?_
      exact V_zreturn (pc := 19) (DCa dc_Rows_isBy_0 11 rfl) rfl
    · refine V_iconst (pc := 14) (DCa dc_Rows_isBy_0 8 rfl) (by decide) ?_
      refine V_goto (tgt := 19) (pc := 15) (DCa dc_Rows_isBy_0 9 rfl) (by decide) ?_
      exact V_zreturn (pc := 19) (DCa dc_Rows_isBy_0 11 rfl) rfl
theorem sp_Rows_isBy (F : Nat) (l0 l1 l2 : Int) (h : Hp) : Sp yX4_isBy cX4_isBy 3 (some (.boolean)) 1 20 [(2, l0), (0, l1), (0, l2)] h (Rows_isBy F l0 l1 l2 h) := Sp_of (by decide +kernel) rfl rfl (Nat.le_of_ble_eq_true rfl) (v_Rows_isBy F l0 l1 l2 h)

-- TideRakes$Shore.allParts
def Shor_allParts (F : Nat) (l0 : Int) (h : Hp) : Option (Int × Hp) :=
  gf h l0 107 0 fun v1 =>
  gf h v1 106 4 fun v2 =>
  some (w32 ((ishl 1 v2) - 1), h)

theorem dc_Shor_allParts_0 : ∀ q ∈ ([(0, .iconst 1, 1), (1, .aload_n 0, 1), (2, .getfield 12, 3), (5, .getfield 52, 3), (8, .ishl, 1), (9, .iconst 1, 1), (10, .isub, 1), (11, .ireturn, 1)] : List (Nat × Instr × Nat)), decode cX7_allParts q.1 = .ok (q.2.1, q.2.2) := by decide +kernel
abbrev X_Shor_allParts : MX := (cX7_allParts, RX7, "allParts", 1, (some (.int)), 1, 20)
theorem v_Shor_allParts (F : Nat) (l0 : Int) (h : Hp) : V X_Shor_allParts 0 [(0, 2, l0)] [] h (Shor_allParts F l0 h) := by
  unfold Shor_allParts
  refine V_iconst (pc := 0) (DCa dc_Shor_allParts_0 0 rfl) (by decide) ?_
  refine V_aload_n (pc := 1) (DCa dc_Shor_allParts_0 1 rfl) rfl 0 rfl ?_
  refine Q_getf (k := 0) (pc := 2) (DCa dc_Shor_allParts_0 2 rfl) cls_7 (Nat.le_of_ble_eq_true rfl) fl_7_12 rfl rfl rfl (fun v1 => ?_)
  refine Q_getf (k := 4) (pc := 5) (DCa dc_Shor_allParts_0 3 rfl) cls_6 (Nat.le_of_ble_eq_true rfl) fl_7_52 rfl rfl rfl (fun v2 => ?_)
  refine V_ishl (pc := 8) (DCa dc_Shor_allParts_0 4 rfl) ?_
  refine V_iconst (pc := 9) (DCa dc_Shor_allParts_0 5 rfl) (by decide) ?_
  refine V_isub (pc := 10) (DCa dc_Shor_allParts_0 6 rfl) ?_
  exact V_ireturn (pc := 11) (DCa dc_Shor_allParts_0 7 rfl) rfl
theorem sp_Shor_allParts (F : Nat) (l0 : Int) (h : Hp) : Sp yX7_allParts cX7_allParts 1 (some (.int)) 1 20 [(2, l0)] h (Shor_allParts F l0 h) := Sp_of (by decide +kernel) rfl rfl (Nat.le_of_ble_eq_true rfl) (v_Shor_allParts F l0 h)

-- TideRakes$Planner.bestPair
def Plan_bestPair_B106 (F : Nat) (R15 : Int → Int → Int → Int → Int → Int → Int → Int → Hp → Option (Int × Hp)) (R49 : Int → Int → Int → Int → Int → Int → Int → Int → Int → Int → Int → Hp → Option (Int × Hp)) (l1 l2 l3 l4 l5 l6 l7 l8 l9 l10 l11 : Int) (h : Hp) : Option (Int × Hp) :=
  if l11 = l9 then
    (R15 l1 l2 l3 l4 l5 l6 l7 (w32 (l8 + 1)) h)
  else
    (lt (iand (w32 (l11 - l9)) l9) fun x14 =>
    R49 l1 l2 l3 l4 l5 l6 l7 l8 l9 (w32 (l10 + 1)) x14 h)
def Plan_bestPair_L49s (F : Nat) (R15 : Int → Int → Int → Int → Int → Int → Int → Int → Hp → Option (Int × Hp)) (R49 : Int → Int → Int → Int → Int → Int → Int → Int → Int → Int → Int → Hp → Option (Int × Hp)) (l1 l2 l3 l4 l5 l6 l7 l8 l9 l10 l11 : Int) (h : Hp) : Option (Int × Hp) :=
  if l5 < l10 then
    (R15 l1 l2 l3 l4 l5 l6 l7 (w32 (l8 + 1)) h)
  else
    (gf h l1 107 4 fun v6 =>
    al h v6 0 l8 fun v7 =>
    gf h l1 107 4 fun v8 =>
    al h v8 0 l11 fun v9 =>
    lt (w32 (v7 + v9)) fun x10 =>
    if l6 < x10 then
      (iv h l3 104 (Rows_isBy F l3 l11 l4 h) fun r11 h12 =>
      if r11 = 0 then
        (Plan_bestPair_B106 F R15 R49 l1 l2 l3 l4 l5 l6 l7 l8 l9 l10 l11 h12)
      else
        (lt (w32 ((w32 (l8 * 256)) + l11)) fun x13 =>
        Plan_bestPair_B106 F R15 R49 l1 l2 l3 l4 l5 x10 x13 l8 l9 l10 l11 h12))
    else
      (Plan_bestPair_B106 F R15 R49 l1 l2 l3 l4 l5 l6 l7 l8 l9 l10 l11 h))
def Plan_bestPair_L49 (F : Nat) (R15 : Int → Int → Int → Int → Int → Int → Int → Int → Hp → Option (Int × Hp)) : Nat → Int → Int → Int → Int → Int → Int → Int → Int → Int → Int → Int → Hp → Option (Int × Hp)
  | 0 => fun _ _ _ _ _ _ _ _ _ _ _ _ => none
  | n + 1 => Plan_bestPair_L49s F R15 (Plan_bestPair_L49 F R15 n)
def Plan_bestPair_L15s (F : Nat)  (R15 : Int → Int → Int → Int → Int → Int → Int → Int → Hp → Option (Int × Hp)) (l1 l2 l3 l4 l5 l6 l7 l8 : Int) (h : Hp) : Option (Int × Hp) :=
  if l5 < l8 then
    (some (l7, h))
  else
    (iv h l2 104 (Rows_isBy F l2 l8 l4 h) fun r3 h4 =>
    if r3 = 0 then
      (R15 l1 l2 l3 l4 l5 l6 l7 (w32 (l8 + 1)) h4)
    else
      (lt (ixor l5 l8) fun x5 =>
      Plan_bestPair_L49 F R15 F l1 l2 l3 l4 l5 l6 l7 l8 x5 0 0 h4))
def Plan_bestPair_L15 (F : Nat)  : Nat → Int → Int → Int → Int → Int → Int → Int → Int → Hp → Option (Int × Hp)
  | 0 => fun _ _ _ _ _ _ _ _ _ => none
  | n + 1 => Plan_bestPair_L15s F  (Plan_bestPair_L15 F  n)
def Plan_bestPair (F : Nat) (l0 l1 l2 l3 l4 : Int) (h : Hp) : Option (Int × Hp) :=
  iv h l1 107 (Shor_allParts F l1 h) fun r1 h2 =>
  Plan_bestPair_L15 F F l1 l2 l3 l4 r1 0 0 0 h2

theorem dc_Plan_bestPair_0 : ∀ q ∈ ([(0, .aload_n 1, 1), (1, .invokevirtual 111, 3), (4, .istore 5, 2), (6, .iconst 0, 1), (7, .istore 6, 2), (9, .iconst 0, 1), (10, .istore 7, 2), (12, .iconst 0, 1), (13, .istore 8, 2), (15, .iload 8, 2), (17, .iload 5, 2), (19, .if_icmp .gt 119, 3), (22, .aload_n 2, 1), (23, .iload 8, 2), (25, .iload 4, 2), (27, .invokevirtual 114, 3), (30, .ifCond .ne 6, 3), (33, .goto 99, 3), (36, .iload 5, 2), (38, .iload 8, 2), (40, .ixor, 1), (41, .istore 9, 2), (43, .iconst 0, 1), (44, .istore 10, 2), (46, .iconst 0, 1), (47, .istore 11, 2), (49, .iload 10, 2), (51, .iload 5, 2), (53, .if_icmp .gt 79, 3), (56, .aload_n 1, 1), (57, .getfield 93, 3), (60, .iload 8, 2), (62, .iaload, 1), (63, .aload_n 1, 1), (64, .getfield 93, 3), (67, .iload 11, 2), (69, .iaload, 1), (70, .iadd, 1), (71, .istore 12, 2), (73, .iload 12, 2), (75, .iload 6, 2), (77, .if_icmp .le 29, 3), (80, .aload_n 3, 1), (81, .iload 11, 2), (83, .iload 4, 2), (85, .invokevirtual 114, 3), (88, .ifCond .eq 18, 3), (91, .iload 12, 2), (93, .istore 6, 2), (95, .iload 8, 2)] : List (Nat × Instr × Nat)), decode cX2_bestPair q.1 = .ok (q.2.1, q.2.2) := by decide +kernel
theorem dc_Plan_bestPair_1 : ∀ q ∈ ([(97, .sipush 256, 3), (100, .imul, 1), (101, .iload 11, 2), (103, .iadd, 1), (104, .istore 7, 2), (106, .iload 11, 2), (108, .iload 9, 2), (110, .if_icmp .ne 6, 3), (113, .goto 19, 3), (116, .iload 11, 2), (118, .iload 9, 2), (120, .isub, 1), (121, .iload 9, 2), (123, .iand, 1), (124, .istore 11, 2), (126, .iinc 10 1, 3), (129, .goto (-80), 3), (132, .iinc 8 1, 3), (135, .goto (-120), 3), (138, .iload 7, 2), (140, .ireturn, 1)] : List (Nat × Instr × Nat)), decode cX2_bestPair q.1 = .ok (q.2.1, q.2.2) := by decide +kernel
abbrev X_Plan_bestPair : MX := (cX2_bestPair, RX2, "bestPair", 13, (some (.int)), 2, 42)
theorem v_Plan_bestPair_B106 (F : Nat) (R15 : Int → Int → Int → Int → Int → Int → Int → Int → Hp → Option (Int × Hp)) (hR15 : ∀ (l1 l2 l3 l4 l5 l6 l7 l8 : Int) (h : Hp), V X_Plan_bestPair 15 [(1, 2, l1), (2, 2, l2), (3, 2, l3), (4, 0, l4), (5, 0, l5), (6, 0, l6), (7, 0, l7), (8, 0, l8)] [] h (R15 l1 l2 l3 l4 l5 l6 l7 l8 h)) (R49 : Int → Int → Int → Int → Int → Int → Int → Int → Int → Int → Int → Hp → Option (Int × Hp)) (hR49 : ∀ (l1 l2 l3 l4 l5 l6 l7 l8 l9 l10 l11 : Int) (h : Hp), V X_Plan_bestPair 49 [(1, 2, l1), (2, 2, l2), (3, 2, l3), (4, 0, l4), (5, 0, l5), (6, 0, l6), (7, 0, l7), (8, 0, l8), (9, 0, l9), (10, 0, l10), (11, 0, l11)] [] h (R49 l1 l2 l3 l4 l5 l6 l7 l8 l9 l10 l11 h)) (l1 l2 l3 l4 l5 l6 l7 l8 l9 l10 l11 : Int) (h : Hp) : V X_Plan_bestPair 106 [(1, 2, l1), (2, 2, l2), (3, 2, l3), (4, 0, l4), (5, 0, l5), (6, 0, l6), (7, 0, l7), (8, 0, l8), (9, 0, l9), (10, 0, l10), (11, 0, l11)] [] h (Plan_bestPair_B106 F R15 R49 l1 l2 l3 l4 l5 l6 l7 l8 l9 l10 l11 h) := by
  unfold Plan_bestPair_B106
  refine V_iload (pc := 106) (DCa dc_Plan_bestPair_1 5 rfl) 10 rfl ?_
  refine V_iload (pc := 108) (DCa dc_Plan_bestPair_1 6 rfl) 8 rfl ?_
  refine V_icmp_ne (tgt := 116) (pc := 110) (DCa dc_Plan_bestPair_1 7 rfl) (by decide) (fun _ => ?_) (fun _ => ?_)
  · refine V_goto (tgt := 132) (pc := 113) (DCa dc_Plan_bestPair_1 8 rfl) (by decide) ?_
    refine V_iinc (ls' := [(1, 2, l1), (2, 2, l2), (3, 2, l3), (4, 0, l4), (5, 0, l5), (6, 0, l6), (7, 0, l7), (8, 0, w32 (l8 + 1)), (9, 0, l9), (10, 0, l10), (11, 0, l11)]) (pc := 132) (DCa dc_Plan_bestPair_1 17 rfl) (Nat.le_of_ble_eq_true rfl) (by decide) 7 rfl rfl ?_
    refine V_goto (tgt := 15) (pc := 135) (DCa dc_Plan_bestPair_1 18 rfl) (by decide) ?_
    refine V_pick [0, 1, 2, 3, 4, 5, 6, 7] rfl ?_
    exact hR15 _ _ _ _ _ _ _ _ _
  · refine V_iload (pc := 116) (DCa dc_Plan_bestPair_1 9 rfl) 10 rfl ?_
    refine V_iload (pc := 118) (DCa dc_Plan_bestPair_1 10 rfl) 8 rfl ?_
    refine V_isub (pc := 120) (DCa dc_Plan_bestPair_1 11 rfl) ?_
    refine V_iload (pc := 121) (DCa dc_Plan_bestPair_1 12 rfl) 8 rfl ?_
    refine V_iand (pc := 123) (DCa dc_Plan_bestPair_1 13 rfl) ?_
    refine Q_lt (fun x14 => ?_)
    refine V_istore (ls' := [(1, 2, l1), (2, 2, l2), (3, 2, l3), (4, 0, l4), (5, 0, l5), (6, 0, l6), (7, 0, l7), (8, 0, l8), (9, 0, l9), (10, 0, l10), (11, 0, x14)]) (pc := 124) (DCa dc_Plan_bestPair_1 14 rfl) (Nat.le_of_ble_eq_true rfl) rfl ?_
    refine V_iinc (ls' := [(1, 2, l1), (2, 2, l2), (3, 2, l3), (4, 0, l4), (5, 0, l5), (6, 0, l6), (7, 0, l7), (8, 0, l8), (9, 0, l9), (10, 0, w32 (l10 + 1)), (11, 0, x14)]) (pc := 126) (DCa dc_Plan_bestPair_1 15 rfl) (Nat.le_of_ble_eq_true rfl) (by decide) 9 rfl rfl ?_
    refine V_goto (tgt := 49) (pc := 129) (DCa dc_Plan_bestPair_1 16 rfl) (by decide) ?_
    exact hR49 _ _ _ _ _ _ _ _ _ _ _ _
theorem v_Plan_bestPair_L49s (F : Nat) (R15 : Int → Int → Int → Int → Int → Int → Int → Int → Hp → Option (Int × Hp)) (hR15 : ∀ (l1 l2 l3 l4 l5 l6 l7 l8 : Int) (h : Hp), V X_Plan_bestPair 15 [(1, 2, l1), (2, 2, l2), (3, 2, l3), (4, 0, l4), (5, 0, l5), (6, 0, l6), (7, 0, l7), (8, 0, l8)] [] h (R15 l1 l2 l3 l4 l5 l6 l7 l8 h)) (R49 : Int → Int → Int → Int → Int → Int → Int → Int → Int → Int → Int → Hp → Option (Int × Hp)) (hR49 : ∀ (l1 l2 l3 l4 l5 l6 l7 l8 l9 l10 l11 : Int) (h : Hp), V X_Plan_bestPair 49 [(1, 2, l1), (2, 2, l2), (3, 2, l3), (4, 0, l4), (5, 0, l5), (6, 0, l6), (7, 0, l7), (8, 0, l8), (9, 0, l9), (10, 0, l10), (11, 0, l11)] [] h (R49 l1 l2 l3 l4 l5 l6 l7 l8 l9 l10 l11 h)) (l1 l2 l3 l4 l5 l6 l7 l8 l9 l10 l11 : Int) (h : Hp) : V X_Plan_bestPair 49 [(1, 2, l1), (2, 2, l2), (3, 2, l3), (4, 0, l4), (5, 0, l5), (6, 0, l6), (7, 0, l7), (8, 0, l8), (9, 0, l9), (10, 0, l10), (11, 0, l11)] [] h (Plan_bestPair_L49s F R15 R49 l1 l2 l3 l4 l5 l6 l7 l8 l9 l10 l11 h) := by
  unfold Plan_bestPair_L49s
  refine V_iload (pc := 49) (DCa dc_Plan_bestPair_0 26 rfl) 9 rfl ?_
  refine V_iload (pc := 51) (DCa dc_Plan_bestPair_0 27 rfl) 4 rfl ?_
  refine V_icmp_gt (tgt := 132) (pc := 53) (DCa dc_Plan_bestPair_0 28 rfl) (by decide) (fun _ => ?_) (fun _ => ?_)
  · refine V_iinc (ls' := [(1, 2, l1), (2, 2, l2), (3, 2, l3), (4, 0, l4), (5, 0, l5), (6, 0, l6), (7, 0, l7), (8, 0, w32 (l8 + 1)), (9, 0, l9), (10, 0, l10), (11, 0, l11)]) (pc := 132) (DCa dc_Plan_bestPair_1 17 rfl) (Nat.le_of_ble_eq_true rfl) (by decide) 7 rfl rfl ?_
    refine V_goto (tgt := 15) (pc := 135) (DCa dc_Plan_bestPair_1 18 rfl) (by decide) ?_
    refine V_pick [0, 1, 2, 3, 4, 5, 6, 7] rfl ?_
    exact hR15 _ _ _ _ _ _ _ _ _
  · refine V_aload_n (pc := 56) (DCa dc_Plan_bestPair_0 29 rfl) rfl 0 rfl ?_
    refine Q_getf (k := 4) (pc := 57) (DCa dc_Plan_bestPair_0 30 rfl) cls_7 (Nat.le_of_ble_eq_true rfl) fl_2_93 rfl rfl rfl (fun v6 => ?_)
    refine V_iload (pc := 60) (DCa dc_Plan_bestPair_0 31 rfl) 7 rfl ?_
    refine Q_iaload (pc := 62) (DCa dc_Plan_bestPair_0 32 rfl) (fun v7 => ?_)
    refine V_aload_n (pc := 63) (DCa dc_Plan_bestPair_0 33 rfl) rfl 0 rfl ?_
    refine Q_getf (k := 4) (pc := 64) (DCa dc_Plan_bestPair_0 34 rfl) cls_7 (Nat.le_of_ble_eq_true rfl) fl_2_93 rfl rfl rfl (fun v8 => ?_)
    refine V_iload (pc := 67) (DCa dc_Plan_bestPair_0 35 rfl) 10 rfl ?_
    refine Q_iaload (pc := 69) (DCa dc_Plan_bestPair_0 36 rfl) (fun v9 => ?_)
    refine V_iadd (pc := 70) (DCa dc_Plan_bestPair_0 37 rfl) ?_
    refine Q_lt (fun x10 => ?_)
    refine V_istore (ls' := [(1, 2, l1), (2, 2, l2), (3, 2, l3), (4, 0, l4), (5, 0, l5), (6, 0, l6), (7, 0, l7), (8, 0, l8), (9, 0, l9), (10, 0, l10), (11, 0, l11), (12, 0, x10)]) (pc := 71) (DCa dc_Plan_bestPair_0 38 rfl) (Nat.le_of_ble_eq_true rfl) rfl ?_
    refine V_iload (pc := 73) (DCa dc_Plan_bestPair_0 39 rfl) 11 rfl ?_
    refine V_iload (pc := 75) (DCa dc_Plan_bestPair_0 40 rfl) 5 rfl ?_
    refine V_icmp_le (tgt := 106) (pc := 77) (DCa dc_Plan_bestPair_0 41 rfl) (by decide) (fun _ => ?_) (fun _ => ?_)
    · refine V_aload_n (pc := 80) (DCa dc_Plan_bestPair_0 42 rfl) rfl 2 rfl ?_
      refine V_iload (pc := 81) (DCa dc_Plan_bestPair_0 43 rfl) 10 rfl ?_
      refine V_iload (pc := 83) (DCa dc_Plan_bestPair_0 44 rfl) 3 rfl ?_
      refine Q_callv (ci := 4) (st := []) (pc := 85) (DCa dc_Plan_bestPair_0 45 rfl) (sp_Rows_isBy F _ _ _ _) ce_Rows_isBy ml_2_114 rfl rfl ⟨Nat.le_of_ble_eq_true rfl, Nat.le_of_ble_eq_true rfl⟩ rfl (Nat.le_of_ble_eq_true rfl) (fun r11 h12 => ?_)
      refine V_if_eq (tgt := 106) (pc := 88) (DCa dc_Plan_bestPair_0 46 rfl) (by decide) (fun _ => ?_) (fun _ => ?_)
      · refine V_pick [0, 1, 2, 3, 4, 5, 6, 7, 8, 9, 10] rfl ?_
        exact v_Plan_bestPair_B106 F R15 hR15 R49 hR49 _ _ _ _ _ _ _ _ _ _ _ _
      · refine V_iload (pc := 91) (DCa dc_Plan_bestPair_0 47 rfl) 11 rfl ?_
        refine V_istore (ls' := [(1, 2, l1), (2, 2, l2), (3, 2, l3), (4, 0, l4), (5, 0, l5), (6, 0, x10), (7, 0, l7), (8, 0, l8), (9, 0, l9), (10, 0, l10), (11, 0, l11), (12, 0, x10)]) (pc := 93) (DCa dc_Plan_bestPair_0 48 rfl) (Nat.le_of_ble_eq_true rfl) rfl ?_
        refine V_iload (pc := 95) (DCa dc_Plan_bestPair_0 49 rfl) 7 rfl ?_
        refine V_sipush (pc := 97) (DCa dc_Plan_bestPair_1 0 rfl) (by decide) ?_
        refine V_imul (pc := 100) (DCa dc_Plan_bestPair_1 1 rfl) ?_
        refine V_iload (pc := 101) (DCa dc_Plan_bestPair_1 2 rfl) 10 rfl ?_
        refine V_iadd (pc := 103) (DCa dc_Plan_bestPair_1 3 rfl) ?_
        refine Q_lt (fun x13 => ?_)
        refine V_istore (ls' := [(1, 2, l1), (2, 2, l2), (3, 2, l3), (4, 0, l4), (5, 0, l5), (6, 0, x10), (7, 0, x13), (8, 0, l8), (9, 0, l9), (10, 0, l10), (11, 0, l11), (12, 0, x10)]) (pc := 104) (DCa dc_Plan_bestPair_1 4 rfl) (Nat.le_of_ble_eq_true rfl) rfl ?_
        refine V_pick [0, 1, 2, 3, 4, 5, 6, 7, 8, 9, 10] rfl ?_
        exact v_Plan_bestPair_B106 F R15 hR15 R49 hR49 _ _ _ _ _ _ _ _ _ _ _ _
    · refine V_pick [0, 1, 2, 3, 4, 5, 6, 7, 8, 9, 10] rfl ?_
      exact v_Plan_bestPair_B106 F R15 hR15 R49 hR49 _ _ _ _ _ _ _ _ _ _ _ _
theorem v_Plan_bestPair_L49 (F : Nat) (R15 : Int → Int → Int → Int → Int → Int → Int → Int → Hp → Option (Int × Hp)) (hR15 : ∀ (l1 l2 l3 l4 l5 l6 l7 l8 : Int) (h : Hp), V X_Plan_bestPair 15 [(1, 2, l1), (2, 2, l2), (3, 2, l3), (4, 0, l4), (5, 0, l5), (6, 0, l6), (7, 0, l7), (8, 0, l8)] [] h (R15 l1 l2 l3 l4 l5 l6 l7 l8 h)) (n : Nat) : ∀ (l1 l2 l3 l4 l5 l6 l7 l8 l9 l10 l11 : Int) (h : Hp), V X_Plan_bestPair 49 [(1, 2, l1), (2, 2, l2), (3, 2, l3), (4, 0, l4), (5, 0, l5), (6, 0, l6), (7, 0, l7), (8, 0, l8), (9, 0, l9), (10, 0, l10), (11, 0, l11)] [] h (Plan_bestPair_L49 F R15 n l1 l2 l3 l4 l5 l6 l7 l8 l9 l10 l11 h) := by
  induction n with
  | zero => intros; exact V_none
  | succ n ih => exact fun l1 l2 l3 l4 l5 l6 l7 l8 l9 l10 l11 h => v_Plan_bestPair_L49s F R15 hR15 _ ih l1 l2 l3 l4 l5 l6 l7 l8 l9 l10 l11 h
theorem v_Plan_bestPair_L15s (F : Nat)  (R15 : Int → Int → Int → Int → Int → Int → Int → Int → Hp → Option (Int × Hp)) (hR15 : ∀ (l1 l2 l3 l4 l5 l6 l7 l8 : Int) (h : Hp), V X_Plan_bestPair 15 [(1, 2, l1), (2, 2, l2), (3, 2, l3), (4, 0, l4), (5, 0, l5), (6, 0, l6), (7, 0, l7), (8, 0, l8)] [] h (R15 l1 l2 l3 l4 l5 l6 l7 l8 h)) (l1 l2 l3 l4 l5 l6 l7 l8 : Int) (h : Hp) : V X_Plan_bestPair 15 [(1, 2, l1), (2, 2, l2), (3, 2, l3), (4, 0, l4), (5, 0, l5), (6, 0, l6), (7, 0, l7), (8, 0, l8)] [] h (Plan_bestPair_L15s F  R15 l1 l2 l3 l4 l5 l6 l7 l8 h) := by
  unfold Plan_bestPair_L15s
  refine V_iload (pc := 15) (DCa dc_Plan_bestPair_0 9 rfl) 7 rfl ?_
  refine V_iload (pc := 17) (DCa dc_Plan_bestPair_0 10 rfl) 4 rfl ?_
  refine V_icmp_gt (tgt := 138) (pc := 19) (DCa dc_Plan_bestPair_0 11 rfl) (by decide) (fun _ => ?_) (fun _ => ?_)
  · refine V_iload (pc := 138) (DCa dc_Plan_bestPair_1 19 rfl) 6 rfl ?_
    exact V_ireturn (pc := 140) (DCa dc_Plan_bestPair_1 20 rfl) rfl
  · refine V_aload_n (pc := 22) (DCa dc_Plan_bestPair_0 12 rfl) rfl 1 rfl ?_
    refine V_iload (pc := 23) (DCa dc_Plan_bestPair_0 13 rfl) 7 rfl ?_
    refine V_iload (pc := 25) (DCa dc_Plan_bestPair_0 14 rfl) 3 rfl ?_
    refine Q_callv (ci := 4) (st := []) (pc := 27) (DCa dc_Plan_bestPair_0 15 rfl) (sp_Rows_isBy F _ _ _ _) ce_Rows_isBy ml_2_114 rfl rfl ⟨Nat.le_of_ble_eq_true rfl, Nat.le_of_ble_eq_true rfl⟩ rfl (Nat.le_of_ble_eq_true rfl) (fun r3 h4 => ?_)
    refine V_if_ne (tgt := 36) (pc := 30) (DCa dc_Plan_bestPair_0 16 rfl) (by decide) (fun _ => ?_) (fun _ => ?_)
    · refine V_goto (tgt := 132) (pc := 33) (DCa dc_Plan_bestPair_0 17 rfl) (by decide) ?_
      refine V_iinc (ls' := [(1, 2, l1), (2, 2, l2), (3, 2, l3), (4, 0, l4), (5, 0, l5), (6, 0, l6), (7, 0, l7), (8, 0, w32 (l8 + 1))]) (pc := 132) (DCa dc_Plan_bestPair_1 17 rfl) (Nat.le_of_ble_eq_true rfl) (by decide) 7 rfl rfl ?_
      refine V_goto (tgt := 15) (pc := 135) (DCa dc_Plan_bestPair_1 18 rfl) (by decide) ?_
      exact hR15 _ _ _ _ _ _ _ _ _
    · refine V_iload (pc := 36) (DCa dc_Plan_bestPair_0 18 rfl) 4 rfl ?_
      refine V_iload (pc := 38) (DCa dc_Plan_bestPair_0 19 rfl) 7 rfl ?_
      refine V_ixor (pc := 40) (DCa dc_Plan_bestPair_0 20 rfl) ?_
      refine Q_lt (fun x5 => ?_)
      refine V_istore (ls' := [(1, 2, l1), (2, 2, l2), (3, 2, l3), (4, 0, l4), (5, 0, l5), (6, 0, l6), (7, 0, l7), (8, 0, l8), (9, 0, x5)]) (pc := 41) (DCa dc_Plan_bestPair_0 21 rfl) (Nat.le_of_ble_eq_true rfl) rfl ?_
      refine V_iconst (pc := 43) (DCa dc_Plan_bestPair_0 22 rfl) (by decide) ?_
      refine V_istore (ls' := [(1, 2, l1), (2, 2, l2), (3, 2, l3), (4, 0, l4), (5, 0, l5), (6, 0, l6), (7, 0, l7), (8, 0, l8), (9, 0, x5), (10, 0, 0)]) (pc := 44) (DCa dc_Plan_bestPair_0 23 rfl) (Nat.le_of_ble_eq_true rfl) rfl ?_
      refine V_iconst (pc := 46) (DCa dc_Plan_bestPair_0 24 rfl) (by decide) ?_
      refine V_istore (ls' := [(1, 2, l1), (2, 2, l2), (3, 2, l3), (4, 0, l4), (5, 0, l5), (6, 0, l6), (7, 0, l7), (8, 0, l8), (9, 0, x5), (10, 0, 0), (11, 0, 0)]) (pc := 47) (DCa dc_Plan_bestPair_0 25 rfl) (Nat.le_of_ble_eq_true rfl) rfl ?_
      exact v_Plan_bestPair_L49 F R15 hR15 F _ _ _ _ _ _ _ _ _ _ _ _
theorem v_Plan_bestPair_L15 (F : Nat)  (n : Nat) : ∀ (l1 l2 l3 l4 l5 l6 l7 l8 : Int) (h : Hp), V X_Plan_bestPair 15 [(1, 2, l1), (2, 2, l2), (3, 2, l3), (4, 0, l4), (5, 0, l5), (6, 0, l6), (7, 0, l7), (8, 0, l8)] [] h (Plan_bestPair_L15 F  n l1 l2 l3 l4 l5 l6 l7 l8 h) := by
  induction n with
  | zero => intros; exact V_none
  | succ n ih => exact fun l1 l2 l3 l4 l5 l6 l7 l8 h => v_Plan_bestPair_L15s F  _ ih l1 l2 l3 l4 l5 l6 l7 l8 h
theorem v_Plan_bestPair (F : Nat) (l0 l1 l2 l3 l4 : Int) (h : Hp) : V X_Plan_bestPair 0 [(0, 2, l0), (1, 2, l1), (2, 2, l2), (3, 2, l3), (4, 0, l4)] [] h (Plan_bestPair F l0 l1 l2 l3 l4 h) := by
  unfold Plan_bestPair
  refine V_aload_n (pc := 0) (DCa dc_Plan_bestPair_0 0 rfl) rfl 1 rfl ?_
  refine Q_callv (ci := 7) (st := []) (pc := 1) (DCa dc_Plan_bestPair_0 1 rfl) (sp_Shor_allParts F _ _) ce_Shor_allParts ml_2_111 rfl rfl ⟨Nat.le_of_ble_eq_true rfl, Nat.le_of_ble_eq_true rfl⟩ rfl (Nat.le_of_ble_eq_true rfl) (fun r1 h2 => ?_)
  refine V_istore (ls' := [(0, 2, l0), (1, 2, l1), (2, 2, l2), (3, 2, l3), (4, 0, l4), (5, 0, r1)]) (pc := 4) (DCa dc_Plan_bestPair_0 2 rfl) (Nat.le_of_ble_eq_true rfl) rfl ?_
  refine V_iconst (pc := 6) (DCa dc_Plan_bestPair_0 3 rfl) (by decide) ?_
  refine V_istore (ls' := [(0, 2, l0), (1, 2, l1), (2, 2, l2), (3, 2, l3), (4, 0, l4), (5, 0, r1), (6, 0, 0)]) (pc := 7) (DCa dc_Plan_bestPair_0 4 rfl) (Nat.le_of_ble_eq_true rfl) rfl ?_
  refine V_iconst (pc := 9) (DCa dc_Plan_bestPair_0 5 rfl) (by decide) ?_
  refine V_istore (ls' := [(0, 2, l0), (1, 2, l1), (2, 2, l2), (3, 2, l3), (4, 0, l4), (5, 0, r1), (6, 0, 0), (7, 0, 0)]) (pc := 10) (DCa dc_Plan_bestPair_0 6 rfl) (Nat.le_of_ble_eq_true rfl) rfl ?_
  refine V_iconst (pc := 12) (DCa dc_Plan_bestPair_0 7 rfl) (by decide) ?_
  refine V_istore (ls' := [(0, 2, l0), (1, 2, l1), (2, 2, l2), (3, 2, l3), (4, 0, l4), (5, 0, r1), (6, 0, 0), (7, 0, 0), (8, 0, 0)]) (pc := 13) (DCa dc_Plan_bestPair_0 8 rfl) (Nat.le_of_ble_eq_true rfl) rfl ?_
  refine V_pick [1, 2, 3, 4, 5, 6, 7, 8] rfl ?_
  exact v_Plan_bestPair_L15 F F _ _ _ _ _ _ _ _ _
theorem sp_Plan_bestPair (F : Nat) (l0 l1 l2 l3 l4 : Int) (h : Hp) : Sp yX2_bestPair cX2_bestPair 13 (some (.int)) 2 42 [(2, l0), (2, l1), (2, l2), (2, l3), (0, l4)] h (Plan_bestPair F l0 l1 l2 l3 l4 h) := Sp_of (by decide +kernel) rfl rfl (Nat.le_of_ble_eq_true rfl) (v_Plan_bestPair F l0 l1 l2 l3 l4 h)

-- java/util/Arrays.fill
def Arr_fill_L5s (F : Nat)  (R5 : Int → Int → Int → Int → Hp → Option (Int × Hp)) (l0 l1 l2 l3 : Int) (h : Hp) : Option (Int × Hp) :=
  if l2 < l3 then
    (as h l0 0 l2 l1 fun h2 =>
    R5 l0 l1 (w32 (l2 + 1)) l3 h2)
  else
    (some (0, h))
def Arr_fill_L5 (F : Nat)  : Nat → Int → Int → Int → Int → Hp → Option (Int × Hp)
  | 0 => fun _ _ _ _ _ => none
  | n + 1 => Arr_fill_L5s F  (Arr_fill_L5 F  n)
def Arr_fill (F : Nat) (l0 l1 : Int) (h : Hp) : Option (Int × Hp) :=
  aln h l0 0 fun v1 =>
  Arr_fill_L5 F F l0 l1 0 v1 h

theorem dc_Arr_fill_0 : ∀ q ∈ ([(0, .iconst 0, 1), (1, .istore_n 2, 1), (2, .aload_n 0, 1), (3, .arraylength, 1), (4, .istore_n 3, 1), (5, .iload_n 2, 1), (6, .iload_n 3, 1), (7, .if_icmp .ge 13, 3), (10, .aload_n 0, 1), (11, .iload_n 2, 1), (12, .iload_n 1, 1), (13, .iastore, 1), (14, .iinc 2 1, 3), (17, .goto (-12), 3), (20, .return_, 1)] : List (Nat × Instr × Nat)), decode cJ7_fill_53178 q.1 = .ok (q.2.1, q.2.2) := by decide +kernel
abbrev X_Arr_fill : MX := (cJ7_fill_53178, RJ7, "fill", 4, none, 1, 20)
theorem v_Arr_fill_L5s (F : Nat)  (R5 : Int → Int → Int → Int → Hp → Option (Int × Hp)) (hR5 : ∀ (l0 l1 l2 l3 : Int) (h : Hp), V X_Arr_fill 5 [(0, 2, l0), (1, 0, l1), (2, 0, l2), (3, 0, l3)] [] h (R5 l0 l1 l2 l3 h)) (l0 l1 l2 l3 : Int) (h : Hp) : V X_Arr_fill 5 [(0, 2, l0), (1, 0, l1), (2, 0, l2), (3, 0, l3)] [] h (Arr_fill_L5s F  R5 l0 l1 l2 l3 h) := by
  unfold Arr_fill_L5s
  refine V_iload_n (pc := 5) (DCa dc_Arr_fill_0 5 rfl) rfl 2 rfl ?_
  refine V_iload_n (pc := 6) (DCa dc_Arr_fill_0 6 rfl) rfl 3 rfl ?_
  refine V_icmp_ge (tgt := 20) (pc := 7) (DCa dc_Arr_fill_0 7 rfl) (by decide) (fun _ => ?_) (fun _ => ?_)
  · refine V_aload_n (pc := 10) (DCa dc_Arr_fill_0 8 rfl) rfl 0 rfl ?_
    refine V_iload_n (pc := 11) (DCa dc_Arr_fill_0 9 rfl) rfl 2 rfl ?_
    refine V_iload_n (pc := 12) (DCa dc_Arr_fill_0 10 rfl) rfl 1 rfl ?_
    refine Q_iastore (pc := 13) (DCa dc_Arr_fill_0 11 rfl) (fun h2 => ?_)
    refine V_iinc (ls' := [(0, 2, l0), (1, 0, l1), (2, 0, w32 (l2 + 1)), (3, 0, l3)]) (pc := 14) (DCa dc_Arr_fill_0 12 rfl) (Nat.le_of_ble_eq_true rfl) (by decide) 2 rfl rfl ?_
    refine V_goto (tgt := 5) (pc := 17) (DCa dc_Arr_fill_0 13 rfl) (by decide) ?_
    exact hR5 _ _ _ _ _
  · exact V_return (pc := 20) (DCa dc_Arr_fill_0 14 rfl) rfl
theorem v_Arr_fill_L5 (F : Nat)  (n : Nat) : ∀ (l0 l1 l2 l3 : Int) (h : Hp), V X_Arr_fill 5 [(0, 2, l0), (1, 0, l1), (2, 0, l2), (3, 0, l3)] [] h (Arr_fill_L5 F  n l0 l1 l2 l3 h) := by
  induction n with
  | zero => intros; exact V_none
  | succ n ih => exact fun l0 l1 l2 l3 h => v_Arr_fill_L5s F  _ ih l0 l1 l2 l3 h
theorem v_Arr_fill (F : Nat) (l0 l1 : Int) (h : Hp) : V X_Arr_fill 0 [(0, 2, l0), (1, 0, l1)] [] h (Arr_fill F l0 l1 h) := by
  unfold Arr_fill
  refine V_iconst (pc := 0) (DCa dc_Arr_fill_0 0 rfl) (by decide) ?_
  refine V_istore_n (ls' := [(0, 2, l0), (1, 0, l1), (2, 0, 0)]) (pc := 1) (DCa dc_Arr_fill_0 1 rfl) rfl (Nat.le_of_ble_eq_true rfl) rfl ?_
  refine V_aload_n (pc := 2) (DCa dc_Arr_fill_0 2 rfl) rfl 0 rfl ?_
  refine Q_alen (pc := 3) (DCa dc_Arr_fill_0 3 rfl) (by decide) (fun v1 => ?_)
  refine V_istore_n (ls' := [(0, 2, l0), (1, 0, l1), (2, 0, 0), (3, 0, v1)]) (pc := 4) (DCa dc_Arr_fill_0 4 rfl) rfl (Nat.le_of_ble_eq_true rfl) rfl ?_
  exact v_Arr_fill_L5 F F _ _ _ _ _
theorem sp_Arr_fill (F : Nat) (l0 l1 : Int) (h : Hp) : Sp yJ7_fill_53178 cJ7_fill_53178 4 none 1 20 [(2, l0), (0, l1)] h (Arr_fill F l0 l1 h) := Sp_of (by decide +kernel) rfl rfl (Nat.le_of_ble_eq_true rfl) (v_Arr_fill F l0 l1 h)

-- TideRakes$Planner.beginSpans
def Plan_beginSpans (F : Nat) (l0 : Int) (h : Hp) : Option (Int × Hp) :=
  cl (Arr_fill F l0 10000 h) fun r1 h2 =>
  as h2 l0 0 0 0 fun h3 =>
  some (0, h3)

theorem dc_Plan_beginSpans_0 : ∀ q ∈ ([(0, .aload_n 0, 1), (1, .sipush 10000, 3), (4, .invokestatic 127, 3), (7, .aload_n 0, 1), (8, .iconst 0, 1), (9, .iconst 0, 1), (10, .iastore, 1), (11, .return_, 1)] : List (Nat × Instr × Nat)), decode cX2_beginSpans q.1 = .ok (q.2.1, q.2.2) := by decide +kernel
abbrev X_Plan_beginSpans : MX := (cX2_beginSpans, RX2, "beginSpans", 1, none, 2, 43)
theorem v_Plan_beginSpans (F : Nat) (l0 : Int) (h : Hp) : V X_Plan_beginSpans 0 [(0, 2, l0)] [] h (Plan_beginSpans F l0 h) := by
  unfold Plan_beginSpans
  refine V_aload_n (pc := 0) (DCa dc_Plan_beginSpans_0 0 rfl) rfl 0 rfl ?_
  refine V_sipush (pc := 1) (DCa dc_Plan_beginSpans_0 1 rfl) (by decide) ?_
  refine Q_calls (st := []) (pc := 4) (DCa dc_Plan_beginSpans_0 2 rfl) (sp_Arr_fill F _ _ _) ce_Arr_fill ml_2_127 rfl ⟨Nat.le_of_ble_eq_true rfl, Nat.le_of_ble_eq_true rfl⟩ rfl (Nat.le_of_ble_eq_true rfl) (fun r1 h2 => ?_)
  refine V_aload_n (pc := 7) (DCa dc_Plan_beginSpans_0 3 rfl) rfl 0 rfl ?_
  refine V_iconst (pc := 8) (DCa dc_Plan_beginSpans_0 4 rfl) (by decide) ?_
  refine V_iconst (pc := 9) (DCa dc_Plan_beginSpans_0 5 rfl) (by decide) ?_
  refine Q_iastore (pc := 10) (DCa dc_Plan_beginSpans_0 6 rfl) (fun h3 => ?_)
  exact V_return (pc := 11) (DCa dc_Plan_beginSpans_0 7 rfl) rfl
theorem sp_Plan_beginSpans (F : Nat) (l0 : Int) (h : Hp) : Sp yX2_beginSpans cX2_beginSpans 1 none 2 43 [(2, l0)] h (Plan_beginSpans F l0 h) := Sp_of (by decide +kernel) rfl rfl (Nat.le_of_ble_eq_true rfl) (v_Plan_beginSpans F l0 h)

-- TideRakes$Rows.shareIn
def Rows_shareIn_L20s (F : Nat) (R9 : Int → Int → Int → Hp → Option (Int × Hp)) (R20 : Int → Int → Int → Int → Int → Hp → Option (Int × Hp)) (l0 l1 l2 l3 l4 : Int) (h : Hp) : Option (Int × Hp) :=
  if 0 < l4 then
    (gf h l0 104 6 fun v4 =>
    al h v4 0 l4 fun v5 =>
    if v5 < l3 then
      (gf h l0 104 6 fun v6 =>
      al h v6 0 l4 fun v7 =>
      al h l1 0 (ixor l2 l4) fun v8 =>
      lt (imax v7 v8) fun r9 =>
      lt (imin l3 r9) fun r10 =>
      lt (iand (w32 (l4 - 1)) l2) fun x11 =>
      R20 l0 l1 l2 r10 x11 h)
    else
      (lt (iand (w32 (l4 - 1)) l2) fun x12 =>
      R20 l0 l1 l2 l3 x12 h))
  else
    (as h l1 0 l2 l3 fun h13 =>
    R9 l0 l1 (w32 (l2 + (-1))) h13)
def Rows_shareIn_L20 (F : Nat) (R9 : Int → Int → Int → Hp → Option (Int × Hp)) : Nat → Int → Int → Int → Int → Int → Hp → Option (Int × Hp)
  | 0 => fun _ _ _ _ _ _ => none
  | n + 1 => Rows_shareIn_L20s F R9 (Rows_shareIn_L20 F R9 n)
def Rows_shareIn_L9s (F : Nat)  (R9 : Int → Int → Int → Hp → Option (Int × Hp)) (l0 l1 l2 : Int) (h : Hp) : Option (Int × Hp) :=
  if 0 < l2 then
    (al h l1 0 l2 fun v3 =>
    Rows_shareIn_L20 F R9 F l0 l1 l2 v3 l2 h)
  else
    (some (0, h))
def Rows_shareIn_L9 (F : Nat)  : Nat → Int → Int → Int → Hp → Option (Int × Hp)
  | 0 => fun _ _ _ _ => none
  | n + 1 => Rows_shareIn_L9s F  (Rows_shareIn_L9 F  n)
def Rows_shareIn (F : Nat) (l0 l1 : Int) (h : Hp) : Option (Int × Hp) :=
  gf h l0 104 1 fun v1 =>
  lt (w32 ((ishl 1 v1) - 1)) fun x2 =>
  Rows_shareIn_L9 F F l0 l1 x2 h

theorem dc_Rows_shareIn_0 : ∀ q ∈ ([(0, .iconst 1, 1), (1, .aload_n 0, 1), (2, .getfield 36, 3), (5, .ishl, 1), (6, .iconst 1, 1), (7, .isub, 1), (8, .istore_n 2, 1), (9, .iload_n 2, 1), (10, .ifCond .le 68, 3), (13, .aload_n 1, 1), (14, .iload_n 2, 1), (15, .iaload, 1), (16, .istore_n 3, 1), (17, .iload_n 2, 1), (18, .istore 4, 2), (20, .iload 4, 2), (22, .ifCond .le 46, 3), (25, .aload_n 0, 1), (26, .getfield 27, 3), (29, .iload 4, 2), (31, .iaload, 1), (32, .iload_n 3, 1), (33, .if_icmp .ge 24, 3), (36, .iload_n 3, 1), (37, .aload_n 0, 1), (38, .getfield 27, 3), (41, .iload 4, 2), (43, .iaload, 1), (44, .aload_n 1, 1), (45, .iload_n 2, 1), (46, .iload 4, 2), (48, .ixor, 1), (49, .iaload, 1), (50, .invokestatic 95, 3), (53, .invokestatic 30, 3), (56, .istore_n 3, 1), (57, .iload 4, 2), (59, .iconst 1, 1), (60, .isub, 1), (61, .iload_n 2, 1), (62, .iand, 1), (63, .istore 4, 2), (65, .goto (-45), 3), (68, .aload_n 1, 1), (69, .iload_n 2, 1), (70, .iload_n 3, 1), (71, .iastore, 1), (72, .iinc 2 (-1), 3), (75, .goto (-66), 3), (78, .return_, 1)] : List (Nat × Instr × Nat)), decode cX4_shareIn q.1 = .ok (q.2.1, q.2.2) := by decide +kernel
abbrev X_Rows_shareIn : MX := (cX4_shareIn, RX4, "shareIn", 5, none, 1, 20)
theorem v_Rows_shareIn_L20s (F : Nat) (R9 : Int → Int → Int → Hp → Option (Int × Hp)) (hR9 : ∀ (l0 l1 l2 : Int) (h : Hp), V X_Rows_shareIn 9 [(0, 2, l0), (1, 2, l1), (2, 0, l2)] [] h (R9 l0 l1 l2 h)) (R20 : Int → Int → Int → Int → Int → Hp → Option (Int × Hp)) (hR20 : ∀ (l0 l1 l2 l3 l4 : Int) (h : Hp), V X_Rows_shareIn 20 [(0, 2, l0), (1, 2, l1), (2, 0, l2), (3, 0, l3), (4, 0, l4)] [] h (R20 l0 l1 l2 l3 l4 h)) (l0 l1 l2 l3 l4 : Int) (h : Hp) : V X_Rows_shareIn 20 [(0, 2, l0), (1, 2, l1), (2, 0, l2), (3, 0, l3), (4, 0, l4)] [] h (Rows_shareIn_L20s F R9 R20 l0 l1 l2 l3 l4 h) := by
  unfold Rows_shareIn_L20s
  refine V_iload (pc := 20) (DCa dc_Rows_shareIn_0 15 rfl) 4 rfl ?_
  refine V_if_le (tgt := 68) (pc := 22) (DCa dc_Rows_shareIn_0 16 rfl) (by decide) (fun _ => ?_) (fun _ => ?_)
  · refine V_aload_n (pc := 25) (DCa dc_Rows_shareIn_0 17 rfl) rfl 0 rfl ?_
    refine Q_getf (k := 6) (pc := 26) (DCa dc_Rows_shareIn_0 18 rfl) cls_4 (Nat.le_of_ble_eq_true rfl) fl_4_27 rfl rfl rfl (fun v4 => ?_)
    refine V_iload (pc := 29) (DCa dc_Rows_shareIn_0 19 rfl) 4 rfl ?_
    refine Q_iaload (pc := 31) (DCa dc_Rows_shareIn_0 20 rfl) (fun v5 => ?_)
    refine V_iload_n (pc := 32) (DCa dc_Rows_shareIn_0 21 rfl) rfl 3 rfl ?_
    refine V_icmp_ge (tgt := 57) (pc := 33) (DCa dc_Rows_shareIn_0 22 rfl) (by decide) (fun _ => ?_) (fun _ => ?_)
    · refine V_iload_n (pc := 36) (DCa dc_Rows_shareIn_0 23 rfl) rfl 3 rfl ?_
      refine V_aload_n (pc := 37) (DCa dc_Rows_shareIn_0 24 rfl) rfl 0 rfl ?_
      refine Q_getf (k := 6) (pc := 38) (DCa dc_Rows_shareIn_0 25 rfl) cls_4 (Nat.le_of_ble_eq_true rfl) fl_4_27 rfl rfl rfl (fun v6 => ?_)
      refine V_iload (pc := 41) (DCa dc_Rows_shareIn_0 26 rfl) 4 rfl ?_
      refine Q_iaload (pc := 43) (DCa dc_Rows_shareIn_0 27 rfl) (fun v7 => ?_)
      refine V_aload_n (pc := 44) (DCa dc_Rows_shareIn_0 28 rfl) rfl 1 rfl ?_
      refine V_iload_n (pc := 45) (DCa dc_Rows_shareIn_0 29 rfl) rfl 2 rfl ?_
      refine V_iload (pc := 46) (DCa dc_Rows_shareIn_0 30 rfl) 4 rfl ?_
      refine V_ixor (pc := 48) (DCa dc_Rows_shareIn_0 31 rfl) ?_
      refine Q_iaload (pc := 49) (DCa dc_Rows_shareIn_0 32 rfl) (fun v8 => ?_)
      refine V_mmax (pc := 50) (DCa dc_Rows_shareIn_0 33 rfl) (tb5 140 rfl rfl) mt_smax mt_i mt_cmax ⟨Nat.le_of_ble_eq_true rfl, Nat.le_of_ble_eq_true rfl⟩ ?_
      refine Q_lt (fun r9 => ?_)
      refine V_mmin (pc := 53) (DCa dc_Rows_shareIn_0 34 rfl) (tb5 60 rfl rfl) mt_smin mt_i mt_cmin ⟨Nat.le_of_ble_eq_true rfl, Nat.le_of_ble_eq_true rfl⟩ ?_
      refine Q_lt (fun r10 => ?_)
      refine V_istore_n (ls' := [(0, 2, l0), (1, 2, l1), (2, 0, l2), (3, 0, r10), (4, 0, l4)]) (pc := 56) (DCa dc_Rows_shareIn_0 35 rfl) rfl (Nat.le_of_ble_eq_true rfl) rfl ?_
      refine V_iload (pc := 57) (DCa dc_Rows_shareIn_0 36 rfl) 4 rfl ?_
      refine V_iconst (pc := 59) (DCa dc_Rows_shareIn_0 37 rfl) (by decide) ?_
      refine V_isub (pc := 60) (DCa dc_Rows_shareIn_0 38 rfl) ?_
      refine V_iload_n (pc := 61) (DCa dc_Rows_shareIn_0 39 rfl) rfl 2 rfl ?_
      refine V_iand (pc := 62) (DCa dc_Rows_shareIn_0 40 rfl) ?_
      refine Q_lt (fun x11 => ?_)
      refine V_istore (ls' := [(0, 2, l0), (1, 2, l1), (2, 0, l2), (3, 0, r10), (4, 0, x11)]) (pc := 63) (DCa dc_Rows_shareIn_0 41 rfl) (Nat.le_of_ble_eq_true rfl) rfl ?_
      refine V_goto (tgt := 20) (pc := 65) (DCa dc_Rows_shareIn_0 42 rfl) (by decide) ?_
      exact hR20 _ _ _ _ _ _
    · refine V_iload (pc := 57) (DCa dc_Rows_shareIn_0 36 rfl) 4 rfl ?_
      refine V_iconst (pc := 59) (DCa dc_Rows_shareIn_0 37 rfl) (by decide) ?_
      refine V_isub (pc := 60) (DCa dc_Rows_shareIn_0 38 rfl) ?_
      refine V_iload_n (pc := 61) (DCa dc_Rows_shareIn_0 39 rfl) rfl 2 rfl ?_
      refine V_iand (pc := 62) (DCa dc_Rows_shareIn_0 40 rfl) ?_
      refine Q_lt (fun x12 => ?_)
      refine V_istore (ls' := [(0, 2, l0), (1, 2, l1), (2, 0, l2), (3, 0, l3), (4, 0, x12)]) (pc := 63) (DCa dc_Rows_shareIn_0 41 rfl) (Nat.le_of_ble_eq_true rfl) rfl ?_
      refine V_goto (tgt := 20) (pc := 65) (DCa dc_Rows_shareIn_0 42 rfl) (by decide) ?_
      exact hR20 _ _ _ _ _ _
  · refine V_aload_n (pc := 68) (DCa dc_Rows_shareIn_0 43 rfl) rfl 1 rfl ?_
    refine V_iload_n (pc := 69) (DCa dc_Rows_shareIn_0 44 rfl) rfl 2 rfl ?_
    refine V_iload_n (pc := 70) (DCa dc_Rows_shareIn_0 45 rfl) rfl 3 rfl ?_
    refine Q_iastore (pc := 71) (DCa dc_Rows_shareIn_0 46 rfl) (fun h13 => ?_)
    refine V_iinc (ls' := [(0, 2, l0), (1, 2, l1), (2, 0, w32 (l2 + (-1))), (3, 0, l3), (4, 0, l4)]) (pc := 72) (DCa dc_Rows_shareIn_0 47 rfl) (Nat.le_of_ble_eq_true rfl) (by decide) 2 rfl rfl ?_
    refine V_goto (tgt := 9) (pc := 75) (DCa dc_Rows_shareIn_0 48 rfl) (by decide) ?_
    refine V_pick [0, 1, 2] rfl ?_
    exact hR9 _ _ _ _
theorem v_Rows_shareIn_L20 (F : Nat) (R9 : Int → Int → Int → Hp → Option (Int × Hp)) (hR9 : ∀ (l0 l1 l2 : Int) (h : Hp), V X_Rows_shareIn 9 [(0, 2, l0), (1, 2, l1), (2, 0, l2)] [] h (R9 l0 l1 l2 h)) (n : Nat) : ∀ (l0 l1 l2 l3 l4 : Int) (h : Hp), V X_Rows_shareIn 20 [(0, 2, l0), (1, 2, l1), (2, 0, l2), (3, 0, l3), (4, 0, l4)] [] h (Rows_shareIn_L20 F R9 n l0 l1 l2 l3 l4 h) := by
  induction n with
  | zero => intros; exact V_none
  | succ n ih => exact fun l0 l1 l2 l3 l4 h => v_Rows_shareIn_L20s F R9 hR9 _ ih l0 l1 l2 l3 l4 h
theorem v_Rows_shareIn_L9s (F : Nat)  (R9 : Int → Int → Int → Hp → Option (Int × Hp)) (hR9 : ∀ (l0 l1 l2 : Int) (h : Hp), V X_Rows_shareIn 9 [(0, 2, l0), (1, 2, l1), (2, 0, l2)] [] h (R9 l0 l1 l2 h)) (l0 l1 l2 : Int) (h : Hp) : V X_Rows_shareIn 9 [(0, 2, l0), (1, 2, l1), (2, 0, l2)] [] h (Rows_shareIn_L9s F  R9 l0 l1 l2 h) := by
  unfold Rows_shareIn_L9s
  refine V_iload_n (pc := 9) (DCa dc_Rows_shareIn_0 7 rfl) rfl 2 rfl ?_
  refine V_if_le (tgt := 78) (pc := 10) (DCa dc_Rows_shareIn_0 8 rfl) (by decide) (fun _ => ?_) (fun _ => ?_)
  · refine V_aload_n (pc := 13) (DCa dc_Rows_shareIn_0 9 rfl) rfl 1 rfl ?_
    refine V_iload_n (pc := 14) (DCa dc_Rows_shareIn_0 10 rfl) rfl 2 rfl ?_
    refine Q_iaload (pc := 15) (DCa dc_Rows_shareIn_0 11 rfl) (fun v3 => ?_)
    refine V_istore_n (ls' := [(0, 2, l0), (1, 2, l1), (2, 0, l2), (3, 0, v3)]) (pc := 16) (DCa dc_Rows_shareIn_0 12 rfl) rfl (Nat.le_of_ble_eq_true rfl) rfl ?_
    refine V_iload_n (pc := 17) (DCa dc_Rows_shareIn_0 13 rfl) rfl 2 rfl ?_
    refine V_istore (ls' := [(0, 2, l0), (1, 2, l1), (2, 0, l2), (3, 0, v3), (4, 0, l2)]) (pc := 18) (DCa dc_Rows_shareIn_0 14 rfl) (Nat.le_of_ble_eq_true rfl) rfl ?_
    exact v_Rows_shareIn_L20 F R9 hR9 F _ _ _ _ _ _
  · exact V_return (pc := 78) (DCa dc_Rows_shareIn_0 49 rfl) rfl
theorem v_Rows_shareIn_L9 (F : Nat)  (n : Nat) : ∀ (l0 l1 l2 : Int) (h : Hp), V X_Rows_shareIn 9 [(0, 2, l0), (1, 2, l1), (2, 0, l2)] [] h (Rows_shareIn_L9 F  n l0 l1 l2 h) := by
  induction n with
  | zero => intros; exact V_none
  | succ n ih => exact fun l0 l1 l2 h => v_Rows_shareIn_L9s F  _ ih l0 l1 l2 h
theorem v_Rows_shareIn (F : Nat) (l0 l1 : Int) (h : Hp) : V X_Rows_shareIn 0 [(0, 2, l0), (1, 2, l1)] [] h (Rows_shareIn F l0 l1 h) := by
  unfold Rows_shareIn
  refine V_iconst (pc := 0) (DCa dc_Rows_shareIn_0 0 rfl) (by decide) ?_
  refine V_aload_n (pc := 1) (DCa dc_Rows_shareIn_0 1 rfl) rfl 0 rfl ?_
  refine Q_getf (k := 1) (pc := 2) (DCa dc_Rows_shareIn_0 2 rfl) cls_4 (Nat.le_of_ble_eq_true rfl) fl_4_36 rfl rfl rfl (fun v1 => ?_)
  refine V_ishl (pc := 5) (DCa dc_Rows_shareIn_0 3 rfl) ?_
  refine V_iconst (pc := 6) (DCa dc_Rows_shareIn_0 4 rfl) (by decide) ?_
  refine V_isub (pc := 7) (DCa dc_Rows_shareIn_0 5 rfl) ?_
  refine Q_lt (fun x2 => ?_)
  refine V_istore_n (ls' := [(0, 2, l0), (1, 2, l1), (2, 0, x2)]) (pc := 8) (DCa dc_Rows_shareIn_0 6 rfl) rfl (Nat.le_of_ble_eq_true rfl) rfl ?_
  exact v_Rows_shareIn_L9 F F _ _ _ _
theorem sp_Rows_shareIn (F : Nat) (l0 l1 : Int) (h : Hp) : Sp yX4_shareIn cX4_shareIn 5 none 1 20 [(2, l0), (2, l1)] h (Rows_shareIn F l0 l1 h) := Sp_of (by decide +kernel) rfl rfl (Nat.le_of_ble_eq_true rfl) (v_Rows_shareIn F l0 l1 h)

-- TideRakes$Planner.sharedSet
def Plan_sharedSet_L61s (F : Nat)  (R61 : Int → Int → Int → Int → Int → Hp → Option (Int × Hp)) (l0 l1 l3 l4 l5 : Int) (h : Hp) : Option (Int × Hp) :=
  iv h l1 107 (Shor_allParts F l1 h) fun r13 h14 =>
  if r13 < l5 then
    (some (l4, h14))
  else
    (gf h14 l0 102 5 fun v15 =>
    al h14 v15 0 l5 fun v16 =>
    if l3 < v16 then
      (R61 l0 l1 l3 l4 (w32 (l5 + 1)) h14)
    else
      (gf h14 l1 107 4 fun v17 =>
      al h14 v17 0 l5 fun v18 =>
      gf h14 l1 107 4 fun v19 =>
      al h14 v19 0 l4 fun v20 =>
      if v20 < v18 then
        (R61 l0 l1 l3 l5 (w32 (l5 + 1)) h14)
      else
        (R61 l0 l1 l3 l4 (w32 (l5 + 1)) h14)))
def Plan_sharedSet_L61 (F : Nat)  : Nat → Int → Int → Int → Int → Int → Hp → Option (Int × Hp)
  | 0 => fun _ _ _ _ _ _ => none
  | n + 1 => Plan_sharedSet_L61s F  (Plan_sharedSet_L61 F  n)
def Plan_sharedSet_L17s (F : Nat)  (R17 : Int → Int → Int → Int → Int → Hp → Option (Int × Hp)) (l0 l1 l2 l3 l4 : Int) (h : Hp) : Option (Int × Hp) :=
  gf h l1 107 0 fun v5 =>
  gf h v5 106 8 fun v6 =>
  if l4 < v6 then
    (iv h l0 102 (Plan_rowsOf F l0 l1 l2 l4 h) fun r7 h8 =>
    gf h8 l0 102 5 fun v9 =>
    iv h8 r7 104 (Rows_shareIn F r7 v9 h8) fun r10 h11 =>
    R17 l0 l1 l2 l3 (w32 (l4 + 1)) h11)
  else
    (pz h l0 102 6 1 fun h12 =>
    Plan_sharedSet_L61 F F l0 l1 l3 0 1 h12)
def Plan_sharedSet_L17 (F : Nat)  : Nat → Int → Int → Int → Int → Int → Hp → Option (Int × Hp)
  | 0 => fun _ _ _ _ _ _ => none
  | n + 1 => Plan_sharedSet_L17s F  (Plan_sharedSet_L17 F  n)
def Plan_sharedSet (F : Nat) (l0 l1 l2 l3 : Int) (h : Hp) : Option (Int × Hp) :=
  gf h l0 102 6 fun v1 =>
  if v1 = 0 then
    (gf h l0 102 5 fun v2 =>
    cl (Plan_beginSpans F v2 h) fun r3 h4 =>
    Plan_sharedSet_L17 F F l0 l1 l2 l3 0 h4)
  else
    (Plan_sharedSet_L61 F F l0 l1 l3 0 1 h)

theorem dc_Plan_sharedSet_0 : ∀ q ∈ ([(0, .aload_n 0, 1), (1, .getfield 53, 3), (4, .ifCond .ne 51, 3), (7, .aload_n 0, 1), (8, .getfield 37, 3), (11, .invokestatic 117, 3), (14, .iconst 0, 1), (15, .istore 4, 2), (17, .iload 4, 2), (19, .aload_n 1, 1), (20, .getfield 62, 3), (23, .getfield 121, 3), (26, .if_icmp .ge 24, 3), (29, .aload_n 0, 1), (30, .aload_n 1, 1), (31, .aload_n 2, 1), (32, .iload 4, 2), (34, .invokevirtual 89, 3), (37, .aload_n 0, 1), (38, .getfield 37, 3), (41, .invokevirtual 124, 3), (44, .iinc 4 1, 3), (47, .goto (-30), 3), (50, .aload_n 0, 1), (51, .iconst 1, 1), (52, .putfield 53, 3), (55, .iconst 0, 1), (56, .istore 4, 2), (58, .iconst 1, 1), (59, .istore 5, 2), (61, .iload 5, 2), (63, .aload_n 1, 1), (64, .invokevirtual 111, 3), (67, .if_icmp .gt 41, 3), (70, .aload_n 0, 1), (71, .getfield 37, 3), (74, .iload 5, 2), (76, .iaload, 1), (77, .iload_n 3, 1), (78, .if_icmp .gt 24, 3), (81, .aload_n 1, 1), (82, .getfield 93, 3), (85, .iload 5, 2), (87, .iaload, 1), (88, .aload_n 1, 1), (89, .getfield 93, 3), (92, .iload 4, 2), (94, .iaload, 1), (95, .if_icmp .le 7, 3), (98, .iload 5, 2)] : List (Nat × Instr × Nat)), decode cX2_sharedSet q.1 = .ok (q.2.1, q.2.2) := by decide +kernel
theorem dc_Plan_sharedSet_1 : ∀ q ∈ ([(100, .istore 4, 2), (102, .iinc 5 1, 3), (105, .goto (-44), 3), (108, .iload 4, 2), (110, .ireturn, 1)] : List (Nat × Instr × Nat)), decode cX2_sharedSet q.1 = .ok (q.2.1, q.2.2) := by decide +kernel
abbrev X_Plan_sharedSet : MX := (cX2_sharedSet, RX2, "sharedSet", 6, (some (.int)), 6, 141)
theorem v_Plan_sharedSet_L61s (F : Nat)  (R61 : Int → Int → Int → Int → Int → Hp → Option (Int × Hp)) (hR61 : ∀ (l0 l1 l3 l4 l5 : Int) (h : Hp), V X_Plan_sharedSet 61 [(0, 2, l0), (1, 2, l1), (3, 0, l3), (4, 0, l4), (5, 0, l5)] [] h (R61 l0 l1 l3 l4 l5 h)) (l0 l1 l3 l4 l5 : Int) (h : Hp) : V X_Plan_sharedSet 61 [(0, 2, l0), (1, 2, l1), (3, 0, l3), (4, 0, l4), (5, 0, l5)] [] h (Plan_sharedSet_L61s F  R61 l0 l1 l3 l4 l5 h) := by
  unfold Plan_sharedSet_L61s
  refine V_iload (pc := 61) (DCa dc_Plan_sharedSet_0 30 rfl) 4 rfl ?_
  refine V_aload_n (pc := 63) (DCa dc_Plan_sharedSet_0 31 rfl) rfl 1 rfl ?_
  refine Q_callv (ci := 7) (st := [(0, l5)]) (pc := 64) (DCa dc_Plan_sharedSet_0 32 rfl) (sp_Shor_allParts F _ _) ce_Shor_allParts ml_2_111 rfl rfl ⟨Nat.le_of_ble_eq_true rfl, Nat.le_of_ble_eq_true rfl⟩ rfl (Nat.le_of_ble_eq_true rfl) (fun r13 h14 => ?_)
  refine V_icmp_gt (tgt := 108) (pc := 67) (DCa dc_Plan_sharedSet_0 33 rfl) (by decide) (fun _ => ?_) (fun _ => ?_)
  · refine V_iload (pc := 108) (DCa dc_Plan_sharedSet_1 3 rfl) 3 rfl ?_
    exact V_ireturn (pc := 110) (DCa dc_Plan_sharedSet_1 4 rfl) rfl
  · refine V_aload_n (pc := 70) (DCa dc_Plan_sharedSet_0 34 rfl) rfl 0 rfl ?_
    refine Q_getf (k := 5) (pc := 71) (DCa dc_Plan_sharedSet_0 35 rfl) cls_2 (Nat.le_of_ble_eq_true rfl) fl_2_37 rfl rfl rfl (fun v15 => ?_)
    refine V_iload (pc := 74) (DCa dc_Plan_sharedSet_0 36 rfl) 4 rfl ?_
    refine Q_iaload (pc := 76) (DCa dc_Plan_sharedSet_0 37 rfl) (fun v16 => ?_)
    refine V_iload_n (pc := 77) (DCa dc_Plan_sharedSet_0 38 rfl) rfl 2 rfl ?_
    refine V_icmp_gt (tgt := 102) (pc := 78) (DCa dc_Plan_sharedSet_0 39 rfl) (by decide) (fun _ => ?_) (fun _ => ?_)
    · refine V_iinc (ls' := [(0, 2, l0), (1, 2, l1), (3, 0, l3), (4, 0, l4), (5, 0, w32 (l5 + 1))]) (pc := 102) (DCa dc_Plan_sharedSet_1 1 rfl) (Nat.le_of_ble_eq_true rfl) (by decide) 4 rfl rfl ?_
      refine V_goto (tgt := 61) (pc := 105) (DCa dc_Plan_sharedSet_1 2 rfl) (by decide) ?_
      exact hR61 _ _ _ _ _ _
    · refine V_aload_n (pc := 81) (DCa dc_Plan_sharedSet_0 40 rfl) rfl 1 rfl ?_
      refine Q_getf (k := 4) (pc := 82) (DCa dc_Plan_sharedSet_0 41 rfl) cls_7 (Nat.le_of_ble_eq_true rfl) fl_2_93 rfl rfl rfl (fun v17 => ?_)
      refine V_iload (pc := 85) (DCa dc_Plan_sharedSet_0 42 rfl) 4 rfl ?_
      refine Q_iaload (pc := 87) (DCa dc_Plan_sharedSet_0 43 rfl) (fun v18 => ?_)
      refine V_aload_n (pc := 88) (DCa dc_Plan_sharedSet_0 44 rfl) rfl 1 rfl ?_
      refine Q_getf (k := 4) (pc := 89) (DCa dc_Plan_sharedSet_0 45 rfl) cls_7 (Nat.le_of_ble_eq_true rfl) fl_2_93 rfl rfl rfl (fun v19 => ?_)
      refine V_iload (pc := 92) (DCa dc_Plan_sharedSet_0 46 rfl) 3 rfl ?_
      refine Q_iaload (pc := 94) (DCa dc_Plan_sharedSet_0 47 rfl) (fun v20 => ?_)
      refine V_icmp_le (tgt := 102) (pc := 95) (DCa dc_Plan_sharedSet_0 48 rfl) (by decide) (fun _ => ?_) (fun _ => ?_)
      · refine V_iload (pc := 98) (DCa dc_Plan_sharedSet_0 49 rfl) 4 rfl ?_
        refine V_istore (ls' := [(0, 2, l0), (1, 2, l1), (3, 0, l3), (4, 0, l5), (5, 0, l5)]) (pc := 100) (DCa dc_Plan_sharedSet_1 0 rfl) (Nat.le_of_ble_eq_true rfl) rfl ?_
        refine V_iinc (ls' := [(0, 2, l0), (1, 2, l1), (3, 0, l3), (4, 0, l5), (5, 0, w32 (l5 + 1))]) (pc := 102) (DCa dc_Plan_sharedSet_1 1 rfl) (Nat.le_of_ble_eq_true rfl) (by decide) 4 rfl rfl ?_
        refine V_goto (tgt := 61) (pc := 105) (DCa dc_Plan_sharedSet_1 2 rfl) (by decide) ?_
        exact hR61 _ _ _ _ _ _
      · refine V_iinc (ls' := [(0, 2, l0), (1, 2, l1), (3, 0, l3), (4, 0, l4), (5, 0, w32 (l5 + 1))]) (pc := 102) (DCa dc_Plan_sharedSet_1 1 rfl) (Nat.le_of_ble_eq_true rfl) (by decide) 4 rfl rfl ?_
        refine V_goto (tgt := 61) (pc := 105) (DCa dc_Plan_sharedSet_1 2 rfl) (by decide) ?_
        exact hR61 _ _ _ _ _ _
theorem v_Plan_sharedSet_L61 (F : Nat)  (n : Nat) : ∀ (l0 l1 l3 l4 l5 : Int) (h : Hp), V X_Plan_sharedSet 61 [(0, 2, l0), (1, 2, l1), (3, 0, l3), (4, 0, l4), (5, 0, l5)] [] h (Plan_sharedSet_L61 F  n l0 l1 l3 l4 l5 h) := by
  induction n with
  | zero => intros; exact V_none
  | succ n ih => exact fun l0 l1 l3 l4 l5 h => v_Plan_sharedSet_L61s F  _ ih l0 l1 l3 l4 l5 h
theorem v_Plan_sharedSet_L17s (F : Nat)  (R17 : Int → Int → Int → Int → Int → Hp → Option (Int × Hp)) (hR17 : ∀ (l0 l1 l2 l3 l4 : Int) (h : Hp), V X_Plan_sharedSet 17 [(0, 2, l0), (1, 2, l1), (2, 2, l2), (3, 0, l3), (4, 0, l4)] [] h (R17 l0 l1 l2 l3 l4 h)) (l0 l1 l2 l3 l4 : Int) (h : Hp) : V X_Plan_sharedSet 17 [(0, 2, l0), (1, 2, l1), (2, 2, l2), (3, 0, l3), (4, 0, l4)] [] h (Plan_sharedSet_L17s F  R17 l0 l1 l2 l3 l4 h) := by
  unfold Plan_sharedSet_L17s
  refine V_iload (pc := 17) (DCa dc_Plan_sharedSet_0 8 rfl) 4 rfl ?_
  refine V_aload_n (pc := 19) (DCa dc_Plan_sharedSet_0 9 rfl) rfl 1 rfl ?_
  refine Q_getf (k := 0) (pc := 20) (DCa dc_Plan_sharedSet_0 10 rfl) cls_7 (Nat.le_of_ble_eq_true rfl) fl_2_62 rfl rfl rfl (fun v5 => ?_)
  refine Q_getf (k := 8) (pc := 23) (DCa dc_Plan_sharedSet_0 11 rfl) cls_6 (Nat.le_of_ble_eq_true rfl) fl_2_121 rfl rfl rfl (fun v6 => ?_)
  refine V_icmp_ge (tgt := 50) (pc := 26) (DCa dc_Plan_sharedSet_0 12 rfl) (by decide) (fun _ => ?_) (fun _ => ?_)
  · refine V_aload_n (pc := 29) (DCa dc_Plan_sharedSet_0 13 rfl) rfl 0 rfl ?_
    refine V_aload_n (pc := 30) (DCa dc_Plan_sharedSet_0 14 rfl) rfl 1 rfl ?_
    refine V_aload_n (pc := 31) (DCa dc_Plan_sharedSet_0 15 rfl) rfl 2 rfl ?_
    refine V_iload (pc := 32) (DCa dc_Plan_sharedSet_0 16 rfl) 4 rfl ?_
    refine Q_callv (ci := 2) (st := []) (pc := 34) (DCa dc_Plan_sharedSet_0 17 rfl) (sp_Plan_rowsOf F _ _ _ _ _) ce_Plan_rowsOf ml_2_89 rfl rfl ⟨Nat.le_of_ble_eq_true rfl, Nat.le_of_ble_eq_true rfl⟩ rfl (Nat.le_of_ble_eq_true rfl) (fun r7 h8 => ?_)
    refine V_aload_n (pc := 37) (DCa dc_Plan_sharedSet_0 18 rfl) rfl 0 rfl ?_
    refine Q_getf (k := 5) (pc := 38) (DCa dc_Plan_sharedSet_0 19 rfl) cls_2 (Nat.le_of_ble_eq_true rfl) fl_2_37 rfl rfl rfl (fun v9 => ?_)
    refine Q_callv (ci := 4) (st := []) (pc := 41) (DCa dc_Plan_sharedSet_0 20 rfl) (sp_Rows_shareIn F _ _ _) ce_Rows_shareIn ml_2_124 rfl rfl ⟨Nat.le_of_ble_eq_true rfl, Nat.le_of_ble_eq_true rfl⟩ rfl (Nat.le_of_ble_eq_true rfl) (fun r10 h11 => ?_)
    refine V_iinc (ls' := [(0, 2, l0), (1, 2, l1), (2, 2, l2), (3, 0, l3), (4, 0, w32 (l4 + 1))]) (pc := 44) (DCa dc_Plan_sharedSet_0 21 rfl) (Nat.le_of_ble_eq_true rfl) (by decide) 4 rfl rfl ?_
    refine V_goto (tgt := 17) (pc := 47) (DCa dc_Plan_sharedSet_0 22 rfl) (by decide) ?_
    exact hR17 _ _ _ _ _ _
  · refine V_aload_n (pc := 50) (DCa dc_Plan_sharedSet_0 23 rfl) rfl 0 rfl ?_
    refine V_iconst (pc := 51) (DCa dc_Plan_sharedSet_0 24 rfl) (by decide) ?_
    refine Q_putz (k := 6) (pc := 52) (DCa dc_Plan_sharedSet_0 25 rfl) cls_2 (Nat.le_of_ble_eq_true rfl) fl_2_53 rfl rfl rfl (Or.inl rfl) rfl (fun h12 => ?_)
    refine V_iconst (pc := 55) (DCa dc_Plan_sharedSet_0 26 rfl) (by decide) ?_
    refine V_istore (ls' := [(0, 2, l0), (1, 2, l1), (2, 2, l2), (3, 0, l3), (4, 0, 0)]) (pc := 56) (DCa dc_Plan_sharedSet_0 27 rfl) (Nat.le_of_ble_eq_true rfl) rfl ?_
    refine V_iconst (pc := 58) (DCa dc_Plan_sharedSet_0 28 rfl) (by decide) ?_
    refine V_istore (ls' := [(0, 2, l0), (1, 2, l1), (2, 2, l2), (3, 0, l3), (4, 0, 0), (5, 0, 1)]) (pc := 59) (DCa dc_Plan_sharedSet_0 29 rfl) (Nat.le_of_ble_eq_true rfl) rfl ?_
    refine V_pick [0, 1, 3, 4, 5] rfl ?_
    exact v_Plan_sharedSet_L61 F F _ _ _ _ _ _
theorem v_Plan_sharedSet_L17 (F : Nat)  (n : Nat) : ∀ (l0 l1 l2 l3 l4 : Int) (h : Hp), V X_Plan_sharedSet 17 [(0, 2, l0), (1, 2, l1), (2, 2, l2), (3, 0, l3), (4, 0, l4)] [] h (Plan_sharedSet_L17 F  n l0 l1 l2 l3 l4 h) := by
  induction n with
  | zero => intros; exact V_none
  | succ n ih => exact fun l0 l1 l2 l3 l4 h => v_Plan_sharedSet_L17s F  _ ih l0 l1 l2 l3 l4 h
theorem v_Plan_sharedSet (F : Nat) (l0 l1 l2 l3 : Int) (h : Hp) : V X_Plan_sharedSet 0 [(0, 2, l0), (1, 2, l1), (2, 2, l2), (3, 0, l3)] [] h (Plan_sharedSet F l0 l1 l2 l3 h) := by
  unfold Plan_sharedSet
  refine V_aload_n (pc := 0) (DCa dc_Plan_sharedSet_0 0 rfl) rfl 0 rfl ?_
  refine Q_getf (k := 6) (pc := 1) (DCa dc_Plan_sharedSet_0 1 rfl) cls_2 (Nat.le_of_ble_eq_true rfl) fl_2_53 rfl rfl rfl (fun v1 => ?_)
  refine V_if_ne (tgt := 55) (pc := 4) (DCa dc_Plan_sharedSet_0 2 rfl) (by decide) (fun _ => ?_) (fun _ => ?_)
  · refine V_aload_n (pc := 7) (DCa dc_Plan_sharedSet_0 3 rfl) rfl 0 rfl ?_
    refine Q_getf (k := 5) (pc := 8) (DCa dc_Plan_sharedSet_0 4 rfl) cls_2 (Nat.le_of_ble_eq_true rfl) fl_2_37 rfl rfl rfl (fun v2 => ?_)
    refine Q_calls (st := []) (pc := 11) (DCa dc_Plan_sharedSet_0 5 rfl) (sp_Plan_beginSpans F _ _) ce_Plan_beginSpans ml_2_117 rfl ⟨Nat.le_of_ble_eq_true rfl, Nat.le_of_ble_eq_true rfl⟩ rfl (Nat.le_of_ble_eq_true rfl) (fun r3 h4 => ?_)
    refine V_iconst (pc := 14) (DCa dc_Plan_sharedSet_0 6 rfl) (by decide) ?_
    refine V_istore (ls' := [(0, 2, l0), (1, 2, l1), (2, 2, l2), (3, 0, l3), (4, 0, 0)]) (pc := 15) (DCa dc_Plan_sharedSet_0 7 rfl) (Nat.le_of_ble_eq_true rfl) rfl ?_
    exact v_Plan_sharedSet_L17 F F _ _ _ _ _ _
  · refine V_iconst (pc := 55) (DCa dc_Plan_sharedSet_0 26 rfl) (by decide) ?_
    refine V_istore (ls' := [(0, 2, l0), (1, 2, l1), (2, 2, l2), (3, 0, l3), (4, 0, 0)]) (pc := 56) (DCa dc_Plan_sharedSet_0 27 rfl) (Nat.le_of_ble_eq_true rfl) rfl ?_
    refine V_iconst (pc := 58) (DCa dc_Plan_sharedSet_0 28 rfl) (by decide) ?_
    refine V_istore (ls' := [(0, 2, l0), (1, 2, l1), (2, 2, l2), (3, 0, l3), (4, 0, 0), (5, 0, 1)]) (pc := 59) (DCa dc_Plan_sharedSet_0 29 rfl) (Nat.le_of_ble_eq_true rfl) rfl ?_
    refine V_pick [0, 1, 3, 4, 5] rfl ?_
    exact v_Plan_sharedSet_L61 F F _ _ _ _ _ _
theorem sp_Plan_sharedSet (F : Nat) (l0 l1 l2 l3 : Int) (h : Hp) : Sp yX2_sharedSet cX2_sharedSet 6 (some (.int)) 6 141 [(2, l0), (2, l1), (2, l2), (0, l3)] h (Plan_sharedSet F l0 l1 l2 l3 h) := Sp_of (by decide +kernel) rfl rfl (Nat.le_of_ble_eq_true rfl) (v_Plan_sharedSet F l0 l1 l2 l3 h)

-- TideRakes$Walker.copy
def Walk_copy (F : Nat) (l0 l1 : Int) (h : Hp) : Option (Int × Hp) :=
  gf h l1 110 0 fun v1 =>
  pf h l0 110 0 v1 fun h2 =>
  gf h2 l1 110 1 fun v3 =>
  pf h2 l0 110 1 v3 fun h4 =>
  gf h4 l1 110 2 fun v5 =>
  pf h4 l0 110 2 v5 fun h6 =>
  gf h6 l1 110 3 fun v7 =>
  pf h6 l0 110 3 v7 fun h8 =>
  gf h8 l1 110 4 fun v9 =>
  pf h8 l0 110 4 v9 fun h10 =>
  some (0, h10)

theorem dc_Walk_copy_0 : ∀ q ∈ ([(0, .aload_n 0, 1), (1, .aload_n 1, 1), (2, .getfield 7, 3), (5, .putfield 7, 3), (8, .aload_n 0, 1), (9, .aload_n 1, 1), (10, .getfield 13, 3), (13, .putfield 13, 3), (16, .aload_n 0, 1), (17, .aload_n 1, 1), (18, .getfield 16, 3), (21, .putfield 16, 3), (24, .aload_n 0, 1), (25, .aload_n 1, 1), (26, .getfield 19, 3), (29, .putfield 19, 3), (32, .aload_n 0, 1), (33, .aload_n 1, 1), (34, .getfield 22, 3), (37, .putfield 22, 3), (40, .return_, 1)] : List (Nat × Instr × Nat)), decode cX10_copy q.1 = .ok (q.2.1, q.2.2) := by decide +kernel
abbrev X_Walk_copy : MX := (cX10_copy, RX10, "copy", 2, none, 1, 20)
theorem v_Walk_copy (F : Nat) (l0 l1 : Int) (h : Hp) : V X_Walk_copy 0 [(0, 2, l0), (1, 2, l1)] [] h (Walk_copy F l0 l1 h) := by
  unfold Walk_copy
  refine V_aload_n (pc := 0) (DCa dc_Walk_copy_0 0 rfl) rfl 0 rfl ?_
  refine V_aload_n (pc := 1) (DCa dc_Walk_copy_0 1 rfl) rfl 1 rfl ?_
  refine Q_getf (k := 0) (pc := 2) (DCa dc_Walk_copy_0 2 rfl) cls_10 (Nat.le_of_ble_eq_true rfl) fl_10_7 rfl rfl rfl (fun v1 => ?_)
  refine Q_putf (k := 0) (pc := 5) (DCa dc_Walk_copy_0 3 rfl) cls_10 (Nat.le_of_ble_eq_true rfl) fl_10_7 rfl rfl rfl (Or.inl rfl) (Or.inl ⟨rfl, rfl⟩) (fun h2 => ?_)
  refine V_aload_n (pc := 8) (DCa dc_Walk_copy_0 4 rfl) rfl 0 rfl ?_
  refine V_aload_n (pc := 9) (DCa dc_Walk_copy_0 5 rfl) rfl 1 rfl ?_
  refine Q_getf (k := 1) (pc := 10) (DCa dc_Walk_copy_0 6 rfl) cls_10 (Nat.le_of_ble_eq_true rfl) fl_10_13 rfl rfl rfl (fun v3 => ?_)
  refine Q_putf (k := 1) (pc := 13) (DCa dc_Walk_copy_0 7 rfl) cls_10 (Nat.le_of_ble_eq_true rfl) fl_10_13 rfl rfl rfl (Or.inl rfl) (Or.inl ⟨rfl, rfl⟩) (fun h4 => ?_)
  refine V_aload_n (pc := 16) (DCa dc_Walk_copy_0 8 rfl) rfl 0 rfl ?_
  refine V_aload_n (pc := 17) (DCa dc_Walk_copy_0 9 rfl) rfl 1 rfl ?_
  refine Q_getf (k := 2) (pc := 18) (DCa dc_Walk_copy_0 10 rfl) cls_10 (Nat.le_of_ble_eq_true rfl) fl_10_16 rfl rfl rfl (fun v5 => ?_)
  refine Q_putf (k := 2) (pc := 21) (DCa dc_Walk_copy_0 11 rfl) cls_10 (Nat.le_of_ble_eq_true rfl) fl_10_16 rfl rfl rfl (Or.inl rfl) (Or.inl ⟨rfl, rfl⟩) (fun h6 => ?_)
  refine V_aload_n (pc := 24) (DCa dc_Walk_copy_0 12 rfl) rfl 0 rfl ?_
  refine V_aload_n (pc := 25) (DCa dc_Walk_copy_0 13 rfl) rfl 1 rfl ?_
  refine Q_getf (k := 3) (pc := 26) (DCa dc_Walk_copy_0 14 rfl) cls_10 (Nat.le_of_ble_eq_true rfl) fl_10_19 rfl rfl rfl (fun v7 => ?_)
  refine Q_putf (k := 3) (pc := 29) (DCa dc_Walk_copy_0 15 rfl) cls_10 (Nat.le_of_ble_eq_true rfl) fl_10_19 rfl rfl rfl (Or.inl rfl) (Or.inl ⟨rfl, rfl⟩) (fun h8 => ?_)
  refine V_aload_n (pc := 32) (DCa dc_Walk_copy_0 16 rfl) rfl 0 rfl ?_
  refine V_aload_n (pc := 33) (DCa dc_Walk_copy_0 17 rfl) rfl 1 rfl ?_
  refine Q_getf (k := 4) (pc := 34) (DCa dc_Walk_copy_0 18 rfl) cls_10 (Nat.le_of_ble_eq_true rfl) fl_10_22 rfl rfl rfl (fun v9 => ?_)
  refine Q_putf (k := 4) (pc := 37) (DCa dc_Walk_copy_0 19 rfl) cls_10 (Nat.le_of_ble_eq_true rfl) fl_10_22 rfl rfl rfl (Or.inl rfl) (Or.inl ⟨rfl, rfl⟩) (fun h10 => ?_)
  exact V_return (pc := 40) (DCa dc_Walk_copy_0 20 rfl) rfl
theorem sp_Walk_copy (F : Nat) (l0 l1 : Int) (h : Hp) : Sp yX10_copy cX10_copy 2 none 1 20 [(2, l0), (2, l1)] h (Walk_copy F l0 l1 h) := Sp_of (by decide +kernel) rfl rfl (Nat.le_of_ble_eq_true rfl) (v_Walk_copy F l0 l1 h)

-- TideRakes$Planner.worthLater
def Plan_worthLater (F : Nat) (l0 l1 l2 l3 l4 l5 : Int) (h : Hp) : Option (Int × Hp) :=
  gf h l0 102 3 fun v1 =>
  gf h l2 108 0 fun v2 =>
  al h v2 7 l3 fun v3 =>
  iv h v1 110 (Walk_copy F v1 v3 h) fun r4 h5 =>
  gf h5 l0 102 3 fun v6 =>
  gf h5 v6 110 3 fun v7 =>
  pf h5 v6 110 3 (w32 (v7 + l5)) fun h8 =>
  gf h8 l0 102 2 fun v9 =>
  gf h8 l1 107 3 fun v10 =>
  gf h8 l1 107 0 fun v11 =>
  gf h8 v11 106 4 fun v12 =>
  iv h8 l2 108 (Stan_neverDone F l2 h8) fun r13 h14 =>
  gf h14 l0 102 3 fun v15 =>
  iv h14 v9 104 (Rows_fill F v9 v10 v12 r13 v15 0 h14) fun r16 h17 =>
  gf h17 l1 107 4 fun v18 =>
  gf h17 l0 102 2 fun v19 =>
  gf h17 l1 107 4 fun v20 =>
  iv h17 v19 104 (Rows_bestSet F v19 v20 l4 h17) fun r21 h22 =>
  al h22 v18 0 r21 fun v23 =>
  some (v23, h22)

theorem dc_Plan_worthLater_0 : ∀ q ∈ ([(0, .aload_n 0, 1), (1, .getfield 29, 3), (4, .aload_n 2, 1), (5, .getfield 78, 3), (8, .iload_n 3, 1), (9, .aaload, 1), (10, .invokevirtual 136, 3), (13, .aload_n 0, 1), (14, .getfield 29, 3), (17, .dup, 1), (18, .getfield 140, 3), (21, .iload 5, 2), (23, .iadd, 1), (24, .putfield 140, 3), (27, .aload_n 0, 1), (28, .getfield 22, 3), (31, .aload_n 1, 1), (32, .getfield 57, 3), (35, .aload_n 1, 1), (36, .getfield 62, 3), (39, .getfield 66, 3), (42, .aload_n 2, 1), (43, .invokevirtual 72, 3), (46, .aload_n 0, 1), (47, .getfield 29, 3), (50, .iconst 0, 1), (51, .invokevirtual 82, 3), (54, .aload_n 1, 1), (55, .getfield 93, 3), (58, .aload_n 0, 1), (59, .getfield 22, 3), (62, .aload_n 1, 1), (63, .getfield 93, 3), (66, .iload 4, 2), (68, .invokevirtual 96, 3), (71, .iaload, 1), (72, .ireturn, 1)] : List (Nat × Instr × Nat)), decode cX2_worthLater q.1 = .ok (q.2.1, q.2.2) := by decide +kernel
abbrev X_Plan_worthLater : MX := (cX2_worthLater, RX2, "worthLater", 6, (some (.int)), 5, 118)
theorem v_Plan_worthLater (F : Nat) (l0 l1 l2 l3 l4 l5 : Int) (h : Hp) : V X_Plan_worthLater 0 [(0, 2, l0), (1, 2, l1), (2, 2, l2), (3, 0, l3), (4, 0, l4), (5, 0, l5)] [] h (Plan_worthLater F l0 l1 l2 l3 l4 l5 h) := by
  unfold Plan_worthLater
  refine V_aload_n (pc := 0) (DCa dc_Plan_worthLater_0 0 rfl) rfl 0 rfl ?_
  refine Q_getf (k := 3) (pc := 1) (DCa dc_Plan_worthLater_0 1 rfl) cls_2 (Nat.le_of_ble_eq_true rfl) fl_2_29 rfl rfl rfl (fun v1 => ?_)
  refine V_aload_n (pc := 4) (DCa dc_Plan_worthLater_0 2 rfl) rfl 2 rfl ?_
  refine Q_getf (k := 0) (pc := 5) (DCa dc_Plan_worthLater_0 3 rfl) cls_8 (Nat.le_of_ble_eq_true rfl) fl_2_78 rfl rfl rfl (fun v2 => ?_)
  refine V_iload_n (pc := 8) (DCa dc_Plan_worthLater_0 4 rfl) rfl 3 rfl ?_
  refine Q_aaload (pc := 9) (DCa dc_Plan_worthLater_0 5 rfl) (by decide) rfl rfl (fun v3 => ?_)
  refine Q_callv (ci := 10) (st := []) (pc := 10) (DCa dc_Plan_worthLater_0 6 rfl) (sp_Walk_copy F _ _ _) ce_Walk_copy ml_2_136 rfl rfl ⟨Nat.le_of_ble_eq_true rfl, Nat.le_of_ble_eq_true rfl⟩ rfl (Nat.le_of_ble_eq_true rfl) (fun r4 h5 => ?_)
  refine V_aload_n (pc := 13) (DCa dc_Plan_worthLater_0 7 rfl) rfl 0 rfl ?_
  refine Q_getf (k := 3) (pc := 14) (DCa dc_Plan_worthLater_0 8 rfl) cls_2 (Nat.le_of_ble_eq_true rfl) fl_2_29 rfl rfl rfl (fun v6 => ?_)
  refine V_dup (pc := 17) (DCa dc_Plan_worthLater_0 9 rfl) rfl ?_
  refine Q_getf (k := 3) (pc := 18) (DCa dc_Plan_worthLater_0 10 rfl) cls_10 (Nat.le_of_ble_eq_true rfl) fl_2_140 rfl rfl rfl (fun v7 => ?_)
  refine V_iload (pc := 21) (DCa dc_Plan_worthLater_0 11 rfl) 5 rfl ?_
  refine V_iadd (pc := 23) (DCa dc_Plan_worthLater_0 12 rfl) ?_
  refine Q_putf (k := 3) (pc := 24) (DCa dc_Plan_worthLater_0 13 rfl) cls_10 (Nat.le_of_ble_eq_true rfl) fl_2_140 rfl rfl rfl (Or.inl rfl) (Or.inl ⟨rfl, rfl⟩) (fun h8 => ?_)
  refine V_aload_n (pc := 27) (DCa dc_Plan_worthLater_0 14 rfl) rfl 0 rfl ?_
  refine Q_getf (k := 2) (pc := 28) (DCa dc_Plan_worthLater_0 15 rfl) cls_2 (Nat.le_of_ble_eq_true rfl) fl_2_22 rfl rfl rfl (fun v9 => ?_)
  refine V_aload_n (pc := 31) (DCa dc_Plan_worthLater_0 16 rfl) rfl 1 rfl ?_
  refine Q_getf (k := 3) (pc := 32) (DCa dc_Plan_worthLater_0 17 rfl) cls_7 (Nat.le_of_ble_eq_true rfl) fl_2_57 rfl rfl rfl (fun v10 => ?_)
  refine V_aload_n (pc := 35) (DCa dc_Plan_worthLater_0 18 rfl) rfl 1 rfl ?_
  refine Q_getf (k := 0) (pc := 36) (DCa dc_Plan_worthLater_0 19 rfl) cls_7 (Nat.le_of_ble_eq_true rfl) fl_2_62 rfl rfl rfl (fun v11 => ?_)
  refine Q_getf (k := 4) (pc := 39) (DCa dc_Plan_worthLater_0 20 rfl) cls_6 (Nat.le_of_ble_eq_true rfl) fl_2_66 rfl rfl rfl (fun v12 => ?_)
  refine V_aload_n (pc := 42) (DCa dc_Plan_worthLater_0 21 rfl) rfl 2 rfl ?_
  refine Q_callv (ci := 8) (st := [(0, v12), (2, v10), (2, v9)]) (pc := 43) (DCa dc_Plan_worthLater_0 22 rfl) (sp_Stan_neverDone F _ _) ce_Stan_neverDone ml_2_72 rfl rfl ⟨Nat.le_of_ble_eq_true rfl, Nat.le_of_ble_eq_true rfl⟩ rfl (Nat.le_of_ble_eq_true rfl) (fun r13 h14 => ?_)
  refine V_aload_n (pc := 46) (DCa dc_Plan_worthLater_0 23 rfl) rfl 0 rfl ?_
  refine Q_getf (k := 3) (pc := 47) (DCa dc_Plan_worthLater_0 24 rfl) cls_2 (Nat.le_of_ble_eq_true rfl) fl_2_29 rfl rfl rfl (fun v15 => ?_)
  refine V_iconst (pc := 50) (DCa dc_Plan_worthLater_0 25 rfl) (by decide) ?_
  refine Q_callv (ci := 4) (st := []) (pc := 51) (DCa dc_Plan_worthLater_0 26 rfl) (sp_Rows_fill F _ _ _ _ _ _ _) ce_Rows_fill ml_2_82 rfl rfl ⟨Nat.le_of_ble_eq_true rfl, Nat.le_of_ble_eq_true rfl⟩ rfl (Nat.le_of_ble_eq_true rfl) (fun r16 h17 => ?_)
  refine V_aload_n (pc := 54) (DCa dc_Plan_worthLater_0 27 rfl) rfl 1 rfl ?_
  refine Q_getf (k := 4) (pc := 55) (DCa dc_Plan_worthLater_0 28 rfl) cls_7 (Nat.le_of_ble_eq_true rfl) fl_2_93 rfl rfl rfl (fun v18 => ?_)
  refine V_aload_n (pc := 58) (DCa dc_Plan_worthLater_0 29 rfl) rfl 0 rfl ?_
  refine Q_getf (k := 2) (pc := 59) (DCa dc_Plan_worthLater_0 30 rfl) cls_2 (Nat.le_of_ble_eq_true rfl) fl_2_22 rfl rfl rfl (fun v19 => ?_)
  refine V_aload_n (pc := 62) (DCa dc_Plan_worthLater_0 31 rfl) rfl 1 rfl ?_
  refine Q_getf (k := 4) (pc := 63) (DCa dc_Plan_worthLater_0 32 rfl) cls_7 (Nat.le_of_ble_eq_true rfl) fl_2_93 rfl rfl rfl (fun v20 => ?_)
  refine V_iload (pc := 66) (DCa dc_Plan_worthLater_0 33 rfl) 4 rfl ?_
  refine Q_callv (ci := 4) (st := [(2, v18)]) (pc := 68) (DCa dc_Plan_worthLater_0 34 rfl) (sp_Rows_bestSet F _ _ _ _) ce_Rows_bestSet ml_2_96 rfl rfl ⟨Nat.le_of_ble_eq_true rfl, Nat.le_of_ble_eq_true rfl⟩ rfl (Nat.le_of_ble_eq_true rfl) (fun r21 h22 => ?_)
  refine Q_iaload (pc := 71) (DCa dc_Plan_worthLater_0 35 rfl) (fun v23 => ?_)
  exact V_ireturn (pc := 72) (DCa dc_Plan_worthLater_0 36 rfl) rfl
theorem sp_Plan_worthLater (F : Nat) (l0 l1 l2 l3 l4 l5 : Int) (h : Hp) : Sp yX2_worthLater cX2_worthLater 6 (some (.int)) 5 118 [(2, l0), (2, l1), (2, l2), (0, l3), (0, l4), (0, l5)] h (Plan_worthLater F l0 l1 l2 l3 l4 l5 h) := Sp_of (by decide +kernel) rfl rfl (Nat.le_of_ble_eq_true rfl) (v_Plan_worthLater F l0 l1 l2 l3 l4 l5 h)

-- TideRakes$Planner.slack
def Plan_slack_L46s (F : Nat)  (R46 : Int → Int → Int → Int → Int → Int → Int → Int → Int → Hp → Option (Int × Hp)) (l0 l1 l2 l3 l4 l6 l7 l8 l9 : Int) (h : Hp) : Option (Int × Hp) :=
  if l9 < 600 then
    (if l7 < l8 then
      (dv (w32 ((w32 (l7 + l8)) + 1)) 2 fun v8 =>
      iv h l0 102 (Plan_worthLater F l0 l1 l2 l3 l4 v8 h) fun r9 h10 =>
      if r9 < l6 then
        (lt (w32 (v8 - 1)) fun x11 =>
        R46 l0 l1 l2 l3 l4 l6 l7 x11 (w32 (l9 + 1)) h10)
      else
        (R46 l0 l1 l2 l3 l4 l6 v8 l8 (w32 (l9 + 1)) h10))
    else
      (some (l7, h)))
  else
    (some (l7, h))
def Plan_slack_L46 (F : Nat)  : Nat → Int → Int → Int → Int → Int → Int → Int → Int → Int → Hp → Option (Int × Hp)
  | 0 => fun _ _ _ _ _ _ _ _ _ _ => none
  | n + 1 => Plan_slack_L46s F  (Plan_slack_L46 F  n)
def Plan_slack (F : Nat) (l0 l1 l2 l3 l4 : Int) (h : Hp) : Option (Int × Hp) :=
  iv h l0 102 (Plan_rowsOf F l0 l1 l2 l3 h) fun r1 h2 =>
  gf h2 l1 107 4 fun v3 =>
  gf h2 l1 107 4 fun v4 =>
  iv h2 r1 104 (Rows_bestSet F r1 v4 l4 h2) fun r5 h6 =>
  al h6 v3 0 r5 fun v7 =>
  if v7 = 0 then
    (some (599, h6))
  else
    (Plan_slack_L46 F F l0 l1 l2 l3 l4 v7 0 599 0 h6)

theorem dc_Plan_slack_0 : ∀ q ∈ ([(0, .aload_n 0, 1), (1, .aload_n 1, 1), (2, .aload_n 2, 1), (3, .iload_n 3, 1), (4, .invokevirtual 89, 3), (7, .astore 5, 2), (9, .aload_n 1, 1), (10, .getfield 93, 3), (13, .aload 5, 2), (15, .aload_n 1, 1), (16, .getfield 93, 3), (19, .iload 4, 2), (21, .invokevirtual 96, 3), (24, .iaload, 1), (25, .istore 6, 2), (27, .iconst 0, 1), (28, .istore 7, 2), (30, .sipush 599, 3), (33, .istore 8, 2), (35, .iload 6, 2), (37, .ifCond .ne 6, 3), (40, .iload 8, 2), (42, .ireturn, 1), (43, .iconst 0, 1), (44, .istore 9, 2), (46, .iload 9, 2), (48, .sipush 600, 3), (51, .if_icmp .ge 56, 3), (54, .iload 7, 2), (56, .iload 8, 2), (58, .if_icmp .ge 49, 3), (61, .iload 7, 2), (63, .iload 8, 2), (65, .iadd, 1), (66, .iconst 1, 1), (67, .iadd, 1), (68, .iconst 2, 1), (69, .idiv, 1), (70, .istore 10, 2), (72, .aload_n 0, 1), (73, .aload_n 1, 1), (74, .aload_n 2, 1), (75, .iload_n 3, 1), (76, .iload 4, 2), (78, .iload 10, 2), (80, .invokevirtual 132, 3), (83, .iload 6, 2), (85, .if_icmp .lt 10, 3), (88, .iload 10, 2), (90, .istore 7, 2)] : List (Nat × Instr × Nat)), decode cX2_slack q.1 = .ok (q.2.1, q.2.2) := by decide +kernel
theorem dc_Plan_slack_1 : ∀ q ∈ ([(92, .goto 9, 3), (95, .iload 10, 2), (97, .iconst 1, 1), (98, .isub, 1), (99, .istore 8, 2), (101, .iinc 9 1, 3), (104, .goto (-58), 3), (107, .iload 7, 2), (109, .ireturn, 1)] : List (Nat × Instr × Nat)), decode cX2_slack q.1 = .ok (q.2.1, q.2.2) := by decide +kernel
abbrev X_Plan_slack : MX := (cX2_slack, RX2, "slack", 11, (some (.int)), 6, 143)
theorem v_Plan_slack_L46s (F : Nat)  (R46 : Int → Int → Int → Int → Int → Int → Int → Int → Int → Hp → Option (Int × Hp)) (hR46 : ∀ (l0 l1 l2 l3 l4 l6 l7 l8 l9 : Int) (h : Hp), V X_Plan_slack 46 [(0, 2, l0), (1, 2, l1), (2, 2, l2), (3, 0, l3), (4, 0, l4), (6, 0, l6), (7, 0, l7), (8, 0, l8), (9, 0, l9)] [] h (R46 l0 l1 l2 l3 l4 l6 l7 l8 l9 h)) (l0 l1 l2 l3 l4 l6 l7 l8 l9 : Int) (h : Hp) : V X_Plan_slack 46 [(0, 2, l0), (1, 2, l1), (2, 2, l2), (3, 0, l3), (4, 0, l4), (6, 0, l6), (7, 0, l7), (8, 0, l8), (9, 0, l9)] [] h (Plan_slack_L46s F  R46 l0 l1 l2 l3 l4 l6 l7 l8 l9 h) := by
  unfold Plan_slack_L46s
  refine V_iload (pc := 46) (DCa dc_Plan_slack_0 25 rfl) 8 rfl ?_
  refine V_sipush (pc := 48) (DCa dc_Plan_slack_0 26 rfl) (by decide) ?_
  refine V_icmp_ge (tgt := 107) (pc := 51) (DCa dc_Plan_slack_0 27 rfl) (by decide) (fun _ => ?_) (fun _ => ?_)
  · refine V_iload (pc := 54) (DCa dc_Plan_slack_0 28 rfl) 6 rfl ?_
    refine V_iload (pc := 56) (DCa dc_Plan_slack_0 29 rfl) 7 rfl ?_
    refine V_icmp_ge (tgt := 107) (pc := 58) (DCa dc_Plan_slack_0 30 rfl) (by decide) (fun _ => ?_) (fun _ => ?_)
    · refine V_iload (pc := 61) (DCa dc_Plan_slack_0 31 rfl) 6 rfl ?_
      refine V_iload (pc := 63) (DCa dc_Plan_slack_0 32 rfl) 7 rfl ?_
      refine V_iadd (pc := 65) (DCa dc_Plan_slack_0 33 rfl) ?_
      refine V_iconst (pc := 66) (DCa dc_Plan_slack_0 34 rfl) (by decide) ?_
      refine V_iadd (pc := 67) (DCa dc_Plan_slack_0 35 rfl) ?_
      refine V_iconst (pc := 68) (DCa dc_Plan_slack_0 36 rfl) (by decide) ?_
      refine Q_idiv (pc := 69) (DCa dc_Plan_slack_0 37 rfl) (fun v8 => ?_)
      refine V_istore (ls' := [(0, 2, l0), (1, 2, l1), (2, 2, l2), (3, 0, l3), (4, 0, l4), (6, 0, l6), (7, 0, l7), (8, 0, l8), (9, 0, l9), (10, 0, v8)]) (pc := 70) (DCa dc_Plan_slack_0 38 rfl) (Nat.le_of_ble_eq_true rfl) rfl ?_
      refine V_aload_n (pc := 72) (DCa dc_Plan_slack_0 39 rfl) rfl 0 rfl ?_
      refine V_aload_n (pc := 73) (DCa dc_Plan_slack_0 40 rfl) rfl 1 rfl ?_
      refine V_aload_n (pc := 74) (DCa dc_Plan_slack_0 41 rfl) rfl 2 rfl ?_
      refine V_iload_n (pc := 75) (DCa dc_Plan_slack_0 42 rfl) rfl 3 rfl ?_
      refine V_iload (pc := 76) (DCa dc_Plan_slack_0 43 rfl) 4 rfl ?_
      refine V_iload (pc := 78) (DCa dc_Plan_slack_0 44 rfl) 9 rfl ?_
      refine Q_callv (ci := 2) (st := []) (pc := 80) (DCa dc_Plan_slack_0 45 rfl) (sp_Plan_worthLater F _ _ _ _ _ _ _) ce_Plan_worthLater ml_2_132 rfl rfl ⟨Nat.le_of_ble_eq_true rfl, Nat.le_of_ble_eq_true rfl⟩ rfl (Nat.le_of_ble_eq_true rfl) (fun r9 h10 => ?_)
      refine V_iload (pc := 83) (DCa dc_Plan_slack_0 46 rfl) 5 rfl ?_
      refine V_icmp_lt (tgt := 95) (pc := 85) (DCa dc_Plan_slack_0 47 rfl) (by decide) (fun _ => ?_) (fun _ => ?_)
      · refine V_iload (pc := 95) (DCa dc_Plan_slack_1 1 rfl) 9 rfl ?_
        refine V_iconst (pc := 97) (DCa dc_Plan_slack_1 2 rfl) (by decide) ?_
        refine V_isub (pc := 98) (DCa dc_Plan_slack_1 3 rfl) ?_
        refine Q_lt (fun x11 => ?_)
        refine V_istore (ls' := [(0, 2, l0), (1, 2, l1), (2, 2, l2), (3, 0, l3), (4, 0, l4), (6, 0, l6), (7, 0, l7), (8, 0, x11), (9, 0, l9), (10, 0, v8)]) (pc := 99) (DCa dc_Plan_slack_1 4 rfl) (Nat.le_of_ble_eq_true rfl) rfl ?_
        refine V_iinc (ls' := [(0, 2, l0), (1, 2, l1), (2, 2, l2), (3, 0, l3), (4, 0, l4), (6, 0, l6), (7, 0, l7), (8, 0, x11), (9, 0, w32 (l9 + 1)), (10, 0, v8)]) (pc := 101) (DCa dc_Plan_slack_1 5 rfl) (Nat.le_of_ble_eq_true rfl) (by decide) 8 rfl rfl ?_
        refine V_goto (tgt := 46) (pc := 104) (DCa dc_Plan_slack_1 6 rfl) (by decide) ?_
        refine V_pick [0, 1, 2, 3, 4, 5, 6, 7, 8] rfl ?_
        exact hR46 _ _ _ _ _ _ _ _ _ _
      · refine V_iload (pc := 88) (DCa dc_Plan_slack_0 48 rfl) 9 rfl ?_
        refine V_istore (ls' := [(0, 2, l0), (1, 2, l1), (2, 2, l2), (3, 0, l3), (4, 0, l4), (6, 0, l6), (7, 0, v8), (8, 0, l8), (9, 0, l9), (10, 0, v8)]) (pc := 90) (DCa dc_Plan_slack_0 49 rfl) (Nat.le_of_ble_eq_true rfl) rfl ?_
        refine V_goto (tgt := 101) (pc := 92) (DCa dc_Plan_slack_1 0 rfl) (by decide) ?_
        refine V_iinc (ls' := [(0, 2, l0), (1, 2, l1), (2, 2, l2), (3, 0, l3), (4, 0, l4), (6, 0, l6), (7, 0, v8), (8, 0, l8), (9, 0, w32 (l9 + 1)), (10, 0, v8)]) (pc := 101) (DCa dc_Plan_slack_1 5 rfl) (Nat.le_of_ble_eq_true rfl) (by decide) 8 rfl rfl ?_
        refine V_goto (tgt := 46) (pc := 104) (DCa dc_Plan_slack_1 6 rfl) (by decide) ?_
        refine V_pick [0, 1, 2, 3, 4, 5, 6, 7, 8] rfl ?_
        exact hR46 _ _ _ _ _ _ _ _ _ _
    · refine V_iload (pc := 107) (DCa dc_Plan_slack_1 7 rfl) 6 rfl ?_
      exact V_ireturn (pc := 109) (DCa dc_Plan_slack_1 8 rfl) rfl
  · refine V_iload (pc := 107) (DCa dc_Plan_slack_1 7 rfl) 6 rfl ?_
    exact V_ireturn (pc := 109) (DCa dc_Plan_slack_1 8 rfl) rfl
theorem v_Plan_slack_L46 (F : Nat)  (n : Nat) : ∀ (l0 l1 l2 l3 l4 l6 l7 l8 l9 : Int) (h : Hp), V X_Plan_slack 46 [(0, 2, l0), (1, 2, l1), (2, 2, l2), (3, 0, l3), (4, 0, l4), (6, 0, l6), (7, 0, l7), (8, 0, l8), (9, 0, l9)] [] h (Plan_slack_L46 F  n l0 l1 l2 l3 l4 l6 l7 l8 l9 h) := by
  induction n with
  | zero => intros; exact V_none
  | succ n ih => exact fun l0 l1 l2 l3 l4 l6 l7 l8 l9 h => v_Plan_slack_L46s F  _ ih l0 l1 l2 l3 l4 l6 l7 l8 l9 h
theorem v_Plan_slack (F : Nat) (l0 l1 l2 l3 l4 : Int) (h : Hp) : V X_Plan_slack 0 [(0, 2, l0), (1, 2, l1), (2, 2, l2), (3, 0, l3), (4, 0, l4)] [] h (Plan_slack F l0 l1 l2 l3 l4 h) := by
  unfold Plan_slack
  refine V_aload_n (pc := 0) (DCa dc_Plan_slack_0 0 rfl) rfl 0 rfl ?_
  refine V_aload_n (pc := 1) (DCa dc_Plan_slack_0 1 rfl) rfl 1 rfl ?_
  refine V_aload_n (pc := 2) (DCa dc_Plan_slack_0 2 rfl) rfl 2 rfl ?_
  refine V_iload_n (pc := 3) (DCa dc_Plan_slack_0 3 rfl) rfl 3 rfl ?_
  refine Q_callv (ci := 2) (st := []) (pc := 4) (DCa dc_Plan_slack_0 4 rfl) (sp_Plan_rowsOf F _ _ _ _ _) ce_Plan_rowsOf ml_2_89 rfl rfl ⟨Nat.le_of_ble_eq_true rfl, Nat.le_of_ble_eq_true rfl⟩ rfl (Nat.le_of_ble_eq_true rfl) (fun r1 h2 => ?_)
  refine V_astore (ls' := [(0, 2, l0), (1, 2, l1), (2, 2, l2), (3, 0, l3), (4, 0, l4), (5, 2, r1)]) (pc := 7) (DCa dc_Plan_slack_0 5 rfl) (Nat.le_of_ble_eq_true rfl) rfl ?_
  refine V_aload_n (pc := 9) (DCa dc_Plan_slack_0 6 rfl) rfl 1 rfl ?_
  refine Q_getf (k := 4) (pc := 10) (DCa dc_Plan_slack_0 7 rfl) cls_7 (Nat.le_of_ble_eq_true rfl) fl_2_93 rfl rfl rfl (fun v3 => ?_)
  refine V_aload (pc := 13) (DCa dc_Plan_slack_0 8 rfl) 5 rfl ?_
  refine V_aload_n (pc := 15) (DCa dc_Plan_slack_0 9 rfl) rfl 1 rfl ?_
  refine Q_getf (k := 4) (pc := 16) (DCa dc_Plan_slack_0 10 rfl) cls_7 (Nat.le_of_ble_eq_true rfl) fl_2_93 rfl rfl rfl (fun v4 => ?_)
  refine V_iload (pc := 19) (DCa dc_Plan_slack_0 11 rfl) 4 rfl ?_
  refine Q_callv (ci := 4) (st := [(2, v3)]) (pc := 21) (DCa dc_Plan_slack_0 12 rfl) (sp_Rows_bestSet F _ _ _ _) ce_Rows_bestSet ml_2_96 rfl rfl ⟨Nat.le_of_ble_eq_true rfl, Nat.le_of_ble_eq_true rfl⟩ rfl (Nat.le_of_ble_eq_true rfl) (fun r5 h6 => ?_)
  refine Q_iaload (pc := 24) (DCa dc_Plan_slack_0 13 rfl) (fun v7 => ?_)
  refine V_istore (ls' := [(0, 2, l0), (1, 2, l1), (2, 2, l2), (3, 0, l3), (4, 0, l4), (5, 2, r1), (6, 0, v7)]) (pc := 25) (DCa dc_Plan_slack_0 14 rfl) (Nat.le_of_ble_eq_true rfl) rfl ?_
  refine V_iconst (pc := 27) (DCa dc_Plan_slack_0 15 rfl) (by decide) ?_
  refine V_istore (ls' := [(0, 2, l0), (1, 2, l1), (2, 2, l2), (3, 0, l3), (4, 0, l4), (5, 2, r1), (6, 0, v7), (7, 0, 0)]) (pc := 28) (DCa dc_Plan_slack_0 16 rfl) (Nat.le_of_ble_eq_true rfl) rfl ?_
  refine V_sipush (pc := 30) (DCa dc_Plan_slack_0 17 rfl) (by decide) ?_
  refine V_istore (ls' := [(0, 2, l0), (1, 2, l1), (2, 2, l2), (3, 0, l3), (4, 0, l4), (5, 2, r1), (6, 0, v7), (7, 0, 0), (8, 0, 599)]) (pc := 33) (DCa dc_Plan_slack_0 18 rfl) (Nat.le_of_ble_eq_true rfl) rfl ?_
  refine V_iload (pc := 35) (DCa dc_Plan_slack_0 19 rfl) 6 rfl ?_
  refine V_if_ne (tgt := 43) (pc := 37) (DCa dc_Plan_slack_0 20 rfl) (by decide) (fun _ => ?_) (fun _ => ?_)
  · refine V_iload (pc := 40) (DCa dc_Plan_slack_0 21 rfl) 8 rfl ?_
    exact V_ireturn (pc := 42) (DCa dc_Plan_slack_0 22 rfl) rfl
  · refine V_iconst (pc := 43) (DCa dc_Plan_slack_0 23 rfl) (by decide) ?_
    refine V_istore (ls' := [(0, 2, l0), (1, 2, l1), (2, 2, l2), (3, 0, l3), (4, 0, l4), (5, 2, r1), (6, 0, v7), (7, 0, 0), (8, 0, 599), (9, 0, 0)]) (pc := 44) (DCa dc_Plan_slack_0 24 rfl) (Nat.le_of_ble_eq_true rfl) rfl ?_
    refine V_pick [0, 1, 2, 3, 4, 6, 7, 8, 9] rfl ?_
    exact v_Plan_slack_L46 F F _ _ _ _ _ _ _ _ _ _
theorem sp_Plan_slack (F : Nat) (l0 l1 l2 l3 l4 : Int) (h : Hp) : Sp yX2_slack cX2_slack 11 (some (.int)) 6 143 [(2, l0), (2, l1), (2, l2), (0, l3), (0, l4)] h (Plan_slack F l0 l1 l2 l3 l4 h) := Sp_of (by decide +kernel) rfl rfl (Nat.le_of_ble_eq_true rfl) (v_Plan_slack F l0 l1 l2 l3 l4 h)

-- TideRakes$Planner.forgetSizes
def Plan_forgetSizes (F : Nat) (l0 : Int) (h : Hp) : Option (Int × Hp) :=
  gf h l0 102 9 fun v1 =>
  cl (Arr_fill F v1 (-1) h) fun r2 h3 =>
  some (0, h3)

theorem dc_Plan_forgetSizes_0 : ∀ q ∈ ([(0, .aload_n 0, 1), (1, .getfield 49, 3), (4, .iconst (-1), 1), (5, .invokestatic 127, 3), (8, .return_, 1)] : List (Nat × Instr × Nat)), decode cX2_forgetSizes q.1 = .ok (q.2.1, q.2.2) := by decide +kernel
abbrev X_Plan_forgetSizes : MX := (cX2_forgetSizes, RX2, "forgetSizes", 1, none, 2, 43)
theorem v_Plan_forgetSizes (F : Nat) (l0 : Int) (h : Hp) : V X_Plan_forgetSizes 0 [(0, 2, l0)] [] h (Plan_forgetSizes F l0 h) := by
  unfold Plan_forgetSizes
  refine V_aload_n (pc := 0) (DCa dc_Plan_forgetSizes_0 0 rfl) rfl 0 rfl ?_
  refine Q_getf (k := 9) (pc := 1) (DCa dc_Plan_forgetSizes_0 1 rfl) cls_2 (Nat.le_of_ble_eq_true rfl) fl_2_49 rfl rfl rfl (fun v1 => ?_)
  refine V_iconst (pc := 4) (DCa dc_Plan_forgetSizes_0 2 rfl) (by decide) ?_
  refine Q_calls (st := []) (pc := 5) (DCa dc_Plan_forgetSizes_0 3 rfl) (sp_Arr_fill F _ _ _) ce_Arr_fill ml_2_127 rfl ⟨Nat.le_of_ble_eq_true rfl, Nat.le_of_ble_eq_true rfl⟩ rfl (Nat.le_of_ble_eq_true rfl) (fun r2 h3 => ?_)
  exact V_return (pc := 8) (DCa dc_Plan_forgetSizes_0 4 rfl) rfl
theorem sp_Plan_forgetSizes (F : Nat) (l0 : Int) (h : Hp) : Sp yX2_forgetSizes cX2_forgetSizes 1 none 2 43 [(2, l0)] h (Plan_forgetSizes F l0 h) := Sp_of (by decide +kernel) rfl rfl (Nat.le_of_ble_eq_true rfl) (v_Plan_forgetSizes F l0 h)

-- TideRakes$Sand.settle
def Sand_settle_B138 (F : Nat) (R91 : Int → Int → Int → Int → Int → Int → Hp → Option (Int × Hp)) (l0 l2 l3 l6 l7 s0 : Int) (h : Hp) : Option (Int × Hp) :=
  gf h l0 105 3 fun v20 =>
  if s0 < v20 then
    (gf h l0 105 5 fun v21 =>
    as h v21 0 l7 l6 fun h22 =>
    R91 l0 l2 l3 s0 l6 (w32 (l7 + (-1))) h22)
  else
    (gf h l0 105 5 fun v23 =>
    as h v23 0 l7 l7 fun h24 =>
    R91 l0 l2 l3 s0 l7 (w32 (l7 + (-1))) h24)
def Sand_settle_B123 (F : Nat) (R91 : Int → Int → Int → Int → Int → Int → Hp → Option (Int × Hp)) (l0 l2 l3 l5 l6 l7 s0 : Int) (h : Hp) : Option (Int × Hp) :=
  if s0 = 0 then
    (Sand_settle_B138 F R91 l0 l2 l3 l6 l7 0 h)
  else
    (Sand_settle_B138 F R91 l0 l2 l3 l6 l7 (w32 (l5 + 1)) h)
def Sand_settle_L91s (F : Nat)  (R91 : Int → Int → Int → Int → Int → Int → Hp → Option (Int × Hp)) (l0 l2 l3 l5 l6 l7 : Int) (h : Hp) : Option (Int × Hp) :=
  if l7 < 0 then
    (some (0, h))
  else
    (gf h l0 105 4 fun v16 =>
    al h v16 0 l7 fun v17 =>
    if v17 < l2 then
      (Sand_settle_B123 F R91 l0 l2 l3 l5 l6 l7 0 h)
    else
      (gf h l0 105 4 fun v18 =>
      al h v18 0 l7 fun v19 =>
      if l3 < v19 then
        (Sand_settle_B123 F R91 l0 l2 l3 l5 l6 l7 0 h)
      else
        (Sand_settle_B123 F R91 l0 l2 l3 l5 l6 l7 1 h)))
def Sand_settle_L91 (F : Nat)  : Nat → Int → Int → Int → Int → Int → Int → Hp → Option (Int × Hp)
  | 0 => fun _ _ _ _ _ _ _ => none
  | n + 1 => Sand_settle_L91s F  (Sand_settle_L91 F  n)
def Sand_settle_L35s (F : Nat)  (R35 : Int → Int → Int → Int → Int → Int → Hp → Option (Int × Hp)) (l0 l1 l2 l3 l4 l5 : Int) (h : Hp) : Option (Int × Hp) :=
  if l5 < 600 then
    (al h l1 0 l5 fun v9 =>
    gf h l0 105 2 fun v10 =>
    if v9 < v10 then
      (lt (w32 (l4 + 1)) fun x11 =>
      gf h l0 105 4 fun v12 =>
      as h v12 0 l5 x11 fun h13 =>
      R35 l0 l1 l2 l3 x11 (w32 (l5 + 1)) h13)
    else
      (gf h l0 105 4 fun v14 =>
      as h v14 0 l5 0 fun h15 =>
      R35 l0 l1 l2 l3 0 (w32 (l5 + 1)) h15))
  else
    (Sand_settle_L91 F F l0 l2 l3 0 (-2) 599 h)
def Sand_settle_L35 (F : Nat)  : Nat → Int → Int → Int → Int → Int → Int → Hp → Option (Int × Hp)
  | 0 => fun _ _ _ _ _ _ _ => none
  | n + 1 => Sand_settle_L35s F  (Sand_settle_L35 F  n)
def Sand_settle (F : Nat) (l0 l1 l2 l3 : Int) (h : Hp) : Option (Int × Hp) :=
  gf h l0 105 4 fun v1 =>
  aln h v1 0 fun v2 =>
  if v2 < 600 then
    (na h 0 600 fun v3 h4 =>
    pf h4 l0 105 4 v3 fun h5 =>
    na h5 0 600 fun v6 h7 =>
    pf h7 l0 105 5 v6 fun h8 =>
    Sand_settle_L35 F F l0 l1 l2 l3 0 0 h8)
  else
    (Sand_settle_L35 F F l0 l1 l2 l3 0 0 h)

theorem dc_Sand_settle_0 : ∀ q ∈ ([(0, .aload_n 0, 1), (1, .getfield 9, 3), (4, .arraylength, 1), (5, .sipush 600, 3), (8, .if_icmp .ge 21, 3), (11, .aload_n 0, 1), (12, .sipush 600, 3), (15, .newarray .int, 2), (17, .putfield 9, 3), (20, .aload_n 0, 1), (21, .sipush 600, 3), (24, .newarray .int, 2), (26, .putfield 15, 3), (29, .iconst 0, 1), (30, .istore 4, 2), (32, .iconst 0, 1), (33, .istore 5, 2), (35, .iload 5, 2), (37, .sipush 600, 3), (40, .if_icmp .ge 39, 3), (43, .aload_n 1, 1), (44, .iload 5, 2), (46, .iaload, 1), (47, .aload_n 0, 1), (48, .getfield 18, 3), (51, .if_icmp .lt 7, 3), (54, .iconst 0, 1), (55, .goto 7, 3), (58, .iload 4, 2), (60, .iconst 1, 1), (61, .iadd, 1), (62, .istore 4, 2), (64, .aload_n 0, 1), (65, .getfield 9, 3), (68, .iload 5, 2), (70, .iload 4, 2), (72, .iastore, 1), (73, .iinc 5 1, 3), (76, .goto (-41), 3), (79, .iconst 0, 1), (80, .istore 5, 2), (82, .bipush (-2), 2), (84, .istore 6, 2), (86, .sipush 599, 3), (89, .istore 7, 2), (91, .iload 7, 2), (93, .ifCond .lt 75, 3), (96, .aload_n 0, 1), (97, .getfield 9, 3), (100, .iload 7, 2)] : List (Nat × Instr × Nat)), decode cX5_settle q.1 = .ok (q.2.1, q.2.2) := by decide +kernel
theorem dc_Sand_settle_1 : ∀ q ∈ ([(102, .iaload, 1), (103, .iload_n 2, 1), (104, .if_icmp .lt 18, 3), (107, .aload_n 0, 1), (108, .getfield 9, 3), (111, .iload 7, 2), (113, .iaload, 1), (114, .iload_n 3, 1), (115, .if_icmp .gt 7, 3), (118, .iconst 1, 1), (119, .goto 4, 3), (122, .iconst 0, 1), (123, .istore 8, 2), (125, .iload 8, 2), (127, .ifCond .eq 10, 3), (130, .iload 5, 2), (132, .iconst 1, 1), (133, .iadd, 1), (134, .goto 4, 3), (137, .iconst 0, 1), (138, .istore 5, 2), (140, .iload 5, 2), (142, .aload_n 0, 1), (143, .getfield 22, 3), (146, .if_icmp .lt 7, 3), (149, .iload 7, 2), (151, .istore 6, 2), (153, .aload_n 0, 1), (154, .getfield 15, 3), (157, .iload 7, 2), (159, .iload 6, 2), (161, .iastore, 1), (162, .iinc 7 (-1), 3), (165, .goto (-74), 3), (168, .return_, 1)] : List (Nat × Instr × Nat)), decode cX5_settle q.1 = .ok (q.2.1, q.2.2) := by decide +kernel
abbrev X_Sand_settle : MX := (cX5_settle, RX5, "settle", 9, none, 1, 20)
theorem v_Sand_settle_B138 (F : Nat) (R91 : Int → Int → Int → Int → Int → Int → Hp → Option (Int × Hp)) (hR91 : ∀ (l0 l2 l3 l5 l6 l7 : Int) (h : Hp), V X_Sand_settle 91 [(0, 2, l0), (2, 0, l2), (3, 0, l3), (5, 0, l5), (6, 0, l6), (7, 0, l7)] [] h (R91 l0 l2 l3 l5 l6 l7 h)) (l0 l2 l3 l6 l7 s0 : Int) (h : Hp) : V X_Sand_settle 138 [(0, 2, l0), (2, 0, l2), (3, 0, l3), (6, 0, l6), (7, 0, l7)] [(0, s0)] h (Sand_settle_B138 F R91 l0 l2 l3 l6 l7 s0 h) := by
  unfold Sand_settle_B138
  refine V_istore (ls' := [(0, 2, l0), (2, 0, l2), (3, 0, l3), (5, 0, s0), (6, 0, l6), (7, 0, l7)]) (pc := 138) (DCa dc_Sand_settle_1 20 rfl) (Nat.le_of_ble_eq_true rfl) rfl ?_
  refine V_iload (pc := 140) (DCa dc_Sand_settle_1 21 rfl) 3 rfl ?_
  refine V_aload_n (pc := 142) (DCa dc_Sand_settle_1 22 rfl) rfl 0 rfl ?_
  refine Q_getf (k := 3) (pc := 143) (DCa dc_Sand_settle_1 23 rfl) cls_5 (Nat.le_of_ble_eq_true rfl) fl_5_22 rfl rfl rfl (fun v20 => ?_)
  refine V_icmp_lt (tgt := 153) (pc := 146) (DCa dc_Sand_settle_1 24 rfl) (by decide) (fun _ => ?_) (fun _ => ?_)
  · refine V_aload_n (pc := 153) (DCa dc_Sand_settle_1 27 rfl) rfl 0 rfl ?_
    refine Q_getf (k := 5) (pc := 154) (DCa dc_Sand_settle_1 28 rfl) cls_5 (Nat.le_of_ble_eq_true rfl) fl_5_15 rfl rfl rfl (fun v21 => ?_)
    refine V_iload (pc := 157) (DCa dc_Sand_settle_1 29 rfl) 5 rfl ?_
    refine V_iload (pc := 159) (DCa dc_Sand_settle_1 30 rfl) 4 rfl ?_
    refine Q_iastore (pc := 161) (DCa dc_Sand_settle_1 31 rfl) (fun h22 => ?_)
    refine V_iinc (ls' := [(0, 2, l0), (2, 0, l2), (3, 0, l3), (5, 0, s0), (6, 0, l6), (7, 0, w32 (l7 + (-1)))]) (pc := 162) (DCa dc_Sand_settle_1 32 rfl) (Nat.le_of_ble_eq_true rfl) (by decide) 5 rfl rfl ?_
    refine V_goto (tgt := 91) (pc := 165) (DCa dc_Sand_settle_1 33 rfl) (by decide) ?_
    exact hR91 _ _ _ _ _ _ _
  · refine V_iload (pc := 149) (DCa dc_Sand_settle_1 25 rfl) 5 rfl ?_
    refine V_istore (ls' := [(0, 2, l0), (2, 0, l2), (3, 0, l3), (5, 0, s0), (6, 0, l7), (7, 0, l7)]) (pc := 151) (DCa dc_Sand_settle_1 26 rfl) (Nat.le_of_ble_eq_true rfl) rfl ?_
    refine V_aload_n (pc := 153) (DCa dc_Sand_settle_1 27 rfl) rfl 0 rfl ?_
    refine Q_getf (k := 5) (pc := 154) (DCa dc_Sand_settle_1 28 rfl) cls_5 (Nat.le_of_ble_eq_true rfl) fl_5_15 rfl rfl rfl (fun v23 => ?_)
    refine V_iload (pc := 157) (DCa dc_Sand_settle_1 29 rfl) 5 rfl ?_
    refine V_iload (pc := 159) (DCa dc_Sand_settle_1 30 rfl) 4 rfl ?_
    refine Q_iastore (pc := 161) (DCa dc_Sand_settle_1 31 rfl) (fun h24 => ?_)
    refine V_iinc (ls' := [(0, 2, l0), (2, 0, l2), (3, 0, l3), (5, 0, s0), (6, 0, l7), (7, 0, w32 (l7 + (-1)))]) (pc := 162) (DCa dc_Sand_settle_1 32 rfl) (Nat.le_of_ble_eq_true rfl) (by decide) 5 rfl rfl ?_
    refine V_goto (tgt := 91) (pc := 165) (DCa dc_Sand_settle_1 33 rfl) (by decide) ?_
    exact hR91 _ _ _ _ _ _ _
theorem v_Sand_settle_B123 (F : Nat) (R91 : Int → Int → Int → Int → Int → Int → Hp → Option (Int × Hp)) (hR91 : ∀ (l0 l2 l3 l5 l6 l7 : Int) (h : Hp), V X_Sand_settle 91 [(0, 2, l0), (2, 0, l2), (3, 0, l3), (5, 0, l5), (6, 0, l6), (7, 0, l7)] [] h (R91 l0 l2 l3 l5 l6 l7 h)) (l0 l2 l3 l5 l6 l7 s0 : Int) (h : Hp) : V X_Sand_settle 123 [(0, 2, l0), (2, 0, l2), (3, 0, l3), (5, 0, l5), (6, 0, l6), (7, 0, l7)] [(0, s0)] h (Sand_settle_B123 F R91 l0 l2 l3 l5 l6 l7 s0 h) := by
  unfold Sand_settle_B123
  refine V_istore (ls' := [(0, 2, l0), (2, 0, l2), (3, 0, l3), (5, 0, l5), (6, 0, l6), (7, 0, l7), (8, 0, s0)]) (pc := 123) (DCa dc_Sand_settle_1 12 rfl) (Nat.le_of_ble_eq_true rfl) rfl ?_
  refine V_iload (pc := 125) (DCa dc_Sand_settle_1 13 rfl) 6 rfl ?_
  refine V_if_eq (tgt := 137) (pc := 127) (DCa dc_Sand_settle_1 14 rfl) (by decide) (fun _ => ?_) (fun _ => ?_)
  · refine V_iconst (pc := 137) (DCa dc_Sand_settle_1 19 rfl) (by decide) ?_
    refine V_pick [0, 1, 2, 4, 5] rfl ?_
    exact v_Sand_settle_B138 F R91 hR91 _ _ _ _ _ _ _
  · refine V_iload (pc := 130) (DCa dc_Sand_settle_1 15 rfl) 3 rfl ?_
    refine V_iconst (pc := 132) (DCa dc_Sand_settle_1 16 rfl) (by decide) ?_
    refine V_iadd (pc := 133) (DCa dc_Sand_settle_1 17 rfl) ?_
    refine V_goto (tgt := 138) (pc := 134) (DCa dc_Sand_settle_1 18 rfl) (by decide) ?_
    refine V_pick [0, 1, 2, 4, 5] rfl ?_
    exact v_Sand_settle_B138 F R91 hR91 _ _ _ _ _ _ _
theorem v_Sand_settle_L91s (F : Nat)  (R91 : Int → Int → Int → Int → Int → Int → Hp → Option (Int × Hp)) (hR91 : ∀ (l0 l2 l3 l5 l6 l7 : Int) (h : Hp), V X_Sand_settle 91 [(0, 2, l0), (2, 0, l2), (3, 0, l3), (5, 0, l5), (6, 0, l6), (7, 0, l7)] [] h (R91 l0 l2 l3 l5 l6 l7 h)) (l0 l2 l3 l5 l6 l7 : Int) (h : Hp) : V X_Sand_settle 91 [(0, 2, l0), (2, 0, l2), (3, 0, l3), (5, 0, l5), (6, 0, l6), (7, 0, l7)] [] h (Sand_settle_L91s F  R91 l0 l2 l3 l5 l6 l7 h) := by
  unfold Sand_settle_L91s
  refine V_iload (pc := 91) (DCa dc_Sand_settle_0 45 rfl) 5 rfl ?_
  refine V_if_lt (tgt := 168) (pc := 93) (DCa dc_Sand_settle_0 46 rfl) (by decide) (fun _ => ?_) (fun _ => ?_)
  · exact V_return (pc := 168) (DCa dc_Sand_settle_1 34 rfl) rfl
  · refine V_aload_n (pc := 96) (DCa dc_Sand_settle_0 47 rfl) rfl 0 rfl ?_
    refine Q_getf (k := 4) (pc := 97) (DCa dc_Sand_settle_0 48 rfl) cls_5 (Nat.le_of_ble_eq_true rfl) fl_5_9 rfl rfl rfl (fun v16 => ?_)
    refine V_iload (pc := 100) (DCa dc_Sand_settle_0 49 rfl) 5 rfl ?_
    refine Q_iaload (pc := 102) (DCa dc_Sand_settle_1 0 rfl) (fun v17 => ?_)
    refine V_iload_n (pc := 103) (DCa dc_Sand_settle_1 1 rfl) rfl 1 rfl ?_
    refine V_icmp_lt (tgt := 122) (pc := 104) (DCa dc_Sand_settle_1 2 rfl) (by decide) (fun _ => ?_) (fun _ => ?_)
    · refine V_iconst (pc := 122) (DCa dc_Sand_settle_1 11 rfl) (by decide) ?_
      exact v_Sand_settle_B123 F R91 hR91 _ _ _ _ _ _ _ _
    · refine V_aload_n (pc := 107) (DCa dc_Sand_settle_1 3 rfl) rfl 0 rfl ?_
      refine Q_getf (k := 4) (pc := 108) (DCa dc_Sand_settle_1 4 rfl) cls_5 (Nat.le_of_ble_eq_true rfl) fl_5_9 rfl rfl rfl (fun v18 => ?_)
      refine V_iload (pc := 111) (DCa dc_Sand_settle_1 5 rfl) 5 rfl ?_
      refine Q_iaload (pc := 113) (DCa dc_Sand_settle_1 6 rfl) (fun v19 => ?_)
      refine V_iload_n (pc := 114) (DCa dc_Sand_settle_1 7 rfl) rfl 2 rfl ?_
      refine V_icmp_gt (tgt := 122) (pc := 115) (DCa dc_Sand_settle_1 8 rfl) (by decide) (fun _ => ?_) (fun _ => ?_)
      · refine V_iconst (pc := 122) (DCa dc_Sand_settle_1 11 rfl) (by decide) ?_
        exact v_Sand_settle_B123 F R91 hR91 _ _ _ _ _ _ _ _
      · refine V_iconst (pc := 118) (DCa dc_Sand_settle_1 9 rfl) (by decide) ?_
        refine V_goto (tgt := 123) (pc := 119) (DCa dc_Sand_settle_1 10 rfl) (by decide) ?_
        exact v_Sand_settle_B123 F R91 hR91 _ _ _ _ _ _ _ _
theorem v_Sand_settle_L91 (F : Nat)  (n : Nat) : ∀ (l0 l2 l3 l5 l6 l7 : Int) (h : Hp), V X_Sand_settle 91 [(0, 2, l0), (2, 0, l2), (3, 0, l3), (5, 0, l5), (6, 0, l6), (7, 0, l7)] [] h (Sand_settle_L91 F  n l0 l2 l3 l5 l6 l7 h) := by
  induction n with
  | zero => intros; exact V_none
  | succ n ih => exact fun l0 l2 l3 l5 l6 l7 h => v_Sand_settle_L91s F  _ ih l0 l2 l3 l5 l6 l7 h
theorem v_Sand_settle_L35s (F : Nat)  (R35 : Int → Int → Int → Int → Int → Int → Hp → Option (Int × Hp)) (hR35 : ∀ (l0 l1 l2 l3 l4 l5 : Int) (h : Hp), V X_Sand_settle 35 [(0, 2, l0), (1, 2, l1), (2, 0, l2), (3, 0, l3), (4, 0, l4), (5, 0, l5)] [] h (R35 l0 l1 l2 l3 l4 l5 h)) (l0 l1 l2 l3 l4 l5 : Int) (h : Hp) : V X_Sand_settle 35 [(0, 2, l0), (1, 2, l1), (2, 0, l2), (3, 0, l3), (4, 0, l4), (5, 0, l5)] [] h (Sand_settle_L35s F  R35 l0 l1 l2 l3 l4 l5 h) := by
  unfold Sand_settle_L35s
  refine V_iload (pc := 35) (DCa dc_Sand_settle_0 17 rfl) 5 rfl ?_
  refine V_sipush (pc := 37) (DCa dc_Sand_settle_0 18 rfl) (by decide) ?_
  refine V_icmp_ge (tgt := 79) (pc := 40) (DCa dc_Sand_settle_0 19 rfl) (by decide) (fun _ => ?_) (fun _ => ?_)
  · refine V_aload_n (pc := 43) (DCa dc_Sand_settle_0 20 rfl) rfl 1 rfl ?_
    refine V_iload (pc := 44) (DCa dc_Sand_settle_0 21 rfl) 5 rfl ?_
    refine Q_iaload (pc := 46) (DCa dc_Sand_settle_0 22 rfl) (fun v9 => ?_)
    refine V_aload_n (pc := 47) (DCa dc_Sand_settle_0 23 rfl) rfl 0 rfl ?_
    refine Q_getf (k := 2) (pc := 48) (DCa dc_Sand_settle_0 24 rfl) cls_5 (Nat.le_of_ble_eq_true rfl) fl_5_18 rfl rfl rfl (fun v10 => ?_)
    refine V_icmp_lt (tgt := 58) (pc := 51) (DCa dc_Sand_settle_0 25 rfl) (by decide) (fun _ => ?_) (fun _ => ?_)
    · refine V_iload (pc := 58) (DCa dc_Sand_settle_0 28 rfl) 4 rfl ?_
      refine V_iconst (pc := 60) (DCa dc_Sand_settle_0 29 rfl) (by decide) ?_
      refine V_iadd (pc := 61) (DCa dc_Sand_settle_0 30 rfl) ?_
      refine Q_lt (fun x11 => ?_)
      refine V_istore (ls' := [(0, 2, l0), (1, 2, l1), (2, 0, l2), (3, 0, l3), (4, 0, x11), (5, 0, l5)]) (pc := 62) (DCa dc_Sand_settle_0 31 rfl) (Nat.le_of_ble_eq_true rfl) rfl ?_
      refine V_aload_n (pc := 64) (DCa dc_Sand_settle_0 32 rfl) rfl 0 rfl ?_
      refine Q_getf (k := 4) (pc := 65) (DCa dc_Sand_settle_0 33 rfl) cls_5 (Nat.le_of_ble_eq_true rfl) fl_5_9 rfl rfl rfl (fun v12 => ?_)
      refine V_iload (pc := 68) (DCa dc_Sand_settle_0 34 rfl) 5 rfl ?_
      refine V_iload (pc := 70) (DCa dc_Sand_settle_0 35 rfl) 4 rfl ?_
      refine Q_iastore (pc := 72) (DCa dc_Sand_settle_0 36 rfl) (fun h13 => ?_)
      refine V_iinc (ls' := [(0, 2, l0), (1, 2, l1), (2, 0, l2), (3, 0, l3), (4, 0, x11), (5, 0, w32 (l5 + 1))]) (pc := 73) (DCa dc_Sand_settle_0 37 rfl) (Nat.le_of_ble_eq_true rfl) (by decide) 5 rfl rfl ?_
      refine V_goto (tgt := 35) (pc := 76) (DCa dc_Sand_settle_0 38 rfl) (by decide) ?_
      exact hR35 _ _ _ _ _ _ _
    · refine V_iconst (pc := 54) (DCa dc_Sand_settle_0 26 rfl) (by decide) ?_
      refine V_goto (tgt := 62) (pc := 55) (DCa dc_Sand_settle_0 27 rfl) (by decide) ?_
      refine V_istore (ls' := [(0, 2, l0), (1, 2, l1), (2, 0, l2), (3, 0, l3), (4, 0, 0), (5, 0, l5)]) (pc := 62) (DCa dc_Sand_settle_0 31 rfl) (Nat.le_of_ble_eq_true rfl) rfl ?_
      refine V_aload_n (pc := 64) (DCa dc_Sand_settle_0 32 rfl) rfl 0 rfl ?_
      refine Q_getf (k := 4) (pc := 65) (DCa dc_Sand_settle_0 33 rfl) cls_5 (Nat.le_of_ble_eq_true rfl) fl_5_9 rfl rfl rfl (fun v14 => ?_)
      refine V_iload (pc := 68) (DCa dc_Sand_settle_0 34 rfl) 5 rfl ?_
      refine V_iload (pc := 70) (DCa dc_Sand_settle_0 35 rfl) 4 rfl ?_
      refine Q_iastore (pc := 72) (DCa dc_Sand_settle_0 36 rfl) (fun h15 => ?_)
      refine V_iinc (ls' := [(0, 2, l0), (1, 2, l1), (2, 0, l2), (3, 0, l3), (4, 0, 0), (5, 0, w32 (l5 + 1))]) (pc := 73) (DCa dc_Sand_settle_0 37 rfl) (Nat.le_of_ble_eq_true rfl) (by decide) 5 rfl rfl ?_
      refine V_goto (tgt := 35) (pc := 76) (DCa dc_Sand_settle_0 38 rfl) (by decide) ?_
      exact hR35 _ _ _ _ _ _ _
  · refine V_iconst (pc := 79) (DCa dc_Sand_settle_0 39 rfl) (by decide) ?_
    refine V_istore (ls' := [(0, 2, l0), (1, 2, l1), (2, 0, l2), (3, 0, l3), (4, 0, l4), (5, 0, 0)]) (pc := 80) (DCa dc_Sand_settle_0 40 rfl) (Nat.le_of_ble_eq_true rfl) rfl ?_
    refine V_bipush (pc := 82) (DCa dc_Sand_settle_0 41 rfl) (by decide) ?_
    refine V_istore (ls' := [(0, 2, l0), (1, 2, l1), (2, 0, l2), (3, 0, l3), (4, 0, l4), (5, 0, 0), (6, 0, (-2))]) (pc := 84) (DCa dc_Sand_settle_0 42 rfl) (Nat.le_of_ble_eq_true rfl) rfl ?_
    refine V_sipush (pc := 86) (DCa dc_Sand_settle_0 43 rfl) (by decide) ?_
    refine V_istore (ls' := [(0, 2, l0), (1, 2, l1), (2, 0, l2), (3, 0, l3), (4, 0, l4), (5, 0, 0), (6, 0, (-2)), (7, 0, 599)]) (pc := 89) (DCa dc_Sand_settle_0 44 rfl) (Nat.le_of_ble_eq_true rfl) rfl ?_
    refine V_pick [0, 2, 3, 5, 6, 7] rfl ?_
    exact v_Sand_settle_L91 F F _ _ _ _ _ _ _
theorem v_Sand_settle_L35 (F : Nat)  (n : Nat) : ∀ (l0 l1 l2 l3 l4 l5 : Int) (h : Hp), V X_Sand_settle 35 [(0, 2, l0), (1, 2, l1), (2, 0, l2), (3, 0, l3), (4, 0, l4), (5, 0, l5)] [] h (Sand_settle_L35 F  n l0 l1 l2 l3 l4 l5 h) := by
  induction n with
  | zero => intros; exact V_none
  | succ n ih => exact fun l0 l1 l2 l3 l4 l5 h => v_Sand_settle_L35s F  _ ih l0 l1 l2 l3 l4 l5 h
theorem v_Sand_settle (F : Nat) (l0 l1 l2 l3 : Int) (h : Hp) : V X_Sand_settle 0 [(0, 2, l0), (1, 2, l1), (2, 0, l2), (3, 0, l3)] [] h (Sand_settle F l0 l1 l2 l3 h) := by
  unfold Sand_settle
  refine V_aload_n (pc := 0) (DCa dc_Sand_settle_0 0 rfl) rfl 0 rfl ?_
  refine Q_getf (k := 4) (pc := 1) (DCa dc_Sand_settle_0 1 rfl) cls_5 (Nat.le_of_ble_eq_true rfl) fl_5_9 rfl rfl rfl (fun v1 => ?_)
  refine Q_alen (pc := 4) (DCa dc_Sand_settle_0 2 rfl) (by decide) (fun v2 => ?_)
  refine V_sipush (pc := 5) (DCa dc_Sand_settle_0 3 rfl) (by decide) ?_
  refine V_icmp_ge (tgt := 29) (pc := 8) (DCa dc_Sand_settle_0 4 rfl) (by decide) (fun _ => ?_) (fun _ => ?_)
  · refine V_aload_n (pc := 11) (DCa dc_Sand_settle_0 5 rfl) rfl 0 rfl ?_
    refine V_sipush (pc := 12) (DCa dc_Sand_settle_0 6 rfl) (by decide) ?_
    refine Q_newa (pc := 15) (DCa dc_Sand_settle_0 7 rfl) nas_0 (fun v3 h4 => ?_)
    refine Q_putf (k := 4) (pc := 17) (DCa dc_Sand_settle_0 8 rfl) cls_5 (Nat.le_of_ble_eq_true rfl) fl_5_9 rfl rfl rfl (Or.inl rfl) (Or.inr ⟨Or.inr ⟨_, rfl⟩, rfl⟩) (fun h5 => ?_)
    refine V_aload_n (pc := 20) (DCa dc_Sand_settle_0 9 rfl) rfl 0 rfl ?_
    refine V_sipush (pc := 21) (DCa dc_Sand_settle_0 10 rfl) (by decide) ?_
    refine Q_newa (pc := 24) (DCa dc_Sand_settle_0 11 rfl) nas_0 (fun v6 h7 => ?_)
    refine Q_putf (k := 5) (pc := 26) (DCa dc_Sand_settle_0 12 rfl) cls_5 (Nat.le_of_ble_eq_true rfl) fl_5_15 rfl rfl rfl (Or.inl rfl) (Or.inr ⟨Or.inr ⟨_, rfl⟩, rfl⟩) (fun h8 => ?_)
    refine V_iconst (pc := 29) (DCa dc_Sand_settle_0 13 rfl) (by decide) ?_
    refine V_istore (ls' := [(0, 2, l0), (1, 2, l1), (2, 0, l2), (3, 0, l3), (4, 0, 0)]) (pc := 30) (DCa dc_Sand_settle_0 14 rfl) (Nat.le_of_ble_eq_true rfl) rfl ?_
    refine V_iconst (pc := 32) (DCa dc_Sand_settle_0 15 rfl) (by decide) ?_
    refine V_istore (ls' := [(0, 2, l0), (1, 2, l1), (2, 0, l2), (3, 0, l3), (4, 0, 0), (5, 0, 0)]) (pc := 33) (DCa dc_Sand_settle_0 16 rfl) (Nat.le_of_ble_eq_true rfl) rfl ?_
    exact v_Sand_settle_L35 F F _ _ _ _ _ _ _
  · refine V_iconst (pc := 29) (DCa dc_Sand_settle_0 13 rfl) (by decide) ?_
    refine V_istore (ls' := [(0, 2, l0), (1, 2, l1), (2, 0, l2), (3, 0, l3), (4, 0, 0)]) (pc := 30) (DCa dc_Sand_settle_0 14 rfl) (Nat.le_of_ble_eq_true rfl) rfl ?_
    refine V_iconst (pc := 32) (DCa dc_Sand_settle_0 15 rfl) (by decide) ?_
    refine V_istore (ls' := [(0, 2, l0), (1, 2, l1), (2, 0, l2), (3, 0, l3), (4, 0, 0), (5, 0, 0)]) (pc := 33) (DCa dc_Sand_settle_0 16 rfl) (Nat.le_of_ble_eq_true rfl) rfl ?_
    exact v_Sand_settle_L35 F F _ _ _ _ _ _ _
theorem sp_Sand_settle (F : Nat) (l0 l1 l2 l3 : Int) (h : Hp) : Sp yX5_settle cX5_settle 9 none 1 20 [(2, l0), (2, l1), (0, l2), (0, l3)] h (Sand_settle F l0 l1 l2 l3 h) := Sp_of (by decide +kernel) rfl rfl (Nat.le_of_ble_eq_true rfl) (v_Sand_settle F l0 l1 l2 l3 h)
