-- TideRakesModel.layOut
def Mod_layOut_L140s (F : Nat) (R60 : Int → Int → Hp → Option (Int × Hp)) (R140 : Int → Int → Int → Hp → Option (Int × Hp)) (l0 l1 l2 : Int) (h : Hp) : Option (Int × Hp) :=
  if l2 < 600 then
    (gf h l0 112 55 fun v31 =>
    al h v31 0 l1 fun v32 =>
    gf h l0 112 56 fun v33 =>
    al h v33 0 l1 fun v34 =>
    iv h l0 112 (Mod_setsOf F l0 v32 v34 l2 0 0 h) fun r35 h36 =>
    gf h36 l0 112 54 fun v37 =>
    iv h36 l0 112 (Mod_tells F l0 4 0 0 100 h36) fun r38 h39 =>
    as h39 v37 0 (w32 ((w32 (600 * l1)) + l2)) r38 fun h40 =>
    R140 l0 l1 (w32 (l2 + 1)) h40)
  else
    (R60 l0 (w32 (l1 + 1)) h)
def Mod_layOut_L140 (F : Nat) (R60 : Int → Int → Hp → Option (Int × Hp)) : Nat → Int → Int → Int → Hp → Option (Int × Hp)
  | 0 => fun _ _ _ _ => none
  | n + 1 => Mod_layOut_L140s F R60 (Mod_layOut_L140 F R60 n)
def Mod_layOut_L60s (F : Nat)  (R60 : Int → Int → Hp → Option (Int × Hp)) (l0 l1 : Int) (h : Hp) : Option (Int × Hp) :=
  gf h l0 112 22 fun v11 =>
  gf h l0 112 18 fun v12 =>
  al h v11 0 v12 fun v13 =>
  if l1 < v13 then
    (gf h l0 112 55 fun v14 =>
    gf h l0 112 23 fun v15 =>
    gf h l0 112 18 fun v16 =>
    al h v15 0 (w32 ((w32 (8 * v16)) + l1)) fun v17 =>
    as h v14 0 l1 v17 fun h18 =>
    gf h18 l0 112 56 fun v19 =>
    gf h18 l0 112 24 fun v20 =>
    gf h18 l0 112 18 fun v21 =>
    al h18 v20 0 (w32 ((w32 (8 * v21)) + l1)) fun v22 =>
    as h18 v19 0 l1 v22 fun h23 =>
    gf h23 l0 112 57 fun v24 =>
    gf h23 l0 112 26 fun v25 =>
    gf h23 l0 112 18 fun v26 =>
    al h23 v25 0 (w32 ((w32 (8 * v26)) + l1)) fun v27 =>
    as h23 v24 0 l1 v27 fun h28 =>
    iv h28 l0 112 (Mod_laysPart F l0 l1 h28) fun r29 h30 =>
    Mod_layOut_L140 F R60 F l0 l1 0 h30)
  else
    (some (0, h))
def Mod_layOut_L60 (F : Nat)  : Nat → Int → Int → Hp → Option (Int × Hp)
  | 0 => fun _ _ _ => none
  | n + 1 => Mod_layOut_L60s F  (Mod_layOut_L60 F  n)
def Mod_layOut_L2s (F : Nat)  (R2 : Int → Int → Hp → Option (Int × Hp)) (l0 l1 : Int) (h : Hp) : Option (Int × Hp) :=
  if l1 < 600 then
    (iv h l0 112 (Mod_setsOf F l0 0 0 l1 0 0 h) fun r1 h2 =>
    gf h2 l0 112 52 fun v3 =>
    iv h2 l0 112 (Mod_tells F l0 1 0 (-9999) 9999 h2) fun r4 h5 =>
    as h5 v3 0 l1 r4 fun h6 =>
    gf h6 l0 112 53 fun v7 =>
    iv h6 l0 112 (Mod_tells F l0 2 100 0 100 h6) fun r8 h9 =>
    as h9 v7 0 l1 r8 fun h10 =>
    R2 l0 (w32 (l1 + 1)) h10)
  else
    (Mod_layOut_L60 F F l0 0 h)
def Mod_layOut_L2 (F : Nat)  : Nat → Int → Int → Hp → Option (Int × Hp)
  | 0 => fun _ _ _ => none
  | n + 1 => Mod_layOut_L2s F  (Mod_layOut_L2 F  n)
def Mod_layOut (F : Nat) (l0 : Int) (h : Hp) : Option (Int × Hp) :=
  Mod_layOut_L2 F F l0 0 h

theorem dc_Mod_layOut_0 : ∀ q ∈ ([(0, .iconst 0, 1), (1, .istore_n 1, 1), (2, .iload_n 1, 1), (3, .sipush 600, 3), (6, .if_icmp .ge 52, 3), (9, .aload_n 0, 1), (10, .iconst 0, 1), (11, .iconst 0, 1), (12, .iload_n 1, 1), (13, .iconst 0, 1), (14, .iconst 0, 1), (15, .invokevirtual 362, 3), (18, .aload_n 0, 1), (19, .getfield 122, 3), (22, .iload_n 1, 1), (23, .aload_n 0, 1), (24, .iconst 1, 1), (25, .iconst 0, 1), (26, .sipush (-9999), 3), (29, .sipush 9999, 3), (32, .invokevirtual 366, 3), (35, .iastore, 1), (36, .aload_n 0, 1), (37, .getfield 125, 3), (40, .iload_n 1, 1), (41, .aload_n 0, 1), (42, .iconst 2, 1), (43, .bipush 100, 2), (45, .iconst 0, 1), (46, .bipush 100, 2), (48, .invokevirtual 366, 3), (51, .iastore, 1), (52, .iinc 1 1, 3), (55, .goto (-53), 3), (58, .iconst 0, 1), (59, .istore_n 1, 1), (60, .iload_n 1, 1), (61, .aload_n 0, 1), (62, .getfield 43, 3), (65, .aload_n 0, 1), (66, .getfield 281, 3), (69, .iaload, 1), (70, .if_icmp .ge 129, 3), (73, .aload_n 0, 1), (74, .getfield 131, 3), (77, .iload_n 1, 1), (78, .aload_n 0, 1), (79, .getfield 46, 3), (82, .bipush 8, 2), (84, .aload_n 0, 1)] : List (Nat × Instr × Nat)), decode cX12_layOut q.1 = .ok (q.2.1, q.2.2) := by decide +kernel
theorem dc_Mod_layOut_1 : ∀ q ∈ ([(85, .getfield 281, 3), (88, .imul, 1), (89, .iload_n 1, 1), (90, .iadd, 1), (91, .iaload, 1), (92, .iastore, 1), (93, .aload_n 0, 1), (94, .getfield 134, 3), (97, .iload_n 1, 1), (98, .aload_n 0, 1), (99, .getfield 49, 3), (102, .bipush 8, 2), (104, .aload_n 0, 1), (105, .getfield 281, 3), (108, .imul, 1), (109, .iload_n 1, 1), (110, .iadd, 1), (111, .iaload, 1), (112, .iastore, 1), (113, .aload_n 0, 1), (114, .getfield 137, 3), (117, .iload_n 1, 1), (118, .aload_n 0, 1), (119, .getfield 55, 3), (122, .bipush 8, 2), (124, .aload_n 0, 1), (125, .getfield 281, 3), (128, .imul, 1), (129, .iload_n 1, 1), (130, .iadd, 1), (131, .iaload, 1), (132, .iastore, 1), (133, .aload_n 0, 1), (134, .iload_n 1, 1), (135, .invokevirtual 370, 3), (138, .iconst 0, 1), (139, .istore_n 2, 1), (140, .iload_n 2, 1), (141, .sipush 600, 3), (144, .if_icmp .ge 49, 3), (147, .aload_n 0, 1), (148, .aload_n 0, 1), (149, .getfield 131, 3), (152, .iload_n 1, 1), (153, .iaload, 1), (154, .aload_n 0, 1), (155, .getfield 134, 3), (158, .iload_n 1, 1), (159, .iaload, 1), (160, .iload_n 2, 1)] : List (Nat × Instr × Nat)), decode cX12_layOut q.1 = .ok (q.2.1, q.2.2) := by decide +kernel
theorem dc_Mod_layOut_2 : ∀ q ∈ ([(161, .iconst 0, 1), (162, .iconst 0, 1), (163, .invokevirtual 362, 3), (166, .aload_n 0, 1), (167, .getfield 128, 3), (170, .sipush 600, 3), (173, .iload_n 1, 1), (174, .imul, 1), (175, .iload_n 2, 1), (176, .iadd, 1), (177, .aload_n 0, 1), (178, .iconst 4, 1), (179, .iconst 0, 1), (180, .iconst 0, 1), (181, .bipush 100, 2), (183, .invokevirtual 366, 3), (186, .iastore, 1), (187, .iinc 2 1, 3), (190, .goto (-50), 3), (193, .iinc 1 1, 3), (196, .goto (-136), 3), (199, .return_, 1)] : List (Nat × Instr × Nat)), decode cX12_layOut q.1 = .ok (q.2.1, q.2.2) := by decide +kernel
abbrev X_Mod_layOut : MX := (cX12_layOut, RX12, "layOut", 3, none, 4, 98)
theorem v_Mod_layOut_L140s (F : Nat) (R60 : Int → Int → Hp → Option (Int × Hp)) (hR60 : ∀ (l0 l1 : Int) (h : Hp), V X_Mod_layOut 60 [(0, 2, l0), (1, 0, l1)] [] h (R60 l0 l1 h)) (R140 : Int → Int → Int → Hp → Option (Int × Hp)) (hR140 : ∀ (l0 l1 l2 : Int) (h : Hp), V X_Mod_layOut 140 [(0, 2, l0), (1, 0, l1), (2, 0, l2)] [] h (R140 l0 l1 l2 h)) (l0 l1 l2 : Int) (h : Hp) : V X_Mod_layOut 140 [(0, 2, l0), (1, 0, l1), (2, 0, l2)] [] h (Mod_layOut_L140s F R60 R140 l0 l1 l2 h) := by
  unfold Mod_layOut_L140s
  refine V_iload_n (pc := 140) (DCa dc_Mod_layOut_1 37 rfl) rfl 2 rfl ?_
  refine V_sipush (pc := 141) (DCa dc_Mod_layOut_1 38 rfl) (by decide) ?_
  refine V_icmp_ge (tgt := 193) (pc := 144) (DCa dc_Mod_layOut_1 39 rfl) (by decide) (fun _ => ?_) (fun _ => ?_)
  · refine V_aload_n (pc := 147) (DCa dc_Mod_layOut_1 40 rfl) rfl 0 rfl ?_
    refine V_aload_n (pc := 148) (DCa dc_Mod_layOut_1 41 rfl) rfl 0 rfl ?_
    refine Q_getf (k := 55) (pc := 149) (DCa dc_Mod_layOut_1 42 rfl) cls_12 (Nat.le_of_ble_eq_true rfl) fl_12_131 rfl rfl rfl (fun v31 => ?_)
    refine V_iload_n (pc := 152) (DCa dc_Mod_layOut_1 43 rfl) rfl 1 rfl ?_
    refine Q_iaload (pc := 153) (DCa dc_Mod_layOut_1 44 rfl) (fun v32 => ?_)
    refine V_aload_n (pc := 154) (DCa dc_Mod_layOut_1 45 rfl) rfl 0 rfl ?_
    refine Q_getf (k := 56) (pc := 155) (DCa dc_Mod_layOut_1 46 rfl) cls_12 (Nat.le_of_ble_eq_true rfl) fl_12_134 rfl rfl rfl (fun v33 => ?_)
    refine V_iload_n (pc := 158) (DCa dc_Mod_layOut_1 47 rfl) rfl 1 rfl ?_
    refine Q_iaload (pc := 159) (DCa dc_Mod_layOut_1 48 rfl) (fun v34 => ?_)
    refine V_iload_n (pc := 160) (DCa dc_Mod_layOut_1 49 rfl) rfl 2 rfl ?_
    refine V_iconst (pc := 161) (DCa dc_Mod_layOut_2 0 rfl) (by decide) ?_
    refine V_iconst (pc := 162) (DCa dc_Mod_layOut_2 1 rfl) (by decide) ?_
    refine Q_callv (ci := 12) (st := []) (pc := 163) (DCa dc_Mod_layOut_2 2 rfl) (sp_Mod_setsOf F _ _ _ _ _ _ _) ce_Mod_setsOf ml_12_362 rfl rfl ⟨Nat.le_of_ble_eq_true rfl, Nat.le_of_ble_eq_true rfl⟩ rfl (Nat.le_of_ble_eq_true rfl) (fun r35 h36 => ?_)
    refine V_aload_n (pc := 166) (DCa dc_Mod_layOut_2 3 rfl) rfl 0 rfl ?_
    refine Q_getf (k := 54) (pc := 167) (DCa dc_Mod_layOut_2 4 rfl) cls_12 (Nat.le_of_ble_eq_true rfl) fl_12_128 rfl rfl rfl (fun v37 => ?_)
    refine V_sipush (pc := 170) (DCa dc_Mod_layOut_2 5 rfl) (by decide) ?_
    refine V_iload_n (pc := 173) (DCa dc_Mod_layOut_2 6 rfl) rfl 1 rfl ?_
    refine V_imul (pc := 174) (DCa dc_Mod_layOut_2 7 rfl) ?_
    refine V_iload_n (pc := 175) (DCa dc_Mod_layOut_2 8 rfl) rfl 2 rfl ?_
    refine V_iadd (pc := 176) (DCa dc_Mod_layOut_2 9 rfl) ?_
    refine V_aload_n (pc := 177) (DCa dc_Mod_layOut_2 10 rfl) rfl 0 rfl ?_
    refine V_iconst (pc := 178) (DCa dc_Mod_layOut_2 11 rfl) (by decide) ?_
    refine V_iconst (pc := 179) (DCa dc_Mod_layOut_2 12 rfl) (by decide) ?_
    refine V_iconst (pc := 180) (DCa dc_Mod_layOut_2 13 rfl) (by decide) ?_
    refine V_bipush (pc := 181) (DCa dc_Mod_layOut_2 14 rfl) (by decide) ?_
    refine Q_callv (ci := 12) (st := [(0, w32 ((w32 (600 * l1)) + l2)), (2, v37)]) (pc := 183) (DCa dc_Mod_layOut_2 15 rfl) (sp_Mod_tells F _ _ _ _ _ _) ce_Mod_tells ml_12_366 rfl rfl ⟨Nat.le_of_ble_eq_true rfl, Nat.le_of_ble_eq_true rfl⟩ rfl (Nat.le_of_ble_eq_true rfl) (fun r38 h39 => ?_)
    refine Q_iastore (pc := 186) (DCa dc_Mod_layOut_2 16 rfl) (fun h40 => ?_)
    refine V_iinc (ls' := [(0, 2, l0), (1, 0, l1), (2, 0, w32 (l2 + 1))]) (pc := 187) (DCa dc_Mod_layOut_2 17 rfl) (Nat.le_of_ble_eq_true rfl) (by decide) 2 rfl rfl ?_
    refine V_goto (tgt := 140) (pc := 190) (DCa dc_Mod_layOut_2 18 rfl) (by decide) ?_
    exact hR140 _ _ _ _
  · refine V_iinc (ls' := [(0, 2, l0), (1, 0, w32 (l1 + 1)), (2, 0, l2)]) (pc := 193) (DCa dc_Mod_layOut_2 19 rfl) (Nat.le_of_ble_eq_true rfl) (by decide) 1 rfl rfl ?_
    refine V_goto (tgt := 60) (pc := 196) (DCa dc_Mod_layOut_2 20 rfl) (by decide) ?_
    refine V_pick [0, 1] rfl ?_
    exact hR60 _ _ _
theorem v_Mod_layOut_L140 (F : Nat) (R60 : Int → Int → Hp → Option (Int × Hp)) (hR60 : ∀ (l0 l1 : Int) (h : Hp), V X_Mod_layOut 60 [(0, 2, l0), (1, 0, l1)] [] h (R60 l0 l1 h)) (n : Nat) : ∀ (l0 l1 l2 : Int) (h : Hp), V X_Mod_layOut 140 [(0, 2, l0), (1, 0, l1), (2, 0, l2)] [] h (Mod_layOut_L140 F R60 n l0 l1 l2 h) := by
  induction n with
  | zero => intros; exact V_none
  | succ n ih => exact fun l0 l1 l2 h => v_Mod_layOut_L140s F R60 hR60 _ ih l0 l1 l2 h
theorem v_Mod_layOut_L60s (F : Nat)  (R60 : Int → Int → Hp → Option (Int × Hp)) (hR60 : ∀ (l0 l1 : Int) (h : Hp), V X_Mod_layOut 60 [(0, 2, l0), (1, 0, l1)] [] h (R60 l0 l1 h)) (l0 l1 : Int) (h : Hp) : V X_Mod_layOut 60 [(0, 2, l0), (1, 0, l1)] [] h (Mod_layOut_L60s F  R60 l0 l1 h) := by
  unfold Mod_layOut_L60s
  refine V_iload_n (pc := 60) (DCa dc_Mod_layOut_0 36 rfl) rfl 1 rfl ?_
  refine V_aload_n (pc := 61) (DCa dc_Mod_layOut_0 37 rfl) rfl 0 rfl ?_
  refine Q_getf (k := 22) (pc := 62) (DCa dc_Mod_layOut_0 38 rfl) cls_12 (Nat.le_of_ble_eq_true rfl) fl_12_43 rfl rfl rfl (fun v11 => ?_)
  refine V_aload_n (pc := 65) (DCa dc_Mod_layOut_0 39 rfl) rfl 0 rfl ?_
  refine Q_getf (k := 18) (pc := 66) (DCa dc_Mod_layOut_0 40 rfl) cls_12 (Nat.le_of_ble_eq_true rfl) fl_12_281 rfl rfl rfl (fun v12 => ?_)
  refine Q_iaload (pc := 69) (DCa dc_Mod_layOut_0 41 rfl) (fun v13 => ?_)
  refine V_icmp_ge (tgt := 199) (pc := 70) (DCa dc_Mod_layOut_0 42 rfl) (by decide) (fun _ => ?_) (fun _ => ?_)
  · refine V_aload_n (pc := 73) (DCa dc_Mod_layOut_0 43 rfl) rfl 0 rfl ?_
    refine Q_getf (k := 55) (pc := 74) (DCa dc_Mod_layOut_0 44 rfl) cls_12 (Nat.le_of_ble_eq_true rfl) fl_12_131 rfl rfl rfl (fun v14 => ?_)
    refine V_iload_n (pc := 77) (DCa dc_Mod_layOut_0 45 rfl) rfl 1 rfl ?_
    refine V_aload_n (pc := 78) (DCa dc_Mod_layOut_0 46 rfl) rfl 0 rfl ?_
    refine Q_getf (k := 23) (pc := 79) (DCa dc_Mod_layOut_0 47 rfl) cls_12 (Nat.le_of_ble_eq_true rfl) fl_12_46 rfl rfl rfl (fun v15 => ?_)
    refine V_bipush (pc := 82) (DCa dc_Mod_layOut_0 48 rfl) (by decide) ?_
    refine V_aload_n (pc := 84) (DCa dc_Mod_layOut_0 49 rfl) rfl 0 rfl ?_
    refine Q_getf (k := 18) (pc := 85) (DCa dc_Mod_layOut_1 0 rfl) cls_12 (Nat.le_of_ble_eq_true rfl) fl_12_281 rfl rfl rfl (fun v16 => ?_)
    refine V_imul (pc := 88) (DCa dc_Mod_layOut_1 1 rfl) ?_
    refine V_iload_n (pc := 89) (DCa dc_Mod_layOut_1 2 rfl) rfl 1 rfl ?_
    refine V_iadd (pc := 90) (DCa dc_Mod_layOut_1 3 rfl) ?_
    refine Q_iaload (pc := 91) (DCa dc_Mod_layOut_1 4 rfl) (fun v17 => ?_)
    refine Q_iastore (pc := 92) (DCa dc_Mod_layOut_1 5 rfl) (fun h18 => ?_)
    refine V_aload_n (pc := 93) (DCa dc_Mod_layOut_1 6 rfl) rfl 0 rfl ?_
    refine Q_getf (k := 56) (pc := 94) (DCa dc_Mod_layOut_1 7 rfl) cls_12 (Nat.le_of_ble_eq_true rfl) fl_12_134 rfl rfl rfl (fun v19 => ?_)
    refine V_iload_n (pc := 97) (DCa dc_Mod_layOut_1 8 rfl) rfl 1 rfl ?_
    refine V_aload_n (pc := 98) (DCa dc_Mod_layOut_1 9 rfl) rfl 0 rfl ?_
    refine Q_getf (k := 24) (pc := 99) (DCa dc_Mod_layOut_1 10 rfl) cls_12 (Nat.le_of_ble_eq_true rfl) fl_12_49 rfl rfl rfl (fun v20 => ?_)
    refine V_bipush (pc := 102) (DCa dc_Mod_layOut_1 11 rfl) (by decide) ?_
    refine V_aload_n (pc := 104) (DCa dc_Mod_layOut_1 12 rfl) rfl 0 rfl ?_
    refine Q_getf (k := 18) (pc := 105) (DCa dc_Mod_layOut_1 13 rfl) cls_12 (Nat.le_of_ble_eq_true rfl) fl_12_281 rfl rfl rfl (fun v21 => ?_)
    refine V_imul (pc := 108) (DCa dc_Mod_layOut_1 14 rfl) ?_
    refine V_iload_n (pc := 109) (DCa dc_Mod_layOut_1 15 rfl) rfl 1 rfl ?_
    refine V_iadd (pc := 110) (DCa dc_Mod_layOut_1 16 rfl) ?_
    refine Q_iaload (pc := 111) (DCa dc_Mod_layOut_1 17 rfl) (fun v22 => ?_)
    refine Q_iastore (pc := 112) (DCa dc_Mod_layOut_1 18 rfl) (fun h23 => ?_)
    refine V_aload_n (pc := 113) (DCa dc_Mod_layOut_1 19 rfl) rfl 0 rfl ?_
    refine Q_getf (k := 57) (pc := 114) (DCa dc_Mod_layOut_1 20 rfl) cls_12 (Nat.le_of_ble_eq_true rfl) fl_12_137 rfl rfl rfl (fun v24 => ?_)
    refine V_iload_n (pc := 117) (DCa dc_Mod_layOut_1 21 rfl) rfl 1 rfl ?_
    refine V_aload_n (pc := 118) (DCa dc_Mod_layOut_1 22 rfl) rfl 0 rfl ?_
    refine Q_getf (k := 26) (pc := 119) (DCa dc_Mod_layOut_1 23 rfl) cls_12 (Nat.le_of_ble_eq_true rfl) fl_12_55 rfl rfl rfl (fun v25 => ?_)
    refine V_bipush (pc := 122) (DCa dc_Mod_layOut_1 24 rfl) (by decide) ?_
    refine V_aload_n (pc := 124) (DCa dc_Mod_layOut_1 25 rfl) rfl 0 rfl ?_
    refine Q_getf (k := 18) (pc := 125) (DCa dc_Mod_layOut_1 26 rfl) cls_12 (Nat.le_of_ble_eq_true rfl) fl_12_281 rfl rfl rfl (fun v26 => ?_)
    refine V_imul (pc := 128) (DCa dc_Mod_layOut_1 27 rfl) ?_
    refine V_iload_n (pc := 129) (DCa dc_Mod_layOut_1 28 rfl) rfl 1 rfl ?_
    refine V_iadd (pc := 130) (DCa dc_Mod_layOut_1 29 rfl) ?_
    refine Q_iaload (pc := 131) (DCa dc_Mod_layOut_1 30 rfl) (fun v27 => ?_)
    refine Q_iastore (pc := 132) (DCa dc_Mod_layOut_1 31 rfl) (fun h28 => ?_)
    refine V_aload_n (pc := 133) (DCa dc_Mod_layOut_1 32 rfl) rfl 0 rfl ?_
    refine V_iload_n (pc := 134) (DCa dc_Mod_layOut_1 33 rfl) rfl 1 rfl ?_
    refine Q_callv (ci := 12) (st := []) (pc := 135) (DCa dc_Mod_layOut_1 34 rfl) (sp_Mod_laysPart F _ _ _) ce_Mod_laysPart ml_12_370 rfl rfl ⟨Nat.le_of_ble_eq_true rfl, Nat.le_of_ble_eq_true rfl⟩ rfl (Nat.le_of_ble_eq_true rfl) (fun r29 h30 => ?_)
    refine V_iconst (pc := 138) (DCa dc_Mod_layOut_1 35 rfl) (by decide) ?_
    refine V_istore_n (ls' := [(0, 2, l0), (1, 0, l1), (2, 0, 0)]) (pc := 139) (DCa dc_Mod_layOut_1 36 rfl) rfl (Nat.le_of_ble_eq_true rfl) rfl ?_
    exact v_Mod_layOut_L140 F R60 hR60 F _ _ _ _
  · exact V_return (pc := 199) (DCa dc_Mod_layOut_2 21 rfl) rfl
theorem v_Mod_layOut_L60 (F : Nat)  (n : Nat) : ∀ (l0 l1 : Int) (h : Hp), V X_Mod_layOut 60 [(0, 2, l0), (1, 0, l1)] [] h (Mod_layOut_L60 F  n l0 l1 h) := by
  induction n with
  | zero => intros; exact V_none
  | succ n ih => exact fun l0 l1 h => v_Mod_layOut_L60s F  _ ih l0 l1 h
theorem v_Mod_layOut_L2s (F : Nat)  (R2 : Int → Int → Hp → Option (Int × Hp)) (hR2 : ∀ (l0 l1 : Int) (h : Hp), V X_Mod_layOut 2 [(0, 2, l0), (1, 0, l1)] [] h (R2 l0 l1 h)) (l0 l1 : Int) (h : Hp) : V X_Mod_layOut 2 [(0, 2, l0), (1, 0, l1)] [] h (Mod_layOut_L2s F  R2 l0 l1 h) := by
  unfold Mod_layOut_L2s
  refine V_iload_n (pc := 2) (DCa dc_Mod_layOut_0 2 rfl) rfl 1 rfl ?_
  refine V_sipush (pc := 3) (DCa dc_Mod_layOut_0 3 rfl) (by decide) ?_
  refine V_icmp_ge (tgt := 58) (pc := 6) (DCa dc_Mod_layOut_0 4 rfl) (by decide) (fun _ => ?_) (fun _ => ?_)
  · refine V_aload_n (pc := 9) (DCa dc_Mod_layOut_0 5 rfl) rfl 0 rfl ?_
    refine V_iconst (pc := 10) (DCa dc_Mod_layOut_0 6 rfl) (by decide) ?_
    refine V_iconst (pc := 11) (DCa dc_Mod_layOut_0 7 rfl) (by decide) ?_
    refine V_iload_n (pc := 12) (DCa dc_Mod_layOut_0 8 rfl) rfl 1 rfl ?_
    refine V_iconst (pc := 13) (DCa dc_Mod_layOut_0 9 rfl) (by decide) ?_
    refine V_iconst (pc := 14) (DCa dc_Mod_layOut_0 10 rfl) (by decide) ?_
    refine Q_callv (ci := 12) (st := []) (pc := 15) (DCa dc_Mod_layOut_0 11 rfl) (sp_Mod_setsOf F _ _ _ _ _ _ _) ce_Mod_setsOf ml_12_362 rfl rfl ⟨Nat.le_of_ble_eq_true rfl, Nat.le_of_ble_eq_true rfl⟩ rfl (Nat.le_of_ble_eq_true rfl) (fun r1 h2 => ?_)
    refine V_aload_n (pc := 18) (DCa dc_Mod_layOut_0 12 rfl) rfl 0 rfl ?_
    refine Q_getf (k := 52) (pc := 19) (DCa dc_Mod_layOut_0 13 rfl) cls_12 (Nat.le_of_ble_eq_true rfl) fl_12_122 rfl rfl rfl (fun v3 => ?_)
    refine V_iload_n (pc := 22) (DCa dc_Mod_layOut_0 14 rfl) rfl 1 rfl ?_
    refine V_aload_n (pc := 23) (DCa dc_Mod_layOut_0 15 rfl) rfl 0 rfl ?_
    refine V_iconst (pc := 24) (DCa dc_Mod_layOut_0 16 rfl) (by decide) ?_
    refine V_iconst (pc := 25) (DCa dc_Mod_layOut_0 17 rfl) (by decide) ?_
    refine V_sipush (pc := 26) (DCa dc_Mod_layOut_0 18 rfl) (by decide) ?_
    refine V_sipush (pc := 29) (DCa dc_Mod_layOut_0 19 rfl) (by decide) ?_
    refine Q_callv (ci := 12) (st := [(0, l1), (2, v3)]) (pc := 32) (DCa dc_Mod_layOut_0 20 rfl) (sp_Mod_tells F _ _ _ _ _ _) ce_Mod_tells ml_12_366 rfl rfl ⟨Nat.le_of_ble_eq_true rfl, Nat.le_of_ble_eq_true rfl⟩ rfl (Nat.le_of_ble_eq_true rfl) (fun r4 h5 => ?_)
    refine Q_iastore (pc := 35) (DCa dc_Mod_layOut_0 21 rfl) (fun h6 => ?_)
    refine V_aload_n (pc := 36) (DCa dc_Mod_layOut_0 22 rfl) rfl 0 rfl ?_
    refine Q_getf (k := 53) (pc := 37) (DCa dc_Mod_layOut_0 23 rfl) cls_12 (Nat.le_of_ble_eq_true rfl) fl_12_125 rfl rfl rfl (fun v7 => ?_)
    refine V_iload_n (pc := 40) (DCa dc_Mod_layOut_0 24 rfl) rfl 1 rfl ?_
    refine V_aload_n (pc := 41) (DCa dc_Mod_layOut_0 25 rfl) rfl 0 rfl ?_
    refine V_iconst (pc := 42) (DCa dc_Mod_layOut_0 26 rfl) (by decide) ?_
    refine V_bipush (pc := 43) (DCa dc_Mod_layOut_0 27 rfl) (by decide) ?_
    refine V_iconst (pc := 45) (DCa dc_Mod_layOut_0 28 rfl) (by decide) ?_
    refine V_bipush (pc := 46) (DCa dc_Mod_layOut_0 29 rfl) (by decide) ?_
    refine Q_callv (ci := 12) (st := [(0, l1), (2, v7)]) (pc := 48) (DCa dc_Mod_layOut_0 30 rfl) (sp_Mod_tells F _ _ _ _ _ _) ce_Mod_tells ml_12_366 rfl rfl ⟨Nat.le_of_ble_eq_true rfl, Nat.le_of_ble_eq_true rfl⟩ rfl (Nat.le_of_ble_eq_true rfl) (fun r8 h9 => ?_)
    refine Q_iastore (pc := 51) (DCa dc_Mod_layOut_0 31 rfl) (fun h10 => ?_)
    refine V_iinc (ls' := [(0, 2, l0), (1, 0, w32 (l1 + 1))]) (pc := 52) (DCa dc_Mod_layOut_0 32 rfl) (Nat.le_of_ble_eq_true rfl) (by decide) 1 rfl rfl ?_
    refine V_goto (tgt := 2) (pc := 55) (DCa dc_Mod_layOut_0 33 rfl) (by decide) ?_
    exact hR2 _ _ _
  · refine V_iconst (pc := 58) (DCa dc_Mod_layOut_0 34 rfl) (by decide) ?_
    refine V_istore_n (ls' := [(0, 2, l0), (1, 0, 0)]) (pc := 59) (DCa dc_Mod_layOut_0 35 rfl) rfl (Nat.le_of_ble_eq_true rfl) rfl ?_
    exact v_Mod_layOut_L60 F F _ _ _
theorem v_Mod_layOut_L2 (F : Nat)  (n : Nat) : ∀ (l0 l1 : Int) (h : Hp), V X_Mod_layOut 2 [(0, 2, l0), (1, 0, l1)] [] h (Mod_layOut_L2 F  n l0 l1 h) := by
  induction n with
  | zero => intros; exact V_none
  | succ n ih => exact fun l0 l1 h => v_Mod_layOut_L2s F  _ ih l0 l1 h
theorem v_Mod_layOut (F : Nat) (l0 : Int) (h : Hp) : V X_Mod_layOut 0 [(0, 2, l0)] [] h (Mod_layOut F l0 h) := by
  unfold Mod_layOut
  refine V_iconst (pc := 0) (DCa dc_Mod_layOut_0 0 rfl) (by decide) ?_
  refine V_istore_n (ls' := [(0, 2, l0), (1, 0, 0)]) (pc := 1) (DCa dc_Mod_layOut_0 1 rfl) rfl (Nat.le_of_ble_eq_true rfl) rfl ?_
  exact v_Mod_layOut_L2 F F _ _ _
theorem sp_Mod_layOut (F : Nat) (l0 : Int) (h : Hp) : Sp yX12_layOut cX12_layOut 3 none 4 98 [(2, l0)] h (Mod_layOut F l0 h) := Sp_of (by decide +kernel) rfl rfl (Nat.le_of_ble_eq_true rfl) (v_Mod_layOut F l0 h)

-- TideRakesModel.plain
def Mod_plain_L53s (F : Nat)  (R53 : Int → Int → Int → Hp → Option (Int × Hp)) (l0 l1 l2 : Int) (h : Hp) : Option (Int × Hp) :=
  if l2 < 5 then
    (gf h l0 112 36 fun v15 =>
    as h v15 0 (w32 ((w32 (5 * l1)) + l2)) 0 fun h16 =>
    gf h16 l0 112 37 fun v17 =>
    as h16 v17 0 (w32 ((w32 (5 * l1)) + l2)) 0 fun h18 =>
    R53 l0 l1 (w32 (l2 + 1)) h18)
  else
    (some (0, h))
def Mod_plain_L53 (F : Nat)  : Nat → Int → Int → Int → Hp → Option (Int × Hp)
  | 0 => fun _ _ _ _ => none
  | n + 1 => Mod_plain_L53s F  (Mod_plain_L53 F  n)
def Mod_plain (F : Nat) (l0 l1 : Int) (h : Hp) : Option (Int × Hp) :=
  gf h l0 112 22 fun v1 =>
  as h v1 0 l1 0 fun h2 =>
  gf h2 l0 112 27 fun v3 =>
  as h2 v3 0 l1 0 fun h4 =>
  gf h4 l0 112 31 fun v5 =>
  as h4 v5 0 l1 1 fun h6 =>
  gf h6 l0 112 32 fun v7 =>
  as h6 v7 0 l1 600 fun h8 =>
  gf h8 l0 112 33 fun v9 =>
  as h8 v9 0 l1 0 fun h10 =>
  gf h10 l0 112 34 fun v11 =>
  as h10 v11 0 l1 0 fun h12 =>
  gf h12 l0 112 35 fun v13 =>
  as h12 v13 0 l1 0 fun h14 =>
  Mod_plain_L53 F F l0 l1 0 h14

theorem dc_Mod_plain_0 : ∀ q ∈ ([(0, .aload_n 0, 1), (1, .getfield 43, 3), (4, .iload_n 1, 1), (5, .iconst 0, 1), (6, .iastore, 1), (7, .aload_n 0, 1), (8, .getfield 58, 3), (11, .iload_n 1, 1), (12, .iconst 0, 1), (13, .iastore, 1), (14, .aload_n 0, 1), (15, .getfield 70, 3), (18, .iload_n 1, 1), (19, .iconst 1, 1), (20, .iastore, 1), (21, .aload_n 0, 1), (22, .getfield 73, 3), (25, .iload_n 1, 1), (26, .sipush 600, 3), (29, .iastore, 1), (30, .aload_n 0, 1), (31, .getfield 76, 3), (34, .iload_n 1, 1), (35, .iconst 0, 1), (36, .iastore, 1), (37, .aload_n 0, 1), (38, .getfield 79, 3), (41, .iload_n 1, 1), (42, .iconst 0, 1), (43, .iastore, 1), (44, .aload_n 0, 1), (45, .getfield 82, 3), (48, .iload_n 1, 1), (49, .iconst 0, 1), (50, .iastore, 1), (51, .iconst 0, 1), (52, .istore_n 2, 1), (53, .iload_n 2, 1), (54, .iconst 5, 1), (55, .if_icmp .ge 31, 3), (58, .aload_n 0, 1), (59, .getfield 85, 3), (62, .iconst 5, 1), (63, .iload_n 1, 1), (64, .imul, 1), (65, .iload_n 2, 1), (66, .iadd, 1), (67, .iconst 0, 1), (68, .iastore, 1), (69, .aload_n 0, 1)] : List (Nat × Instr × Nat)), decode cX12_plain q.1 = .ok (q.2.1, q.2.2) := by decide +kernel
theorem dc_Mod_plain_1 : ∀ q ∈ ([(70, .getfield 88, 3), (73, .iconst 5, 1), (74, .iload_n 1, 1), (75, .imul, 1), (76, .iload_n 2, 1), (77, .iadd, 1), (78, .iconst 0, 1), (79, .iastore, 1), (80, .iinc 2 1, 3), (83, .goto (-30), 3), (86, .return_, 1)] : List (Nat × Instr × Nat)), decode cX12_plain q.1 = .ok (q.2.1, q.2.2) := by decide +kernel
abbrev X_Mod_plain : MX := (cX12_plain, RX12, "plain", 3, none, 1, 20)
theorem v_Mod_plain_L53s (F : Nat)  (R53 : Int → Int → Int → Hp → Option (Int × Hp)) (hR53 : ∀ (l0 l1 l2 : Int) (h : Hp), V X_Mod_plain 53 [(0, 2, l0), (1, 0, l1), (2, 0, l2)] [] h (R53 l0 l1 l2 h)) (l0 l1 l2 : Int) (h : Hp) : V X_Mod_plain 53 [(0, 2, l0), (1, 0, l1), (2, 0, l2)] [] h (Mod_plain_L53s F  R53 l0 l1 l2 h) := by
  unfold Mod_plain_L53s
  refine V_iload_n (pc := 53) (DCa dc_Mod_plain_0 37 rfl) rfl 2 rfl ?_
  refine V_iconst (pc := 54) (DCa dc_Mod_plain_0 38 rfl) (by decide) ?_
  refine V_icmp_ge (tgt := 86) (pc := 55) (DCa dc_Mod_plain_0 39 rfl) (by decide) (fun _ => ?_) (fun _ => ?_)
  · refine V_aload_n (pc := 58) (DCa dc_Mod_plain_0 40 rfl) rfl 0 rfl ?_
    refine Q_getf (k := 36) (pc := 59) (DCa dc_Mod_plain_0 41 rfl) cls_12 (Nat.le_of_ble_eq_true rfl) fl_12_85 rfl rfl rfl (fun v15 => ?_)
    refine V_iconst (pc := 62) (DCa dc_Mod_plain_0 42 rfl) (by decide) ?_
    refine V_iload_n (pc := 63) (DCa dc_Mod_plain_0 43 rfl) rfl 1 rfl ?_
    refine V_imul (pc := 64) (DCa dc_Mod_plain_0 44 rfl) ?_
    refine V_iload_n (pc := 65) (DCa dc_Mod_plain_0 45 rfl) rfl 2 rfl ?_
    refine V_iadd (pc := 66) (DCa dc_Mod_plain_0 46 rfl) ?_
    refine V_iconst (pc := 67) (DCa dc_Mod_plain_0 47 rfl) (by decide) ?_
    refine Q_iastore (pc := 68) (DCa dc_Mod_plain_0 48 rfl) (fun h16 => ?_)
    refine V_aload_n (pc := 69) (DCa dc_Mod_plain_0 49 rfl) rfl 0 rfl ?_
    refine Q_getf (k := 37) (pc := 70) (DCa dc_Mod_plain_1 0 rfl) cls_12 (Nat.le_of_ble_eq_true rfl) fl_12_88 rfl rfl rfl (fun v17 => ?_)
    refine V_iconst (pc := 73) (DCa dc_Mod_plain_1 1 rfl) (by decide) ?_
    refine V_iload_n (pc := 74) (DCa dc_Mod_plain_1 2 rfl) rfl 1 rfl ?_
    refine V_imul (pc := 75) (DCa dc_Mod_plain_1 3 rfl) ?_
    refine V_iload_n (pc := 76) (DCa dc_Mod_plain_1 4 rfl) rfl 2 rfl ?_
    refine V_iadd (pc := 77) (DCa dc_Mod_plain_1 5 rfl) ?_
    refine V_iconst (pc := 78) (DCa dc_Mod_plain_1 6 rfl) (by decide) ?_
    refine Q_iastore (pc := 79) (DCa dc_Mod_plain_1 7 rfl) (fun h18 => ?_)
    refine V_iinc (ls' := [(0, 2, l0), (1, 0, l1), (2, 0, w32 (l2 + 1))]) (pc := 80) (DCa dc_Mod_plain_1 8 rfl) (Nat.le_of_ble_eq_true rfl) (by decide) 2 rfl rfl ?_
    refine V_goto (tgt := 53) (pc := 83) (DCa dc_Mod_plain_1 9 rfl) (by decide) ?_
    exact hR53 _ _ _ _
  · exact V_return (pc := 86) (DCa dc_Mod_plain_1 10 rfl) rfl
theorem v_Mod_plain_L53 (F : Nat)  (n : Nat) : ∀ (l0 l1 l2 : Int) (h : Hp), V X_Mod_plain 53 [(0, 2, l0), (1, 0, l1), (2, 0, l2)] [] h (Mod_plain_L53 F  n l0 l1 l2 h) := by
  induction n with
  | zero => intros; exact V_none
  | succ n ih => exact fun l0 l1 l2 h => v_Mod_plain_L53s F  _ ih l0 l1 l2 h
theorem v_Mod_plain (F : Nat) (l0 l1 : Int) (h : Hp) : V X_Mod_plain 0 [(0, 2, l0), (1, 0, l1)] [] h (Mod_plain F l0 l1 h) := by
  unfold Mod_plain
  refine V_aload_n (pc := 0) (DCa dc_Mod_plain_0 0 rfl) rfl 0 rfl ?_
  refine Q_getf (k := 22) (pc := 1) (DCa dc_Mod_plain_0 1 rfl) cls_12 (Nat.le_of_ble_eq_true rfl) fl_12_43 rfl rfl rfl (fun v1 => ?_)
  refine V_iload_n (pc := 4) (DCa dc_Mod_plain_0 2 rfl) rfl 1 rfl ?_
  refine V_iconst (pc := 5) (DCa dc_Mod_plain_0 3 rfl) (by decide) ?_
  refine Q_iastore (pc := 6) (DCa dc_Mod_plain_0 4 rfl) (fun h2 => ?_)
  refine V_aload_n (pc := 7) (DCa dc_Mod_plain_0 5 rfl) rfl 0 rfl ?_
  refine Q_getf (k := 27) (pc := 8) (DCa dc_Mod_plain_0 6 rfl) cls_12 (Nat.le_of_ble_eq_true rfl) fl_12_58 rfl rfl rfl (fun v3 => ?_)
  refine V_iload_n (pc := 11) (DCa dc_Mod_plain_0 7 rfl) rfl 1 rfl ?_
  refine V_iconst (pc := 12) (DCa dc_Mod_plain_0 8 rfl) (by decide) ?_
  refine Q_iastore (pc := 13) (DCa dc_Mod_plain_0 9 rfl) (fun h4 => ?_)
  refine V_aload_n (pc := 14) (DCa dc_Mod_plain_0 10 rfl) rfl 0 rfl ?_
  refine Q_getf (k := 31) (pc := 15) (DCa dc_Mod_plain_0 11 rfl) cls_12 (Nat.le_of_ble_eq_true rfl) fl_12_70 rfl rfl rfl (fun v5 => ?_)
  refine V_iload_n (pc := 18) (DCa dc_Mod_plain_0 12 rfl) rfl 1 rfl ?_
  refine V_iconst (pc := 19) (DCa dc_Mod_plain_0 13 rfl) (by decide) ?_
  refine Q_iastore (pc := 20) (DCa dc_Mod_plain_0 14 rfl) (fun h6 => ?_)
  refine V_aload_n (pc := 21) (DCa dc_Mod_plain_0 15 rfl) rfl 0 rfl ?_
  refine Q_getf (k := 32) (pc := 22) (DCa dc_Mod_plain_0 16 rfl) cls_12 (Nat.le_of_ble_eq_true rfl) fl_12_73 rfl rfl rfl (fun v7 => ?_)
  refine V_iload_n (pc := 25) (DCa dc_Mod_plain_0 17 rfl) rfl 1 rfl ?_
  refine V_sipush (pc := 26) (DCa dc_Mod_plain_0 18 rfl) (by decide) ?_
  refine Q_iastore (pc := 29) (DCa dc_Mod_plain_0 19 rfl) (fun h8 => ?_)
  refine V_aload_n (pc := 30) (DCa dc_Mod_plain_0 20 rfl) rfl 0 rfl ?_
  refine Q_getf (k := 33) (pc := 31) (DCa dc_Mod_plain_0 21 rfl) cls_12 (Nat.le_of_ble_eq_true rfl) fl_12_76 rfl rfl rfl (fun v9 => ?_)
  refine V_iload_n (pc := 34) (DCa dc_Mod_plain_0 22 rfl) rfl 1 rfl ?_
  refine V_iconst (pc := 35) (DCa dc_Mod_plain_0 23 rfl) (by decide) ?_
  refine Q_iastore (pc := 36) (DCa dc_Mod_plain_0 24 rfl) (fun h10 => ?_)
  refine V_aload_n (pc := 37) (DCa dc_Mod_plain_0 25 rfl) rfl 0 rfl ?_
  refine Q_getf (k := 34) (pc := 38) (DCa dc_Mod_plain_0 26 rfl) cls_12 (Nat.le_of_ble_eq_true rfl) fl_12_79 rfl rfl rfl (fun v11 => ?_)
  refine V_iload_n (pc := 41) (DCa dc_Mod_plain_0 27 rfl) rfl 1 rfl ?_
  refine V_iconst (pc := 42) (DCa dc_Mod_plain_0 28 rfl) (by decide) ?_
  refine Q_iastore (pc := 43) (DCa dc_Mod_plain_0 29 rfl) (fun h12 => ?_)
  refine V_aload_n (pc := 44) (DCa dc_Mod_plain_0 30 rfl) rfl 0 rfl ?_
  refine Q_getf (k := 35) (pc := 45) (DCa dc_Mod_plain_0 31 rfl) cls_12 (Nat.le_of_ble_eq_true rfl) fl_12_82 rfl rfl rfl (fun v13 => ?_)
  refine V_iload_n (pc := 48) (DCa dc_Mod_plain_0 32 rfl) rfl 1 rfl ?_
  refine V_iconst (pc := 49) (DCa dc_Mod_plain_0 33 rfl) (by decide) ?_
  refine Q_iastore (pc := 50) (DCa dc_Mod_plain_0 34 rfl) (fun h14 => ?_)
  refine V_iconst (pc := 51) (DCa dc_Mod_plain_0 35 rfl) (by decide) ?_
  refine V_istore_n (ls' := [(0, 2, l0), (1, 0, l1), (2, 0, 0)]) (pc := 52) (DCa dc_Mod_plain_0 36 rfl) rfl (Nat.le_of_ble_eq_true rfl) rfl ?_
  exact v_Mod_plain_L53 F F _ _ _ _
theorem sp_Mod_plain (F : Nat) (l0 l1 : Int) (h : Hp) : Sp yX12_plain cX12_plain 3 none 1 20 [(2, l0), (0, l1)] h (Mod_plain F l0 l1 h) := Sp_of (by decide +kernel) rfl rfl (Nat.le_of_ble_eq_true rfl) (v_Mod_plain F l0 l1 h)

-- TideRakesModel.appends
def Mod_appends (F : Nat) (l0 l2 : Int) (h : Hp) : Option (Int × Hp) :=
  if l2 = 0 then
    (some (l0, h))
  else
    (some (w64 ((w64 (27 * l0)) + (w32 ((w32 (l2 - 97)) + 1))), h))

theorem dc_Mod_appends_0 : ∀ q ∈ ([(0, .iload_n 2, 1), (1, .ifCond .ne 7, 3), (4, .lload_n 0, 1), (5, .goto 16, 3), (8, .ldc2_w 223, 3), (11, .lload_n 0, 1), (12, .lmul, 1), (13, .iload_n 2, 1), (14, .bipush 97, 2), (16, .isub, 1), (17, .iconst 1, 1), (18, .iadd, 1), (19, .i2l, 1), (20, .ladd, 1), (21, .lreturn, 1)] : List (Nat × Instr × Nat)), decode cX12_appends q.1 = .ok (q.2.1, q.2.2) := by decide +kernel
abbrev X_Mod_appends : MX := (cX12_appends, RX12, "appends", 3, (some (.long)), 1, 20)
theorem v_Mod_appends (F : Nat) (l0 l2 : Int) (h : Hp) : V X_Mod_appends 0 [(0, 1, l0), (2, 0, l2)] [] h (Mod_appends F l0 l2 h) := by
  unfold Mod_appends
  refine V_iload_n (pc := 0) (DCa dc_Mod_appends_0 0 rfl) rfl 1 rfl ?_
  refine V_if_ne (tgt := 8) (pc := 1) (DCa dc_Mod_appends_0 1 rfl) (by decide) (fun _ => ?_) (fun _ => ?_)
  · refine V_lload_n (pc := 4) (DCa dc_Mod_appends_0 2 rfl) rfl 0 rfl ?_
    refine V_goto (tgt := 21) (pc := 5) (DCa dc_Mod_appends_0 3 rfl) (by decide) ?_
    exact V_lreturn (pc := 21) (DCa dc_Mod_appends_0 14 rfl) rfl
  · refine V_ldc2 (v := 27) (x := 27) (pc := 8) (DCa dc_Mod_appends_0 4 rfl) (tb6 96 rfl rfl) rfl ?_
    refine V_lload_n (pc := 11) (DCa dc_Mod_appends_0 5 rfl) rfl 0 rfl ?_
    refine V_lmul (pc := 12) (DCa dc_Mod_appends_0 6 rfl) ?_
    refine V_iload_n (pc := 13) (DCa dc_Mod_appends_0 7 rfl) rfl 1 rfl ?_
    refine V_bipush (pc := 14) (DCa dc_Mod_appends_0 8 rfl) (by decide) ?_
    refine V_isub (pc := 16) (DCa dc_Mod_appends_0 9 rfl) ?_
    refine V_iconst (pc := 17) (DCa dc_Mod_appends_0 10 rfl) (by decide) ?_
    refine V_iadd (pc := 18) (DCa dc_Mod_appends_0 11 rfl) ?_
    refine V_i2l (pc := 19) (DCa dc_Mod_appends_0 12 rfl) ?_
    refine V_ladd (pc := 20) (DCa dc_Mod_appends_0 13 rfl) ?_
    exact V_lreturn (pc := 21) (DCa dc_Mod_appends_0 14 rfl) rfl
theorem sp_Mod_appends (F : Nat) (l0 l2 : Int) (h : Hp) : Sp yX12_appends cX12_appends 3 (some (.long)) 1 20 [(1, l0), (0, l2)] h (Mod_appends F l0 l2 h) := Sp_of (by decide +kernel) rfl rfl (Nat.le_of_ble_eq_true rfl) (v_Mod_appends F l0 l2 h)

-- TideRakesModel.word
def Mod_word (F : Nat) (l0 l1 l2 l3 l4 l5 l6 : Int) (h : Hp) : Option (Int × Hp) :=
  cl (Mod_appends F 0 l0 h) fun r1 h2 =>
  cl (Mod_appends F r1 l1 h2) fun r3 h4 =>
  cl (Mod_appends F r3 l2 h4) fun r5 h6 =>
  cl (Mod_appends F r5 l3 h6) fun r7 h8 =>
  cl (Mod_appends F r7 l4 h8) fun r9 h10 =>
  cl (Mod_appends F r9 l5 h10) fun r11 h12 =>
  cl (Mod_appends F r11 l6 h12) fun r13 h14 =>
  some (r13, h14)

theorem dc_Mod_word_0 : ∀ q ∈ ([(0, .lconst 0, 1), (1, .iload_n 0, 1), (2, .invokestatic 225, 3), (5, .iload_n 1, 1), (6, .invokestatic 225, 3), (9, .iload_n 2, 1), (10, .invokestatic 225, 3), (13, .iload_n 3, 1), (14, .invokestatic 225, 3), (17, .iload 4, 2), (19, .invokestatic 225, 3), (22, .iload 5, 2), (24, .invokestatic 225, 3), (27, .iload 6, 2), (29, .invokestatic 225, 3), (32, .lreturn, 1)] : List (Nat × Instr × Nat)), decode cX12_word q.1 = .ok (q.2.1, q.2.2) := by decide +kernel
abbrev X_Mod_word : MX := (cX12_word, RX12, "word", 7, (some (.long)), 2, 42)
theorem v_Mod_word (F : Nat) (l0 l1 l2 l3 l4 l5 l6 : Int) (h : Hp) : V X_Mod_word 0 [(0, 0, l0), (1, 0, l1), (2, 0, l2), (3, 0, l3), (4, 0, l4), (5, 0, l5), (6, 0, l6)] [] h (Mod_word F l0 l1 l2 l3 l4 l5 l6 h) := by
  unfold Mod_word
  refine V_lconst (x := 0) (pc := 0) (DCa dc_Mod_word_0 0 rfl) rfl ?_
  refine V_iload_n (pc := 1) (DCa dc_Mod_word_0 1 rfl) rfl 0 rfl ?_
  refine Q_calls (st := []) (pc := 2) (DCa dc_Mod_word_0 2 rfl) (sp_Mod_appends F _ _ _) ce_Mod_appends ml_12_225 rfl ⟨Nat.le_of_ble_eq_true rfl, Nat.le_of_ble_eq_true rfl⟩ rfl (Nat.le_of_ble_eq_true rfl) (fun r1 h2 => ?_)
  refine V_iload_n (pc := 5) (DCa dc_Mod_word_0 3 rfl) rfl 1 rfl ?_
  refine Q_calls (st := []) (pc := 6) (DCa dc_Mod_word_0 4 rfl) (sp_Mod_appends F _ _ _) ce_Mod_appends ml_12_225 rfl ⟨Nat.le_of_ble_eq_true rfl, Nat.le_of_ble_eq_true rfl⟩ rfl (Nat.le_of_ble_eq_true rfl) (fun r3 h4 => ?_)
  refine V_iload_n (pc := 9) (DCa dc_Mod_word_0 5 rfl) rfl 2 rfl ?_
  refine Q_calls (st := []) (pc := 10) (DCa dc_Mod_word_0 6 rfl) (sp_Mod_appends F _ _ _) ce_Mod_appends ml_12_225 rfl ⟨Nat.le_of_ble_eq_true rfl, Nat.le_of_ble_eq_true rfl⟩ rfl (Nat.le_of_ble_eq_true rfl) (fun r5 h6 => ?_)
  refine V_iload_n (pc := 13) (DCa dc_Mod_word_0 7 rfl) rfl 3 rfl ?_
  refine Q_calls (st := []) (pc := 14) (DCa dc_Mod_word_0 8 rfl) (sp_Mod_appends F _ _ _) ce_Mod_appends ml_12_225 rfl ⟨Nat.le_of_ble_eq_true rfl, Nat.le_of_ble_eq_true rfl⟩ rfl (Nat.le_of_ble_eq_true rfl) (fun r7 h8 => ?_)
  refine V_iload (pc := 17) (DCa dc_Mod_word_0 9 rfl) 4 rfl ?_
  refine Q_calls (st := []) (pc := 19) (DCa dc_Mod_word_0 10 rfl) (sp_Mod_appends F _ _ _) ce_Mod_appends ml_12_225 rfl ⟨Nat.le_of_ble_eq_true rfl, Nat.le_of_ble_eq_true rfl⟩ rfl (Nat.le_of_ble_eq_true rfl) (fun r9 h10 => ?_)
  refine V_iload (pc := 22) (DCa dc_Mod_word_0 11 rfl) 5 rfl ?_
  refine Q_calls (st := []) (pc := 24) (DCa dc_Mod_word_0 12 rfl) (sp_Mod_appends F _ _ _) ce_Mod_appends ml_12_225 rfl ⟨Nat.le_of_ble_eq_true rfl, Nat.le_of_ble_eq_true rfl⟩ rfl (Nat.le_of_ble_eq_true rfl) (fun r11 h12 => ?_)
  refine V_iload (pc := 27) (DCa dc_Mod_word_0 13 rfl) 6 rfl ?_
  refine Q_calls (st := []) (pc := 29) (DCa dc_Mod_word_0 14 rfl) (sp_Mod_appends F _ _ _) ce_Mod_appends ml_12_225 rfl ⟨Nat.le_of_ble_eq_true rfl, Nat.le_of_ble_eq_true rfl⟩ rfl (Nat.le_of_ble_eq_true rfl) (fun r13 h14 => ?_)
  exact V_lreturn (pc := 32) (DCa dc_Mod_word_0 15 rfl) rfl
theorem sp_Mod_word (F : Nat) (l0 l1 l2 l3 l4 l5 l6 : Int) (h : Hp) : Sp yX12_word cX12_word 7 (some (.long)) 2 42 [(0, l0), (0, l1), (0, l2), (0, l3), (0, l4), (0, l5), (0, l6)] h (Mod_word F l0 l1 l2 l3 l4 l5 l6 h) := Sp_of (by decide +kernel) rfl rfl (Nat.le_of_ble_eq_true rfl) (v_Mod_word F l0 l1 l2 l3 l4 l5 l6 h)

-- TideRakesModel.<init>
def Mod_init (F : Nat) (l0 : Int) (h : Hp) : Option (Int × Hp) :=
  vc h l0 112 <|
  na h 1 2000 fun v1 h2 =>
  pf h2 l0 112 1 v1 fun h3 =>
  na h3 1 2000 fun v4 h5 =>
  pf h5 l0 112 3 v4 fun h6 =>
  na h6 0 403 fun v7 h8 =>
  pf h8 l0 112 5 v7 fun h9 =>
  na h9 0 403 fun v10 h11 =>
  pf h11 l0 112 6 v10 fun h12 =>
  na h12 0 403 fun v13 h14 =>
  pf h14 l0 112 7 v13 fun h15 =>
  na h15 3 403 fun v16 h17 =>
  pf h17 l0 112 8 v16 fun h18 =>
  na h18 3 18 fun v19 h20 =>
  pf h20 l0 112 9 v19 fun h21 =>
  pf h21 l0 112 17 (-1) fun h22 =>
  na h22 3 11 fun v23 h24 =>
  pf h24 l0 112 21 v23 fun h25 =>
  na h25 0 2 fun v26 h27 =>
  pf h27 l0 112 22 v26 fun h28 =>
  na h28 0 16 fun v29 h30 =>
  pf h30 l0 112 23 v29 fun h31 =>
  na h31 0 16 fun v32 h33 =>
  pf h33 l0 112 24 v32 fun h34 =>
  na h34 0 16 fun v35 h36 =>
  pf h36 l0 112 25 v35 fun h37 =>
  na h37 0 16 fun v38 h39 =>
  pf h39 l0 112 26 v38 fun h40 =>
  na h40 0 2 fun v41 h42 =>
  pf h42 l0 112 27 v41 fun h43 =>
  na h43 0 6 fun v44 h45 =>
  pf h45 l0 112 28 v44 fun h46 =>
  na h46 0 6 fun v47 h48 =>
  pf h48 l0 112 29 v47 fun h49 =>
  na h49 0 6 fun v50 h51 =>
  pf h51 l0 112 30 v50 fun h52 =>
  na h52 0 2 fun v53 h54 =>
  pf h54 l0 112 31 v53 fun h55 =>
  na h55 0 2 fun v56 h57 =>
  pf h57 l0 112 32 v56 fun h58 =>
  na h58 0 2 fun v59 h60 =>
  pf h60 l0 112 33 v59 fun h61 =>
  na h61 0 2 fun v62 h63 =>
  pf h63 l0 112 34 v62 fun h64 =>
  na h64 0 2 fun v65 h66 =>
  pf h66 l0 112 35 v65 fun h67 =>
  na h67 0 10 fun v68 h69 =>
  pf h69 l0 112 36 v68 fun h70 =>
  na h70 0 10 fun v71 h72 =>
  pf h72 l0 112 37 v71 fun h73 =>
  na h73 2 260 fun v74 h75 =>
  pf h75 l0 112 39 v74 fun h76 =>
  na h76 0 260 fun v77 h78 =>
  pf h78 l0 112 40 v77 fun h79 =>
  na h79 0 260 fun v80 h81 =>
  pf h81 l0 112 41 v80 fun h82 =>
  na h82 0 260 fun v83 h84 =>
  pf h84 l0 112 42 v83 fun h85 =>
  na h85 0 260 fun v86 h87 =>
  pf h87 l0 112 43 v86 fun h88 =>
  na h88 0 840 fun v89 h90 =>
  pf h90 l0 112 45 v89 fun h91 =>
  na h91 0 840 fun v92 h93 =>
  pf h93 l0 112 46 v92 fun h94 =>
  na h94 0 64 fun v95 h96 =>
  pf h96 l0 112 47 v95 fun h97 =>
  na h97 0 5 fun v98 h99 =>
  pf h99 l0 112 49 v98 fun h100 =>
  na h100 0 400 fun v101 h102 =>
  pf h102 l0 112 50 v101 fun h103 =>
  na h103 0 600 fun v104 h105 =>
  pf h105 l0 112 52 v104 fun h106 =>
  na h106 0 600 fun v107 h108 =>
  pf h108 l0 112 53 v107 fun h109 =>
  na h109 0 4800 fun v110 h111 =>
  pf h111 l0 112 54 v110 fun h112 =>
  na h112 0 16 fun v113 h114 =>
  pf h114 l0 112 55 v113 fun h115 =>
  na h115 0 16 fun v116 h117 =>
  pf h117 l0 112 56 v116 fun h118 =>
  na h118 0 16 fun v119 h120 =>
  pf h120 l0 112 57 v119 fun h121 =>
  na h121 0 16 fun v122 h123 =>
  pf h123 l0 112 58 v122 fun h124 =>
  na h124 0 9600 fun v125 h126 =>
  pf h126 l0 112 59 v125 fun h127 =>
  na h127 0 9600 fun v128 h129 =>
  pf h129 l0 112 60 v128 fun h130 =>
  na h130 0 9616 fun v131 h132 =>
  pf h132 l0 112 61 v131 fun h133 =>
  na h133 0 140 fun v134 h135 =>
  pf h135 l0 112 62 v134 fun h136 =>
  na h136 0 140 fun v137 h138 =>
  pf h138 l0 112 63 v137 fun h139 =>
  na h139 0 5600 fun v140 h141 =>
  pf h141 l0 112 65 v140 fun h142 =>
  na h142 0 2048 fun v143 h144 =>
  pf h144 l0 112 66 v143 fun h145 =>
  na h145 0 8 fun v146 h147 =>
  pf h147 l0 112 72 v146 fun h148 =>
  na h148 2 768 fun v149 h150 =>
  pf h150 l0 112 74 v149 fun h151 =>
  na h151 2 256 fun v152 h153 =>
  pf h153 l0 112 75 v152 fun h154 =>
  na h154 2 256 fun v155 h156 =>
  pf h156 l0 112 76 v155 fun h157 =>
  na h157 0 8 fun v158 h159 =>
  pf h159 l0 112 77 v158 fun h160 =>
  na h160 0 8 fun v161 h162 =>
  pf h162 l0 112 78 v161 fun h163 =>
  na h163 0 20 fun v164 h165 =>
  pf h165 l0 112 81 v164 fun h166 =>
  na h166 0 20 fun v167 h168 =>
  pf h168 l0 112 82 v167 fun h169 =>
  na h169 2 20 fun v170 h171 =>
  pf h171 l0 112 83 v170 fun h172 =>
  na h172 2 3 fun v173 h174 =>
  pf h174 l0 112 84 v173 fun h175 =>
  na h175 0 420 fun v176 h177 =>
  pf h177 l0 112 85 v176 fun h178 =>
  iv h178 l0 112 (Mod_plain F l0 0 h178) fun r179 h180 =>
  gf h180 l0 112 9 fun v181 =>
  cl (Mod_word F 112 97 114 116 0 0 0 h180) fun r182 h183 =>
  as h183 v181 3 0 r182 fun h184 =>
  gf h184 l0 112 9 fun v185 =>
  cl (Mod_word F 119 111 114 107 101 114 0 h184) fun r186 h187 =>
  as h187 v185 3 1 r186 fun h188 =>
  gf h188 l0 112 9 fun v189 =>
  cl (Mod_word F 104 105 103 104 0 0 0 h188) fun r190 h191 =>
  as h191 v189 3 2 r190 fun h192 =>
  gf h192 l0 112 9 fun v193 =>
  cl (Mod_word F 116 105 100 101 0 0 0 h192) fun r194 h195 =>
  as h195 v193 3 3 r194 fun h196 =>
  gf h196 l0 112 9 fun v197 =>
  cl (Mod_word F 115 117 110 0 0 0 0 h196) fun r198 h199 =>
  as h199 v197 3 4 r198 fun h200 =>
  gf h200 l0 112 9 fun v201 =>
  cl (Mod_word F 115 108 105 112 0 0 0 h200) fun r202 h203 =>
  as h203 v201 3 5 r202 fun h204 =>
  gf h204 l0 112 9 fun v205 =>
  cl (Mod_word F 100 111 103 0 0 0 0 h204) fun r206 h207 =>
  as h207 v205 3 6 r206 fun h208 =>
  gf h208 l0 112 9 fun v209 =>
  cl (Mod_word F 104 111 108 100 115 0 0 h208) fun r210 h211 =>
  as h211 v209 3 7 r210 fun h212 =>
  gf h212 l0 112 9 fun v213 =>
  cl (Mod_word F 112 101 103 0 0 0 0 h212) fun r214 h215 =>
  as h215 v213 3 8 r214 fun h216 =>
  gf h216 l0 112 9 fun v217 =>
  cl (Mod_word F 115 101 101 100 0 0 0 h216) fun r218 h219 =>
  as h219 v217 3 9 r218 fun h220 =>
  gf h220 l0 112 9 fun v221 =>
  cl (Mod_word F 105 102 0 0 0 0 0 h220) fun r222 h223 =>
  as h223 v221 3 10 r222 fun h224 =>
  gf h224 l0 112 9 fun v225 =>
  cl (Mod_word F 116 104 101 110 0 0 0 h224) fun r226 h227 =>
  as h227 v225 3 11 r226 fun h228 =>
  gf h228 l0 112 9 fun v229 =>
  cl (Mod_word F 101 108 115 101 0 0 0 h228) fun r230 h231 =>
  as h231 v229 3 12 r230 fun h232 =>
  gf h232 l0 112 9 fun v233 =>
  cl (Mod_word F 120 0 0 0 0 0 0 h232) fun r234 h235 =>
  as h235 v233 3 13 r234 fun h236 =>
  gf h236 l0 112 9 fun v237 =>
  cl (Mod_word F 121 0 0 0 0 0 0 h236) fun r238 h239 =>
  as h239 v237 3 14 r238 fun h240 =>
  gf h240 l0 112 9 fun v241 =>
  cl (Mod_word F 109 105 110 117 116 101 0 h240) fun r242 h243 =>
  as h243 v241 3 15 r242 fun h244 =>
  gf h244 l0 112 9 fun v245 =>
  cl (Mod_word F 102 97 114 0 0 0 0 h244) fun r246 h247 =>
  as h247 v245 3 16 r246 fun h248 =>
  gf h248 l0 112 9 fun v249 =>
  cl (Mod_word F 111 102 102 0 0 0 0 h248) fun r250 h251 =>
  as h251 v249 3 17 r250 fun h252 =>
  iv h252 l0 112 (Mod_layOut F l0 h252) fun r253 h254 =>
  iv h254 l0 112 (Mod_begins F l0 h254) fun r255 h256 =>
  iv h256 l0 112 (Mod_keepsRow F l0 h256) fun r257 h258 =>
  some (0, h258)

theorem dc_Mod_init_0 : ∀ q ∈ ([(0, .aload_n 0, 1), (1, .invokespecial 7, 3), (4, .aload_n 0, 1), (5, .sipush 2000, 3), (8, .newarray .byte, 2), (10, .putfield 13, 3), (13, .aload_n 0, 1), (14, .sipush 2000, 3), (17, .newarray .byte, 2), (19, .putfield 17, 3), (22, .aload_n 0, 1), (23, .sipush 403, 3), (26, .newarray .int, 2), (28, .putfield 20, 3), (31, .aload_n 0, 1), (32, .sipush 403, 3), (35, .newarray .int, 2), (37, .putfield 24, 3), (40, .aload_n 0, 1), (41, .sipush 403, 3), (44, .newarray .int, 2), (46, .putfield 27, 3), (49, .aload_n 0, 1), (50, .sipush 403, 3), (53, .newarray .long, 2), (55, .putfield 30, 3), (58, .aload_n 0, 1), (59, .bipush 18, 2), (61, .newarray .long, 2), (63, .putfield 34, 3), (66, .aload_n 0, 1), (67, .iconst (-1), 1), (68, .putfield 37, 3), (71, .aload_n 0, 1), (72, .bipush 11, 2), (74, .newarray .long, 2), (76, .putfield 40, 3), (79, .aload_n 0, 1), (80, .iconst 2, 1), (81, .newarray .int, 2), (83, .putfield 43, 3), (86, .aload_n 0, 1), (87, .bipush 16, 2), (89, .newarray .int, 2), (91, .putfield 46, 3), (94, .aload_n 0, 1), (95, .bipush 16, 2), (97, .newarray .int, 2), (99, .putfield 49, 3), (102, .aload_n 0, 1)] : List (Nat × Instr × Nat)), decode cX12_init q.1 = .ok (q.2.1, q.2.2) := by decide +kernel
theorem dc_Mod_init_1 : ∀ q ∈ ([(103, .bipush 16, 2), (105, .newarray .int, 2), (107, .putfield 52, 3), (110, .aload_n 0, 1), (111, .bipush 16, 2), (113, .newarray .int, 2), (115, .putfield 55, 3), (118, .aload_n 0, 1), (119, .iconst 2, 1), (120, .newarray .int, 2), (122, .putfield 58, 3), (125, .aload_n 0, 1), (126, .bipush 6, 2), (128, .newarray .int, 2), (130, .putfield 61, 3), (133, .aload_n 0, 1), (134, .bipush 6, 2), (136, .newarray .int, 2), (138, .putfield 64, 3), (141, .aload_n 0, 1), (142, .bipush 6, 2), (144, .newarray .int, 2), (146, .putfield 67, 3), (149, .aload_n 0, 1), (150, .iconst 2, 1), (151, .newarray .int, 2), (153, .putfield 70, 3), (156, .aload_n 0, 1), (157, .iconst 2, 1), (158, .newarray .int, 2), (160, .putfield 73, 3), (163, .aload_n 0, 1), (164, .iconst 2, 1), (165, .newarray .int, 2), (167, .putfield 76, 3), (170, .aload_n 0, 1), (171, .iconst 2, 1), (172, .newarray .int, 2), (174, .putfield 79, 3), (177, .aload_n 0, 1), (178, .iconst 2, 1), (179, .newarray .int, 2), (181, .putfield 82, 3), (184, .aload_n 0, 1), (185, .bipush 10, 2), (187, .newarray .int, 2), (189, .putfield 85, 3), (192, .aload_n 0, 1), (193, .bipush 10, 2), (195, .newarray .int, 2)] : List (Nat × Instr × Nat)), decode cX12_init q.1 = .ok (q.2.1, q.2.2) := by decide +kernel
theorem dc_Mod_init_2 : ∀ q ∈ ([(197, .putfield 88, 3), (200, .aload_n 0, 1), (201, .sipush 260, 3), (204, .newarray .boolean, 2), (206, .putfield 91, 3), (209, .aload_n 0, 1), (210, .sipush 260, 3), (213, .newarray .int, 2), (215, .putfield 95, 3), (218, .aload_n 0, 1), (219, .sipush 260, 3), (222, .newarray .int, 2), (224, .putfield 98, 3), (227, .aload_n 0, 1), (228, .sipush 260, 3), (231, .newarray .int, 2), (233, .putfield 101, 3), (236, .aload_n 0, 1), (237, .sipush 260, 3), (240, .newarray .int, 2), (242, .putfield 104, 3), (245, .aload_n 0, 1), (246, .sipush 840, 3), (249, .newarray .int, 2), (251, .putfield 107, 3), (254, .aload_n 0, 1), (255, .sipush 840, 3), (258, .newarray .int, 2), (260, .putfield 110, 3), (263, .aload_n 0, 1), (264, .bipush 64, 2), (266, .newarray .int, 2), (268, .putfield 113, 3), (271, .aload_n 0, 1), (272, .iconst 5, 1), (273, .newarray .int, 2), (275, .putfield 116, 3), (278, .aload_n 0, 1), (279, .sipush 400, 3), (282, .newarray .int, 2), (284, .putfield 119, 3), (287, .aload_n 0, 1), (288, .sipush 600, 3), (291, .newarray .int, 2), (293, .putfield 122, 3), (296, .aload_n 0, 1), (297, .sipush 600, 3), (300, .newarray .int, 2), (302, .putfield 125, 3), (305, .aload_n 0, 1)] : List (Nat × Instr × Nat)), decode cX12_init q.1 = .ok (q.2.1, q.2.2) := by decide +kernel
theorem dc_Mod_init_3 : ∀ q ∈ ([(306, .sipush 4800, 3), (309, .newarray .int, 2), (311, .putfield 128, 3), (314, .aload_n 0, 1), (315, .bipush 16, 2), (317, .newarray .int, 2), (319, .putfield 131, 3), (322, .aload_n 0, 1), (323, .bipush 16, 2), (325, .newarray .int, 2), (327, .putfield 134, 3), (330, .aload_n 0, 1), (331, .bipush 16, 2), (333, .newarray .int, 2), (335, .putfield 137, 3), (338, .aload_n 0, 1), (339, .bipush 16, 2), (341, .newarray .int, 2), (343, .putfield 140, 3), (346, .aload_n 0, 1), (347, .sipush 9600, 3), (350, .newarray .int, 2), (352, .putfield 143, 3), (355, .aload_n 0, 1), (356, .sipush 9600, 3), (359, .newarray .int, 2), (361, .putfield 146, 3), (364, .aload_n 0, 1), (365, .sipush 9616, 3), (368, .newarray .int, 2), (370, .putfield 149, 3), (373, .aload_n 0, 1), (374, .sipush 140, 3), (377, .newarray .int, 2), (379, .putfield 152, 3), (382, .aload_n 0, 1), (383, .sipush 140, 3), (386, .newarray .int, 2), (388, .putfield 155, 3), (391, .aload_n 0, 1), (392, .sipush 5600, 3), (395, .newarray .int, 2), (397, .putfield 158, 3), (400, .aload_n 0, 1), (401, .sipush 2048, 3), (404, .newarray .int, 2), (406, .putfield 161, 3), (409, .aload_n 0, 1), (410, .bipush 8, 2), (412, .newarray .int, 2)] : List (Nat × Instr × Nat)), decode cX12_init q.1 = .ok (q.2.1, q.2.2) := by decide +kernel
theorem dc_Mod_init_4 : ∀ q ∈ ([(414, .putfield 164, 3), (417, .aload_n 0, 1), (418, .sipush 768, 3), (421, .newarray .boolean, 2), (423, .putfield 167, 3), (426, .aload_n 0, 1), (427, .sipush 256, 3), (430, .newarray .boolean, 2), (432, .putfield 170, 3), (435, .aload_n 0, 1), (436, .sipush 256, 3), (439, .newarray .boolean, 2), (441, .putfield 173, 3), (444, .aload_n 0, 1), (445, .bipush 8, 2), (447, .newarray .int, 2), (449, .putfield 176, 3), (452, .aload_n 0, 1), (453, .bipush 8, 2), (455, .newarray .int, 2), (457, .putfield 179, 3), (460, .aload_n 0, 1), (461, .bipush 20, 2), (463, .newarray .int, 2), (465, .putfield 182, 3), (468, .aload_n 0, 1), (469, .bipush 20, 2), (471, .newarray .int, 2), (473, .putfield 185, 3), (476, .aload_n 0, 1), (477, .bipush 20, 2), (479, .newarray .boolean, 2), (481, .putfield 188, 3), (484, .aload_n 0, 1), (485, .iconst 3, 1), (486, .newarray .boolean, 2), (488, .putfield 191, 3), (491, .aload_n 0, 1), (492, .sipush 420, 3), (495, .newarray .int, 2), (497, .putfield 194, 3), (500, .aload_n 0, 1), (501, .iconst 0, 1), (502, .invokevirtual 197, 3), (505, .aload_n 0, 1), (506, .getfield 34, 3), (509, .iconst 0, 1), (510, .bipush 112, 2), (512, .bipush 97, 2), (514, .bipush 114, 2)] : List (Nat × Instr × Nat)), decode cX12_init q.1 = .ok (q.2.1, q.2.2) := by decide +kernel
theorem dc_Mod_init_5 : ∀ q ∈ ([(516, .bipush 116, 2), (518, .iconst 0, 1), (519, .iconst 0, 1), (520, .iconst 0, 1), (521, .invokestatic 201, 3), (524, .lastore, 1), (525, .aload_n 0, 1), (526, .getfield 34, 3), (529, .iconst 1, 1), (530, .bipush 119, 2), (532, .bipush 111, 2), (534, .bipush 114, 2), (536, .bipush 107, 2), (538, .bipush 101, 2), (540, .bipush 114, 2), (542, .iconst 0, 1), (543, .invokestatic 201, 3), (546, .lastore, 1), (547, .aload_n 0, 1), (548, .getfield 34, 3), (551, .iconst 2, 1), (552, .bipush 104, 2), (554, .bipush 105, 2), (556, .bipush 103, 2), (558, .bipush 104, 2), (560, .iconst 0, 1), (561, .iconst 0, 1), (562, .iconst 0, 1), (563, .invokestatic 201, 3), (566, .lastore, 1), (567, .aload_n 0, 1), (568, .getfield 34, 3), (571, .iconst 3, 1), (572, .bipush 116, 2), (574, .bipush 105, 2), (576, .bipush 100, 2), (578, .bipush 101, 2), (580, .iconst 0, 1), (581, .iconst 0, 1), (582, .iconst 0, 1), (583, .invokestatic 201, 3), (586, .lastore, 1), (587, .aload_n 0, 1), (588, .getfield 34, 3), (591, .iconst 4, 1), (592, .bipush 115, 2), (594, .bipush 117, 2), (596, .bipush 110, 2), (598, .iconst 0, 1), (599, .iconst 0, 1)] : List (Nat × Instr × Nat)), decode cX12_init q.1 = .ok (q.2.1, q.2.2) := by decide +kernel
theorem dc_Mod_init_6 : ∀ q ∈ ([(600, .iconst 0, 1), (601, .iconst 0, 1), (602, .invokestatic 201, 3), (605, .lastore, 1), (606, .aload_n 0, 1), (607, .getfield 34, 3), (610, .iconst 5, 1), (611, .bipush 115, 2), (613, .bipush 108, 2), (615, .bipush 105, 2), (617, .bipush 112, 2), (619, .iconst 0, 1), (620, .iconst 0, 1), (621, .iconst 0, 1), (622, .invokestatic 201, 3), (625, .lastore, 1), (626, .aload_n 0, 1), (627, .getfield 34, 3), (630, .bipush 6, 2), (632, .bipush 100, 2), (634, .bipush 111, 2), (636, .bipush 103, 2), (638, .iconst 0, 1), (639, .iconst 0, 1), (640, .iconst 0, 1), (641, .iconst 0, 1), (642, .invokestatic 201, 3), (645, .lastore, 1), (646, .aload_n 0, 1), (647, .getfield 34, 3), (650, .bipush 7, 2), (652, .bipush 104, 2), (654, .bipush 111, 2), (656, .bipush 108, 2), (658, .bipush 100, 2), (660, .bipush 115, 2), (662, .iconst 0, 1), (663, .iconst 0, 1), (664, .invokestatic 201, 3), (667, .lastore, 1), (668, .aload_n 0, 1), (669, .getfield 34, 3), (672, .bipush 8, 2), (674, .bipush 112, 2), (676, .bipush 101, 2), (678, .bipush 103, 2), (680, .iconst 0, 1), (681, .iconst 0, 1), (682, .iconst 0, 1), (683, .iconst 0, 1)] : List (Nat × Instr × Nat)), decode cX12_init q.1 = .ok (q.2.1, q.2.2) := by decide +kernel
theorem dc_Mod_init_7 : ∀ q ∈ ([(684, .invokestatic 201, 3), (687, .lastore, 1), (688, .aload_n 0, 1), (689, .getfield 34, 3), (692, .bipush 9, 2), (694, .bipush 115, 2), (696, .bipush 101, 2), (698, .bipush 101, 2), (700, .bipush 100, 2), (702, .iconst 0, 1), (703, .iconst 0, 1), (704, .iconst 0, 1), (705, .invokestatic 201, 3), (708, .lastore, 1), (709, .aload_n 0, 1), (710, .getfield 34, 3), (713, .bipush 10, 2), (715, .bipush 105, 2), (717, .bipush 102, 2), (719, .iconst 0, 1), (720, .iconst 0, 1), (721, .iconst 0, 1), (722, .iconst 0, 1), (723, .iconst 0, 1), (724, .invokestatic 201, 3), (727, .lastore, 1), (728, .aload_n 0, 1), (729, .getfield 34, 3), (732, .bipush 11, 2), (734, .bipush 116, 2), (736, .bipush 104, 2), (738, .bipush 101, 2), (740, .bipush 110, 2), (742, .iconst 0, 1), (743, .iconst 0, 1), (744, .iconst 0, 1), (745, .invokestatic 201, 3), (748, .lastore, 1), (749, .aload_n 0, 1), (750, .getfield 34, 3), (753, .bipush 12, 2), (755, .bipush 101, 2), (757, .bipush 108, 2), (759, .bipush 115, 2), (761, .bipush 101, 2), (763, .iconst 0, 1), (764, .iconst 0, 1), (765, .iconst 0, 1), (766, .invokestatic 201, 3), (769, .lastore, 1)] : List (Nat × Instr × Nat)), decode cX12_init q.1 = .ok (q.2.1, q.2.2) := by decide +kernel
theorem dc_Mod_init_8 : ∀ q ∈ ([(770, .aload_n 0, 1), (771, .getfield 34, 3), (774, .bipush 13, 2), (776, .bipush 120, 2), (778, .iconst 0, 1), (779, .iconst 0, 1), (780, .iconst 0, 1), (781, .iconst 0, 1), (782, .iconst 0, 1), (783, .iconst 0, 1), (784, .invokestatic 201, 3), (787, .lastore, 1), (788, .aload_n 0, 1), (789, .getfield 34, 3), (792, .bipush 14, 2), (794, .bipush 121, 2), (796, .iconst 0, 1), (797, .iconst 0, 1), (798, .iconst 0, 1), (799, .iconst 0, 1), (800, .iconst 0, 1), (801, .iconst 0, 1), (802, .invokestatic 201, 3), (805, .lastore, 1), (806, .aload_n 0, 1), (807, .getfield 34, 3), (810, .bipush 15, 2), (812, .bipush 109, 2), (814, .bipush 105, 2), (816, .bipush 110, 2), (818, .bipush 117, 2), (820, .bipush 116, 2), (822, .bipush 101, 2), (824, .iconst 0, 1), (825, .invokestatic 201, 3), (828, .lastore, 1), (829, .aload_n 0, 1), (830, .getfield 34, 3), (833, .bipush 16, 2), (835, .bipush 102, 2), (837, .bipush 97, 2), (839, .bipush 114, 2), (841, .iconst 0, 1), (842, .iconst 0, 1), (843, .iconst 0, 1), (844, .iconst 0, 1), (845, .invokestatic 201, 3), (848, .lastore, 1), (849, .aload_n 0, 1), (850, .getfield 34, 3)] : List (Nat × Instr × Nat)), decode cX12_init q.1 = .ok (q.2.1, q.2.2) := by decide +kernel
theorem dc_Mod_init_9 : ∀ q ∈ ([(853, .bipush 17, 2), (855, .bipush 111, 2), (857, .bipush 102, 2), (859, .bipush 102, 2), (861, .iconst 0, 1), (862, .iconst 0, 1), (863, .iconst 0, 1), (864, .iconst 0, 1), (865, .invokestatic 201, 3), (868, .lastore, 1), (869, .aload_n 0, 1), (870, .invokevirtual 205, 3), (873, .aload_n 0, 1), (874, .invokevirtual 208, 3), (877, .aload_n 0, 1), (878, .invokevirtual 211, 3), (881, .return_, 1)] : List (Nat × Instr × Nat)), decode cX12_init q.1 = .ok (q.2.1, q.2.2) := by decide +kernel
abbrev X_Mod_init : MX := (cX12_init, RX12, "<init>", 1, none, 5, 120)
theorem v_Mod_init (F : Nat) (l0 : Int) (h : Hp) : V X_Mod_init 0 [(0, 2, l0)] [] h (Mod_init F l0 h) := by
  unfold Mod_init
  refine V_aload_n (pc := 0) (DCa dc_Mod_init_0 0 rfl) rfl 0 rfl ?_
  refine Q_objinit (pc := 1) (DCa dc_Mod_init_0 1 rfl) (tb6 85 rfl rfl) oi_i oi_c ⟨Nat.le_of_ble_eq_true rfl, Nat.le_of_ble_eq_true rfl⟩ ?_
  refine V_aload_n (pc := 4) (DCa dc_Mod_init_0 2 rfl) rfl 0 rfl ?_
  refine V_sipush (pc := 5) (DCa dc_Mod_init_0 3 rfl) (by decide) ?_
  refine Q_newa (pc := 8) (DCa dc_Mod_init_0 4 rfl) nas_1 (fun v1 h2 => ?_)
  refine Q_putf (k := 1) (pc := 10) (DCa dc_Mod_init_0 5 rfl) cls_12 (Nat.le_of_ble_eq_true rfl) fl_12_13 rfl rfl rfl (Or.inr ⟨rfl, rfl, rfl⟩) (Or.inr ⟨Or.inr ⟨_, rfl⟩, rfl⟩) (fun h3 => ?_)
  refine V_aload_n (pc := 13) (DCa dc_Mod_init_0 6 rfl) rfl 0 rfl ?_
  refine V_sipush (pc := 14) (DCa dc_Mod_init_0 7 rfl) (by decide) ?_
  refine Q_newa (pc := 17) (DCa dc_Mod_init_0 8 rfl) nas_1 (fun v4 h5 => ?_)
  refine Q_putf (k := 3) (pc := 19) (DCa dc_Mod_init_0 9 rfl) cls_12 (Nat.le_of_ble_eq_true rfl) fl_12_17 rfl rfl rfl (Or.inr ⟨rfl, rfl, rfl⟩) (Or.inr ⟨Or.inr ⟨_, rfl⟩, rfl⟩) (fun h6 => ?_)
  refine V_aload_n (pc := 22) (DCa dc_Mod_init_0 10 rfl) rfl 0 rfl ?_
  refine V_sipush (pc := 23) (DCa dc_Mod_init_0 11 rfl) (by decide) ?_
  refine Q_newa (pc := 26) (DCa dc_Mod_init_0 12 rfl) nas_0 (fun v7 h8 => ?_)
  refine Q_putf (k := 5) (pc := 28) (DCa dc_Mod_init_0 13 rfl) cls_12 (Nat.le_of_ble_eq_true rfl) fl_12_20 rfl rfl rfl (Or.inr ⟨rfl, rfl, rfl⟩) (Or.inr ⟨Or.inr ⟨_, rfl⟩, rfl⟩) (fun h9 => ?_)
  refine V_aload_n (pc := 31) (DCa dc_Mod_init_0 14 rfl) rfl 0 rfl ?_
  refine V_sipush (pc := 32) (DCa dc_Mod_init_0 15 rfl) (by decide) ?_
  refine Q_newa (pc := 35) (DCa dc_Mod_init_0 16 rfl) nas_0 (fun v10 h11 => ?_)
  refine Q_putf (k := 6) (pc := 37) (DCa dc_Mod_init_0 17 rfl) cls_12 (Nat.le_of_ble_eq_true rfl) fl_12_24 rfl rfl rfl (Or.inr ⟨rfl, rfl, rfl⟩) (Or.inr ⟨Or.inr ⟨_, rfl⟩, rfl⟩) (fun h12 => ?_)
  refine V_aload_n (pc := 40) (DCa dc_Mod_init_0 18 rfl) rfl 0 rfl ?_
  refine V_sipush (pc := 41) (DCa dc_Mod_init_0 19 rfl) (by decide) ?_
  refine Q_newa (pc := 44) (DCa dc_Mod_init_0 20 rfl) nas_0 (fun v13 h14 => ?_)
  refine Q_putf (k := 7) (pc := 46) (DCa dc_Mod_init_0 21 rfl) cls_12 (Nat.le_of_ble_eq_true rfl) fl_12_27 rfl rfl rfl (Or.inr ⟨rfl, rfl, rfl⟩) (Or.inr ⟨Or.inr ⟨_, rfl⟩, rfl⟩) (fun h15 => ?_)
  refine V_aload_n (pc := 49) (DCa dc_Mod_init_0 22 rfl) rfl 0 rfl ?_
  refine V_sipush (pc := 50) (DCa dc_Mod_init_0 23 rfl) (by decide) ?_
  refine Q_newa (pc := 53) (DCa dc_Mod_init_0 24 rfl) nas_3 (fun v16 h17 => ?_)
  refine Q_putf (k := 8) (pc := 55) (DCa dc_Mod_init_0 25 rfl) cls_12 (Nat.le_of_ble_eq_true rfl) fl_12_30 rfl rfl rfl (Or.inr ⟨rfl, rfl, rfl⟩) (Or.inr ⟨Or.inr ⟨_, rfl⟩, rfl⟩) (fun h18 => ?_)
  refine V_aload_n (pc := 58) (DCa dc_Mod_init_0 26 rfl) rfl 0 rfl ?_
  refine V_bipush (pc := 59) (DCa dc_Mod_init_0 27 rfl) (by decide) ?_
  refine Q_newa (pc := 61) (DCa dc_Mod_init_0 28 rfl) nas_3 (fun v19 h20 => ?_)
  refine Q_putf (k := 9) (pc := 63) (DCa dc_Mod_init_0 29 rfl) cls_12 (Nat.le_of_ble_eq_true rfl) fl_12_34 rfl rfl rfl (Or.inr ⟨rfl, rfl, rfl⟩) (Or.inr ⟨Or.inr ⟨_, rfl⟩, rfl⟩) (fun h21 => ?_)
  refine V_aload_n (pc := 66) (DCa dc_Mod_init_0 30 rfl) rfl 0 rfl ?_
  refine V_iconst (pc := 67) (DCa dc_Mod_init_0 31 rfl) (by decide) ?_
  refine Q_putf (k := 17) (pc := 68) (DCa dc_Mod_init_0 32 rfl) cls_12 (Nat.le_of_ble_eq_true rfl) fl_12_37 rfl rfl rfl (Or.inl rfl) (Or.inl ⟨rfl, rfl⟩) (fun h22 => ?_)
  refine V_aload_n (pc := 71) (DCa dc_Mod_init_0 33 rfl) rfl 0 rfl ?_
  refine V_bipush (pc := 72) (DCa dc_Mod_init_0 34 rfl) (by decide) ?_
  refine Q_newa (pc := 74) (DCa dc_Mod_init_0 35 rfl) nas_3 (fun v23 h24 => ?_)
  refine Q_putf (k := 21) (pc := 76) (DCa dc_Mod_init_0 36 rfl) cls_12 (Nat.le_of_ble_eq_true rfl) fl_12_40 rfl rfl rfl (Or.inr ⟨rfl, rfl, rfl⟩) (Or.inr ⟨Or.inr ⟨_, rfl⟩, rfl⟩) (fun h25 => ?_)
  refine V_aload_n (pc := 79) (DCa dc_Mod_init_0 37 rfl) rfl 0 rfl ?_
  refine V_iconst (pc := 80) (DCa dc_Mod_init_0 38 rfl) (by decide) ?_
  refine Q_newa (pc := 81) (DCa dc_Mod_init_0 39 rfl) nas_0 (fun v26 h27 => ?_)
  refine Q_putf (k := 22) (pc := 83) (DCa dc_Mod_init_0 40 rfl) cls_12 (Nat.le_of_ble_eq_true rfl) fl_12_43 rfl rfl rfl (Or.inr ⟨rfl, rfl, rfl⟩) (Or.inr ⟨Or.inr ⟨_, rfl⟩, rfl⟩) (fun h28 => ?_)
  refine V_aload_n (pc := 86) (DCa dc_Mod_init_0 41 rfl) rfl 0 rfl ?_
  refine V_bipush (pc := 87) (DCa dc_Mod_init_0 42 rfl) (by decide) ?_
  refine Q_newa (pc := 89) (DCa dc_Mod_init_0 43 rfl) nas_0 (fun v29 h30 => ?_)
  refine Q_putf (k := 23) (pc := 91) (DCa dc_Mod_init_0 44 rfl) cls_12 (Nat.le_of_ble_eq_true rfl) fl_12_46 rfl rfl rfl (Or.inr ⟨rfl, rfl, rfl⟩) (Or.inr ⟨Or.inr ⟨_, rfl⟩, rfl⟩) (fun h31 => ?_)
  refine V_aload_n (pc := 94) (DCa dc_Mod_init_0 45 rfl) rfl 0 rfl ?_
  refine V_bipush (pc := 95) (DCa dc_Mod_init_0 46 rfl) (by decide) ?_
  refine Q_newa (pc := 97) (DCa dc_Mod_init_0 47 rfl) nas_0 (fun v32 h33 => ?_)
  refine Q_putf (k := 24) (pc := 99) (DCa dc_Mod_init_0 48 rfl) cls_12 (Nat.le_of_ble_eq_true rfl) fl_12_49 rfl rfl rfl (Or.inr ⟨rfl, rfl, rfl⟩) (Or.inr ⟨Or.inr ⟨_, rfl⟩, rfl⟩) (fun h34 => ?_)
  refine V_aload_n (pc := 102) (DCa dc_Mod_init_0 49 rfl) rfl 0 rfl ?_
  refine V_bipush (pc := 103) (DCa dc_Mod_init_1 0 rfl) (by decide) ?_
  refine Q_newa (pc := 105) (DCa dc_Mod_init_1 1 rfl) nas_0 (fun v35 h36 => ?_)
  refine Q_putf (k := 25) (pc := 107) (DCa dc_Mod_init_1 2 rfl) cls_12 (Nat.le_of_ble_eq_true rfl) fl_12_52 rfl rfl rfl (Or.inr ⟨rfl, rfl, rfl⟩) (Or.inr ⟨Or.inr ⟨_, rfl⟩, rfl⟩) (fun h37 => ?_)
  refine V_aload_n (pc := 110) (DCa dc_Mod_init_1 3 rfl) rfl 0 rfl ?_
  refine V_bipush (pc := 111) (DCa dc_Mod_init_1 4 rfl) (by decide) ?_
  refine Q_newa (pc := 113) (DCa dc_Mod_init_1 5 rfl) nas_0 (fun v38 h39 => ?_)
  refine Q_putf (k := 26) (pc := 115) (DCa dc_Mod_init_1 6 rfl) cls_12 (Nat.le_of_ble_eq_true rfl) fl_12_55 rfl rfl rfl (Or.inr ⟨rfl, rfl, rfl⟩) (Or.inr ⟨Or.inr ⟨_, rfl⟩, rfl⟩) (fun h40 => ?_)
  refine V_aload_n (pc := 118) (DCa dc_Mod_init_1 7 rfl) rfl 0 rfl ?_
  refine V_iconst (pc := 119) (DCa dc_Mod_init_1 8 rfl) (by decide) ?_
  refine Q_newa (pc := 120) (DCa dc_Mod_init_1 9 rfl) nas_0 (fun v41 h42 => ?_)
  refine Q_putf (k := 27) (pc := 122) (DCa dc_Mod_init_1 10 rfl) cls_12 (Nat.le_of_ble_eq_true rfl) fl_12_58 rfl rfl rfl (Or.inr ⟨rfl, rfl, rfl⟩) (Or.inr ⟨Or.inr ⟨_, rfl⟩, rfl⟩) (fun h43 => ?_)
  refine V_aload_n (pc := 125) (DCa dc_Mod_init_1 11 rfl) rfl 0 rfl ?_
  refine V_bipush (pc := 126) (DCa dc_Mod_init_1 12 rfl) (by decide) ?_
  refine Q_newa (pc := 128) (DCa dc_Mod_init_1 13 rfl) nas_0 (fun v44 h45 => ?_)
  refine Q_putf (k := 28) (pc := 130) (DCa dc_Mod_init_1 14 rfl) cls_12 (Nat.le_of_ble_eq_true rfl) fl_12_61 rfl rfl rfl (Or.inr ⟨rfl, rfl, rfl⟩) (Or.inr ⟨Or.inr ⟨_, rfl⟩, rfl⟩) (fun h46 => ?_)
  refine V_aload_n (pc := 133) (DCa dc_Mod_init_1 15 rfl) rfl 0 rfl ?_
  refine V_bipush (pc := 134) (DCa dc_Mod_init_1 16 rfl) (by decide) ?_
  refine Q_newa (pc := 136) (DCa dc_Mod_init_1 17 rfl) nas_0 (fun v47 h48 => ?_)
  refine Q_putf (k := 29) (pc := 138) (DCa dc_Mod_init_1 18 rfl) cls_12 (Nat.le_of_ble_eq_true rfl) fl_12_64 rfl rfl rfl (Or.inr ⟨rfl, rfl, rfl⟩) (Or.inr ⟨Or.inr ⟨_, rfl⟩, rfl⟩) (fun h49 => ?_)
  refine V_aload_n (pc := 141) (DCa dc_Mod_init_1 19 rfl) rfl 0 rfl ?_
  refine V_bipush (pc := 142) (DCa dc_Mod_init_1 20 rfl) (by decide) ?_
  refine Q_newa (pc := 144) (DCa dc_Mod_init_1 21 rfl) nas_0 (fun v50 h51 => ?_)
  refine Q_putf (k := 30) (pc := 146) (DCa dc_Mod_init_1 22 rfl) cls_12 (Nat.le_of_ble_eq_true rfl) fl_12_67 rfl rfl rfl (Or.inr ⟨rfl, rfl, rfl⟩) (Or.inr ⟨Or.inr ⟨_, rfl⟩, rfl⟩) (fun h52 => ?_)
  refine V_aload_n (pc := 149) (DCa dc_Mod_init_1 23 rfl) rfl 0 rfl ?_
  refine V_iconst (pc := 150) (DCa dc_Mod_init_1 24 rfl) (by decide) ?_
  refine Q_newa (pc := 151) (DCa dc_Mod_init_1 25 rfl) nas_0 (fun v53 h54 => ?_)
  refine Q_putf (k := 31) (pc := 153) (DCa dc_Mod_init_1 26 rfl) cls_12 (Nat.le_of_ble_eq_true rfl) fl_12_70 rfl rfl rfl (Or.inr ⟨rfl, rfl, rfl⟩) (Or.inr ⟨Or.inr ⟨_, rfl⟩, rfl⟩) (fun h55 => ?_)
  refine V_aload_n (pc := 156) (DCa dc_Mod_init_1 27 rfl) rfl 0 rfl ?_
  refine V_iconst (pc := 157) (DCa dc_Mod_init_1 28 rfl) (by decide) ?_
  refine Q_newa (pc := 158) (DCa dc_Mod_init_1 29 rfl) nas_0 (fun v56 h57 => ?_)
  refine Q_putf (k := 32) (pc := 160) (DCa dc_Mod_init_1 30 rfl) cls_12 (Nat.le_of_ble_eq_true rfl) fl_12_73 rfl rfl rfl (Or.inr ⟨rfl, rfl, rfl⟩) (Or.inr ⟨Or.inr ⟨_, rfl⟩, rfl⟩) (fun h58 => ?_)
  refine V_aload_n (pc := 163) (DCa dc_Mod_init_1 31 rfl) rfl 0 rfl ?_
  refine V_iconst (pc := 164) (DCa dc_Mod_init_1 32 rfl) (by decide) ?_
  refine Q_newa (pc := 165) (DCa dc_Mod_init_1 33 rfl) nas_0 (fun v59 h60 => ?_)
  refine Q_putf (k := 33) (pc := 167) (DCa dc_Mod_init_1 34 rfl) cls_12 (Nat.le_of_ble_eq_true rfl) fl_12_76 rfl rfl rfl (Or.inr ⟨rfl, rfl, rfl⟩) (Or.inr ⟨Or.inr ⟨_, rfl⟩, rfl⟩) (fun h61 => ?_)
  refine V_aload_n (pc := 170) (DCa dc_Mod_init_1 35 rfl) rfl 0 rfl ?_
  refine V_iconst (pc := 171) (DCa dc_Mod_init_1 36 rfl) (by decide) ?_
  refine Q_newa (pc := 172) (DCa dc_Mod_init_1 37 rfl) nas_0 (fun v62 h63 => ?_)
  refine Q_putf (k := 34) (pc := 174) (DCa dc_Mod_init_1 38 rfl) cls_12 (Nat.le_of_ble_eq_true rfl) fl_12_79 rfl rfl rfl (Or.inr ⟨rfl, rfl, rfl⟩) (Or.inr ⟨Or.inr ⟨_, rfl⟩, rfl⟩) (fun h64 => ?_)
  refine V_aload_n (pc := 177) (DCa dc_Mod_init_1 39 rfl) rfl 0 rfl ?_
  refine V_iconst (pc := 178) (DCa dc_Mod_init_1 40 rfl) (by decide) ?_
  refine Q_newa (pc := 179) (DCa dc_Mod_init_1 41 rfl) nas_0 (fun v65 h66 => ?_)
  refine Q_putf (k := 35) (pc := 181) (DCa dc_Mod_init_1 42 rfl) cls_12 (Nat.le_of_ble_eq_true rfl) fl_12_82 rfl rfl rfl (Or.inr ⟨rfl, rfl, rfl⟩) (Or.inr ⟨Or.inr ⟨_, rfl⟩, rfl⟩) (fun h67 => ?_)
  refine V_aload_n (pc := 184) (DCa dc_Mod_init_1 43 rfl) rfl 0 rfl ?_
  refine V_bipush (pc := 185) (DCa dc_Mod_init_1 44 rfl) (by decide) ?_
  refine Q_newa (pc := 187) (DCa dc_Mod_init_1 45 rfl) nas_0 (fun v68 h69 => ?_)
  refine Q_putf (k := 36) (pc := 189) (DCa dc_Mod_init_1 46 rfl) cls_12 (Nat.le_of_ble_eq_true rfl) fl_12_85 rfl rfl rfl (Or.inr ⟨rfl, rfl, rfl⟩) (Or.inr ⟨Or.inr ⟨_, rfl⟩, rfl⟩) (fun h70 => ?_)
  refine V_aload_n (pc := 192) (DCa dc_Mod_init_1 47 rfl) rfl 0 rfl ?_
  refine V_bipush (pc := 193) (DCa dc_Mod_init_1 48 rfl) (by decide) ?_
  refine Q_newa (pc := 195) (DCa dc_Mod_init_1 49 rfl) nas_0 (fun v71 h72 => ?_)
  refine Q_putf (k := 37) (pc := 197) (DCa dc_Mod_init_2 0 rfl) cls_12 (Nat.le_of_ble_eq_true rfl) fl_12_88 rfl rfl rfl (Or.inr ⟨rfl, rfl, rfl⟩) (Or.inr ⟨Or.inr ⟨_, rfl⟩, rfl⟩) (fun h73 => ?_)
  refine V_aload_n (pc := 200) (DCa dc_Mod_init_2 1 rfl) rfl 0 rfl ?_
  refine V_sipush (pc := 201) (DCa dc_Mod_init_2 2 rfl) (by decide) ?_
  refine Q_newa (pc := 204) (DCa dc_Mod_init_2 3 rfl) nas_2 (fun v74 h75 => ?_)
  refine Q_putf (k := 39) (pc := 206) (DCa dc_Mod_init_2 4 rfl) cls_12 (Nat.le_of_ble_eq_true rfl) fl_12_91 rfl rfl rfl (Or.inr ⟨rfl, rfl, rfl⟩) (Or.inr ⟨Or.inr ⟨_, rfl⟩, rfl⟩) (fun h76 => ?_)
  refine V_aload_n (pc := 209) (DCa dc_Mod_init_2 5 rfl) rfl 0 rfl ?_
  refine V_sipush (pc := 210) (DCa dc_Mod_init_2 6 rfl) (by decide) ?_
  refine Q_newa (pc := 213) (DCa dc_Mod_init_2 7 rfl) nas_0 (fun v77 h78 => ?_)
  refine Q_putf (k := 40) (pc := 215) (DCa dc_Mod_init_2 8 rfl) cls_12 (Nat.le_of_ble_eq_true rfl) fl_12_95 rfl rfl rfl (Or.inr ⟨rfl, rfl, rfl⟩) (Or.inr ⟨Or.inr ⟨_, rfl⟩, rfl⟩) (fun h79 => ?_)
  refine V_aload_n (pc := 218) (DCa dc_Mod_init_2 9 rfl) rfl 0 rfl ?_
  refine V_sipush (pc := 219) (DCa dc_Mod_init_2 10 rfl) (by decide) ?_
  refine Q_newa (pc := 222) (DCa dc_Mod_init_2 11 rfl) nas_0 (fun v80 h81 => ?_)
  refine Q_putf (k := 41) (pc := 224) (DCa dc_Mod_init_2 12 rfl) cls_12 (Nat.le_of_ble_eq_true rfl) fl_12_98 rfl rfl rfl (Or.inr ⟨rfl, rfl, rfl⟩) (Or.inr ⟨Or.inr ⟨_, rfl⟩, rfl⟩) (fun h82 => ?_)
  refine V_aload_n (pc := 227) (DCa dc_Mod_init_2 13 rfl) rfl 0 rfl ?_
  refine V_sipush (pc := 228) (DCa dc_Mod_init_2 14 rfl) (by decide) ?_
  refine Q_newa (pc := 231) (DCa dc_Mod_init_2 15 rfl) nas_0 (fun v83 h84 => ?_)
  refine Q_putf (k := 42) (pc := 233) (DCa dc_Mod_init_2 16 rfl) cls_12 (Nat.le_of_ble_eq_true rfl) fl_12_101 rfl rfl rfl (Or.inr ⟨rfl, rfl, rfl⟩) (Or.inr ⟨Or.inr ⟨_, rfl⟩, rfl⟩) (fun h85 => ?_)
  refine V_aload_n (pc := 236) (DCa dc_Mod_init_2 17 rfl) rfl 0 rfl ?_
  refine V_sipush (pc := 237) (DCa dc_Mod_init_2 18 rfl) (by decide) ?_
  refine Q_newa (pc := 240) (DCa dc_Mod_init_2 19 rfl) nas_0 (fun v86 h87 => ?_)
  refine Q_putf (k := 43) (pc := 242) (DCa dc_Mod_init_2 20 rfl) cls_12 (Nat.le_of_ble_eq_true rfl) fl_12_104 rfl rfl rfl (Or.inr ⟨rfl, rfl, rfl⟩) (Or.inr ⟨Or.inr ⟨_, rfl⟩, rfl⟩) (fun h88 => ?_)
  refine V_aload_n (pc := 245) (DCa dc_Mod_init_2 21 rfl) rfl 0 rfl ?_
  refine V_sipush (pc := 246) (DCa dc_Mod_init_2 22 rfl) (by decide) ?_
  refine Q_newa (pc := 249) (DCa dc_Mod_init_2 23 rfl) nas_0 (fun v89 h90 => ?_)
  refine Q_putf (k := 45) (pc := 251) (DCa dc_Mod_init_2 24 rfl) cls_12 (Nat.le_of_ble_eq_true rfl) fl_12_107 rfl rfl rfl (Or.inr ⟨rfl, rfl, rfl⟩) (Or.inr ⟨Or.inr ⟨_, rfl⟩, rfl⟩) (fun h91 => ?_)
  refine V_aload_n (pc := 254) (DCa dc_Mod_init_2 25 rfl) rfl 0 rfl ?_
  refine V_sipush (pc := 255) (DCa dc_Mod_init_2 26 rfl) (by decide) ?_
  refine Q_newa (pc := 258) (DCa dc_Mod_init_2 27 rfl) nas_0 (fun v92 h93 => ?_)
  refine Q_putf (k := 46) (pc := 260) (DCa dc_Mod_init_2 28 rfl) cls_12 (Nat.le_of_ble_eq_true rfl) fl_12_110 rfl rfl rfl (Or.inr ⟨rfl, rfl, rfl⟩) (Or.inr ⟨Or.inr ⟨_, rfl⟩, rfl⟩) (fun h94 => ?_)
  refine V_aload_n (pc := 263) (DCa dc_Mod_init_2 29 rfl) rfl 0 rfl ?_
  refine V_bipush (pc := 264) (DCa dc_Mod_init_2 30 rfl) (by decide) ?_
  refine Q_newa (pc := 266) (DCa dc_Mod_init_2 31 rfl) nas_0 (fun v95 h96 => ?_)
  refine Q_putf (k := 47) (pc := 268) (DCa dc_Mod_init_2 32 rfl) cls_12 (Nat.le_of_ble_eq_true rfl) fl_12_113 rfl rfl rfl (Or.inr ⟨rfl, rfl, rfl⟩) (Or.inr ⟨Or.inr ⟨_, rfl⟩, rfl⟩) (fun h97 => ?_)
  refine V_aload_n (pc := 271) (DCa dc_Mod_init_2 33 rfl) rfl 0 rfl ?_
  refine V_iconst (pc := 272) (DCa dc_Mod_init_2 34 rfl) (by decide) ?_
  refine Q_newa (pc := 273) (DCa dc_Mod_init_2 35 rfl) nas_0 (fun v98 h99 => ?_)
  refine Q_putf (k := 49) (pc := 275) (DCa dc_Mod_init_2 36 rfl) cls_12 (Nat.le_of_ble_eq_true rfl) fl_12_116 rfl rfl rfl (Or.inr ⟨rfl, rfl, rfl⟩) (Or.inr ⟨Or.inr ⟨_, rfl⟩, rfl⟩) (fun h100 => ?_)
  refine V_aload_n (pc := 278) (DCa dc_Mod_init_2 37 rfl) rfl 0 rfl ?_
  refine V_sipush (pc := 279) (DCa dc_Mod_init_2 38 rfl) (by decide) ?_
  refine Q_newa (pc := 282) (DCa dc_Mod_init_2 39 rfl) nas_0 (fun v101 h102 => ?_)
  refine Q_putf (k := 50) (pc := 284) (DCa dc_Mod_init_2 40 rfl) cls_12 (Nat.le_of_ble_eq_true rfl) fl_12_119 rfl rfl rfl (Or.inr ⟨rfl, rfl, rfl⟩) (Or.inr ⟨Or.inr ⟨_, rfl⟩, rfl⟩) (fun h103 => ?_)
  refine V_aload_n (pc := 287) (DCa dc_Mod_init_2 41 rfl) rfl 0 rfl ?_
  refine V_sipush (pc := 288) (DCa dc_Mod_init_2 42 rfl) (by decide) ?_
  refine Q_newa (pc := 291) (DCa dc_Mod_init_2 43 rfl) nas_0 (fun v104 h105 => ?_)
  refine Q_putf (k := 52) (pc := 293) (DCa dc_Mod_init_2 44 rfl) cls_12 (Nat.le_of_ble_eq_true rfl) fl_12_122 rfl rfl rfl (Or.inr ⟨rfl, rfl, rfl⟩) (Or.inr ⟨Or.inr ⟨_, rfl⟩, rfl⟩) (fun h106 => ?_)
  refine V_aload_n (pc := 296) (DCa dc_Mod_init_2 45 rfl) rfl 0 rfl ?_
  refine V_sipush (pc := 297) (DCa dc_Mod_init_2 46 rfl) (by decide) ?_
  refine Q_newa (pc := 300) (DCa dc_Mod_init_2 47 rfl) nas_0 (fun v107 h108 => ?_)
  refine Q_putf (k := 53) (pc := 302) (DCa dc_Mod_init_2 48 rfl) cls_12 (Nat.le_of_ble_eq_true rfl) fl_12_125 rfl rfl rfl (Or.inr ⟨rfl, rfl, rfl⟩) (Or.inr ⟨Or.inr ⟨_, rfl⟩, rfl⟩) (fun h109 => ?_)
  refine V_aload_n (pc := 305) (DCa dc_Mod_init_2 49 rfl) rfl 0 rfl ?_
  refine V_sipush (pc := 306) (DCa dc_Mod_init_3 0 rfl) (by decide) ?_
  refine Q_newa (pc := 309) (DCa dc_Mod_init_3 1 rfl) nas_0 (fun v110 h111 => ?_)
  refine Q_putf (k := 54) (pc := 311) (DCa dc_Mod_init_3 2 rfl) cls_12 (Nat.le_of_ble_eq_true rfl) fl_12_128 rfl rfl rfl (Or.inr ⟨rfl, rfl, rfl⟩) (Or.inr ⟨Or.inr ⟨_, rfl⟩, rfl⟩) (fun h112 => ?_)
  refine V_aload_n (pc := 314) (DCa dc_Mod_init_3 3 rfl) rfl 0 rfl ?_
  refine V_bipush (pc := 315) (DCa dc_Mod_init_3 4 rfl) (by decide) ?_
  refine Q_newa (pc := 317) (DCa dc_Mod_init_3 5 rfl) nas_0 (fun v113 h114 => ?_)
  refine Q_putf (k := 55) (pc := 319) (DCa dc_Mod_init_3 6 rfl) cls_12 (Nat.le_of_ble_eq_true rfl) fl_12_131 rfl rfl rfl (Or.inr ⟨rfl, rfl, rfl⟩) (Or.inr ⟨Or.inr ⟨_, rfl⟩, rfl⟩) (fun h115 => ?_)
  refine V_aload_n (pc := 322) (DCa dc_Mod_init_3 7 rfl) rfl 0 rfl ?_
  refine V_bipush (pc := 323) (DCa dc_Mod_init_3 8 rfl) (by decide) ?_
  refine Q_newa (pc := 325) (DCa dc_Mod_init_3 9 rfl) nas_0 (fun v116 h117 => ?_)
  refine Q_putf (k := 56) (pc := 327) (DCa dc_Mod_init_3 10 rfl) cls_12 (Nat.le_of_ble_eq_true rfl) fl_12_134 rfl rfl rfl (Or.inr ⟨rfl, rfl, rfl⟩) (Or.inr ⟨Or.inr ⟨_, rfl⟩, rfl⟩) (fun h118 => ?_)
  refine V_aload_n (pc := 330) (DCa dc_Mod_init_3 11 rfl) rfl 0 rfl ?_
  refine V_bipush (pc := 331) (DCa dc_Mod_init_3 12 rfl) (by decide) ?_
  refine Q_newa (pc := 333) (DCa dc_Mod_init_3 13 rfl) nas_0 (fun v119 h120 => ?_)
  refine Q_putf (k := 57) (pc := 335) (DCa dc_Mod_init_3 14 rfl) cls_12 (Nat.le_of_ble_eq_true rfl) fl_12_137 rfl rfl rfl (Or.inr ⟨rfl, rfl, rfl⟩) (Or.inr ⟨Or.inr ⟨_, rfl⟩, rfl⟩) (fun h121 => ?_)
  refine V_aload_n (pc := 338) (DCa dc_Mod_init_3 15 rfl) rfl 0 rfl ?_
  refine V_bipush (pc := 339) (DCa dc_Mod_init_3 16 rfl) (by decide) ?_
  refine Q_newa (pc := 341) (DCa dc_Mod_init_3 17 rfl) nas_0 (fun v122 h123 => ?_)
  refine Q_putf (k := 58) (pc := 343) (DCa dc_Mod_init_3 18 rfl) cls_12 (Nat.le_of_ble_eq_true rfl) fl_12_140 rfl rfl rfl (Or.inr ⟨rfl, rfl, rfl⟩) (Or.inr ⟨Or.inr ⟨_, rfl⟩, rfl⟩) (fun h124 => ?_)
  refine V_aload_n (pc := 346) (DCa dc_Mod_init_3 19 rfl) rfl 0 rfl ?_
  refine V_sipush (pc := 347) (DCa dc_Mod_init_3 20 rfl) (by decide) ?_
  refine Q_newa (pc := 350) (DCa dc_Mod_init_3 21 rfl) nas_0 (fun v125 h126 => ?_)
  refine Q_putf (k := 59) (pc := 352) (DCa dc_Mod_init_3 22 rfl) cls_12 (Nat.le_of_ble_eq_true rfl) fl_12_143 rfl rfl rfl (Or.inr ⟨rfl, rfl, rfl⟩) (Or.inr ⟨Or.inr ⟨_, rfl⟩, rfl⟩) (fun h127 => ?_)
  refine V_aload_n (pc := 355) (DCa dc_Mod_init_3 23 rfl) rfl 0 rfl ?_
  refine V_sipush (pc := 356) (DCa dc_Mod_init_3 24 rfl) (by decide) ?_
  refine Q_newa (pc := 359) (DCa dc_Mod_init_3 25 rfl) nas_0 (fun v128 h129 => ?_)
  refine Q_putf (k := 60) (pc := 361) (DCa dc_Mod_init_3 26 rfl) cls_12 (Nat.le_of_ble_eq_true rfl) fl_12_146 rfl rfl rfl (Or.inr ⟨rfl, rfl, rfl⟩) (Or.inr ⟨Or.inr ⟨_, rfl⟩, rfl⟩) (fun h130 => ?_)
  refine V_aload_n (pc := 364) (DCa dc_Mod_init_3 27 rfl) rfl 0 rfl ?_
  refine V_sipush (pc := 365) (DCa dc_Mod_init_3 28 rfl) (by decide) ?_
  refine Q_newa (pc := 368) (DCa dc_Mod_init_3 29 rfl) nas_0 (fun v131 h132 => ?_)
  refine Q_putf (k := 61) (pc := 370) (DCa dc_Mod_init_3 30 rfl) cls_12 (Nat.le_of_ble_eq_true rfl) fl_12_149 rfl rfl rfl (Or.inr ⟨rfl, rfl, rfl⟩) (Or.inr ⟨Or.inr ⟨_, rfl⟩, rfl⟩) (fun h133 => ?_)
  refine V_aload_n (pc := 373) (DCa dc_Mod_init_3 31 rfl) rfl 0 rfl ?_
  refine V_sipush (pc := 374) (DCa dc_Mod_init_3 32 rfl) (by decide) ?_
  refine Q_newa (pc := 377) (DCa dc_Mod_init_3 33 rfl) nas_0 (fun v134 h135 => ?_)
  refine Q_putf (k := 62) (pc := 379) (DCa dc_Mod_init_3 34 rfl) cls_12 (Nat.le_of_ble_eq_true rfl) fl_12_152 rfl rfl rfl (Or.inr ⟨rfl, rfl, rfl⟩) (Or.inr ⟨Or.inr ⟨_, rfl⟩, rfl⟩) (fun h136 => ?_)
  refine V_aload_n (pc := 382) (DCa dc_Mod_init_3 35 rfl) rfl 0 rfl ?_
  refine V_sipush (pc := 383) (DCa dc_Mod_init_3 36 rfl) (by decide) ?_
  refine Q_newa (pc := 386) (DCa dc_Mod_init_3 37 rfl) nas_0 (fun v137 h138 => ?_)
  refine Q_putf (k := 63) (pc := 388) (DCa dc_Mod_init_3 38 rfl) cls_12 (Nat.le_of_ble_eq_true rfl) fl_12_155 rfl rfl rfl (Or.inr ⟨rfl, rfl, rfl⟩) (Or.inr ⟨Or.inr ⟨_, rfl⟩, rfl⟩) (fun h139 => ?_)
  refine V_aload_n (pc := 391) (DCa dc_Mod_init_3 39 rfl) rfl 0 rfl ?_
  refine V_sipush (pc := 392) (DCa dc_Mod_init_3 40 rfl) (by decide) ?_
  refine Q_newa (pc := 395) (DCa dc_Mod_init_3 41 rfl) nas_0 (fun v140 h141 => ?_)
  refine Q_putf (k := 65) (pc := 397) (DCa dc_Mod_init_3 42 rfl) cls_12 (Nat.le_of_ble_eq_true rfl) fl_12_158 rfl rfl rfl (Or.inr ⟨rfl, rfl, rfl⟩) (Or.inr ⟨Or.inr ⟨_, rfl⟩, rfl⟩) (fun h142 => ?_)
  refine V_aload_n (pc := 400) (DCa dc_Mod_init_3 43 rfl) rfl 0 rfl ?_
  refine V_sipush (pc := 401) (DCa dc_Mod_init_3 44 rfl) (by decide) ?_
  refine Q_newa (pc := 404) (DCa dc_Mod_init_3 45 rfl) nas_0 (fun v143 h144 => ?_)
  refine Q_putf (k := 66) (pc := 406) (DCa dc_Mod_init_3 46 rfl) cls_12 (Nat.le_of_ble_eq_true rfl) fl_12_161 rfl rfl rfl (Or.inr ⟨rfl, rfl, rfl⟩) (Or.inr ⟨Or.inr ⟨_, rfl⟩, rfl⟩) (fun h145 => ?_)
  refine V_aload_n (pc := 409) (DCa dc_Mod_init_3 47 rfl) rfl 0 rfl ?_
  refine V_bipush (pc := 410) (DCa dc_Mod_init_3 48 rfl) (by decide) ?_
  refine Q_newa (pc := 412) (DCa dc_Mod_init_3 49 rfl) nas_0 (fun v146 h147 => ?_)
  refine Q_putf (k := 72) (pc := 414) (DCa dc_Mod_init_4 0 rfl) cls_12 (Nat.le_of_ble_eq_true rfl) fl_12_164 rfl rfl rfl (Or.inr ⟨rfl, rfl, rfl⟩) (Or.inr ⟨Or.inr ⟨_, rfl⟩, rfl⟩) (fun h148 => ?_)
  refine V_aload_n (pc := 417) (DCa dc_Mod_init_4 1 rfl) rfl 0 rfl ?_
  refine V_sipush (pc := 418) (DCa dc_Mod_init_4 2 rfl) (by decide) ?_
  refine Q_newa (pc := 421) (DCa dc_Mod_init_4 3 rfl) nas_2 (fun v149 h150 => ?_)
  refine Q_putf (k := 74) (pc := 423) (DCa dc_Mod_init_4 4 rfl) cls_12 (Nat.le_of_ble_eq_true rfl) fl_12_167 rfl rfl rfl (Or.inr ⟨rfl, rfl, rfl⟩) (Or.inr ⟨Or.inr ⟨_, rfl⟩, rfl⟩) (fun h151 => ?_)
  refine V_aload_n (pc := 426) (DCa dc_Mod_init_4 5 rfl) rfl 0 rfl ?_
  refine V_sipush (pc := 427) (DCa dc_Mod_init_4 6 rfl) (by decide) ?_
  refine Q_newa (pc := 430) (DCa dc_Mod_init_4 7 rfl) nas_2 (fun v152 h153 => ?_)
  refine Q_putf (k := 75) (pc := 432) (DCa dc_Mod_init_4 8 rfl) cls_12 (Nat.le_of_ble_eq_true rfl) fl_12_170 rfl rfl rfl (Or.inr ⟨rfl, rfl, rfl⟩) (Or.inr ⟨Or.inr ⟨_, rfl⟩, rfl⟩) (fun h154 => ?_)
  refine V_aload_n (pc := 435) (DCa dc_Mod_init_4 9 rfl) rfl 0 rfl ?_
  refine V_sipush (pc := 436) (DCa dc_Mod_init_4 10 rfl) (by decide) ?_
  refine Q_newa (pc := 439) (DCa dc_Mod_init_4 11 rfl) nas_2 (fun v155 h156 => ?_)
  refine Q_putf (k := 76) (pc := 441) (DCa dc_Mod_init_4 12 rfl) cls_12 (Nat.le_of_ble_eq_true rfl) fl_12_173 rfl rfl rfl (Or.inr ⟨rfl, rfl, rfl⟩) (Or.inr ⟨Or.inr ⟨_, rfl⟩, rfl⟩) (fun h157 => ?_)
  refine V_aload_n (pc := 444) (DCa dc_Mod_init_4 13 rfl) rfl 0 rfl ?_
  refine V_bipush (pc := 445) (DCa dc_Mod_init_4 14 rfl) (by decide) ?_
  refine Q_newa (pc := 447) (DCa dc_Mod_init_4 15 rfl) nas_0 (fun v158 h159 => ?_)
  refine Q_putf (k := 77) (pc := 449) (DCa dc_Mod_init_4 16 rfl) cls_12 (Nat.le_of_ble_eq_true rfl) fl_12_176 rfl rfl rfl (Or.inr ⟨rfl, rfl, rfl⟩) (Or.inr ⟨Or.inr ⟨_, rfl⟩, rfl⟩) (fun h160 => ?_)
  refine V_aload_n (pc := 452) (DCa dc_Mod_init_4 17 rfl) rfl 0 rfl ?_
  refine V_bipush (pc := 453) (DCa dc_Mod_init_4 18 rfl) (by decide) ?_
  refine Q_newa (pc := 455) (DCa dc_Mod_init_4 19 rfl) nas_0 (fun v161 h162 => ?_)
  refine Q_putf (k := 78) (pc := 457) (DCa dc_Mod_init_4 20 rfl) cls_12 (Nat.le_of_ble_eq_true rfl) fl_12_179 rfl rfl rfl (Or.inr ⟨rfl, rfl, rfl⟩) (Or.inr ⟨Or.inr ⟨_, rfl⟩, rfl⟩) (fun h163 => ?_)
  refine V_aload_n (pc := 460) (DCa dc_Mod_init_4 21 rfl) rfl 0 rfl ?_
  refine V_bipush (pc := 461) (DCa dc_Mod_init_4 22 rfl) (by decide) ?_
  refine Q_newa (pc := 463) (DCa dc_Mod_init_4 23 rfl) nas_0 (fun v164 h165 => ?_)
  refine Q_putf (k := 81) (pc := 465) (DCa dc_Mod_init_4 24 rfl) cls_12 (Nat.le_of_ble_eq_true rfl) fl_12_182 rfl rfl rfl (Or.inr ⟨rfl, rfl, rfl⟩) (Or.inr ⟨Or.inr ⟨_, rfl⟩, rfl⟩) (fun h166 => ?_)
  refine V_aload_n (pc := 468) (DCa dc_Mod_init_4 25 rfl) rfl 0 rfl ?_
  refine V_bipush (pc := 469) (DCa dc_Mod_init_4 26 rfl) (by decide) ?_
  refine Q_newa (pc := 471) (DCa dc_Mod_init_4 27 rfl) nas_0 (fun v167 h168 => ?_)
  refine Q_putf (k := 82) (pc := 473) (DCa dc_Mod_init_4 28 rfl) cls_12 (Nat.le_of_ble_eq_true rfl) fl_12_185 rfl rfl rfl (Or.inr ⟨rfl, rfl, rfl⟩) (Or.inr ⟨Or.inr ⟨_, rfl⟩, rfl⟩) (fun h169 => ?_)
  refine V_aload_n (pc := 476) (DCa dc_Mod_init_4 29 rfl) rfl 0 rfl ?_
  refine V_bipush (pc := 477) (DCa dc_Mod_init_4 30 rfl) (by decide) ?_
  refine Q_newa (pc := 479) (DCa dc_Mod_init_4 31 rfl) nas_2 (fun v170 h171 => ?_)
  refine Q_putf (k := 83) (pc := 481) (DCa dc_Mod_init_4 32 rfl) cls_12 (Nat.le_of_ble_eq_true rfl) fl_12_188 rfl rfl rfl (Or.inr ⟨rfl, rfl, rfl⟩) (Or.inr ⟨Or.inr ⟨_, rfl⟩, rfl⟩) (fun h172 => ?_)
  refine V_aload_n (pc := 484) (DCa dc_Mod_init_4 33 rfl) rfl 0 rfl ?_
  refine V_iconst (pc := 485) (DCa dc_Mod_init_4 34 rfl) (by decide) ?_
  refine Q_newa (pc := 486) (DCa dc_Mod_init_4 35 rfl) nas_2 (fun v173 h174 => ?_)
  refine Q_putf (k := 84) (pc := 488) (DCa dc_Mod_init_4 36 rfl) cls_12 (Nat.le_of_ble_eq_true rfl) fl_12_191 rfl rfl rfl (Or.inr ⟨rfl, rfl, rfl⟩) (Or.inr ⟨Or.inr ⟨_, rfl⟩, rfl⟩) (fun h175 => ?_)
  refine V_aload_n (pc := 491) (DCa dc_Mod_init_4 37 rfl) rfl 0 rfl ?_
  refine V_sipush (pc := 492) (DCa dc_Mod_init_4 38 rfl) (by decide) ?_
  refine Q_newa (pc := 495) (DCa dc_Mod_init_4 39 rfl) nas_0 (fun v176 h177 => ?_)
  refine Q_putf (k := 85) (pc := 497) (DCa dc_Mod_init_4 40 rfl) cls_12 (Nat.le_of_ble_eq_true rfl) fl_12_194 rfl rfl rfl (Or.inr ⟨rfl, rfl, rfl⟩) (Or.inr ⟨Or.inr ⟨_, rfl⟩, rfl⟩) (fun h178 => ?_)
  refine V_aload_n (pc := 500) (DCa dc_Mod_init_4 41 rfl) rfl 0 rfl ?_
  refine V_iconst (pc := 501) (DCa dc_Mod_init_4 42 rfl) (by decide) ?_
  refine Q_callv (ci := 12) (st := []) (pc := 502) (DCa dc_Mod_init_4 43 rfl) (sp_Mod_plain F _ _ _) ce_Mod_plain ml_12_197 rfl rfl ⟨Nat.le_of_ble_eq_true rfl, Nat.le_of_ble_eq_true rfl⟩ rfl (Nat.le_of_ble_eq_true rfl) (fun r179 h180 => ?_)
  refine V_aload_n (pc := 505) (DCa dc_Mod_init_4 44 rfl) rfl 0 rfl ?_
  refine Q_getf (k := 9) (pc := 506) (DCa dc_Mod_init_4 45 rfl) cls_12 (Nat.le_of_ble_eq_true rfl) fl_12_34 rfl rfl rfl (fun v181 => ?_)
  refine V_iconst (pc := 509) (DCa dc_Mod_init_4 46 rfl) (by decide) ?_
  refine V_bipush (pc := 510) (DCa dc_Mod_init_4 47 rfl) (by decide) ?_
  refine V_bipush (pc := 512) (DCa dc_Mod_init_4 48 rfl) (by decide) ?_
  refine V_bipush (pc := 514) (DCa dc_Mod_init_4 49 rfl) (by decide) ?_
  refine V_bipush (pc := 516) (DCa dc_Mod_init_5 0 rfl) (by decide) ?_
  refine V_iconst (pc := 518) (DCa dc_Mod_init_5 1 rfl) (by decide) ?_
  refine V_iconst (pc := 519) (DCa dc_Mod_init_5 2 rfl) (by decide) ?_
  refine V_iconst (pc := 520) (DCa dc_Mod_init_5 3 rfl) (by decide) ?_
  refine Q_calls (st := [(0, 0), (2, v181)]) (pc := 521) (DCa dc_Mod_init_5 4 rfl) (sp_Mod_word F _ _ _ _ _ _ _ _) ce_Mod_word ml_12_201 rfl ⟨Nat.le_of_ble_eq_true rfl, Nat.le_of_ble_eq_true rfl⟩ rfl (Nat.le_of_ble_eq_true rfl) (fun r182 h183 => ?_)
  refine Q_lastore (pc := 524) (DCa dc_Mod_init_5 5 rfl) (fun h184 => ?_)
  refine V_aload_n (pc := 525) (DCa dc_Mod_init_5 6 rfl) rfl 0 rfl ?_
  refine Q_getf (k := 9) (pc := 526) (DCa dc_Mod_init_5 7 rfl) cls_12 (Nat.le_of_ble_eq_true rfl) fl_12_34 rfl rfl rfl (fun v185 => ?_)
  refine V_iconst (pc := 529) (DCa dc_Mod_init_5 8 rfl) (by decide) ?_
  refine V_bipush (pc := 530) (DCa dc_Mod_init_5 9 rfl) (by decide) ?_
  refine V_bipush (pc := 532) (DCa dc_Mod_init_5 10 rfl) (by decide) ?_
  refine V_bipush (pc := 534) (DCa dc_Mod_init_5 11 rfl) (by decide) ?_
  refine V_bipush (pc := 536) (DCa dc_Mod_init_5 12 rfl) (by decide) ?_
  refine V_bipush (pc := 538) (DCa dc_Mod_init_5 13 rfl) (by decide) ?_
  refine V_bipush (pc := 540) (DCa dc_Mod_init_5 14 rfl) (by decide) ?_
  refine V_iconst (pc := 542) (DCa dc_Mod_init_5 15 rfl) (by decide) ?_
  refine Q_calls (st := [(0, 1), (2, v185)]) (pc := 543) (DCa dc_Mod_init_5 16 rfl) (sp_Mod_word F _ _ _ _ _ _ _ _) ce_Mod_word ml_12_201 rfl ⟨Nat.le_of_ble_eq_true rfl, Nat.le_of_ble_eq_true rfl⟩ rfl (Nat.le_of_ble_eq_true rfl) (fun r186 h187 => ?_)
  refine Q_lastore (pc := 546) (DCa dc_Mod_init_5 17 rfl) (fun h188 => ?_)
  refine V_aload_n (pc := 547) (DCa dc_Mod_init_5 18 rfl) rfl 0 rfl ?_
  refine Q_getf (k := 9) (pc := 548) (DCa dc_Mod_init_5 19 rfl) cls_12 (Nat.le_of_ble_eq_true rfl) fl_12_34 rfl rfl rfl (fun v189 => ?_)
  refine V_iconst (pc := 551) (DCa dc_Mod_init_5 20 rfl) (by decide) ?_
  refine V_bipush (pc := 552) (DCa dc_Mod_init_5 21 rfl) (by decide) ?_
  refine V_bipush (pc := 554) (DCa dc_Mod_init_5 22 rfl) (by decide) ?_
  refine V_bipush (pc := 556) (DCa dc_Mod_init_5 23 rfl) (by decide) ?_
  refine V_bipush (pc := 558) (DCa dc_Mod_init_5 24 rfl) (by decide) ?_
  refine V_iconst (pc := 560) (DCa dc_Mod_init_5 25 rfl) (by decide) ?_
  refine V_iconst (pc := 561) (DCa dc_Mod_init_5 26 rfl) (by decide) ?_
  refine V_iconst (pc := 562) (DCa dc_Mod_init_5 27 rfl) (by decide) ?_
  refine Q_calls (st := [(0, 2), (2, v189)]) (pc := 563) (DCa dc_Mod_init_5 28 rfl) (sp_Mod_word F _ _ _ _ _ _ _ _) ce_Mod_word ml_12_201 rfl ⟨Nat.le_of_ble_eq_true rfl, Nat.le_of_ble_eq_true rfl⟩ rfl (Nat.le_of_ble_eq_true rfl) (fun r190 h191 => ?_)
  refine Q_lastore (pc := 566) (DCa dc_Mod_init_5 29 rfl) (fun h192 => ?_)
  refine V_aload_n (pc := 567) (DCa dc_Mod_init_5 30 rfl) rfl 0 rfl ?_
  refine Q_getf (k := 9) (pc := 568) (DCa dc_Mod_init_5 31 rfl) cls_12 (Nat.le_of_ble_eq_true rfl) fl_12_34 rfl rfl rfl (fun v193 => ?_)
  refine V_iconst (pc := 571) (DCa dc_Mod_init_5 32 rfl) (by decide) ?_
  refine V_bipush (pc := 572) (DCa dc_Mod_init_5 33 rfl) (by decide) ?_
  refine V_bipush (pc := 574) (DCa dc_Mod_init_5 34 rfl) (by decide) ?_
  refine V_bipush (pc := 576) (DCa dc_Mod_init_5 35 rfl) (by decide) ?_
  refine V_bipush (pc := 578) (DCa dc_Mod_init_5 36 rfl) (by decide) ?_
  refine V_iconst (pc := 580) (DCa dc_Mod_init_5 37 rfl) (by decide) ?_
  refine V_iconst (pc := 581) (DCa dc_Mod_init_5 38 rfl) (by decide) ?_
  refine V_iconst (pc := 582) (DCa dc_Mod_init_5 39 rfl) (by decide) ?_
  refine Q_calls (st := [(0, 3), (2, v193)]) (pc := 583) (DCa dc_Mod_init_5 40 rfl) (sp_Mod_word F _ _ _ _ _ _ _ _) ce_Mod_word ml_12_201 rfl ⟨Nat.le_of_ble_eq_true rfl, Nat.le_of_ble_eq_true rfl⟩ rfl (Nat.le_of_ble_eq_true rfl) (fun r194 h195 => ?_)
  refine Q_lastore (pc := 586) (DCa dc_Mod_init_5 41 rfl) (fun h196 => ?_)
  refine V_aload_n (pc := 587) (DCa dc_Mod_init_5 42 rfl) rfl 0 rfl ?_
  refine Q_getf (k := 9) (pc := 588) (DCa dc_Mod_init_5 43 rfl) cls_12 (Nat.le_of_ble_eq_true rfl) fl_12_34 rfl rfl rfl (fun v197 => ?_)
  refine V_iconst (pc := 591) (DCa dc_Mod_init_5 44 rfl) (by decide) ?_
  refine V_bipush (pc := 592) (DCa dc_Mod_init_5 45 rfl) (by decide) ?_
  refine V_bipush (pc := 594) (DCa dc_Mod_init_5 46 rfl) (by decide) ?_
  refine V_bipush (pc := 596) (DCa dc_Mod_init_5 47 rfl) (by decide) ?_
  refine V_iconst (pc := 598) (DCa dc_Mod_init_5 48 rfl) (by decide) ?_
  refine V_iconst (pc := 599) (DCa dc_Mod_init_5 49 rfl) (by decide) ?_
  refine V_iconst (pc := 600) (DCa dc_Mod_init_6 0 rfl) (by decide) ?_
  refine V_iconst (pc := 601) (DCa dc_Mod_init_6 1 rfl) (by decide) ?_
  refine Q_calls (st := [(0, 4), (2, v197)]) (pc := 602) (DCa dc_Mod_init_6 2 rfl) (sp_Mod_word F _ _ _ _ _ _ _ _) ce_Mod_word ml_12_201 rfl ⟨Nat.le_of_ble_eq_true rfl, Nat.le_of_ble_eq_true rfl⟩ rfl (Nat.le_of_ble_eq_true rfl) (fun r198 h199 => ?_)
  refine Q_lastore (pc := 605) (DCa dc_Mod_init_6 3 rfl) (fun h200 => ?_)
  refine V_aload_n (pc := 606) (DCa dc_Mod_init_6 4 rfl) rfl 0 rfl ?_
  refine Q_getf (k := 9) (pc := 607) (DCa dc_Mod_init_6 5 rfl) cls_12 (Nat.le_of_ble_eq_true rfl) fl_12_34 rfl rfl rfl (fun v201 => ?_)
  refine V_iconst (pc := 610) (DCa dc_Mod_init_6 6 rfl) (by decide) ?_
  refine V_bipush (pc := 611) (DCa dc_Mod_init_6 7 rfl) (by decide) ?_
  refine V_bipush (pc := 613) (DCa dc_Mod_init_6 8 rfl) (by decide) ?_
  refine V_bipush (pc := 615) (DCa dc_Mod_init_6 9 rfl) (by decide) ?_
  refine V_bipush (pc := 617) (DCa dc_Mod_init_6 10 rfl) (by decide) ?_
  refine V_iconst (pc := 619) (DCa dc_Mod_init_6 11 rfl) (by decide) ?_
  refine V_iconst (pc := 620) (DCa dc_Mod_init_6 12 rfl) (by decide) ?_
  refine V_iconst (pc := 621) (DCa dc_Mod_init_6 13 rfl) (by decide) ?_
  refine Q_calls (st := [(0, 5), (2, v201)]) (pc := 622) (DCa dc_Mod_init_6 14 rfl) (sp_Mod_word F _ _ _ _ _ _ _ _) ce_Mod_word ml_12_201 rfl ⟨Nat.le_of_ble_eq_true rfl, Nat.le_of_ble_eq_true rfl⟩ rfl (Nat.le_of_ble_eq_true rfl) (fun r202 h203 => ?_)
  refine Q_lastore (pc := 625) (DCa dc_Mod_init_6 15 rfl) (fun h204 => ?_)
  refine V_aload_n (pc := 626) (DCa dc_Mod_init_6 16 rfl) rfl 0 rfl ?_
  refine Q_getf (k := 9) (pc := 627) (DCa dc_Mod_init_6 17 rfl) cls_12 (Nat.le_of_ble_eq_true rfl) fl_12_34 rfl rfl rfl (fun v205 => ?_)
  refine V_bipush (pc := 630) (DCa dc_Mod_init_6 18 rfl) (by decide) ?_
  refine V_bipush (pc := 632) (DCa dc_Mod_init_6 19 rfl) (by decide) ?_
  refine V_bipush (pc := 634) (DCa dc_Mod_init_6 20 rfl) (by decide) ?_
  refine V_bipush (pc := 636) (DCa dc_Mod_init_6 21 rfl) (by decide) ?_
  refine V_iconst (pc := 638) (DCa dc_Mod_init_6 22 rfl) (by decide) ?_
  refine V_iconst (pc := 639) (DCa dc_Mod_init_6 23 rfl) (by decide) ?_
  refine V_iconst (pc := 640) (DCa dc_Mod_init_6 24 rfl) (by decide) ?_
  refine V_iconst (pc := 641) (DCa dc_Mod_init_6 25 rfl) (by decide) ?_
  refine Q_calls (st := [(0, 6), (2, v205)]) (pc := 642) (DCa dc_Mod_init_6 26 rfl) (sp_Mod_word F _ _ _ _ _ _ _ _) ce_Mod_word ml_12_201 rfl ⟨Nat.le_of_ble_eq_true rfl, Nat.le_of_ble_eq_true rfl⟩ rfl (Nat.le_of_ble_eq_true rfl) (fun r206 h207 => ?_)
  refine Q_lastore (pc := 645) (DCa dc_Mod_init_6 27 rfl) (fun h208 => ?_)
  refine V_aload_n (pc := 646) (DCa dc_Mod_init_6 28 rfl) rfl 0 rfl ?_
  refine Q_getf (k := 9) (pc := 647) (DCa dc_Mod_init_6 29 rfl) cls_12 (Nat.le_of_ble_eq_true rfl) fl_12_34 rfl rfl rfl (fun v209 => ?_)
  refine V_bipush (pc := 650) (DCa dc_Mod_init_6 30 rfl) (by decide) ?_
  refine V_bipush (pc := 652) (DCa dc_Mod_init_6 31 rfl) (by decide) ?_
  refine V_bipush (pc := 654) (DCa dc_Mod_init_6 32 rfl) (by decide) ?_
  refine V_bipush (pc := 656) (DCa dc_Mod_init_6 33 rfl) (by decide) ?_
  refine V_bipush (pc := 658) (DCa dc_Mod_init_6 34 rfl) (by decide) ?_
  refine V_bipush (pc := 660) (DCa dc_Mod_init_6 35 rfl) (by decide) ?_
  refine V_iconst (pc := 662) (DCa dc_Mod_init_6 36 rfl) (by decide) ?_
  refine V_iconst (pc := 663) (DCa dc_Mod_init_6 37 rfl) (by decide) ?_
  refine Q_calls (st := [(0, 7), (2, v209)]) (pc := 664) (DCa dc_Mod_init_6 38 rfl) (sp_Mod_word F _ _ _ _ _ _ _ _) ce_Mod_word ml_12_201 rfl ⟨Nat.le_of_ble_eq_true rfl, Nat.le_of_ble_eq_true rfl⟩ rfl (Nat.le_of_ble_eq_true rfl) (fun r210 h211 => ?_)
  refine Q_lastore (pc := 667) (DCa dc_Mod_init_6 39 rfl) (fun h212 => ?_)
  refine V_aload_n (pc := 668) (DCa dc_Mod_init_6 40 rfl) rfl 0 rfl ?_
  refine Q_getf (k := 9) (pc := 669) (DCa dc_Mod_init_6 41 rfl) cls_12 (Nat.le_of_ble_eq_true rfl) fl_12_34 rfl rfl rfl (fun v213 => ?_)
  refine V_bipush (pc := 672) (DCa dc_Mod_init_6 42 rfl) (by decide) ?_
  refine V_bipush (pc := 674) (DCa dc_Mod_init_6 43 rfl) (by decide) ?_
  refine V_bipush (pc := 676) (DCa dc_Mod_init_6 44 rfl) (by decide) ?_
  refine V_bipush (pc := 678) (DCa dc_Mod_init_6 45 rfl) (by decide) ?_
  refine V_iconst (pc := 680) (DCa dc_Mod_init_6 46 rfl) (by decide) ?_
  refine V_iconst (pc := 681) (DCa dc_Mod_init_6 47 rfl) (by decide) ?_
  refine V_iconst (pc := 682) (DCa dc_Mod_init_6 48 rfl) (by decide) ?_
  refine V_iconst (pc := 683) (DCa dc_Mod_init_6 49 rfl) (by decide) ?_
  refine Q_calls (st := [(0, 8), (2, v213)]) (pc := 684) (DCa dc_Mod_init_7 0 rfl) (sp_Mod_word F _ _ _ _ _ _ _ _) ce_Mod_word ml_12_201 rfl ⟨Nat.le_of_ble_eq_true rfl, Nat.le_of_ble_eq_true rfl⟩ rfl (Nat.le_of_ble_eq_true rfl) (fun r214 h215 => ?_)
  refine Q_lastore (pc := 687) (DCa dc_Mod_init_7 1 rfl) (fun h216 => ?_)
  refine V_aload_n (pc := 688) (DCa dc_Mod_init_7 2 rfl) rfl 0 rfl ?_
  refine Q_getf (k := 9) (pc := 689) (DCa dc_Mod_init_7 3 rfl) cls_12 (Nat.le_of_ble_eq_true rfl) fl_12_34 rfl rfl rfl (fun v217 => ?_)
  refine V_bipush (pc := 692) (DCa dc_Mod_init_7 4 rfl) (by decide) ?_
  refine V_bipush (pc := 694) (DCa dc_Mod_init_7 5 rfl) (by decide) ?_
  refine V_bipush (pc := 696) (DCa dc_Mod_init_7 6 rfl) (by decide) ?_
  refine V_bipush (pc := 698) (DCa dc_Mod_init_7 7 rfl) (by decide) ?_
  refine V_bipush (pc := 700) (DCa dc_Mod_init_7 8 rfl) (by decide) ?_
  refine V_iconst (pc := 702) (DCa dc_Mod_init_7 9 rfl) (by decide) ?_
  refine V_iconst (pc := 703) (DCa dc_Mod_init_7 10 rfl) (by decide) ?_
  refine V_iconst (pc := 704) (DCa dc_Mod_init_7 11 rfl) (by decide) ?_
  refine Q_calls (st := [(0, 9), (2, v217)]) (pc := 705) (DCa dc_Mod_init_7 12 rfl) (sp_Mod_word F _ _ _ _ _ _ _ _) ce_Mod_word ml_12_201 rfl ⟨Nat.le_of_ble_eq_true rfl, Nat.le_of_ble_eq_true rfl⟩ rfl (Nat.le_of_ble_eq_true rfl) (fun r218 h219 => ?_)
  refine Q_lastore (pc := 708) (DCa dc_Mod_init_7 13 rfl) (fun h220 => ?_)
  refine V_aload_n (pc := 709) (DCa dc_Mod_init_7 14 rfl) rfl 0 rfl ?_
  refine Q_getf (k := 9) (pc := 710) (DCa dc_Mod_init_7 15 rfl) cls_12 (Nat.le_of_ble_eq_true rfl) fl_12_34 rfl rfl rfl (fun v221 => ?_)
  refine V_bipush (pc := 713) (DCa dc_Mod_init_7 16 rfl) (by decide) ?_
  refine V_bipush (pc := 715) (DCa dc_Mod_init_7 17 rfl) (by decide) ?_
  refine V_bipush (pc := 717) (DCa dc_Mod_init_7 18 rfl) (by decide) ?_
  refine V_iconst (pc := 719) (DCa dc_Mod_init_7 19 rfl) (by decide) ?_
  refine V_iconst (pc := 720) (DCa dc_Mod_init_7 20 rfl) (by decide) ?_
  refine V_iconst (pc := 721) (DCa dc_Mod_init_7 21 rfl) (by decide) ?_
  refine V_iconst (pc := 722) (DCa dc_Mod_init_7 22 rfl) (by decide) ?_
  refine V_iconst (pc := 723) (DCa dc_Mod_init_7 23 rfl) (by decide) ?_
  refine Q_calls (st := [(0, 10), (2, v221)]) (pc := 724) (DCa dc_Mod_init_7 24 rfl) (sp_Mod_word F _ _ _ _ _ _ _ _) ce_Mod_word ml_12_201 rfl ⟨Nat.le_of_ble_eq_true rfl, Nat.le_of_ble_eq_true rfl⟩ rfl (Nat.le_of_ble_eq_true rfl) (fun r222 h223 => ?_)
  refine Q_lastore (pc := 727) (DCa dc_Mod_init_7 25 rfl) (fun h224 => ?_)
  refine V_aload_n (pc := 728) (DCa dc_Mod_init_7 26 rfl) rfl 0 rfl ?_
  refine Q_getf (k := 9) (pc := 729) (DCa dc_Mod_init_7 27 rfl) cls_12 (Nat.le_of_ble_eq_true rfl) fl_12_34 rfl rfl rfl (fun v225 => ?_)
  refine V_bipush (pc := 732) (DCa dc_Mod_init_7 28 rfl) (by decide) ?_
  refine V_bipush (pc := 734) (DCa dc_Mod_init_7 29 rfl) (by decide) ?_
  refine V_bipush (pc := 736) (DCa dc_Mod_init_7 30 rfl) (by decide) ?_
  refine V_bipush (pc := 738) (DCa dc_Mod_init_7 31 rfl) (by decide) ?_
  refine V_bipush (pc := 740) (DCa dc_Mod_init_7 32 rfl) (by decide) ?_
  refine V_iconst (pc := 742) (DCa dc_Mod_init_7 33 rfl) (by decide) ?_
  refine V_iconst (pc := 743) (DCa dc_Mod_init_7 34 rfl) (by decide) ?_
  refine V_iconst (pc := 744) (DCa dc_Mod_init_7 35 rfl) (by decide) ?_
  refine Q_calls (st := [(0, 11), (2, v225)]) (pc := 745) (DCa dc_Mod_init_7 36 rfl) (sp_Mod_word F _ _ _ _ _ _ _ _) ce_Mod_word ml_12_201 rfl ⟨Nat.le_of_ble_eq_true rfl, Nat.le_of_ble_eq_true rfl⟩ rfl (Nat.le_of_ble_eq_true rfl) (fun r226 h227 => ?_)
  refine Q_lastore (pc := 748) (DCa dc_Mod_init_7 37 rfl) (fun h228 => ?_)
  refine V_aload_n (pc := 749) (DCa dc_Mod_init_7 38 rfl) rfl 0 rfl ?_
  refine Q_getf (k := 9) (pc := 750) (DCa dc_Mod_init_7 39 rfl) cls_12 (Nat.le_of_ble_eq_true rfl) fl_12_34 rfl rfl rfl (fun v229 => ?_)
  refine V_bipush (pc := 753) (DCa dc_Mod_init_7 40 rfl) (by decide) ?_
  refine V_bipush (pc := 755) (DCa dc_Mod_init_7 41 rfl) (by decide) ?_
  refine V_bipush (pc := 757) (DCa dc_Mod_init_7 42 rfl) (by decide) ?_
  refine V_bipush (pc := 759) (DCa dc_Mod_init_7 43 rfl) (by decide) ?_
  refine V_bipush (pc := 761) (DCa dc_Mod_init_7 44 rfl) (by decide) ?_
  refine V_iconst (pc := 763) (DCa dc_Mod_init_7 45 rfl) (by decide) ?_
  refine V_iconst (pc := 764) (DCa dc_Mod_init_7 46 rfl) (by decide) ?_
  refine V_iconst (pc := 765) (DCa dc_Mod_init_7 47 rfl) (by decide) ?_
  refine Q_calls (st := [(0, 12), (2, v229)]) (pc := 766) (DCa dc_Mod_init_7 48 rfl) (sp_Mod_word F _ _ _ _ _ _ _ _) ce_Mod_word ml_12_201 rfl ⟨Nat.le_of_ble_eq_true rfl, Nat.le_of_ble_eq_true rfl⟩ rfl (Nat.le_of_ble_eq_true rfl) (fun r230 h231 => ?_)
  refine Q_lastore (pc := 769) (DCa dc_Mod_init_7 49 rfl) (fun h232 => ?_)
  refine V_aload_n (pc := 770) (DCa dc_Mod_init_8 0 rfl) rfl 0 rfl ?_
  refine Q_getf (k := 9) (pc := 771) (DCa dc_Mod_init_8 1 rfl) cls_12 (Nat.le_of_ble_eq_true rfl) fl_12_34 rfl rfl rfl (fun v233 => ?_)
  refine V_bipush (pc := 774) (DCa dc_Mod_init_8 2 rfl) (by decide) ?_
  refine V_bipush (pc := 776) (DCa dc_Mod_init_8 3 rfl) (by decide) ?_
  refine V_iconst (pc := 778) (DCa dc_Mod_init_8 4 rfl) (by decide) ?_
  refine V_iconst (pc := 779) (DCa dc_Mod_init_8 5 rfl) (by decide) ?_
  refine V_iconst (pc := 780) (DCa dc_Mod_init_8 6 rfl) (by decide) ?_
  refine V_iconst (pc := 781) (DCa dc_Mod_init_8 7 rfl) (by decide) ?_
  refine V_iconst (pc := 782) (DCa dc_Mod_init_8 8 rfl) (by decide) ?_
  refine V_iconst (pc := 783) (DCa dc_Mod_init_8 9 rfl) (by decide) ?_
  refine Q_calls (st := [(0, 13), (2, v233)]) (pc := 784) (DCa dc_Mod_init_8 10 rfl) (sp_Mod_word F _ _ _ _ _ _ _ _) ce_Mod_word ml_12_201 rfl ⟨Nat.le_of_ble_eq_true rfl, Nat.le_of_ble_eq_true rfl⟩ rfl (Nat.le_of_ble_eq_true rfl) (fun r234 h235 => ?_)
  refine Q_lastore (pc := 787) (DCa dc_Mod_init_8 11 rfl) (fun h236 => ?_)
  refine V_aload_n (pc := 788) (DCa dc_Mod_init_8 12 rfl) rfl 0 rfl ?_
  refine Q_getf (k := 9) (pc := 789) (DCa dc_Mod_init_8 13 rfl) cls_12 (Nat.le_of_ble_eq_true rfl) fl_12_34 rfl rfl rfl (fun v237 => ?_)
  refine V_bipush (pc := 792) (DCa dc_Mod_init_8 14 rfl) (by decide) ?_
  refine V_bipush (pc := 794) (DCa dc_Mod_init_8 15 rfl) (by decide) ?_
  refine V_iconst (pc := 796) (DCa dc_Mod_init_8 16 rfl) (by decide) ?_
  refine V_iconst (pc := 797) (DCa dc_Mod_init_8 17 rfl) (by decide) ?_
  refine V_iconst (pc := 798) (DCa dc_Mod_init_8 18 rfl) (by decide) ?_
  refine V_iconst (pc := 799) (DCa dc_Mod_init_8 19 rfl) (by decide) ?_
  refine V_iconst (pc := 800) (DCa dc_Mod_init_8 20 rfl) (by decide) ?_
  refine V_iconst (pc := 801) (DCa dc_Mod_init_8 21 rfl) (by decide) ?_
  refine Q_calls (st := [(0, 14), (2, v237)]) (pc := 802) (DCa dc_Mod_init_8 22 rfl) (sp_Mod_word F _ _ _ _ _ _ _ _) ce_Mod_word ml_12_201 rfl ⟨Nat.le_of_ble_eq_true rfl, Nat.le_of_ble_eq_true rfl⟩ rfl (Nat.le_of_ble_eq_true rfl) (fun r238 h239 => ?_)
  refine Q_lastore (pc := 805) (DCa dc_Mod_init_8 23 rfl) (fun h240 => ?_)
  refine V_aload_n (pc := 806) (DCa dc_Mod_init_8 24 rfl) rfl 0 rfl ?_
  refine Q_getf (k := 9) (pc := 807) (DCa dc_Mod_init_8 25 rfl) cls_12 (Nat.le_of_ble_eq_true rfl) fl_12_34 rfl rfl rfl (fun v241 => ?_)
  refine V_bipush (pc := 810) (DCa dc_Mod_init_8 26 rfl) (by decide) ?_
  refine V_bipush (pc := 812) (DCa dc_Mod_init_8 27 rfl) (by decide) ?_
  refine V_bipush (pc := 814) (DCa dc_Mod_init_8 28 rfl) (by decide) ?_
  refine V_bipush (pc := 816) (DCa dc_Mod_init_8 29 rfl) (by decide) ?_
  refine V_bipush (pc := 818) (DCa dc_Mod_init_8 30 rfl) (by decide) ?_
  refine V_bipush (pc := 820) (DCa dc_Mod_init_8 31 rfl) (by decide) ?_
  refine V_bipush (pc := 822) (DCa dc_Mod_init_8 32 rfl) (by decide) ?_
  refine V_iconst (pc := 824) (DCa dc_Mod_init_8 33 rfl) (by decide) ?_
  refine Q_calls (st := [(0, 15), (2, v241)]) (pc := 825) (DCa dc_Mod_init_8 34 rfl) (sp_Mod_word F _ _ _ _ _ _ _ _) ce_Mod_word ml_12_201 rfl ⟨Nat.le_of_ble_eq_true rfl, Nat.le_of_ble_eq_true rfl⟩ rfl (Nat.le_of_ble_eq_true rfl) (fun r242 h243 => ?_)
  refine Q_lastore (pc := 828) (DCa dc_Mod_init_8 35 rfl) (fun h244 => ?_)
  refine V_aload_n (pc := 829) (DCa dc_Mod_init_8 36 rfl) rfl 0 rfl ?_
  refine Q_getf (k := 9) (pc := 830) (DCa dc_Mod_init_8 37 rfl) cls_12 (Nat.le_of_ble_eq_true rfl) fl_12_34 rfl rfl rfl (fun v245 => ?_)
  refine V_bipush (pc := 833) (DCa dc_Mod_init_8 38 rfl) (by decide) ?_
  refine V_bipush (pc := 835) (DCa dc_Mod_init_8 39 rfl) (by decide) ?_
  refine V_bipush (pc := 837) (DCa dc_Mod_init_8 40 rfl) (by decide) ?_
  refine V_bipush (pc := 839) (DCa dc_Mod_init_8 41 rfl) (by decide) ?_
  refine V_iconst (pc := 841) (DCa dc_Mod_init_8 42 rfl) (by decide) ?_
  refine V_iconst (pc := 842) (DCa dc_Mod_init_8 43 rfl) (by decide) ?_
  refine V_iconst (pc := 843) (DCa dc_Mod_init_8 44 rfl) (by decide) ?_
  refine V_iconst (pc := 844) (DCa dc_Mod_init_8 45 rfl) (by decide) ?_
  refine Q_calls (st := [(0, 16), (2, v245)]) (pc := 845) (DCa dc_Mod_init_8 46 rfl) (sp_Mod_word F _ _ _ _ _ _ _ _) ce_Mod_word ml_12_201 rfl ⟨Nat.le_of_ble_eq_true rfl, Nat.le_of_ble_eq_true rfl⟩ rfl (Nat.le_of_ble_eq_true rfl) (fun r246 h247 => ?_)
  refine Q_lastore (pc := 848) (DCa dc_Mod_init_8 47 rfl) (fun h248 => ?_)
  refine V_aload_n (pc := 849) (DCa dc_Mod_init_8 48 rfl) rfl 0 rfl ?_
  refine Q_getf (k := 9) (pc := 850) (DCa dc_Mod_init_8 49 rfl) cls_12 (Nat.le_of_ble_eq_true rfl) fl_12_34 rfl rfl rfl (fun v249 => ?_)
  refine V_bipush (pc := 853) (DCa dc_Mod_init_9 0 rfl) (by decide) ?_
  refine V_bipush (pc := 855) (DCa dc_Mod_init_9 1 rfl) (by decide) ?_
  refine V_bipush (pc := 857) (DCa dc_Mod_init_9 2 rfl) (by decide) ?_
  refine V_bipush (pc := 859) (DCa dc_Mod_init_9 3 rfl) (by decide) ?_
  refine V_iconst (pc := 861) (DCa dc_Mod_init_9 4 rfl) (by decide) ?_
  refine V_iconst (pc := 862) (DCa dc_Mod_init_9 5 rfl) (by decide) ?_
  refine V_iconst (pc := 863) (DCa dc_Mod_init_9 6 rfl) (by decide) ?_
  refine V_iconst (pc := 864) (DCa dc_Mod_init_9 7 rfl) (by decide) ?_
  refine Q_calls (st := [(0, 17), (2, v249)]) (pc := 865) (DCa dc_Mod_init_9 8 rfl) (sp_Mod_word F _ _ _ _ _ _ _ _) ce_Mod_word ml_12_201 rfl ⟨Nat.le_of_ble_eq_true rfl, Nat.le_of_ble_eq_true rfl⟩ rfl (Nat.le_of_ble_eq_true rfl) (fun r250 h251 => ?_)
  refine Q_lastore (pc := 868) (DCa dc_Mod_init_9 9 rfl) (fun h252 => ?_)
  refine V_aload_n (pc := 869) (DCa dc_Mod_init_9 10 rfl) rfl 0 rfl ?_
  refine Q_callv (ci := 12) (st := []) (pc := 870) (DCa dc_Mod_init_9 11 rfl) (sp_Mod_layOut F _ _) ce_Mod_layOut ml_12_205 rfl rfl ⟨Nat.le_of_ble_eq_true rfl, Nat.le_of_ble_eq_true rfl⟩ rfl (Nat.le_of_ble_eq_true rfl) (fun r253 h254 => ?_)
  refine V_aload_n (pc := 873) (DCa dc_Mod_init_9 12 rfl) rfl 0 rfl ?_
  refine Q_callv (ci := 12) (st := []) (pc := 874) (DCa dc_Mod_init_9 13 rfl) (sp_Mod_begins F _ _) ce_Mod_begins ml_12_208 rfl rfl ⟨Nat.le_of_ble_eq_true rfl, Nat.le_of_ble_eq_true rfl⟩ rfl (Nat.le_of_ble_eq_true rfl) (fun r255 h256 => ?_)
  refine V_aload_n (pc := 877) (DCa dc_Mod_init_9 14 rfl) rfl 0 rfl ?_
  refine Q_callv (ci := 12) (st := []) (pc := 878) (DCa dc_Mod_init_9 15 rfl) (sp_Mod_keepsRow F _ _) ce_Mod_keepsRow ml_12_211 rfl rfl ⟨Nat.le_of_ble_eq_true rfl, Nat.le_of_ble_eq_true rfl⟩ rfl (Nat.le_of_ble_eq_true rfl) (fun r257 h258 => ?_)
  exact V_return (pc := 881) (DCa dc_Mod_init_9 16 rfl) rfl
theorem sp_Mod_init (F : Nat) (l0 : Int) (h : Hp) : Sp yX12_init cX12_init 1 none 5 120 [(2, l0)] h (Mod_init F l0 h) := Sp_of (by decide +kernel) rfl rfl (Nat.le_of_ble_eq_true rfl) (v_Mod_init F l0 h)

-- TideRakesModel.put
def Mod_put_L3s (F : Nat)  (R3 : Int → Int → Int → Hp → Option (Int × Hp)) (l0 l1 l2 : Int) (h : Hp) : Option (Int × Hp) :=
  if l2 < 0 then
    (some (0, h))
  else
    (gf h l0 112 1 fun v1 =>
    gf h l0 112 2 fun v2 =>
    as h v1 1 v2 (i2b (i2b (ishr l1 l2))) fun h3 =>
    gf h3 l0 112 2 fun v4 =>
    pf h3 l0 112 2 (w32 (v4 + 1)) fun h5 =>
    R3 l0 l1 (w32 (l2 + (-8))) h5)
def Mod_put_L3 (F : Nat)  : Nat → Int → Int → Int → Hp → Option (Int × Hp)
  | 0 => fun _ _ _ _ => none
  | n + 1 => Mod_put_L3s F  (Mod_put_L3 F  n)
def Mod_put (F : Nat) (l0 l1 : Int) (h : Hp) : Option (Int × Hp) :=
  Mod_put_L3 F F l0 l1 24 h

theorem dc_Mod_put_0 : ∀ q ∈ ([(0, .bipush 24, 2), (2, .istore_n 2, 1), (3, .iload_n 2, 1), (4, .ifCond .lt 32, 3), (7, .aload_n 0, 1), (8, .getfield 13, 3), (11, .aload_n 0, 1), (12, .getfield 214, 3), (15, .iload_n 1, 1), (16, .iload_n 2, 1), (17, .ishr, 1), (18, .i2b, 1), (19, .bastore, 1), (20, .aload_n 0, 1), (21, .dup, 1), (22, .getfield 214, 3), (25, .iconst 1, 1), (26, .iadd, 1), (27, .putfield 214, 3), (30, .iinc 2 (-8), 3), (33, .goto (-30), 3), (36, .return_, 1)] : List (Nat × Instr × Nat)), decode cX12_put q.1 = .ok (q.2.1, q.2.2) := by decide +kernel
abbrev X_Mod_put : MX := (cX12_put, RX12, "put", 3, none, 1, 20)
theorem v_Mod_put_L3s (F : Nat)  (R3 : Int → Int → Int → Hp → Option (Int × Hp)) (hR3 : ∀ (l0 l1 l2 : Int) (h : Hp), V X_Mod_put 3 [(0, 2, l0), (1, 0, l1), (2, 0, l2)] [] h (R3 l0 l1 l2 h)) (l0 l1 l2 : Int) (h : Hp) : V X_Mod_put 3 [(0, 2, l0), (1, 0, l1), (2, 0, l2)] [] h (Mod_put_L3s F  R3 l0 l1 l2 h) := by
  unfold Mod_put_L3s
  refine V_iload_n (pc := 3) (DCa dc_Mod_put_0 2 rfl) rfl 2 rfl ?_
  refine V_if_lt (tgt := 36) (pc := 4) (DCa dc_Mod_put_0 3 rfl) (by decide) (fun _ => ?_) (fun _ => ?_)
  · exact V_return (pc := 36) (DCa dc_Mod_put_0 21 rfl) rfl
  · refine V_aload_n (pc := 7) (DCa dc_Mod_put_0 4 rfl) rfl 0 rfl ?_
    refine Q_getf (k := 1) (pc := 8) (DCa dc_Mod_put_0 5 rfl) cls_12 (Nat.le_of_ble_eq_true rfl) fl_12_13 rfl rfl rfl (fun v1 => ?_)
    refine V_aload_n (pc := 11) (DCa dc_Mod_put_0 6 rfl) rfl 0 rfl ?_
    refine Q_getf (k := 2) (pc := 12) (DCa dc_Mod_put_0 7 rfl) cls_12 (Nat.le_of_ble_eq_true rfl) fl_12_214 rfl rfl rfl (fun v2 => ?_)
    refine V_iload_n (pc := 15) (DCa dc_Mod_put_0 8 rfl) rfl 1 rfl ?_
    refine V_iload_n (pc := 16) (DCa dc_Mod_put_0 9 rfl) rfl 2 rfl ?_
    refine V_ishr (pc := 17) (DCa dc_Mod_put_0 10 rfl) ?_
    refine V_i2b (pc := 18) (DCa dc_Mod_put_0 11 rfl) ?_
    refine Q_bastore (pc := 19) (DCa dc_Mod_put_0 12 rfl) (fun h3 => ?_)
    refine V_aload_n (pc := 20) (DCa dc_Mod_put_0 13 rfl) rfl 0 rfl ?_
    refine V_dup (pc := 21) (DCa dc_Mod_put_0 14 rfl) rfl ?_
    refine Q_getf (k := 2) (pc := 22) (DCa dc_Mod_put_0 15 rfl) cls_12 (Nat.le_of_ble_eq_true rfl) fl_12_214 rfl rfl rfl (fun v4 => ?_)
    refine V_iconst (pc := 25) (DCa dc_Mod_put_0 16 rfl) (by decide) ?_
    refine V_iadd (pc := 26) (DCa dc_Mod_put_0 17 rfl) ?_
    refine Q_putf (k := 2) (pc := 27) (DCa dc_Mod_put_0 18 rfl) cls_12 (Nat.le_of_ble_eq_true rfl) fl_12_214 rfl rfl rfl (Or.inl rfl) (Or.inl ⟨rfl, rfl⟩) (fun h5 => ?_)
    refine V_iinc (ls' := [(0, 2, l0), (1, 0, l1), (2, 0, w32 (l2 + (-8)))]) (pc := 30) (DCa dc_Mod_put_0 19 rfl) (Nat.le_of_ble_eq_true rfl) (by decide) 2 rfl rfl ?_
    refine V_goto (tgt := 3) (pc := 33) (DCa dc_Mod_put_0 20 rfl) (by decide) ?_
    exact hR3 _ _ _ _
theorem v_Mod_put_L3 (F : Nat)  (n : Nat) : ∀ (l0 l1 l2 : Int) (h : Hp), V X_Mod_put 3 [(0, 2, l0), (1, 0, l1), (2, 0, l2)] [] h (Mod_put_L3 F  n l0 l1 l2 h) := by
  induction n with
  | zero => intros; exact V_none
  | succ n ih => exact fun l0 l1 l2 h => v_Mod_put_L3s F  _ ih l0 l1 l2 h
theorem v_Mod_put (F : Nat) (l0 l1 : Int) (h : Hp) : V X_Mod_put 0 [(0, 2, l0), (1, 0, l1)] [] h (Mod_put F l0 l1 h) := by
  unfold Mod_put
  refine V_bipush (pc := 0) (DCa dc_Mod_put_0 0 rfl) (by decide) ?_
  refine V_istore_n (ls' := [(0, 2, l0), (1, 0, l1), (2, 0, 24)]) (pc := 2) (DCa dc_Mod_put_0 1 rfl) rfl (Nat.le_of_ble_eq_true rfl) rfl ?_
  exact v_Mod_put_L3 F F _ _ _ _
theorem sp_Mod_put (F : Nat) (l0 l1 : Int) (h : Hp) : Sp yX12_put cX12_put 3 none 1 20 [(2, l0), (0, l1)] h (Mod_put F l0 l1 h) := Sp_of (by decide +kernel) rfl rfl (Nat.le_of_ble_eq_true rfl) (v_Mod_put F l0 l1 h)

-- TideRakesModel.feed
def Mod_feed (F : Nat) (l0 l1 l2 l3 l4 l5 : Int) (h : Hp) : Option (Int × Hp) :=
  gf h l0 112 2 fun v1 =>
  if 2000 < (w32 (v1 + 20)) then
    (some ((-1), h))
  else
    (iv h l0 112 (Mod_put F l0 l1 h) fun r2 h3 =>
    iv h3 l0 112 (Mod_put F l0 l2 h3) fun r4 h5 =>
    iv h5 l0 112 (Mod_put F l0 l3 h5) fun r6 h7 =>
    iv h7 l0 112 (Mod_put F l0 l4 h7) fun r8 h9 =>
    iv h9 l0 112 (Mod_put F l0 l5 h9) fun r10 h11 =>
    gf h11 l0 112 2 fun v12 =>
    some (v12, h11))

theorem dc_Mod_feed_0 : ∀ q ∈ ([(0, .aload_n 0, 1), (1, .getfield 214, 3), (4, .bipush 20, 2), (6, .iadd, 1), (7, .sipush 2000, 3), (10, .if_icmp .le 5, 3), (13, .iconst (-1), 1), (14, .ireturn, 1), (15, .aload_n 0, 1), (16, .iload_n 1, 1), (17, .invokevirtual 217, 3), (20, .aload_n 0, 1), (21, .iload_n 2, 1), (22, .invokevirtual 217, 3), (25, .aload_n 0, 1), (26, .iload_n 3, 1), (27, .invokevirtual 217, 3), (30, .aload_n 0, 1), (31, .iload 4, 2), (33, .invokevirtual 217, 3), (36, .aload_n 0, 1), (37, .iload 5, 2), (39, .invokevirtual 217, 3), (42, .aload_n 0, 1), (43, .getfield 214, 3), (46, .ireturn, 1)] : List (Nat × Instr × Nat)), decode cX12_feed q.1 = .ok (q.2.1, q.2.2) := by decide +kernel
abbrev X_Mod_feed : MX := (cX12_feed, RX12, "feed", 6, (some (.int)), 2, 42)
theorem v_Mod_feed (F : Nat) (l0 l1 l2 l3 l4 l5 : Int) (h : Hp) : V X_Mod_feed 0 [(0, 2, l0), (1, 0, l1), (2, 0, l2), (3, 0, l3), (4, 0, l4), (5, 0, l5)] [] h (Mod_feed F l0 l1 l2 l3 l4 l5 h) := by
  unfold Mod_feed
  refine V_aload_n (pc := 0) (DCa dc_Mod_feed_0 0 rfl) rfl 0 rfl ?_
  refine Q_getf (k := 2) (pc := 1) (DCa dc_Mod_feed_0 1 rfl) cls_12 (Nat.le_of_ble_eq_true rfl) fl_12_214 rfl rfl rfl (fun v1 => ?_)
  refine V_bipush (pc := 4) (DCa dc_Mod_feed_0 2 rfl) (by decide) ?_
  refine V_iadd (pc := 6) (DCa dc_Mod_feed_0 3 rfl) ?_
  refine V_sipush (pc := 7) (DCa dc_Mod_feed_0 4 rfl) (by decide) ?_
  refine V_icmp_le (tgt := 15) (pc := 10) (DCa dc_Mod_feed_0 5 rfl) (by decide) (fun _ => ?_) (fun _ => ?_)
  · refine V_iconst (pc := 13) (DCa dc_Mod_feed_0 6 rfl) (by decide) ?_
    exact V_ireturn (pc := 14) (DCa dc_Mod_feed_0 7 rfl) rfl
  · refine V_aload_n (pc := 15) (DCa dc_Mod_feed_0 8 rfl) rfl 0 rfl ?_
    refine V_iload_n (pc := 16) (DCa dc_Mod_feed_0 9 rfl) rfl 1 rfl ?_
    refine Q_callv (ci := 12) (st := []) (pc := 17) (DCa dc_Mod_feed_0 10 rfl) (sp_Mod_put F _ _ _) ce_Mod_put ml_12_217 rfl rfl ⟨Nat.le_of_ble_eq_true rfl, Nat.le_of_ble_eq_true rfl⟩ rfl (Nat.le_of_ble_eq_true rfl) (fun r2 h3 => ?_)
    refine V_aload_n (pc := 20) (DCa dc_Mod_feed_0 11 rfl) rfl 0 rfl ?_
    refine V_iload_n (pc := 21) (DCa dc_Mod_feed_0 12 rfl) rfl 2 rfl ?_
    refine Q_callv (ci := 12) (st := []) (pc := 22) (DCa dc_Mod_feed_0 13 rfl) (sp_Mod_put F _ _ _) ce_Mod_put ml_12_217 rfl rfl ⟨Nat.le_of_ble_eq_true rfl, Nat.le_of_ble_eq_true rfl⟩ rfl (Nat.le_of_ble_eq_true rfl) (fun r4 h5 => ?_)
    refine V_aload_n (pc := 25) (DCa dc_Mod_feed_0 14 rfl) rfl 0 rfl ?_
    refine V_iload_n (pc := 26) (DCa dc_Mod_feed_0 15 rfl) rfl 3 rfl ?_
    refine Q_callv (ci := 12) (st := []) (pc := 27) (DCa dc_Mod_feed_0 16 rfl) (sp_Mod_put F _ _ _) ce_Mod_put ml_12_217 rfl rfl ⟨Nat.le_of_ble_eq_true rfl, Nat.le_of_ble_eq_true rfl⟩ rfl (Nat.le_of_ble_eq_true rfl) (fun r6 h7 => ?_)
    refine V_aload_n (pc := 30) (DCa dc_Mod_feed_0 17 rfl) rfl 0 rfl ?_
    refine V_iload (pc := 31) (DCa dc_Mod_feed_0 18 rfl) 4 rfl ?_
    refine Q_callv (ci := 12) (st := []) (pc := 33) (DCa dc_Mod_feed_0 19 rfl) (sp_Mod_put F _ _ _) ce_Mod_put ml_12_217 rfl rfl ⟨Nat.le_of_ble_eq_true rfl, Nat.le_of_ble_eq_true rfl⟩ rfl (Nat.le_of_ble_eq_true rfl) (fun r8 h9 => ?_)
    refine V_aload_n (pc := 36) (DCa dc_Mod_feed_0 20 rfl) rfl 0 rfl ?_
    refine V_iload (pc := 37) (DCa dc_Mod_feed_0 21 rfl) 5 rfl ?_
    refine Q_callv (ci := 12) (st := []) (pc := 39) (DCa dc_Mod_feed_0 22 rfl) (sp_Mod_put F _ _ _) ce_Mod_put ml_12_217 rfl rfl ⟨Nat.le_of_ble_eq_true rfl, Nat.le_of_ble_eq_true rfl⟩ rfl (Nat.le_of_ble_eq_true rfl) (fun r10 h11 => ?_)
    refine V_aload_n (pc := 42) (DCa dc_Mod_feed_0 23 rfl) rfl 0 rfl ?_
    refine Q_getf (k := 2) (pc := 43) (DCa dc_Mod_feed_0 24 rfl) cls_12 (Nat.le_of_ble_eq_true rfl) fl_12_214 rfl rfl rfl (fun v12 => ?_)
    exact V_ireturn (pc := 46) (DCa dc_Mod_feed_0 25 rfl) rfl
theorem sp_Mod_feed (F : Nat) (l0 l1 l2 l3 l4 l5 : Int) (h : Hp) : Sp yX12_feed cX12_feed 6 (some (.int)) 2 42 [(2, l0), (0, l1), (0, l2), (0, l3), (0, l4), (0, l5)] h (Mod_feed F l0 l1 l2 l3 l4 l5 h) := Sp_of (by decide +kernel) rfl rfl (Nat.le_of_ble_eq_true rfl) (v_Mod_feed F l0 l1 l2 l3 l4 l5 h)

-- TideRakesModel.back
def Mod_back (F : Nat) (l0 l1 : Int) (h : Hp) : Option (Int × Hp) :=
  if l1 < 0 then
    (some ((-1), h))
  else
    (gf h l0 112 2 fun v1 =>
    if v1 < l1 then
      (some ((-1), h))
    else
      (gf h l0 112 2 fun v2 =>
      pf h l0 112 2 (w32 (v2 - l1)) fun h3 =>
      gf h3 l0 112 2 fun v4 =>
      some (v4, h3)))

theorem dc_Mod_back_0 : ∀ q ∈ ([(0, .iload_n 1, 1), (1, .ifCond .lt 11, 3), (4, .iload_n 1, 1), (5, .aload_n 0, 1), (6, .getfield 214, 3), (9, .if_icmp .le 5, 3), (12, .iconst (-1), 1), (13, .ireturn, 1), (14, .aload_n 0, 1), (15, .dup, 1), (16, .getfield 214, 3), (19, .iload_n 1, 1), (20, .isub, 1), (21, .putfield 214, 3), (24, .aload_n 0, 1), (25, .getfield 214, 3), (28, .ireturn, 1)] : List (Nat × Instr × Nat)), decode cX12_back q.1 = .ok (q.2.1, q.2.2) := by decide +kernel
abbrev X_Mod_back : MX := (cX12_back, RX12, "back", 2, (some (.int)), 1, 20)
theorem v_Mod_back (F : Nat) (l0 l1 : Int) (h : Hp) : V X_Mod_back 0 [(0, 2, l0), (1, 0, l1)] [] h (Mod_back F l0 l1 h) := by
  unfold Mod_back
  refine V_iload_n (pc := 0) (DCa dc_Mod_back_0 0 rfl) rfl 1 rfl ?_
  refine V_if_lt (tgt := 12) (pc := 1) (DCa dc_Mod_back_0 1 rfl) (by decide) (fun _ => ?_) (fun _ => ?_)
  · refine V_iconst (pc := 12) (DCa dc_Mod_back_0 6 rfl) (by decide) ?_
    exact V_ireturn (pc := 13) (DCa dc_Mod_back_0 7 rfl) rfl
  · refine V_iload_n (pc := 4) (DCa dc_Mod_back_0 2 rfl) rfl 1 rfl ?_
    refine V_aload_n (pc := 5) (DCa dc_Mod_back_0 3 rfl) rfl 0 rfl ?_
    refine Q_getf (k := 2) (pc := 6) (DCa dc_Mod_back_0 4 rfl) cls_12 (Nat.le_of_ble_eq_true rfl) fl_12_214 rfl rfl rfl (fun v1 => ?_)
    refine V_icmp_le (tgt := 14) (pc := 9) (DCa dc_Mod_back_0 5 rfl) (by decide) (fun _ => ?_) (fun _ => ?_)
    · refine V_iconst (pc := 12) (DCa dc_Mod_back_0 6 rfl) (by decide) ?_
      exact V_ireturn (pc := 13) (DCa dc_Mod_back_0 7 rfl) rfl
    · refine V_aload_n (pc := 14) (DCa dc_Mod_back_0 8 rfl) rfl 0 rfl ?_
      refine V_dup (pc := 15) (DCa dc_Mod_back_0 9 rfl) rfl ?_
      refine Q_getf (k := 2) (pc := 16) (DCa dc_Mod_back_0 10 rfl) cls_12 (Nat.le_of_ble_eq_true rfl) fl_12_214 rfl rfl rfl (fun v2 => ?_)
      refine V_iload_n (pc := 19) (DCa dc_Mod_back_0 11 rfl) rfl 1 rfl ?_
      refine V_isub (pc := 20) (DCa dc_Mod_back_0 12 rfl) ?_
      refine Q_putf (k := 2) (pc := 21) (DCa dc_Mod_back_0 13 rfl) cls_12 (Nat.le_of_ble_eq_true rfl) fl_12_214 rfl rfl rfl (Or.inl rfl) (Or.inl ⟨rfl, rfl⟩) (fun h3 => ?_)
      refine V_aload_n (pc := 24) (DCa dc_Mod_back_0 14 rfl) rfl 0 rfl ?_
      refine Q_getf (k := 2) (pc := 25) (DCa dc_Mod_back_0 15 rfl) cls_12 (Nat.le_of_ble_eq_true rfl) fl_12_214 rfl rfl rfl (fun v4 => ?_)
      exact V_ireturn (pc := 28) (DCa dc_Mod_back_0 16 rfl) rfl
theorem sp_Mod_back (F : Nat) (l0 l1 : Int) (h : Hp) : Sp yX12_back cX12_back 2 (some (.int)) 1 20 [(2, l0), (0, l1)] h (Mod_back F l0 l1 h) := Sp_of (by decide +kernel) rfl rfl (Nat.le_of_ble_eq_true rfl) (v_Mod_back F l0 l1 h)

-- TideRakesModel.byteAt
def Mod_byteAt (F : Nat) (l0 l1 : Int) (h : Hp) : Option (Int × Hp) :=
  gf h l0 112 4 fun v1 =>
  if l1 < v1 then
    (gf h l0 112 3 fun v2 =>
    al h v2 1 l1 fun v3 =>
    some (iand v3 255, h))
  else
    (some (0, h))

theorem dc_Mod_byteAt_0 : ∀ q ∈ ([(0, .iload_n 1, 1), (1, .aload_n 0, 1), (2, .getfield 220, 3), (5, .if_icmp .ge 16, 3), (8, .aload_n 0, 1), (9, .getfield 17, 3), (12, .iload_n 1, 1), (13, .baload, 1), (14, .sipush 255, 3), (17, .iand, 1), (18, .goto 4, 3), (21, .iconst 0, 1), (22, .ireturn, 1)] : List (Nat × Instr × Nat)), decode cX12_byteAt q.1 = .ok (q.2.1, q.2.2) := by decide +kernel
abbrev X_Mod_byteAt : MX := (cX12_byteAt, RX12, "byteAt", 2, (some (.int)), 1, 20)
theorem v_Mod_byteAt (F : Nat) (l0 l1 : Int) (h : Hp) : V X_Mod_byteAt 0 [(0, 2, l0), (1, 0, l1)] [] h (Mod_byteAt F l0 l1 h) := by
  unfold Mod_byteAt
  refine V_iload_n (pc := 0) (DCa dc_Mod_byteAt_0 0 rfl) rfl 1 rfl ?_
  refine V_aload_n (pc := 1) (DCa dc_Mod_byteAt_0 1 rfl) rfl 0 rfl ?_
  refine Q_getf (k := 4) (pc := 2) (DCa dc_Mod_byteAt_0 2 rfl) cls_12 (Nat.le_of_ble_eq_true rfl) fl_12_220 rfl rfl rfl (fun v1 => ?_)
  refine V_icmp_ge (tgt := 21) (pc := 5) (DCa dc_Mod_byteAt_0 3 rfl) (by decide) (fun _ => ?_) (fun _ => ?_)
  · refine V_aload_n (pc := 8) (DCa dc_Mod_byteAt_0 4 rfl) rfl 0 rfl ?_
    refine Q_getf (k := 3) (pc := 9) (DCa dc_Mod_byteAt_0 5 rfl) cls_12 (Nat.le_of_ble_eq_true rfl) fl_12_17 rfl rfl rfl (fun v2 => ?_)
    refine V_iload_n (pc := 12) (DCa dc_Mod_byteAt_0 6 rfl) rfl 1 rfl ?_
    refine Q_baload (pc := 13) (DCa dc_Mod_byteAt_0 7 rfl) (fun v3 => ?_)
    refine V_sipush (pc := 14) (DCa dc_Mod_byteAt_0 8 rfl) (by decide) ?_
    refine V_iand (pc := 17) (DCa dc_Mod_byteAt_0 9 rfl) ?_
    refine V_goto (tgt := 22) (pc := 18) (DCa dc_Mod_byteAt_0 10 rfl) (by decide) ?_
    exact V_ireturn (pc := 22) (DCa dc_Mod_byteAt_0 12 rfl) rfl
  · refine V_iconst (pc := 21) (DCa dc_Mod_byteAt_0 11 rfl) (by decide) ?_
    exact V_ireturn (pc := 22) (DCa dc_Mod_byteAt_0 12 rfl) rfl
theorem sp_Mod_byteAt (F : Nat) (l0 l1 : Int) (h : Hp) : Sp yX12_byteAt cX12_byteAt 2 (some (.int)) 1 20 [(2, l0), (0, l1)] h (Mod_byteAt F l0 l1 h) := Sp_of (by decide +kernel) rfl rfl (Nat.le_of_ble_eq_true rfl) (v_Mod_byteAt F l0 l1 h)

-- TideRakesModel.isDigit
def Mod_isDigit (F : Nat) (l0 : Int) (h : Hp) : Option (Int × Hp) :=
  if l0 < 48 then
    (rz 0 h)
  else
    (if 57 < l0 then
      (rz 0 h)
    else
      (rz 1 h))

theorem dc_Mod_isDigit_0 : ∀ q ∈ ([(0, .iload_n 0, 1), (1, .bipush 48, 2), (3, .if_icmp .lt 13, 3), (6, .iload_n 0, 1), (7, .bipush 57, 2), (9, .if_icmp .gt 7, 3), (12, .iconst 1, 1), (13, .goto 4, 3), (16, .iconst 0, 1), (17, .ireturn, 1)] : List (Nat × Instr × Nat)), decode cX12_isDigit q.1 = .ok (q.2.1, q.2.2) := by decide +kernel
abbrev X_Mod_isDigit : MX := (cX12_isDigit, RX12, "isDigit", 1, (some (.boolean)), 1, 20)
theorem v_Mod_isDigit (F : Nat) (l0 : Int) (h : Hp) : V X_Mod_isDigit 0 [(0, 0, l0)] [] h (Mod_isDigit F l0 h) := by
  unfold Mod_isDigit
  refine V_iload_n (pc := 0) (DCa dc_Mod_isDigit_0 0 rfl) rfl 0 rfl ?_
  refine V_bipush (pc := 1) (DCa dc_Mod_isDigit_0 1 rfl) (by decide) ?_
  refine V_icmp_lt (tgt := 16) (pc := 3) (DCa dc_Mod_isDigit_0 2 rfl) (by decide) (fun _ => ?_) (fun _ => ?_)
  · refine V_iconst (pc := 16) (DCa dc_Mod_isDigit_0 8 rfl) (by decide) ?_
    exact V_zreturn (pc := 17) (DCa dc_Mod_isDigit_0 9 rfl) rfl
  · refine V_iload_n (pc := 6) (DCa dc_Mod_isDigit_0 3 rfl) rfl 0 rfl ?_
    refine V_bipush (pc := 7) (DCa dc_Mod_isDigit_0 4 rfl) (by decide) ?_
    refine V_icmp_gt (tgt := 16) (pc := 9) (DCa dc_Mod_isDigit_0 5 rfl) (by decide) (fun _ => ?_) (fun _ => ?_)
    · refine V_iconst (pc := 16) (DCa dc_Mod_isDigit_0 8 rfl) (by decide) ?_
      exact V_zreturn (pc := 17) (DCa dc_Mod_isDigit_0 9 rfl) rfl
    · refine V_iconst (pc := 12) (DCa dc_Mod_isDigit_0 6 rfl) (by decide) ?_
      refine V_goto (tgt := 17) (pc := 13) (DCa dc_Mod_isDigit_0 7 rfl) (by decide) ?_
      exact V_zreturn (pc := 17) (DCa dc_Mod_isDigit_0 9 rfl) rfl
theorem sp_Mod_isDigit (F : Nat) (l0 : Int) (h : Hp) : Sp yX12_isDigit cX12_isDigit 1 (some (.boolean)) 1 20 [(0, l0)] h (Mod_isDigit F l0 h) := Sp_of (by decide +kernel) rfl rfl (Nat.le_of_ble_eq_true rfl) (v_Mod_isDigit F l0 h)

-- TideRakesModel.isLetter
def Mod_isLetter (F : Nat) (l0 : Int) (h : Hp) : Option (Int × Hp) :=
  if l0 < 97 then
    (rz 0 h)
  else
    (if 122 < l0 then
      (rz 0 h)
    else
      (rz 1 h))

theorem dc_Mod_isLetter_0 : ∀ q ∈ ([(0, .iload_n 0, 1), (1, .bipush 97, 2), (3, .if_icmp .lt 13, 3), (6, .iload_n 0, 1), (7, .bipush 122, 2), (9, .if_icmp .gt 7, 3), (12, .iconst 1, 1), (13, .goto 4, 3), (16, .iconst 0, 1), (17, .ireturn, 1)] : List (Nat × Instr × Nat)), decode cX12_isLetter q.1 = .ok (q.2.1, q.2.2) := by decide +kernel
abbrev X_Mod_isLetter : MX := (cX12_isLetter, RX12, "isLetter", 1, (some (.boolean)), 1, 20)
theorem v_Mod_isLetter (F : Nat) (l0 : Int) (h : Hp) : V X_Mod_isLetter 0 [(0, 0, l0)] [] h (Mod_isLetter F l0 h) := by
  unfold Mod_isLetter
  refine V_iload_n (pc := 0) (DCa dc_Mod_isLetter_0 0 rfl) rfl 0 rfl ?_
  refine V_bipush (pc := 1) (DCa dc_Mod_isLetter_0 1 rfl) (by decide) ?_
  refine V_icmp_lt (tgt := 16) (pc := 3) (DCa dc_Mod_isLetter_0 2 rfl) (by decide) (fun _ => ?_) (fun _ => ?_)
  · refine V_iconst (pc := 16) (DCa dc_Mod_isLetter_0 8 rfl) (by decide) ?_
    exact V_zreturn (pc := 17) (DCa dc_Mod_isLetter_0 9 rfl) rfl
  · refine V_iload_n (pc := 6) (DCa dc_Mod_isLetter_0 3 rfl) rfl 0 rfl ?_
    refine V_bipush (pc := 7) (DCa dc_Mod_isLetter_0 4 rfl) (by decide) ?_
    refine V_icmp_gt (tgt := 16) (pc := 9) (DCa dc_Mod_isLetter_0 5 rfl) (by decide) (fun _ => ?_) (fun _ => ?_)
    · refine V_iconst (pc := 16) (DCa dc_Mod_isLetter_0 8 rfl) (by decide) ?_
      exact V_zreturn (pc := 17) (DCa dc_Mod_isLetter_0 9 rfl) rfl
    · refine V_iconst (pc := 12) (DCa dc_Mod_isLetter_0 6 rfl) (by decide) ?_
      refine V_goto (tgt := 17) (pc := 13) (DCa dc_Mod_isLetter_0 7 rfl) (by decide) ?_
      exact V_zreturn (pc := 17) (DCa dc_Mod_isLetter_0 9 rfl) rfl
theorem sp_Mod_isLetter (F : Nat) (l0 : Int) (h : Hp) : Sp yX12_isLetter cX12_isLetter 1 (some (.boolean)) 1 20 [(0, l0)] h (Mod_isLetter F l0 h) := Sp_of (by decide +kernel) rfl rfl (Nat.le_of_ble_eq_true rfl) (v_Mod_isLetter F l0 h)

-- TideRakesModel.token
def Mod_token (F : Nat) (l0 l1 l2 l3 l4 : Int) (h : Hp) : Option (Int × Hp) :=
  gf h l0 112 5 fun v1 =>
  gf h l0 112 10 fun v2 =>
  as h v1 0 v2 l1 fun h3 =>
  gf h3 l0 112 6 fun v4 =>
  gf h3 l0 112 10 fun v5 =>
  as h3 v4 0 v5 l2 fun h6 =>
  gf h6 l0 112 7 fun v7 =>
  gf h6 l0 112 10 fun v8 =>
  as h6 v7 0 v8 l3 fun h9 =>
  gf h9 l0 112 8 fun v10 =>
  gf h9 l0 112 10 fun v11 =>
  as h9 v10 3 v11 l4 fun h12 =>
  gf h12 l0 112 10 fun v13 =>
  pf h12 l0 112 10 (w32 (v13 + 1)) fun h14 =>
  some (0, h14)

theorem dc_Mod_token_0 : ∀ q ∈ ([(0, .aload_n 0, 1), (1, .getfield 20, 3), (4, .aload_n 0, 1), (5, .getfield 229, 3), (8, .iload_n 1, 1), (9, .iastore, 1), (10, .aload_n 0, 1), (11, .getfield 24, 3), (14, .aload_n 0, 1), (15, .getfield 229, 3), (18, .iload_n 2, 1), (19, .iastore, 1), (20, .aload_n 0, 1), (21, .getfield 27, 3), (24, .aload_n 0, 1), (25, .getfield 229, 3), (28, .iload_n 3, 1), (29, .iastore, 1), (30, .aload_n 0, 1), (31, .getfield 30, 3), (34, .aload_n 0, 1), (35, .getfield 229, 3), (38, .lload 4, 2), (40, .lastore, 1), (41, .aload_n 0, 1), (42, .dup, 1), (43, .getfield 229, 3), (46, .iconst 1, 1), (47, .iadd, 1), (48, .putfield 229, 3), (51, .return_, 1)] : List (Nat × Instr × Nat)), decode cX12_token q.1 = .ok (q.2.1, q.2.2) := by decide +kernel
abbrev X_Mod_token : MX := (cX12_token, RX12, "token", 6, none, 1, 20)
theorem v_Mod_token (F : Nat) (l0 l1 l2 l3 l4 : Int) (h : Hp) : V X_Mod_token 0 [(0, 2, l0), (1, 0, l1), (2, 0, l2), (3, 0, l3), (4, 1, l4)] [] h (Mod_token F l0 l1 l2 l3 l4 h) := by
  unfold Mod_token
  refine V_aload_n (pc := 0) (DCa dc_Mod_token_0 0 rfl) rfl 0 rfl ?_
  refine Q_getf (k := 5) (pc := 1) (DCa dc_Mod_token_0 1 rfl) cls_12 (Nat.le_of_ble_eq_true rfl) fl_12_20 rfl rfl rfl (fun v1 => ?_)
  refine V_aload_n (pc := 4) (DCa dc_Mod_token_0 2 rfl) rfl 0 rfl ?_
  refine Q_getf (k := 10) (pc := 5) (DCa dc_Mod_token_0 3 rfl) cls_12 (Nat.le_of_ble_eq_true rfl) fl_12_229 rfl rfl rfl (fun v2 => ?_)
  refine V_iload_n (pc := 8) (DCa dc_Mod_token_0 4 rfl) rfl 1 rfl ?_
  refine Q_iastore (pc := 9) (DCa dc_Mod_token_0 5 rfl) (fun h3 => ?_)
  refine V_aload_n (pc := 10) (DCa dc_Mod_token_0 6 rfl) rfl 0 rfl ?_
  refine Q_getf (k := 6) (pc := 11) (DCa dc_Mod_token_0 7 rfl) cls_12 (Nat.le_of_ble_eq_true rfl) fl_12_24 rfl rfl rfl (fun v4 => ?_)
  refine V_aload_n (pc := 14) (DCa dc_Mod_token_0 8 rfl) rfl 0 rfl ?_
  refine Q_getf (k := 10) (pc := 15) (DCa dc_Mod_token_0 9 rfl) cls_12 (Nat.le_of_ble_eq_true rfl) fl_12_229 rfl rfl rfl (fun v5 => ?_)
  refine V_iload_n (pc := 18) (DCa dc_Mod_token_0 10 rfl) rfl 2 rfl ?_
  refine Q_iastore (pc := 19) (DCa dc_Mod_token_0 11 rfl) (fun h6 => ?_)
  refine V_aload_n (pc := 20) (DCa dc_Mod_token_0 12 rfl) rfl 0 rfl ?_
  refine Q_getf (k := 7) (pc := 21) (DCa dc_Mod_token_0 13 rfl) cls_12 (Nat.le_of_ble_eq_true rfl) fl_12_27 rfl rfl rfl (fun v7 => ?_)
  refine V_aload_n (pc := 24) (DCa dc_Mod_token_0 14 rfl) rfl 0 rfl ?_
  refine Q_getf (k := 10) (pc := 25) (DCa dc_Mod_token_0 15 rfl) cls_12 (Nat.le_of_ble_eq_true rfl) fl_12_229 rfl rfl rfl (fun v8 => ?_)
  refine V_iload_n (pc := 28) (DCa dc_Mod_token_0 16 rfl) rfl 3 rfl ?_
  refine Q_iastore (pc := 29) (DCa dc_Mod_token_0 17 rfl) (fun h9 => ?_)
  refine V_aload_n (pc := 30) (DCa dc_Mod_token_0 18 rfl) rfl 0 rfl ?_
  refine Q_getf (k := 8) (pc := 31) (DCa dc_Mod_token_0 19 rfl) cls_12 (Nat.le_of_ble_eq_true rfl) fl_12_30 rfl rfl rfl (fun v10 => ?_)
  refine V_aload_n (pc := 34) (DCa dc_Mod_token_0 20 rfl) rfl 0 rfl ?_
  refine Q_getf (k := 10) (pc := 35) (DCa dc_Mod_token_0 21 rfl) cls_12 (Nat.le_of_ble_eq_true rfl) fl_12_229 rfl rfl rfl (fun v11 => ?_)
  refine V_lload (pc := 38) (DCa dc_Mod_token_0 22 rfl) 4 rfl ?_
  refine Q_lastore (pc := 40) (DCa dc_Mod_token_0 23 rfl) (fun h12 => ?_)
  refine V_aload_n (pc := 41) (DCa dc_Mod_token_0 24 rfl) rfl 0 rfl ?_
  refine V_dup (pc := 42) (DCa dc_Mod_token_0 25 rfl) rfl ?_
  refine Q_getf (k := 10) (pc := 43) (DCa dc_Mod_token_0 26 rfl) cls_12 (Nat.le_of_ble_eq_true rfl) fl_12_229 rfl rfl rfl (fun v13 => ?_)
  refine V_iconst (pc := 46) (DCa dc_Mod_token_0 27 rfl) (by decide) ?_
  refine V_iadd (pc := 47) (DCa dc_Mod_token_0 28 rfl) ?_
  refine Q_putf (k := 10) (pc := 48) (DCa dc_Mod_token_0 29 rfl) cls_12 (Nat.le_of_ble_eq_true rfl) fl_12_229 rfl rfl rfl (Or.inl rfl) (Or.inl ⟨rfl, rfl⟩) (fun h14 => ?_)
  exact V_return (pc := 51) (DCa dc_Mod_token_0 30 rfl) rfl
theorem sp_Mod_token (F : Nat) (l0 l1 l2 l3 l4 : Int) (h : Hp) : Sp yX12_token cX12_token 6 none 1 20 [(2, l0), (0, l1), (0, l2), (0, l3), (1, l4)] h (Mod_token F l0 l1 l2 l3 l4 h) := Sp_of (by decide +kernel) rfl rfl (Nat.le_of_ble_eq_true rfl) (v_Mod_token F l0 l1 l2 l3 l4 h)

-- TideRakesModel.sign
def Mod_sign_B95 (F : Nat)  (l0 l1 l4 : Int) (h : Hp) : Option (Int × Hp) :=
  iv h l0 112 (Mod_token F l0 l4 l1 0 0 h) fun r1 h2 =>
  some (1, h2)
def Mod_sign_B85 (F : Nat)  (l0 l1 l2 l4 : Int) (h : Hp) : Option (Int × Hp) :=
  if l2 = 60 then
    (Mod_sign_B95 F l0 l1 13 h)
  else
    (Mod_sign_B95 F l0 l1 l4 h)
def Mod_sign_B75 (F : Nat)  (l0 l1 l2 l4 : Int) (h : Hp) : Option (Int × Hp) :=
  if l2 = 47 then
    (Mod_sign_B85 F l0 l1 l2 15 h)
  else
    (Mod_sign_B85 F l0 l1 l2 l4 h)
def Mod_sign_B65 (F : Nat)  (l0 l1 l2 l4 : Int) (h : Hp) : Option (Int × Hp) :=
  if l2 = 42 then
    (Mod_sign_B75 F l0 l1 l2 10 h)
  else
    (Mod_sign_B75 F l0 l1 l2 l4 h)
def Mod_sign_B55 (F : Nat)  (l0 l1 l2 l4 : Int) (h : Hp) : Option (Int × Hp) :=
  if l2 = 45 then
    (Mod_sign_B65 F l0 l1 l2 9 h)
  else
    (Mod_sign_B65 F l0 l1 l2 l4 h)
def Mod_sign_B43 (F : Nat)  (l0 l1 l2 s0 : Int) (h : Hp) : Option (Int × Hp) :=
  if l2 = 43 then
    (Mod_sign_B55 F l0 l1 l2 8 h)
  else
    (Mod_sign_B55 F l0 l1 l2 s0 h)
def Mod_sign (F : Nat) (l0 l1 l2 l3 : Int) (h : Hp) : Option (Int × Hp) :=
  if l2 = 59 then
    (Mod_sign_B43 F l0 l1 l2 4 h)
  else
    (if l2 = 61 then
      (Mod_sign_B43 F l0 l1 l2 5 h)
    else
      (if l2 = 40 then
        (Mod_sign_B43 F l0 l1 l2 6 h)
      else
        (if l2 = 41 then
          (Mod_sign_B43 F l0 l1 l2 7 h)
        else
          (Mod_sign_B43 F l0 l1 l2 3 h))))

theorem dc_Mod_sign_0 : ∀ q ∈ ([(0, .iload_n 2, 1), (1, .bipush 59, 2), (3, .if_icmp .ne 7, 3), (6, .iconst 4, 1), (7, .goto 36, 3), (10, .iload_n 2, 1), (11, .bipush 61, 2), (13, .if_icmp .ne 7, 3), (16, .iconst 5, 1), (17, .goto 26, 3), (20, .iload_n 2, 1), (21, .bipush 40, 2), (23, .if_icmp .ne 8, 3), (26, .bipush 6, 2), (28, .goto 15, 3), (31, .iload_n 2, 1), (32, .bipush 41, 2), (34, .if_icmp .ne 8, 3), (37, .bipush 7, 2), (39, .goto 4, 3), (42, .iconst 3, 1), (43, .istore 4, 2), (45, .iload_n 2, 1), (46, .bipush 43, 2), (48, .if_icmp .ne 7, 3), (51, .bipush 8, 2), (53, .istore 4, 2), (55, .iload_n 2, 1), (56, .bipush 45, 2), (58, .if_icmp .ne 7, 3), (61, .bipush 9, 2), (63, .istore 4, 2), (65, .iload_n 2, 1), (66, .bipush 42, 2), (68, .if_icmp .ne 7, 3), (71, .bipush 10, 2), (73, .istore 4, 2), (75, .iload_n 2, 1), (76, .bipush 47, 2), (78, .if_icmp .ne 7, 3), (81, .bipush 15, 2), (83, .istore 4, 2), (85, .iload_n 2, 1), (86, .bipush 60, 2), (88, .if_icmp .ne 7, 3), (91, .bipush 13, 2), (93, .istore 4, 2), (95, .aload_n 0, 1), (96, .iload 4, 2), (98, .iload_n 1, 1)] : List (Nat × Instr × Nat)), decode cX12_sign q.1 = .ok (q.2.1, q.2.2) := by decide +kernel
theorem dc_Mod_sign_1 : ∀ q ∈ ([(99, .iconst 0, 1), (100, .lconst 0, 1), (101, .invokevirtual 236, 3), (104, .iconst 1, 1), (105, .ireturn, 1)] : List (Nat × Instr × Nat)), decode cX12_sign q.1 = .ok (q.2.1, q.2.2) := by decide +kernel
abbrev X_Mod_sign : MX := (cX12_sign, RX12, "sign", 5, (some (.int)), 2, 45)
theorem v_Mod_sign_B95 (F : Nat)  (l0 l1 l4 : Int) (h : Hp) : V X_Mod_sign 95 [(0, 2, l0), (1, 0, l1), (4, 0, l4)] [] h (Mod_sign_B95 F  l0 l1 l4 h) := by
  unfold Mod_sign_B95
  refine V_aload_n (pc := 95) (DCa dc_Mod_sign_0 47 rfl) rfl 0 rfl ?_
  refine V_iload (pc := 96) (DCa dc_Mod_sign_0 48 rfl) 2 rfl ?_
  refine V_iload_n (pc := 98) (DCa dc_Mod_sign_0 49 rfl) rfl 1 rfl ?_
  refine V_iconst (pc := 99) (DCa dc_Mod_sign_1 0 rfl) (by decide) ?_
  refine V_lconst (x := 0) (pc := 100) (DCa dc_Mod_sign_1 1 rfl) rfl ?_
  refine Q_callv (ci := 12) (st := []) (pc := 101) (DCa dc_Mod_sign_1 2 rfl) (sp_Mod_token F _ _ _ _ _ _) ce_Mod_token ml_12_236 rfl rfl ⟨Nat.le_of_ble_eq_true rfl, Nat.le_of_ble_eq_true rfl⟩ rfl (Nat.le_of_ble_eq_true rfl) (fun r1 h2 => ?_)
  refine V_iconst (pc := 104) (DCa dc_Mod_sign_1 3 rfl) (by decide) ?_
  exact V_ireturn (pc := 105) (DCa dc_Mod_sign_1 4 rfl) rfl
theorem v_Mod_sign_B85 (F : Nat)  (l0 l1 l2 l4 : Int) (h : Hp) : V X_Mod_sign 85 [(0, 2, l0), (1, 0, l1), (2, 0, l2), (4, 0, l4)] [] h (Mod_sign_B85 F  l0 l1 l2 l4 h) := by
  unfold Mod_sign_B85
  refine V_iload_n (pc := 85) (DCa dc_Mod_sign_0 42 rfl) rfl 2 rfl ?_
  refine V_bipush (pc := 86) (DCa dc_Mod_sign_0 43 rfl) (by decide) ?_
  refine V_icmp_ne (tgt := 95) (pc := 88) (DCa dc_Mod_sign_0 44 rfl) (by decide) (fun _ => ?_) (fun _ => ?_)
  · refine V_bipush (pc := 91) (DCa dc_Mod_sign_0 45 rfl) (by decide) ?_
    refine V_istore (ls' := [(0, 2, l0), (1, 0, l1), (2, 0, l2), (4, 0, 13)]) (pc := 93) (DCa dc_Mod_sign_0 46 rfl) (Nat.le_of_ble_eq_true rfl) rfl ?_
    refine V_pick [0, 1, 3] rfl ?_
    exact v_Mod_sign_B95 F _ _ _ _
  · refine V_pick [0, 1, 3] rfl ?_
    exact v_Mod_sign_B95 F _ _ _ _
theorem v_Mod_sign_B75 (F : Nat)  (l0 l1 l2 l4 : Int) (h : Hp) : V X_Mod_sign 75 [(0, 2, l0), (1, 0, l1), (2, 0, l2), (4, 0, l4)] [] h (Mod_sign_B75 F  l0 l1 l2 l4 h) := by
  unfold Mod_sign_B75
  refine V_iload_n (pc := 75) (DCa dc_Mod_sign_0 37 rfl) rfl 2 rfl ?_
  refine V_bipush (pc := 76) (DCa dc_Mod_sign_0 38 rfl) (by decide) ?_
  refine V_icmp_ne (tgt := 85) (pc := 78) (DCa dc_Mod_sign_0 39 rfl) (by decide) (fun _ => ?_) (fun _ => ?_)
  · refine V_bipush (pc := 81) (DCa dc_Mod_sign_0 40 rfl) (by decide) ?_
    refine V_istore (ls' := [(0, 2, l0), (1, 0, l1), (2, 0, l2), (4, 0, 15)]) (pc := 83) (DCa dc_Mod_sign_0 41 rfl) (Nat.le_of_ble_eq_true rfl) rfl ?_
    exact v_Mod_sign_B85 F _ _ _ _ _
  · exact v_Mod_sign_B85 F _ _ _ _ _
theorem v_Mod_sign_B65 (F : Nat)  (l0 l1 l2 l4 : Int) (h : Hp) : V X_Mod_sign 65 [(0, 2, l0), (1, 0, l1), (2, 0, l2), (4, 0, l4)] [] h (Mod_sign_B65 F  l0 l1 l2 l4 h) := by
  unfold Mod_sign_B65
  refine V_iload_n (pc := 65) (DCa dc_Mod_sign_0 32 rfl) rfl 2 rfl ?_
  refine V_bipush (pc := 66) (DCa dc_Mod_sign_0 33 rfl) (by decide) ?_
  refine V_icmp_ne (tgt := 75) (pc := 68) (DCa dc_Mod_sign_0 34 rfl) (by decide) (fun _ => ?_) (fun _ => ?_)
  · refine V_bipush (pc := 71) (DCa dc_Mod_sign_0 35 rfl) (by decide) ?_
    refine V_istore (ls' := [(0, 2, l0), (1, 0, l1), (2, 0, l2), (4, 0, 10)]) (pc := 73) (DCa dc_Mod_sign_0 36 rfl) (Nat.le_of_ble_eq_true rfl) rfl ?_
    exact v_Mod_sign_B75 F _ _ _ _ _
  · exact v_Mod_sign_B75 F _ _ _ _ _
theorem v_Mod_sign_B55 (F : Nat)  (l0 l1 l2 l4 : Int) (h : Hp) : V X_Mod_sign 55 [(0, 2, l0), (1, 0, l1), (2, 0, l2), (4, 0, l4)] [] h (Mod_sign_B55 F  l0 l1 l2 l4 h) := by
  unfold Mod_sign_B55
  refine V_iload_n (pc := 55) (DCa dc_Mod_sign_0 27 rfl) rfl 2 rfl ?_
  refine V_bipush (pc := 56) (DCa dc_Mod_sign_0 28 rfl) (by decide) ?_
  refine V_icmp_ne (tgt := 65) (pc := 58) (DCa dc_Mod_sign_0 29 rfl) (by decide) (fun _ => ?_) (fun _ => ?_)
  · refine V_bipush (pc := 61) (DCa dc_Mod_sign_0 30 rfl) (by decide) ?_
    refine V_istore (ls' := [(0, 2, l0), (1, 0, l1), (2, 0, l2), (4, 0, 9)]) (pc := 63) (DCa dc_Mod_sign_0 31 rfl) (Nat.le_of_ble_eq_true rfl) rfl ?_
    exact v_Mod_sign_B65 F _ _ _ _ _
  · exact v_Mod_sign_B65 F _ _ _ _ _
theorem v_Mod_sign_B43 (F : Nat)  (l0 l1 l2 s0 : Int) (h : Hp) : V X_Mod_sign 43 [(0, 2, l0), (1, 0, l1), (2, 0, l2)] [(0, s0)] h (Mod_sign_B43 F  l0 l1 l2 s0 h) := by
  unfold Mod_sign_B43
  refine V_istore (ls' := [(0, 2, l0), (1, 0, l1), (2, 0, l2), (4, 0, s0)]) (pc := 43) (DCa dc_Mod_sign_0 21 rfl) (Nat.le_of_ble_eq_true rfl) rfl ?_
  refine V_iload_n (pc := 45) (DCa dc_Mod_sign_0 22 rfl) rfl 2 rfl ?_
  refine V_bipush (pc := 46) (DCa dc_Mod_sign_0 23 rfl) (by decide) ?_
  refine V_icmp_ne (tgt := 55) (pc := 48) (DCa dc_Mod_sign_0 24 rfl) (by decide) (fun _ => ?_) (fun _ => ?_)
  · refine V_bipush (pc := 51) (DCa dc_Mod_sign_0 25 rfl) (by decide) ?_
    refine V_istore (ls' := [(0, 2, l0), (1, 0, l1), (2, 0, l2), (4, 0, 8)]) (pc := 53) (DCa dc_Mod_sign_0 26 rfl) (Nat.le_of_ble_eq_true rfl) rfl ?_
    exact v_Mod_sign_B55 F _ _ _ _ _
  · exact v_Mod_sign_B55 F _ _ _ _ _
theorem v_Mod_sign (F : Nat) (l0 l1 l2 l3 : Int) (h : Hp) : V X_Mod_sign 0 [(0, 2, l0), (1, 0, l1), (2, 0, l2), (3, 0, l3)] [] h (Mod_sign F l0 l1 l2 l3 h) := by
  unfold Mod_sign
  refine V_iload_n (pc := 0) (DCa dc_Mod_sign_0 0 rfl) rfl 2 rfl ?_
  refine V_bipush (pc := 1) (DCa dc_Mod_sign_0 1 rfl) (by decide) ?_
  refine V_icmp_ne (tgt := 10) (pc := 3) (DCa dc_Mod_sign_0 2 rfl) (by decide) (fun _ => ?_) (fun _ => ?_)
  · refine V_iconst (pc := 6) (DCa dc_Mod_sign_0 3 rfl) (by decide) ?_
    refine V_goto (tgt := 43) (pc := 7) (DCa dc_Mod_sign_0 4 rfl) (by decide) ?_
    refine V_pick [0, 1, 2] rfl ?_
    exact v_Mod_sign_B43 F _ _ _ _ _
  · refine V_iload_n (pc := 10) (DCa dc_Mod_sign_0 5 rfl) rfl 2 rfl ?_
    refine V_bipush (pc := 11) (DCa dc_Mod_sign_0 6 rfl) (by decide) ?_
    refine V_icmp_ne (tgt := 20) (pc := 13) (DCa dc_Mod_sign_0 7 rfl) (by decide) (fun _ => ?_) (fun _ => ?_)
    · refine V_iconst (pc := 16) (DCa dc_Mod_sign_0 8 rfl) (by decide) ?_
      refine V_goto (tgt := 43) (pc := 17) (DCa dc_Mod_sign_0 9 rfl) (by decide) ?_
      refine V_pick [0, 1, 2] rfl ?_
      exact v_Mod_sign_B43 F _ _ _ _ _
    · refine V_iload_n (pc := 20) (DCa dc_Mod_sign_0 10 rfl) rfl 2 rfl ?_
      refine V_bipush (pc := 21) (DCa dc_Mod_sign_0 11 rfl) (by decide) ?_
      refine V_icmp_ne (tgt := 31) (pc := 23) (DCa dc_Mod_sign_0 12 rfl) (by decide) (fun _ => ?_) (fun _ => ?_)
      · refine V_bipush (pc := 26) (DCa dc_Mod_sign_0 13 rfl) (by decide) ?_
        refine V_goto (tgt := 43) (pc := 28) (DCa dc_Mod_sign_0 14 rfl) (by decide) ?_
        refine V_pick [0, 1, 2] rfl ?_
        exact v_Mod_sign_B43 F _ _ _ _ _
      · refine V_iload_n (pc := 31) (DCa dc_Mod_sign_0 15 rfl) rfl 2 rfl ?_
        refine V_bipush (pc := 32) (DCa dc_Mod_sign_0 16 rfl) (by decide) ?_
        refine V_icmp_ne (tgt := 42) (pc := 34) (DCa dc_Mod_sign_0 17 rfl) (by decide) (fun _ => ?_) (fun _ => ?_)
        · refine V_bipush (pc := 37) (DCa dc_Mod_sign_0 18 rfl) (by decide) ?_
          refine V_goto (tgt := 43) (pc := 39) (DCa dc_Mod_sign_0 19 rfl) (by decide) ?_
          refine V_pick [0, 1, 2] rfl ?_
          exact v_Mod_sign_B43 F _ _ _ _ _
        · refine V_iconst (pc := 42) (DCa dc_Mod_sign_0 20 rfl) (by decide) ?_
          refine V_pick [0, 1, 2] rfl ?_
          exact v_Mod_sign_B43 F _ _ _ _ _
theorem sp_Mod_sign (F : Nat) (l0 l1 l2 l3 : Int) (h : Hp) : Sp yX12_sign cX12_sign 5 (some (.int)) 2 45 [(2, l0), (0, l1), (0, l2), (0, l3)] h (Mod_sign F l0 l1 l2 l3 h) := Sp_of (by decide +kernel) rfl rfl (Nat.le_of_ble_eq_true rfl) (v_Mod_sign F l0 l1 l2 l3 h)

-- TideRakesModel.cut
def Mod_cut_B261 (F : Nat) (R7 : Int → Int → Hp → Option (Int × Hp)) (l0 l1 l3 l4 s0 s1 : Int) (h : Hp) : Option (Int × Hp) :=
  iv h s1 112 (Mod_token F s1 s0 l1 l4 0 h) fun r33 h34 =>
  lt (w32 (l1 + l3)) fun x35 =>
  R7 l0 x35 h34
def Mod_cut_B250 (F : Nat) (R7 : Int → Int → Hp → Option (Int × Hp)) (l0 l1 l3 l4 : Int) (h : Hp) : Option (Int × Hp) :=
  if 4 < l3 then
    (Mod_cut_B261 F R7 l0 l1 l3 l4 3 l0 h)
  else
    (Mod_cut_B261 F R7 l0 l1 l3 l4 2 l0 h)
def Mod_cut_L208s (F : Nat) (R7 : Int → Int → Hp → Option (Int × Hp)) (R208 : Int → Int → Int → Int → Hp → Option (Int × Hp)) (l0 l1 l3 l4 : Int) (h : Hp) : Option (Int × Hp) :=
  iv h l0 112 (Mod_byteAt F l0 (w32 (l1 + l3)) h) fun r15 h16 =>
  cl (Mod_isDigit F r15 h16) fun r17 h18 =>
  if r17 = 0 then
    (Mod_cut_B250 F R7 l0 l1 l3 l4 h18)
  else
    (if l3 < 4 then
      (iv h18 l0 112 (Mod_byteAt F l0 (w32 (l1 + l3)) h18) fun r19 h20 =>
      lt (w32 ((w32 ((w32 (10 * l4)) + r19)) - 48)) fun x21 =>
      R208 l0 l1 (w32 (l3 + 1)) x21 h20)
    else
      (R208 l0 l1 (w32 (l3 + 1)) l4 h18))
def Mod_cut_L208 (F : Nat) (R7 : Int → Int → Hp → Option (Int × Hp)) : Nat → Int → Int → Int → Int → Hp → Option (Int × Hp)
  | 0 => fun _ _ _ _ _ => none
  | n + 1 => Mod_cut_L208s F R7 (Mod_cut_L208 F R7 n)
def Mod_cut_B31 (F : Nat)  (l0 : Int) (h : Hp) : Option (Int × Hp) :=
  gf h l0 112 4 fun v30 =>
  iv h l0 112 (Mod_token F l0 0 v30 0 0 h) fun r31 h32 =>
  some (0, h32)
def Mod_cut_B179 (F : Nat) (R7 : Int → Int → Hp → Option (Int × Hp)) (l0 l1 l3 l4 l6 : Int) (h : Hp) : Option (Int × Hp) :=
  iv h l0 112 (Mod_token F l0 l6 l1 0 l4 h) fun r36 h37 =>
  lt (w32 (l1 + l3)) fun x38 =>
  R7 l0 x38 h37
def Mod_cut_L146s (F : Nat) (R7 : Int → Int → Hp → Option (Int × Hp)) (R146 : Int → Int → Int → Int → Int → Int → Hp → Option (Int × Hp)) (l0 l1 l3 l4 l6 l7 : Int) (h : Hp) : Option (Int × Hp) :=
  if l7 < 18 then
    (gf h l0 112 9 fun v39 =>
    al h v39 3 l7 fun v40 =>
    if (lcmp v40 l4) = 0 then
      (lt (w32 (20 + l7)) fun x41 =>
      R146 l0 l1 l3 l4 x41 (w32 (l7 + 1)) h)
    else
      (R146 l0 l1 l3 l4 l6 (w32 (l7 + 1)) h))
  else
    (Mod_cut_B179 F R7 l0 l1 l3 l4 l6 h)
def Mod_cut_L146 (F : Nat) (R7 : Int → Int → Hp → Option (Int × Hp)) : Nat → Int → Int → Int → Int → Int → Int → Hp → Option (Int × Hp)
  | 0 => fun _ _ _ _ _ _ _ => none
  | n + 1 => Mod_cut_L146s F R7 (Mod_cut_L146 F R7 n)
def Mod_cut_B135 (F : Nat) (R7 : Int → Int → Hp → Option (Int × Hp)) (l0 l1 l3 l4 s0 : Int) (h : Hp) : Option (Int × Hp) :=
  if 7 < l3 then
    (Mod_cut_B179 F R7 l0 l1 l3 l4 s0 h)
  else
    (Mod_cut_L146 F R7 F l0 l1 l3 l4 s0 0 h)
def Mod_cut_B124 (F : Nat) (R7 : Int → Int → Hp → Option (Int × Hp)) (l0 l1 l3 l4 : Int) (h : Hp) : Option (Int × Hp) :=
  if 8 < l3 then
    (Mod_cut_B135 F R7 l0 l1 l3 l4 3 h)
  else
    (Mod_cut_B135 F R7 l0 l1 l3 l4 1 h)
def Mod_cut_L85s (F : Nat) (R7 : Int → Int → Hp → Option (Int × Hp)) (R85 : Int → Int → Int → Int → Hp → Option (Int × Hp)) (l0 l1 l3 l4 : Int) (h : Hp) : Option (Int × Hp) :=
  iv h l0 112 (Mod_byteAt F l0 (w32 (l1 + l3)) h) fun r22 h23 =>
  cl (Mod_isLetter F r22 h23) fun r24 h25 =>
  if r24 = 0 then
    (Mod_cut_B124 F R7 l0 l1 l3 l4 h25)
  else
    (if l3 < 8 then
      (iv h25 l0 112 (Mod_byteAt F l0 (w32 (l1 + l3)) h25) fun r26 h27 =>
      cl (Mod_appends F l4 r26 h27) fun r28 h29 =>
      R85 l0 l1 (w32 (l3 + 1)) r28 h29)
    else
      (R85 l0 l1 (w32 (l3 + 1)) l4 h25))
def Mod_cut_L85 (F : Nat) (R7 : Int → Int → Hp → Option (Int × Hp)) : Nat → Int → Int → Int → Int → Hp → Option (Int × Hp)
  | 0 => fun _ _ _ _ _ => none
  | n + 1 => Mod_cut_L85s F R7 (Mod_cut_L85 F R7 n)
def Mod_cut_L7s (F : Nat)  (R7 : Int → Int → Hp → Option (Int × Hp)) (l0 l1 : Int) (h : Hp) : Option (Int × Hp) :=
  gf h l0 112 10 fun v2 =>
  if 400 < v2 then
    (some (0, h))
  else
    (iv h l0 112 (Mod_byteAt F l0 l1 h) fun r3 h4 =>
    gf h4 l0 112 4 fun v5 =>
    if l1 < v5 then
      (if r3 = 9 then
        (R7 l0 (w32 (l1 + 1)) h4)
      else
        (if r3 = 10 then
          (R7 l0 (w32 (l1 + 1)) h4)
        else
          (if r3 = 13 then
            (R7 l0 (w32 (l1 + 1)) h4)
          else
            (if r3 = 32 then
              (R7 l0 (w32 (l1 + 1)) h4)
            else
              (cl (Mod_isLetter F r3 h4) fun r6 h7 =>
              if r6 = 0 then
                (cl (Mod_isDigit F r3 h7) fun r8 h9 =>
                if r8 = 0 then
                  (iv h9 l0 112 (Mod_byteAt F l0 (w32 (l1 + 1)) h9) fun r10 h11 =>
                  iv h11 l0 112 (Mod_sign F l0 l1 r3 r10 h11) fun r12 h13 =>
                  lt (w32 (l1 + r12)) fun x14 =>
                  R7 l0 x14 h13)
                else
                  (Mod_cut_L208 F R7 F l0 l1 0 0 h9))
              else
                (Mod_cut_L85 F R7 F l0 l1 0 0 h7))))))
    else
      (Mod_cut_B31 F l0 h4))
def Mod_cut_L7 (F : Nat)  : Nat → Int → Int → Hp → Option (Int × Hp)
  | 0 => fun _ _ _ => none
  | n + 1 => Mod_cut_L7s F  (Mod_cut_L7 F  n)
def Mod_cut (F : Nat) (l0 : Int) (h : Hp) : Option (Int × Hp) :=
  pf h l0 112 10 0 fun h1 =>
  Mod_cut_L7 F F l0 0 h1

theorem dc_Mod_cut_0 : ∀ q ∈ ([(0, .aload_n 0, 1), (1, .iconst 0, 1), (2, .putfield 229, 3), (5, .iconst 0, 1), (6, .istore_n 1, 1), (7, .aload_n 0, 1), (8, .getfield 229, 3), (11, .sipush 400, 3), (14, .if_icmp .gt 280, 3), (17, .aload_n 0, 1), (18, .iload_n 1, 1), (19, .invokevirtual 232, 3), (22, .istore_n 2, 1), (23, .iload_n 1, 1), (24, .aload_n 0, 1), (25, .getfield 220, 3), (28, .if_icmp .lt 15, 3), (31, .aload_n 0, 1), (32, .iconst 0, 1), (33, .aload_n 0, 1), (34, .getfield 220, 3), (37, .iconst 0, 1), (38, .lconst 0, 1), (39, .invokevirtual 236, 3), (42, .return_, 1), (43, .iload_n 2, 1), (44, .bipush 9, 2), (46, .if_icmp .eq 21, 3), (49, .iload_n 2, 1), (50, .bipush 10, 2), (52, .if_icmp .eq 15, 3), (55, .iload_n 2, 1), (56, .bipush 13, 2), (58, .if_icmp .eq 9, 3), (61, .iload_n 2, 1), (62, .bipush 32, 2), (64, .if_icmp .ne 9, 3), (67, .iinc 1 1, 3), (70, .goto 221, 3), (73, .iload_n 2, 1), (74, .invokestatic 240, 3), (77, .ifCond .eq 119, 3), (80, .iconst 0, 1), (81, .istore_n 3, 1), (82, .lconst 0, 1), (83, .lstore 4, 2), (85, .aload_n 0, 1), (86, .iload_n 1, 1), (87, .iload_n 3, 1), (88, .iadd, 1)] : List (Nat × Instr × Nat)), decode cX12_cut q.1 = .ok (q.2.1, q.2.2) := by decide +kernel
theorem dc_Mod_cut_1 : ∀ q ∈ ([(89, .invokevirtual 232, 3), (92, .invokestatic 240, 3), (95, .ifCond .eq 29, 3), (98, .iload_n 3, 1), (99, .bipush 8, 2), (101, .if_icmp .ge 17, 3), (104, .lload 4, 2), (106, .aload_n 0, 1), (107, .iload_n 1, 1), (108, .iload_n 3, 1), (109, .iadd, 1), (110, .invokevirtual 232, 3), (113, .invokestatic 225, 3), (116, .lstore 4, 2), (118, .iinc 3 1, 3), (121, .goto (-36), 3), (124, .iload_n 3, 1), (125, .bipush 8, 2), (127, .if_icmp .le 7, 3), (130, .iconst 3, 1), (131, .goto 4, 3), (134, .iconst 1, 1), (135, .istore 6, 2), (137, .iload_n 3, 1), (138, .bipush 7, 2), (140, .if_icmp .gt 39, 3), (143, .iconst 0, 1), (144, .istore 7, 2), (146, .iload 7, 2), (148, .bipush 18, 2), (150, .if_icmp .ge 29, 3), (153, .aload_n 0, 1), (154, .getfield 34, 3), (157, .iload 7, 2), (159, .laload, 1), (160, .lload 4, 2), (162, .lcmp, 1), (163, .ifCond .ne 10, 3), (166, .bipush 20, 2), (168, .iload 7, 2), (170, .iadd, 1), (171, .istore 6, 2), (173, .iinc 7 1, 3), (176, .goto (-30), 3), (179, .aload_n 0, 1), (180, .iload 6, 2), (182, .iload_n 1, 1), (183, .iconst 0, 1), (184, .lload 4, 2), (186, .invokevirtual 236, 3)] : List (Nat × Instr × Nat)), decode cX12_cut q.1 = .ok (q.2.1, q.2.2) := by decide +kernel
theorem dc_Mod_cut_2 : ∀ q ∈ ([(189, .iload_n 1, 1), (190, .iload_n 3, 1), (191, .iadd, 1), (192, .istore_n 1, 1), (193, .goto 98, 3), (196, .iload_n 2, 1), (197, .invokestatic 244, 3), (200, .ifCond .eq 75, 3), (203, .iconst 0, 1), (204, .istore_n 3, 1), (205, .iconst 0, 1), (206, .istore 4, 2), (208, .aload_n 0, 1), (209, .iload_n 1, 1), (210, .iload_n 3, 1), (211, .iadd, 1), (212, .invokevirtual 232, 3), (215, .invokestatic 244, 3), (218, .ifCond .eq 32, 3), (221, .iload_n 3, 1), (222, .iconst 4, 1), (223, .if_icmp .ge 21, 3), (226, .bipush 10, 2), (228, .iload 4, 2), (230, .imul, 1), (231, .aload_n 0, 1), (232, .iload_n 1, 1), (233, .iload_n 3, 1), (234, .iadd, 1), (235, .invokevirtual 232, 3), (238, .iadd, 1), (239, .bipush 48, 2), (241, .isub, 1), (242, .istore 4, 2), (244, .iinc 3 1, 3), (247, .goto (-39), 3), (250, .aload_n 0, 1), (251, .iload_n 3, 1), (252, .iconst 4, 1), (253, .if_icmp .le 7, 3), (256, .iconst 3, 1), (257, .goto 4, 3), (260, .iconst 2, 1), (261, .iload_n 1, 1), (262, .iload 4, 2), (264, .lconst 0, 1), (265, .invokevirtual 236, 3), (268, .iload_n 1, 1), (269, .iload_n 3, 1), (270, .iadd, 1)] : List (Nat × Instr × Nat)), decode cX12_cut q.1 = .ok (q.2.1, q.2.2) := by decide +kernel
theorem dc_Mod_cut_3 : ∀ q ∈ ([(271, .istore_n 1, 1), (272, .goto 19, 3), (275, .iload_n 1, 1), (276, .aload_n 0, 1), (277, .iload_n 1, 1), (278, .iload_n 2, 1), (279, .aload_n 0, 1), (280, .iload_n 1, 1), (281, .iconst 1, 1), (282, .iadd, 1), (283, .invokevirtual 232, 3), (286, .invokevirtual 247, 3), (289, .iadd, 1), (290, .istore_n 1, 1), (291, .goto (-284), 3), (294, .return_, 1)] : List (Nat × Instr × Nat)), decode cX12_cut q.1 = .ok (q.2.1, q.2.2) := by decide +kernel
abbrev X_Mod_cut : MX := (cX12_cut, RX12, "cut", 8, none, 3, 69)
theorem v_Mod_cut_B261 (F : Nat) (R7 : Int → Int → Hp → Option (Int × Hp)) (hR7 : ∀ (l0 l1 : Int) (h : Hp), V X_Mod_cut 7 [(0, 2, l0), (1, 0, l1)] [] h (R7 l0 l1 h)) (l0 l1 l3 l4 s0 s1 : Int) (h : Hp) : V X_Mod_cut 261 [(0, 2, l0), (1, 0, l1), (3, 0, l3), (4, 0, l4)] [(0, s0), (2, s1)] h (Mod_cut_B261 F R7 l0 l1 l3 l4 s0 s1 h) := by
  unfold Mod_cut_B261
  refine V_iload_n (pc := 261) (DCa dc_Mod_cut_2 43 rfl) rfl 1 rfl ?_
  refine V_iload (pc := 262) (DCa dc_Mod_cut_2 44 rfl) 3 rfl ?_
  refine V_lconst (x := 0) (pc := 264) (DCa dc_Mod_cut_2 45 rfl) rfl ?_
  refine Q_callv (ci := 12) (st := []) (pc := 265) (DCa dc_Mod_cut_2 46 rfl) (sp_Mod_token F _ _ _ _ _ _) ce_Mod_token ml_12_236 rfl rfl ⟨Nat.le_of_ble_eq_true rfl, Nat.le_of_ble_eq_true rfl⟩ rfl (Nat.le_of_ble_eq_true rfl) (fun r33 h34 => ?_)
  refine V_iload_n (pc := 268) (DCa dc_Mod_cut_2 47 rfl) rfl 1 rfl ?_
  refine V_iload_n (pc := 269) (DCa dc_Mod_cut_2 48 rfl) rfl 2 rfl ?_
  refine V_iadd (pc := 270) (DCa dc_Mod_cut_2 49 rfl) ?_
  refine Q_lt (fun x35 => ?_)
  refine V_istore_n (ls' := [(0, 2, l0), (1, 0, x35), (3, 0, l3), (4, 0, l4)]) (pc := 271) (DCa dc_Mod_cut_3 0 rfl) rfl (Nat.le_of_ble_eq_true rfl) rfl ?_
  refine V_goto (tgt := 291) (pc := 272) (DCa dc_Mod_cut_3 1 rfl) (by decide) ?_
  refine V_goto (tgt := 7) (pc := 291) (DCa dc_Mod_cut_3 14 rfl) (by decide) ?_
  refine V_pick [0, 1] rfl ?_
  exact hR7 _ _ _
theorem v_Mod_cut_B250 (F : Nat) (R7 : Int → Int → Hp → Option (Int × Hp)) (hR7 : ∀ (l0 l1 : Int) (h : Hp), V X_Mod_cut 7 [(0, 2, l0), (1, 0, l1)] [] h (R7 l0 l1 h)) (l0 l1 l3 l4 : Int) (h : Hp) : V X_Mod_cut 250 [(0, 2, l0), (1, 0, l1), (3, 0, l3), (4, 0, l4)] [] h (Mod_cut_B250 F R7 l0 l1 l3 l4 h) := by
  unfold Mod_cut_B250
  refine V_aload_n (pc := 250) (DCa dc_Mod_cut_2 36 rfl) rfl 0 rfl ?_
  refine V_iload_n (pc := 251) (DCa dc_Mod_cut_2 37 rfl) rfl 2 rfl ?_
  refine V_iconst (pc := 252) (DCa dc_Mod_cut_2 38 rfl) (by decide) ?_
  refine V_icmp_le (tgt := 260) (pc := 253) (DCa dc_Mod_cut_2 39 rfl) (by decide) (fun _ => ?_) (fun _ => ?_)
  · refine V_iconst (pc := 256) (DCa dc_Mod_cut_2 40 rfl) (by decide) ?_
    refine V_goto (tgt := 261) (pc := 257) (DCa dc_Mod_cut_2 41 rfl) (by decide) ?_
    exact v_Mod_cut_B261 F R7 hR7 _ _ _ _ _ _ _
  · refine V_iconst (pc := 260) (DCa dc_Mod_cut_2 42 rfl) (by decide) ?_
    exact v_Mod_cut_B261 F R7 hR7 _ _ _ _ _ _ _
theorem v_Mod_cut_L208s (F : Nat) (R7 : Int → Int → Hp → Option (Int × Hp)) (hR7 : ∀ (l0 l1 : Int) (h : Hp), V X_Mod_cut 7 [(0, 2, l0), (1, 0, l1)] [] h (R7 l0 l1 h)) (R208 : Int → Int → Int → Int → Hp → Option (Int × Hp)) (hR208 : ∀ (l0 l1 l3 l4 : Int) (h : Hp), V X_Mod_cut 208 [(0, 2, l0), (1, 0, l1), (3, 0, l3), (4, 0, l4)] [] h (R208 l0 l1 l3 l4 h)) (l0 l1 l3 l4 : Int) (h : Hp) : V X_Mod_cut 208 [(0, 2, l0), (1, 0, l1), (3, 0, l3), (4, 0, l4)] [] h (Mod_cut_L208s F R7 R208 l0 l1 l3 l4 h) := by
  unfold Mod_cut_L208s
  refine V_aload_n (pc := 208) (DCa dc_Mod_cut_2 12 rfl) rfl 0 rfl ?_
  refine V_iload_n (pc := 209) (DCa dc_Mod_cut_2 13 rfl) rfl 1 rfl ?_
  refine V_iload_n (pc := 210) (DCa dc_Mod_cut_2 14 rfl) rfl 2 rfl ?_
  refine V_iadd (pc := 211) (DCa dc_Mod_cut_2 15 rfl) ?_
  refine Q_callv (ci := 12) (st := []) (pc := 212) (DCa dc_Mod_cut_2 16 rfl) (sp_Mod_byteAt F _ _ _) ce_Mod_byteAt ml_12_232 rfl rfl ⟨Nat.le_of_ble_eq_true rfl, Nat.le_of_ble_eq_true rfl⟩ rfl (Nat.le_of_ble_eq_true rfl) (fun r15 h16 => ?_)
  refine Q_calls (st := []) (pc := 215) (DCa dc_Mod_cut_2 17 rfl) (sp_Mod_isDigit F _ _) ce_Mod_isDigit ml_12_244 rfl ⟨Nat.le_of_ble_eq_true rfl, Nat.le_of_ble_eq_true rfl⟩ rfl (Nat.le_of_ble_eq_true rfl) (fun r17 h18 => ?_)
  refine V_if_eq (tgt := 250) (pc := 218) (DCa dc_Mod_cut_2 18 rfl) (by decide) (fun _ => ?_) (fun _ => ?_)
  · exact v_Mod_cut_B250 F R7 hR7 _ _ _ _ _
  · refine V_iload_n (pc := 221) (DCa dc_Mod_cut_2 19 rfl) rfl 2 rfl ?_
    refine V_iconst (pc := 222) (DCa dc_Mod_cut_2 20 rfl) (by decide) ?_
    refine V_icmp_ge (tgt := 244) (pc := 223) (DCa dc_Mod_cut_2 21 rfl) (by decide) (fun _ => ?_) (fun _ => ?_)
    · refine V_bipush (pc := 226) (DCa dc_Mod_cut_2 22 rfl) (by decide) ?_
      refine V_iload (pc := 228) (DCa dc_Mod_cut_2 23 rfl) 3 rfl ?_
      refine V_imul (pc := 230) (DCa dc_Mod_cut_2 24 rfl) ?_
      refine V_aload_n (pc := 231) (DCa dc_Mod_cut_2 25 rfl) rfl 0 rfl ?_
      refine V_iload_n (pc := 232) (DCa dc_Mod_cut_2 26 rfl) rfl 1 rfl ?_
      refine V_iload_n (pc := 233) (DCa dc_Mod_cut_2 27 rfl) rfl 2 rfl ?_
      refine V_iadd (pc := 234) (DCa dc_Mod_cut_2 28 rfl) ?_
      refine Q_callv (ci := 12) (st := [(0, w32 (10 * l4))]) (pc := 235) (DCa dc_Mod_cut_2 29 rfl) (sp_Mod_byteAt F _ _ _) ce_Mod_byteAt ml_12_232 rfl rfl ⟨Nat.le_of_ble_eq_true rfl, Nat.le_of_ble_eq_true rfl⟩ rfl (Nat.le_of_ble_eq_true rfl) (fun r19 h20 => ?_)
      refine V_iadd (pc := 238) (DCa dc_Mod_cut_2 30 rfl) ?_
      refine V_bipush (pc := 239) (DCa dc_Mod_cut_2 31 rfl) (by decide) ?_
      refine V_isub (pc := 241) (DCa dc_Mod_cut_2 32 rfl) ?_
      refine Q_lt (fun x21 => ?_)
      refine V_istore (ls' := [(0, 2, l0), (1, 0, l1), (3, 0, l3), (4, 0, x21)]) (pc := 242) (DCa dc_Mod_cut_2 33 rfl) (Nat.le_of_ble_eq_true rfl) rfl ?_
      refine V_iinc (ls' := [(0, 2, l0), (1, 0, l1), (3, 0, w32 (l3 + 1)), (4, 0, x21)]) (pc := 244) (DCa dc_Mod_cut_2 34 rfl) (Nat.le_of_ble_eq_true rfl) (by decide) 2 rfl rfl ?_
      refine V_goto (tgt := 208) (pc := 247) (DCa dc_Mod_cut_2 35 rfl) (by decide) ?_
      exact hR208 _ _ _ _ _
    · refine V_iinc (ls' := [(0, 2, l0), (1, 0, l1), (3, 0, w32 (l3 + 1)), (4, 0, l4)]) (pc := 244) (DCa dc_Mod_cut_2 34 rfl) (Nat.le_of_ble_eq_true rfl) (by decide) 2 rfl rfl ?_
      refine V_goto (tgt := 208) (pc := 247) (DCa dc_Mod_cut_2 35 rfl) (by decide) ?_
      exact hR208 _ _ _ _ _
theorem v_Mod_cut_L208 (F : Nat) (R7 : Int → Int → Hp → Option (Int × Hp)) (hR7 : ∀ (l0 l1 : Int) (h : Hp), V X_Mod_cut 7 [(0, 2, l0), (1, 0, l1)] [] h (R7 l0 l1 h)) (n : Nat) : ∀ (l0 l1 l3 l4 : Int) (h : Hp), V X_Mod_cut 208 [(0, 2, l0), (1, 0, l1), (3, 0, l3), (4, 0, l4)] [] h (Mod_cut_L208 F R7 n l0 l1 l3 l4 h) := by
  induction n with
  | zero => intros; exact V_none
  | succ n ih => exact fun l0 l1 l3 l4 h => v_Mod_cut_L208s F R7 hR7 _ ih l0 l1 l3 l4 h
theorem v_Mod_cut_B31 (F : Nat)  (l0 : Int) (h : Hp) : V X_Mod_cut 31 [(0, 2, l0)] [] h (Mod_cut_B31 F  l0 h) := by
  unfold Mod_cut_B31
  refine V_aload_n (pc := 31) (DCa dc_Mod_cut_0 17 rfl) rfl 0 rfl ?_
  refine V_iconst (pc := 32) (DCa dc_Mod_cut_0 18 rfl) (by decide) ?_
  refine V_aload_n (pc := 33) (DCa dc_Mod_cut_0 19 rfl) rfl 0 rfl ?_
  refine Q_getf (k := 4) (pc := 34) (DCa dc_Mod_cut_0 20 rfl) cls_12 (Nat.le_of_ble_eq_true rfl) fl_12_220 rfl rfl rfl (fun v30 => ?_)
  refine V_iconst (pc := 37) (DCa dc_Mod_cut_0 21 rfl) (by decide) ?_
  refine V_lconst (x := 0) (pc := 38) (DCa dc_Mod_cut_0 22 rfl) rfl ?_
  refine Q_callv (ci := 12) (st := []) (pc := 39) (DCa dc_Mod_cut_0 23 rfl) (sp_Mod_token F _ _ _ _ _ _) ce_Mod_token ml_12_236 rfl rfl ⟨Nat.le_of_ble_eq_true rfl, Nat.le_of_ble_eq_true rfl⟩ rfl (Nat.le_of_ble_eq_true rfl) (fun r31 h32 => ?_)
  exact V_return (pc := 42) (DCa dc_Mod_cut_0 24 rfl) rfl
theorem v_Mod_cut_B179 (F : Nat) (R7 : Int → Int → Hp → Option (Int × Hp)) (hR7 : ∀ (l0 l1 : Int) (h : Hp), V X_Mod_cut 7 [(0, 2, l0), (1, 0, l1)] [] h (R7 l0 l1 h)) (l0 l1 l3 l4 l6 : Int) (h : Hp) : V X_Mod_cut 179 [(0, 2, l0), (1, 0, l1), (3, 0, l3), (4, 1, l4), (6, 0, l6)] [] h (Mod_cut_B179 F R7 l0 l1 l3 l4 l6 h) := by
  unfold Mod_cut_B179
  refine V_aload_n (pc := 179) (DCa dc_Mod_cut_1 44 rfl) rfl 0 rfl ?_
  refine V_iload (pc := 180) (DCa dc_Mod_cut_1 45 rfl) 4 rfl ?_
  refine V_iload_n (pc := 182) (DCa dc_Mod_cut_1 46 rfl) rfl 1 rfl ?_
  refine V_iconst (pc := 183) (DCa dc_Mod_cut_1 47 rfl) (by decide) ?_
  refine V_lload (pc := 184) (DCa dc_Mod_cut_1 48 rfl) 3 rfl ?_
  refine Q_callv (ci := 12) (st := []) (pc := 186) (DCa dc_Mod_cut_1 49 rfl) (sp_Mod_token F _ _ _ _ _ _) ce_Mod_token ml_12_236 rfl rfl ⟨Nat.le_of_ble_eq_true rfl, Nat.le_of_ble_eq_true rfl⟩ rfl (Nat.le_of_ble_eq_true rfl) (fun r36 h37 => ?_)
  refine V_iload_n (pc := 189) (DCa dc_Mod_cut_2 0 rfl) rfl 1 rfl ?_
  refine V_iload_n (pc := 190) (DCa dc_Mod_cut_2 1 rfl) rfl 2 rfl ?_
  refine V_iadd (pc := 191) (DCa dc_Mod_cut_2 2 rfl) ?_
  refine Q_lt (fun x38 => ?_)
  refine V_istore_n (ls' := [(0, 2, l0), (1, 0, x38), (3, 0, l3), (4, 1, l4), (6, 0, l6)]) (pc := 192) (DCa dc_Mod_cut_2 3 rfl) rfl (Nat.le_of_ble_eq_true rfl) rfl ?_
  refine V_goto (tgt := 291) (pc := 193) (DCa dc_Mod_cut_2 4 rfl) (by decide) ?_
  refine V_goto (tgt := 7) (pc := 291) (DCa dc_Mod_cut_3 14 rfl) (by decide) ?_
  refine V_pick [0, 1] rfl ?_
  exact hR7 _ _ _
theorem v_Mod_cut_L146s (F : Nat) (R7 : Int → Int → Hp → Option (Int × Hp)) (hR7 : ∀ (l0 l1 : Int) (h : Hp), V X_Mod_cut 7 [(0, 2, l0), (1, 0, l1)] [] h (R7 l0 l1 h)) (R146 : Int → Int → Int → Int → Int → Int → Hp → Option (Int × Hp)) (hR146 : ∀ (l0 l1 l3 l4 l6 l7 : Int) (h : Hp), V X_Mod_cut 146 [(0, 2, l0), (1, 0, l1), (3, 0, l3), (4, 1, l4), (6, 0, l6), (7, 0, l7)] [] h (R146 l0 l1 l3 l4 l6 l7 h)) (l0 l1 l3 l4 l6 l7 : Int) (h : Hp) : V X_Mod_cut 146 [(0, 2, l0), (1, 0, l1), (3, 0, l3), (4, 1, l4), (6, 0, l6), (7, 0, l7)] [] h (Mod_cut_L146s F R7 R146 l0 l1 l3 l4 l6 l7 h) := by
  unfold Mod_cut_L146s
  refine V_iload (pc := 146) (DCa dc_Mod_cut_1 28 rfl) 5 rfl ?_
  refine V_bipush (pc := 148) (DCa dc_Mod_cut_1 29 rfl) (by decide) ?_
  refine V_icmp_ge (tgt := 179) (pc := 150) (DCa dc_Mod_cut_1 30 rfl) (by decide) (fun _ => ?_) (fun _ => ?_)
  · refine V_aload_n (pc := 153) (DCa dc_Mod_cut_1 31 rfl) rfl 0 rfl ?_
    refine Q_getf (k := 9) (pc := 154) (DCa dc_Mod_cut_1 32 rfl) cls_12 (Nat.le_of_ble_eq_true rfl) fl_12_34 rfl rfl rfl (fun v39 => ?_)
    refine V_iload (pc := 157) (DCa dc_Mod_cut_1 33 rfl) 5 rfl ?_
    refine Q_laload (pc := 159) (DCa dc_Mod_cut_1 34 rfl) (fun v40 => ?_)
    refine V_lload (pc := 160) (DCa dc_Mod_cut_1 35 rfl) 3 rfl ?_
    refine V_lcmp (pc := 162) (DCa dc_Mod_cut_1 36 rfl) ?_
    refine V_if_ne (tgt := 173) (pc := 163) (DCa dc_Mod_cut_1 37 rfl) (by decide) (fun _ => ?_) (fun _ => ?_)
    · refine V_bipush (pc := 166) (DCa dc_Mod_cut_1 38 rfl) (by decide) ?_
      refine V_iload (pc := 168) (DCa dc_Mod_cut_1 39 rfl) 5 rfl ?_
      refine V_iadd (pc := 170) (DCa dc_Mod_cut_1 40 rfl) ?_
      refine Q_lt (fun x41 => ?_)
      refine V_istore (ls' := [(0, 2, l0), (1, 0, l1), (3, 0, l3), (4, 1, l4), (6, 0, x41), (7, 0, l7)]) (pc := 171) (DCa dc_Mod_cut_1 41 rfl) (Nat.le_of_ble_eq_true rfl) rfl ?_
      refine V_iinc (ls' := [(0, 2, l0), (1, 0, l1), (3, 0, l3), (4, 1, l4), (6, 0, x41), (7, 0, w32 (l7 + 1))]) (pc := 173) (DCa dc_Mod_cut_1 42 rfl) (Nat.le_of_ble_eq_true rfl) (by decide) 5 rfl rfl ?_
      refine V_goto (tgt := 146) (pc := 176) (DCa dc_Mod_cut_1 43 rfl) (by decide) ?_
      exact hR146 _ _ _ _ _ _ _
    · refine V_iinc (ls' := [(0, 2, l0), (1, 0, l1), (3, 0, l3), (4, 1, l4), (6, 0, l6), (7, 0, w32 (l7 + 1))]) (pc := 173) (DCa dc_Mod_cut_1 42 rfl) (Nat.le_of_ble_eq_true rfl) (by decide) 5 rfl rfl ?_
      refine V_goto (tgt := 146) (pc := 176) (DCa dc_Mod_cut_1 43 rfl) (by decide) ?_
      exact hR146 _ _ _ _ _ _ _
  · refine V_pick [0, 1, 2, 3, 4] rfl ?_
    exact v_Mod_cut_B179 F R7 hR7 _ _ _ _ _ _
theorem v_Mod_cut_L146 (F : Nat) (R7 : Int → Int → Hp → Option (Int × Hp)) (hR7 : ∀ (l0 l1 : Int) (h : Hp), V X_Mod_cut 7 [(0, 2, l0), (1, 0, l1)] [] h (R7 l0 l1 h)) (n : Nat) : ∀ (l0 l1 l3 l4 l6 l7 : Int) (h : Hp), V X_Mod_cut 146 [(0, 2, l0), (1, 0, l1), (3, 0, l3), (4, 1, l4), (6, 0, l6), (7, 0, l7)] [] h (Mod_cut_L146 F R7 n l0 l1 l3 l4 l6 l7 h) := by
  induction n with
  | zero => intros; exact V_none
  | succ n ih => exact fun l0 l1 l3 l4 l6 l7 h => v_Mod_cut_L146s F R7 hR7 _ ih l0 l1 l3 l4 l6 l7 h
theorem v_Mod_cut_B135 (F : Nat) (R7 : Int → Int → Hp → Option (Int × Hp)) (hR7 : ∀ (l0 l1 : Int) (h : Hp), V X_Mod_cut 7 [(0, 2, l0), (1, 0, l1)] [] h (R7 l0 l1 h)) (l0 l1 l3 l4 s0 : Int) (h : Hp) : V X_Mod_cut 135 [(0, 2, l0), (1, 0, l1), (3, 0, l3), (4, 1, l4)] [(0, s0)] h (Mod_cut_B135 F R7 l0 l1 l3 l4 s0 h) := by
  unfold Mod_cut_B135
  refine V_istore (ls' := [(0, 2, l0), (1, 0, l1), (3, 0, l3), (4, 1, l4), (6, 0, s0)]) (pc := 135) (DCa dc_Mod_cut_1 22 rfl) (Nat.le_of_ble_eq_true rfl) rfl ?_
  refine V_iload_n (pc := 137) (DCa dc_Mod_cut_1 23 rfl) rfl 2 rfl ?_
  refine V_bipush (pc := 138) (DCa dc_Mod_cut_1 24 rfl) (by decide) ?_
  refine V_icmp_gt (tgt := 179) (pc := 140) (DCa dc_Mod_cut_1 25 rfl) (by decide) (fun _ => ?_) (fun _ => ?_)
  · exact v_Mod_cut_B179 F R7 hR7 _ _ _ _ _ _
  · refine V_iconst (pc := 143) (DCa dc_Mod_cut_1 26 rfl) (by decide) ?_
    refine V_istore (ls' := [(0, 2, l0), (1, 0, l1), (3, 0, l3), (4, 1, l4), (6, 0, s0), (7, 0, 0)]) (pc := 144) (DCa dc_Mod_cut_1 27 rfl) (Nat.le_of_ble_eq_true rfl) rfl ?_
    exact v_Mod_cut_L146 F R7 hR7 F _ _ _ _ _ _ _
theorem v_Mod_cut_B124 (F : Nat) (R7 : Int → Int → Hp → Option (Int × Hp)) (hR7 : ∀ (l0 l1 : Int) (h : Hp), V X_Mod_cut 7 [(0, 2, l0), (1, 0, l1)] [] h (R7 l0 l1 h)) (l0 l1 l3 l4 : Int) (h : Hp) : V X_Mod_cut 124 [(0, 2, l0), (1, 0, l1), (3, 0, l3), (4, 1, l4)] [] h (Mod_cut_B124 F R7 l0 l1 l3 l4 h) := by
  unfold Mod_cut_B124
  refine V_iload_n (pc := 124) (DCa dc_Mod_cut_1 16 rfl) rfl 2 rfl ?_
  refine V_bipush (pc := 125) (DCa dc_Mod_cut_1 17 rfl) (by decide) ?_
  refine V_icmp_le (tgt := 134) (pc := 127) (DCa dc_Mod_cut_1 18 rfl) (by decide) (fun _ => ?_) (fun _ => ?_)
  · refine V_iconst (pc := 130) (DCa dc_Mod_cut_1 19 rfl) (by decide) ?_
    refine V_goto (tgt := 135) (pc := 131) (DCa dc_Mod_cut_1 20 rfl) (by decide) ?_
    exact v_Mod_cut_B135 F R7 hR7 _ _ _ _ _ _
  · refine V_iconst (pc := 134) (DCa dc_Mod_cut_1 21 rfl) (by decide) ?_
    exact v_Mod_cut_B135 F R7 hR7 _ _ _ _ _ _
theorem v_Mod_cut_L85s (F : Nat) (R7 : Int → Int → Hp → Option (Int × Hp)) (hR7 : ∀ (l0 l1 : Int) (h : Hp), V X_Mod_cut 7 [(0, 2, l0), (1, 0, l1)] [] h (R7 l0 l1 h)) (R85 : Int → Int → Int → Int → Hp → Option (Int × Hp)) (hR85 : ∀ (l0 l1 l3 l4 : Int) (h : Hp), V X_Mod_cut 85 [(0, 2, l0), (1, 0, l1), (3, 0, l3), (4, 1, l4)] [] h (R85 l0 l1 l3 l4 h)) (l0 l1 l3 l4 : Int) (h : Hp) : V X_Mod_cut 85 [(0, 2, l0), (1, 0, l1), (3, 0, l3), (4, 1, l4)] [] h (Mod_cut_L85s F R7 R85 l0 l1 l3 l4 h) := by
  unfold Mod_cut_L85s
  refine V_aload_n (pc := 85) (DCa dc_Mod_cut_0 46 rfl) rfl 0 rfl ?_
  refine V_iload_n (pc := 86) (DCa dc_Mod_cut_0 47 rfl) rfl 1 rfl ?_
  refine V_iload_n (pc := 87) (DCa dc_Mod_cut_0 48 rfl) rfl 2 rfl ?_
  refine V_iadd (pc := 88) (DCa dc_Mod_cut_0 49 rfl) ?_
  refine Q_callv (ci := 12) (st := []) (pc := 89) (DCa dc_Mod_cut_1 0 rfl) (sp_Mod_byteAt F _ _ _) ce_Mod_byteAt ml_12_232 rfl rfl ⟨Nat.le_of_ble_eq_true rfl, Nat.le_of_ble_eq_true rfl⟩ rfl (Nat.le_of_ble_eq_true rfl) (fun r22 h23 => ?_)
  refine Q_calls (st := []) (pc := 92) (DCa dc_Mod_cut_1 1 rfl) (sp_Mod_isLetter F _ _) ce_Mod_isLetter ml_12_240 rfl ⟨Nat.le_of_ble_eq_true rfl, Nat.le_of_ble_eq_true rfl⟩ rfl (Nat.le_of_ble_eq_true rfl) (fun r24 h25 => ?_)
  refine V_if_eq (tgt := 124) (pc := 95) (DCa dc_Mod_cut_1 2 rfl) (by decide) (fun _ => ?_) (fun _ => ?_)
  · exact v_Mod_cut_B124 F R7 hR7 _ _ _ _ _
  · refine V_iload_n (pc := 98) (DCa dc_Mod_cut_1 3 rfl) rfl 2 rfl ?_
    refine V_bipush (pc := 99) (DCa dc_Mod_cut_1 4 rfl) (by decide) ?_
    refine V_icmp_ge (tgt := 118) (pc := 101) (DCa dc_Mod_cut_1 5 rfl) (by decide) (fun _ => ?_) (fun _ => ?_)
    · refine V_lload (pc := 104) (DCa dc_Mod_cut_1 6 rfl) 3 rfl ?_
      refine V_aload_n (pc := 106) (DCa dc_Mod_cut_1 7 rfl) rfl 0 rfl ?_
      refine V_iload_n (pc := 107) (DCa dc_Mod_cut_1 8 rfl) rfl 1 rfl ?_
      refine V_iload_n (pc := 108) (DCa dc_Mod_cut_1 9 rfl) rfl 2 rfl ?_
      refine V_iadd (pc := 109) (DCa dc_Mod_cut_1 10 rfl) ?_
      refine Q_callv (ci := 12) (st := [(1, l4)]) (pc := 110) (DCa dc_Mod_cut_1 11 rfl) (sp_Mod_byteAt F _ _ _) ce_Mod_byteAt ml_12_232 rfl rfl ⟨Nat.le_of_ble_eq_true rfl, Nat.le_of_ble_eq_true rfl⟩ rfl (Nat.le_of_ble_eq_true rfl) (fun r26 h27 => ?_)
      refine Q_calls (st := []) (pc := 113) (DCa dc_Mod_cut_1 12 rfl) (sp_Mod_appends F _ _ _) ce_Mod_appends ml_12_225 rfl ⟨Nat.le_of_ble_eq_true rfl, Nat.le_of_ble_eq_true rfl⟩ rfl (Nat.le_of_ble_eq_true rfl) (fun r28 h29 => ?_)
      refine V_lstore (ls' := [(0, 2, l0), (1, 0, l1), (3, 0, l3), (4, 1, r28)]) (pc := 116) (DCa dc_Mod_cut_1 13 rfl) (Nat.le_of_ble_eq_true rfl) rfl ?_
      refine V_iinc (ls' := [(0, 2, l0), (1, 0, l1), (3, 0, w32 (l3 + 1)), (4, 1, r28)]) (pc := 118) (DCa dc_Mod_cut_1 14 rfl) (Nat.le_of_ble_eq_true rfl) (by decide) 2 rfl rfl ?_
      refine V_goto (tgt := 85) (pc := 121) (DCa dc_Mod_cut_1 15 rfl) (by decide) ?_
      exact hR85 _ _ _ _ _
    · refine V_iinc (ls' := [(0, 2, l0), (1, 0, l1), (3, 0, w32 (l3 + 1)), (4, 1, l4)]) (pc := 118) (DCa dc_Mod_cut_1 14 rfl) (Nat.le_of_ble_eq_true rfl) (by decide) 2 rfl rfl ?_
      refine V_goto (tgt := 85) (pc := 121) (DCa dc_Mod_cut_1 15 rfl) (by decide) ?_
      exact hR85 _ _ _ _ _
theorem v_Mod_cut_L85 (F : Nat) (R7 : Int → Int → Hp → Option (Int × Hp)) (hR7 : ∀ (l0 l1 : Int) (h : Hp), V X_Mod_cut 7 [(0, 2, l0), (1, 0, l1)] [] h (R7 l0 l1 h)) (n : Nat) : ∀ (l0 l1 l3 l4 : Int) (h : Hp), V X_Mod_cut 85 [(0, 2, l0), (1, 0, l1), (3, 0, l3), (4, 1, l4)] [] h (Mod_cut_L85 F R7 n l0 l1 l3 l4 h) := by
  induction n with
  | zero => intros; exact V_none
  | succ n ih => exact fun l0 l1 l3 l4 h => v_Mod_cut_L85s F R7 hR7 _ ih l0 l1 l3 l4 h
theorem v_Mod_cut_L7s (F : Nat)  (R7 : Int → Int → Hp → Option (Int × Hp)) (hR7 : ∀ (l0 l1 : Int) (h : Hp), V X_Mod_cut 7 [(0, 2, l0), (1, 0, l1)] [] h (R7 l0 l1 h)) (l0 l1 : Int) (h : Hp) : V X_Mod_cut 7 [(0, 2, l0), (1, 0, l1)] [] h (Mod_cut_L7s F  R7 l0 l1 h) := by
  unfold Mod_cut_L7s
  refine V_aload_n (pc := 7) (DCa dc_Mod_cut_0 5 rfl) rfl 0 rfl ?_
  refine Q_getf (k := 10) (pc := 8) (DCa dc_Mod_cut_0 6 rfl) cls_12 (Nat.le_of_ble_eq_true rfl) fl_12_229 rfl rfl rfl (fun v2 => ?_)
  refine V_sipush (pc := 11) (DCa dc_Mod_cut_0 7 rfl) (by decide) ?_
  refine V_icmp_gt (tgt := 294) (pc := 14) (DCa dc_Mod_cut_0 8 rfl) (by decide) (fun _ => ?_) (fun _ => ?_)
  · exact V_return (pc := 294) (DCa dc_Mod_cut_3 15 rfl) rfl
  · refine V_aload_n (pc := 17) (DCa dc_Mod_cut_0 9 rfl) rfl 0 rfl ?_
    refine V_iload_n (pc := 18) (DCa dc_Mod_cut_0 10 rfl) rfl 1 rfl ?_
    refine Q_callv (ci := 12) (st := []) (pc := 19) (DCa dc_Mod_cut_0 11 rfl) (sp_Mod_byteAt F _ _ _) ce_Mod_byteAt ml_12_232 rfl rfl ⟨Nat.le_of_ble_eq_true rfl, Nat.le_of_ble_eq_true rfl⟩ rfl (Nat.le_of_ble_eq_true rfl) (fun r3 h4 => ?_)
    refine V_istore_n (ls' := [(0, 2, l0), (1, 0, l1), (2, 0, r3)]) (pc := 22) (DCa dc_Mod_cut_0 12 rfl) rfl (Nat.le_of_ble_eq_true rfl) rfl ?_
    refine V_iload_n (pc := 23) (DCa dc_Mod_cut_0 13 rfl) rfl 1 rfl ?_
    refine V_aload_n (pc := 24) (DCa dc_Mod_cut_0 14 rfl) rfl 0 rfl ?_
    refine Q_getf (k := 4) (pc := 25) (DCa dc_Mod_cut_0 15 rfl) cls_12 (Nat.le_of_ble_eq_true rfl) fl_12_220 rfl rfl rfl (fun v5 => ?_)
    refine V_icmp_lt (tgt := 43) (pc := 28) (DCa dc_Mod_cut_0 16 rfl) (by decide) (fun _ => ?_) (fun _ => ?_)
    · refine V_iload_n (pc := 43) (DCa dc_Mod_cut_0 25 rfl) rfl 2 rfl ?_
      refine V_bipush (pc := 44) (DCa dc_Mod_cut_0 26 rfl) (by decide) ?_
      refine V_icmp_eq (tgt := 67) (pc := 46) (DCa dc_Mod_cut_0 27 rfl) (by decide) (fun _ => ?_) (fun _ => ?_)
      · refine V_iinc (ls' := [(0, 2, l0), (1, 0, w32 (l1 + 1)), (2, 0, r3)]) (pc := 67) (DCa dc_Mod_cut_0 37 rfl) (Nat.le_of_ble_eq_true rfl) (by decide) 1 rfl rfl ?_
        refine V_goto (tgt := 291) (pc := 70) (DCa dc_Mod_cut_0 38 rfl) (by decide) ?_
        refine V_goto (tgt := 7) (pc := 291) (DCa dc_Mod_cut_3 14 rfl) (by decide) ?_
        refine V_pick [0, 1] rfl ?_
        exact hR7 _ _ _
      · refine V_iload_n (pc := 49) (DCa dc_Mod_cut_0 28 rfl) rfl 2 rfl ?_
        refine V_bipush (pc := 50) (DCa dc_Mod_cut_0 29 rfl) (by decide) ?_
        refine V_icmp_eq (tgt := 67) (pc := 52) (DCa dc_Mod_cut_0 30 rfl) (by decide) (fun _ => ?_) (fun _ => ?_)
        · refine V_iinc (ls' := [(0, 2, l0), (1, 0, w32 (l1 + 1)), (2, 0, r3)]) (pc := 67) (DCa dc_Mod_cut_0 37 rfl) (Nat.le_of_ble_eq_true rfl) (by decide) 1 rfl rfl ?_
          refine V_goto (tgt := 291) (pc := 70) (DCa dc_Mod_cut_0 38 rfl) (by decide) ?_
          refine V_goto (tgt := 7) (pc := 291) (DCa dc_Mod_cut_3 14 rfl) (by decide) ?_
          refine V_pick [0, 1] rfl ?_
          exact hR7 _ _ _
        · refine V_iload_n (pc := 55) (DCa dc_Mod_cut_0 31 rfl) rfl 2 rfl ?_
          refine V_bipush (pc := 56) (DCa dc_Mod_cut_0 32 rfl) (by decide) ?_
          refine V_icmp_eq (tgt := 67) (pc := 58) (DCa dc_Mod_cut_0 33 rfl) (by decide) (fun _ => ?_) (fun _ => ?_)
          · refine V_iinc (ls' := [(0, 2, l0), (1, 0, w32 (l1 + 1)), (2, 0, r3)]) (pc := 67) (DCa dc_Mod_cut_0 37 rfl) (Nat.le_of_ble_eq_true rfl) (by decide) 1 rfl rfl ?_
            refine V_goto (tgt := 291) (pc := 70) (DCa dc_Mod_cut_0 38 rfl) (by decide) ?_
            refine V_goto (tgt := 7) (pc := 291) (DCa dc_Mod_cut_3 14 rfl) (by decide) ?_
            refine V_pick [0, 1] rfl ?_
            exact hR7 _ _ _
          · refine V_iload_n (pc := 61) (DCa dc_Mod_cut_0 34 rfl) rfl 2 rfl ?_
            refine V_bipush (pc := 62) (DCa dc_Mod_cut_0 35 rfl) (by decide) ?_
            refine V_icmp_ne (tgt := 73) (pc := 64) (DCa dc_Mod_cut_0 36 rfl) (by decide) (fun _ => ?_) (fun _ => ?_)
            · refine V_iinc (ls' := [(0, 2, l0), (1, 0, w32 (l1 + 1)), (2, 0, r3)]) (pc := 67) (DCa dc_Mod_cut_0 37 rfl) (Nat.le_of_ble_eq_true rfl) (by decide) 1 rfl rfl ?_
              refine V_goto (tgt := 291) (pc := 70) (DCa dc_Mod_cut_0 38 rfl) (by decide) ?_
              refine V_goto (tgt := 7) (pc := 291) (DCa dc_Mod_cut_3 14 rfl) (by decide) ?_
              refine V_pick [0, 1] rfl ?_
              exact hR7 _ _ _
            · refine V_iload_n (pc := 73) (DCa dc_Mod_cut_0 39 rfl) rfl 2 rfl ?_
              refine Q_calls (st := []) (pc := 74) (DCa dc_Mod_cut_0 40 rfl) (sp_Mod_isLetter F _ _) ce_Mod_isLetter ml_12_240 rfl ⟨Nat.le_of_ble_eq_true rfl, Nat.le_of_ble_eq_true rfl⟩ rfl (Nat.le_of_ble_eq_true rfl) (fun r6 h7 => ?_)
              refine V_if_eq (tgt := 196) (pc := 77) (DCa dc_Mod_cut_0 41 rfl) (by decide) (fun _ => ?_) (fun _ => ?_)
              · refine V_iload_n (pc := 196) (DCa dc_Mod_cut_2 5 rfl) rfl 2 rfl ?_
                refine Q_calls (st := []) (pc := 197) (DCa dc_Mod_cut_2 6 rfl) (sp_Mod_isDigit F _ _) ce_Mod_isDigit ml_12_244 rfl ⟨Nat.le_of_ble_eq_true rfl, Nat.le_of_ble_eq_true rfl⟩ rfl (Nat.le_of_ble_eq_true rfl) (fun r8 h9 => ?_)
                refine V_if_eq (tgt := 275) (pc := 200) (DCa dc_Mod_cut_2 7 rfl) (by decide) (fun _ => ?_) (fun _ => ?_)
                · refine V_iload_n (pc := 275) (DCa dc_Mod_cut_3 2 rfl) rfl 1 rfl ?_
                  refine V_aload_n (pc := 276) (DCa dc_Mod_cut_3 3 rfl) rfl 0 rfl ?_
                  refine V_iload_n (pc := 277) (DCa dc_Mod_cut_3 4 rfl) rfl 1 rfl ?_
                  refine V_iload_n (pc := 278) (DCa dc_Mod_cut_3 5 rfl) rfl 2 rfl ?_
                  refine V_aload_n (pc := 279) (DCa dc_Mod_cut_3 6 rfl) rfl 0 rfl ?_
                  refine V_iload_n (pc := 280) (DCa dc_Mod_cut_3 7 rfl) rfl 1 rfl ?_
                  refine V_iconst (pc := 281) (DCa dc_Mod_cut_3 8 rfl) (by decide) ?_
                  refine V_iadd (pc := 282) (DCa dc_Mod_cut_3 9 rfl) ?_
                  refine Q_callv (ci := 12) (st := [(0, r3), (0, l1), (2, l0), (0, l1)]) (pc := 283) (DCa dc_Mod_cut_3 10 rfl) (sp_Mod_byteAt F _ _ _) ce_Mod_byteAt ml_12_232 rfl rfl ⟨Nat.le_of_ble_eq_true rfl, Nat.le_of_ble_eq_true rfl⟩ rfl (Nat.le_of_ble_eq_true rfl) (fun r10 h11 => ?_)
                  refine Q_callv (ci := 12) (st := [(0, l1)]) (pc := 286) (DCa dc_Mod_cut_3 11 rfl) (sp_Mod_sign F _ _ _ _ _) ce_Mod_sign ml_12_247 rfl rfl ⟨Nat.le_of_ble_eq_true rfl, Nat.le_of_ble_eq_true rfl⟩ rfl (Nat.le_of_ble_eq_true rfl) (fun r12 h13 => ?_)
                  refine V_iadd (pc := 289) (DCa dc_Mod_cut_3 12 rfl) ?_
                  refine Q_lt (fun x14 => ?_)
                  refine V_istore_n (ls' := [(0, 2, l0), (1, 0, x14), (2, 0, r3)]) (pc := 290) (DCa dc_Mod_cut_3 13 rfl) rfl (Nat.le_of_ble_eq_true rfl) rfl ?_
                  refine V_goto (tgt := 7) (pc := 291) (DCa dc_Mod_cut_3 14 rfl) (by decide) ?_
                  refine V_pick [0, 1] rfl ?_
                  exact hR7 _ _ _
                · refine V_iconst (pc := 203) (DCa dc_Mod_cut_2 8 rfl) (by decide) ?_
                  refine V_istore_n (ls' := [(0, 2, l0), (1, 0, l1), (2, 0, r3), (3, 0, 0)]) (pc := 204) (DCa dc_Mod_cut_2 9 rfl) rfl (Nat.le_of_ble_eq_true rfl) rfl ?_
                  refine V_iconst (pc := 205) (DCa dc_Mod_cut_2 10 rfl) (by decide) ?_
                  refine V_istore (ls' := [(0, 2, l0), (1, 0, l1), (2, 0, r3), (3, 0, 0), (4, 0, 0)]) (pc := 206) (DCa dc_Mod_cut_2 11 rfl) (Nat.le_of_ble_eq_true rfl) rfl ?_
                  refine V_pick [0, 1, 3, 4] rfl ?_
                  exact v_Mod_cut_L208 F R7 hR7 F _ _ _ _ _
              · refine V_iconst (pc := 80) (DCa dc_Mod_cut_0 42 rfl) (by decide) ?_
                refine V_istore_n (ls' := [(0, 2, l0), (1, 0, l1), (2, 0, r3), (3, 0, 0)]) (pc := 81) (DCa dc_Mod_cut_0 43 rfl) rfl (Nat.le_of_ble_eq_true rfl) rfl ?_
                refine V_lconst (x := 0) (pc := 82) (DCa dc_Mod_cut_0 44 rfl) rfl ?_
                refine V_lstore (ls' := [(0, 2, l0), (1, 0, l1), (2, 0, r3), (3, 0, 0), (4, 1, 0)]) (pc := 83) (DCa dc_Mod_cut_0 45 rfl) (Nat.le_of_ble_eq_true rfl) rfl ?_
                refine V_pick [0, 1, 3, 4] rfl ?_
                exact v_Mod_cut_L85 F R7 hR7 F _ _ _ _ _
    · refine V_pick [0] rfl ?_
      exact v_Mod_cut_B31 F _ _
theorem v_Mod_cut_L7 (F : Nat)  (n : Nat) : ∀ (l0 l1 : Int) (h : Hp), V X_Mod_cut 7 [(0, 2, l0), (1, 0, l1)] [] h (Mod_cut_L7 F  n l0 l1 h) := by
  induction n with
  | zero => intros; exact V_none
  | succ n ih => exact fun l0 l1 h => v_Mod_cut_L7s F  _ ih l0 l1 h
theorem v_Mod_cut (F : Nat) (l0 : Int) (h : Hp) : V X_Mod_cut 0 [(0, 2, l0)] [] h (Mod_cut F l0 h) := by
  unfold Mod_cut
  refine V_aload_n (pc := 0) (DCa dc_Mod_cut_0 0 rfl) rfl 0 rfl ?_
  refine V_iconst (pc := 1) (DCa dc_Mod_cut_0 1 rfl) (by decide) ?_
  refine Q_putf (k := 10) (pc := 2) (DCa dc_Mod_cut_0 2 rfl) cls_12 (Nat.le_of_ble_eq_true rfl) fl_12_229 rfl rfl rfl (Or.inl rfl) (Or.inl ⟨rfl, rfl⟩) (fun h1 => ?_)
  refine V_iconst (pc := 5) (DCa dc_Mod_cut_0 3 rfl) (by decide) ?_
  refine V_istore_n (ls' := [(0, 2, l0), (1, 0, 0)]) (pc := 6) (DCa dc_Mod_cut_0 4 rfl) rfl (Nat.le_of_ble_eq_true rfl) rfl ?_
  exact v_Mod_cut_L7 F F _ _ _
theorem sp_Mod_cut (F : Nat) (l0 : Int) (h : Hp) : Sp yX12_cut cX12_cut 8 none 3 69 [(2, l0)] h (Mod_cut F l0 h) := Sp_of (by decide +kernel) rfl rfl (Nat.le_of_ble_eq_true rfl) (v_Mod_cut F l0 h)
