-- TideRakes$Shore.layOut
def Shor_layOut (F : Nat) (l0 l1 : Int) (h : Hp) : Option (Int × Hp) :=
  gf h l0 107 0 fun v1 =>
  gf h v1 106 14 fun v2 =>
  gf h l1 105 0 fun v3 =>
  gf h l1 105 1 fun v4 =>
  iv h v2 100 (Laws_high F v2 v3 v4 h) fun r5 h6 =>
  pf h6 l1 105 2 r5 fun h7 =>
  gf h7 l0 107 1 fun v8 =>
  gf h7 l0 107 0 fun v9 =>
  gf h7 v9 106 9 fun v10 =>
  gf h7 l0 107 0 fun v11 =>
  gf h7 v11 106 10 fun v12 =>
  iv h7 l1 105 (Sand_settle F l1 v8 v10 v12 h7) fun r13 h14 =>
  some (0, h14)

theorem dc_Shor_layOut_0 : ∀ q ∈ ([(0, .aload_n 1, 1), (1, .aload_n 0, 1), (2, .getfield 12, 3), (5, .getfield 41, 3), (8, .aload_n 1, 1), (9, .getfield 59, 3), (12, .aload_n 1, 1), (13, .getfield 65, 3), (16, .invokevirtual 83, 3), (19, .putfield 87, 3), (22, .aload_n 1, 1), (23, .aload_n 0, 1), (24, .getfield 18, 3), (27, .aload_n 0, 1), (28, .getfield 12, 3), (31, .getfield 89, 3), (34, .aload_n 0, 1), (35, .getfield 12, 3), (38, .getfield 92, 3), (41, .invokevirtual 95, 3), (44, .return_, 1)] : List (Nat × Instr × Nat)), decode cX7_layOut q.1 = .ok (q.2.1, q.2.2) := by decide +kernel
abbrev X_Shor_layOut : MX := (cX7_layOut, RX7, "layOut", 2, none, 4, 92)
theorem v_Shor_layOut (F : Nat) (l0 l1 : Int) (h : Hp) : V X_Shor_layOut 0 [(0, 2, l0), (1, 2, l1)] [] h (Shor_layOut F l0 l1 h) := by
  unfold Shor_layOut
  refine V_aload_n (pc := 0) (DCa dc_Shor_layOut_0 0 rfl) rfl 1 rfl ?_
  refine V_aload_n (pc := 1) (DCa dc_Shor_layOut_0 1 rfl) rfl 0 rfl ?_
  refine Q_getf (k := 0) (pc := 2) (DCa dc_Shor_layOut_0 2 rfl) cls_7 (Nat.le_of_ble_eq_true rfl) fl_7_12 rfl rfl rfl (fun v1 => ?_)
  refine Q_getf (k := 14) (pc := 5) (DCa dc_Shor_layOut_0 3 rfl) cls_6 (Nat.le_of_ble_eq_true rfl) fl_7_41 rfl rfl rfl (fun v2 => ?_)
  refine V_aload_n (pc := 8) (DCa dc_Shor_layOut_0 4 rfl) rfl 1 rfl ?_
  refine Q_getf (k := 0) (pc := 9) (DCa dc_Shor_layOut_0 5 rfl) cls_5 (Nat.le_of_ble_eq_true rfl) fl_7_59 rfl rfl rfl (fun v3 => ?_)
  refine V_aload_n (pc := 12) (DCa dc_Shor_layOut_0 6 rfl) rfl 1 rfl ?_
  refine Q_getf (k := 1) (pc := 13) (DCa dc_Shor_layOut_0 7 rfl) cls_5 (Nat.le_of_ble_eq_true rfl) fl_7_65 rfl rfl rfl (fun v4 => ?_)
  refine Q_callv (ci := 0) (st := [(2, l1)]) (pc := 16) (DCa dc_Shor_layOut_0 8 rfl) (sp_Laws_high F _ _ _ _) ce_Laws_high ml_7_83 rfl rfl ⟨Nat.le_of_ble_eq_true rfl, Nat.le_of_ble_eq_true rfl⟩ rfl (Nat.le_of_ble_eq_true rfl) (fun r5 h6 => ?_)
  refine Q_putf (k := 2) (pc := 19) (DCa dc_Shor_layOut_0 9 rfl) cls_5 (Nat.le_of_ble_eq_true rfl) fl_7_87 rfl rfl rfl (Or.inl rfl) (Or.inl ⟨rfl, rfl⟩) (fun h7 => ?_)
  refine V_aload_n (pc := 22) (DCa dc_Shor_layOut_0 10 rfl) rfl 1 rfl ?_
  refine V_aload_n (pc := 23) (DCa dc_Shor_layOut_0 11 rfl) rfl 0 rfl ?_
  refine Q_getf (k := 1) (pc := 24) (DCa dc_Shor_layOut_0 12 rfl) cls_7 (Nat.le_of_ble_eq_true rfl) fl_7_18 rfl rfl rfl (fun v8 => ?_)
  refine V_aload_n (pc := 27) (DCa dc_Shor_layOut_0 13 rfl) rfl 0 rfl ?_
  refine Q_getf (k := 0) (pc := 28) (DCa dc_Shor_layOut_0 14 rfl) cls_7 (Nat.le_of_ble_eq_true rfl) fl_7_12 rfl rfl rfl (fun v9 => ?_)
  refine Q_getf (k := 9) (pc := 31) (DCa dc_Shor_layOut_0 15 rfl) cls_6 (Nat.le_of_ble_eq_true rfl) fl_7_89 rfl rfl rfl (fun v10 => ?_)
  refine V_aload_n (pc := 34) (DCa dc_Shor_layOut_0 16 rfl) rfl 0 rfl ?_
  refine Q_getf (k := 0) (pc := 35) (DCa dc_Shor_layOut_0 17 rfl) cls_7 (Nat.le_of_ble_eq_true rfl) fl_7_12 rfl rfl rfl (fun v11 => ?_)
  refine Q_getf (k := 10) (pc := 38) (DCa dc_Shor_layOut_0 18 rfl) cls_6 (Nat.le_of_ble_eq_true rfl) fl_7_92 rfl rfl rfl (fun v12 => ?_)
  refine Q_callv (ci := 5) (st := []) (pc := 41) (DCa dc_Shor_layOut_0 19 rfl) (sp_Sand_settle F _ _ _ _ _) ce_Sand_settle ml_7_95 rfl rfl ⟨Nat.le_of_ble_eq_true rfl, Nat.le_of_ble_eq_true rfl⟩ rfl (Nat.le_of_ble_eq_true rfl) (fun r13 h14 => ?_)
  exact V_return (pc := 44) (DCa dc_Shor_layOut_0 20 rfl) rfl
theorem sp_Shor_layOut (F : Nat) (l0 l1 : Int) (h : Hp) : Sp yX7_layOut cX7_layOut 2 none 4 92 [(2, l0), (2, l1)] h (Shor_layOut F l0 l1 h) := Sp_of (by decide +kernel) rfl rfl (Nat.le_of_ble_eq_true rfl) (v_Shor_layOut F l0 l1 h)

-- TideRakes$Walker.begin
def Walk_begin (F : Nat) (l0 l1 l2 : Int) (h : Hp) : Option (Int × Hp) :=
  gf h l1 106 5 fun v1 =>
  al h v1 0 l2 fun v2 =>
  pf h l0 110 0 v2 fun h3 =>
  gf h3 l1 106 6 fun v4 =>
  al h3 v4 0 l2 fun v5 =>
  pf h3 l0 110 1 v5 fun h6 =>
  gf h6 l1 106 7 fun v7 =>
  al h6 v7 0 l2 fun v8 =>
  pf h6 l0 110 2 v8 fun h9 =>
  pf h9 l0 110 3 0 fun h10 =>
  pf h10 l0 110 4 0 fun h11 =>
  some (0, h11)

theorem dc_Walk_begin_0 : ∀ q ∈ ([(0, .aload_n 0, 1), (1, .aload_n 1, 1), (2, .getfield 25, 3), (5, .iload_n 2, 1), (6, .iaload, 1), (7, .putfield 7, 3), (10, .aload_n 0, 1), (11, .aload_n 1, 1), (12, .getfield 31, 3), (15, .iload_n 2, 1), (16, .iaload, 1), (17, .putfield 13, 3), (20, .aload_n 0, 1), (21, .aload_n 1, 1), (22, .getfield 34, 3), (25, .iload_n 2, 1), (26, .iaload, 1), (27, .putfield 16, 3), (30, .aload_n 0, 1), (31, .iconst 0, 1), (32, .putfield 19, 3), (35, .aload_n 0, 1), (36, .iconst 0, 1), (37, .putfield 22, 3), (40, .return_, 1)] : List (Nat × Instr × Nat)), decode cX10_begin q.1 = .ok (q.2.1, q.2.2) := by decide +kernel
abbrev X_Walk_begin : MX := (cX10_begin, RX10, "begin", 3, none, 1, 20)
theorem v_Walk_begin (F : Nat) (l0 l1 l2 : Int) (h : Hp) : V X_Walk_begin 0 [(0, 2, l0), (1, 2, l1), (2, 0, l2)] [] h (Walk_begin F l0 l1 l2 h) := by
  unfold Walk_begin
  refine V_aload_n (pc := 0) (DCa dc_Walk_begin_0 0 rfl) rfl 0 rfl ?_
  refine V_aload_n (pc := 1) (DCa dc_Walk_begin_0 1 rfl) rfl 1 rfl ?_
  refine Q_getf (k := 5) (pc := 2) (DCa dc_Walk_begin_0 2 rfl) cls_6 (Nat.le_of_ble_eq_true rfl) fl_10_25 rfl rfl rfl (fun v1 => ?_)
  refine V_iload_n (pc := 5) (DCa dc_Walk_begin_0 3 rfl) rfl 2 rfl ?_
  refine Q_iaload (pc := 6) (DCa dc_Walk_begin_0 4 rfl) (fun v2 => ?_)
  refine Q_putf (k := 0) (pc := 7) (DCa dc_Walk_begin_0 5 rfl) cls_10 (Nat.le_of_ble_eq_true rfl) fl_10_7 rfl rfl rfl (Or.inl rfl) (Or.inl ⟨rfl, rfl⟩) (fun h3 => ?_)
  refine V_aload_n (pc := 10) (DCa dc_Walk_begin_0 6 rfl) rfl 0 rfl ?_
  refine V_aload_n (pc := 11) (DCa dc_Walk_begin_0 7 rfl) rfl 1 rfl ?_
  refine Q_getf (k := 6) (pc := 12) (DCa dc_Walk_begin_0 8 rfl) cls_6 (Nat.le_of_ble_eq_true rfl) fl_10_31 rfl rfl rfl (fun v4 => ?_)
  refine V_iload_n (pc := 15) (DCa dc_Walk_begin_0 9 rfl) rfl 2 rfl ?_
  refine Q_iaload (pc := 16) (DCa dc_Walk_begin_0 10 rfl) (fun v5 => ?_)
  refine Q_putf (k := 1) (pc := 17) (DCa dc_Walk_begin_0 11 rfl) cls_10 (Nat.le_of_ble_eq_true rfl) fl_10_13 rfl rfl rfl (Or.inl rfl) (Or.inl ⟨rfl, rfl⟩) (fun h6 => ?_)
  refine V_aload_n (pc := 20) (DCa dc_Walk_begin_0 12 rfl) rfl 0 rfl ?_
  refine V_aload_n (pc := 21) (DCa dc_Walk_begin_0 13 rfl) rfl 1 rfl ?_
  refine Q_getf (k := 7) (pc := 22) (DCa dc_Walk_begin_0 14 rfl) cls_6 (Nat.le_of_ble_eq_true rfl) fl_10_34 rfl rfl rfl (fun v7 => ?_)
  refine V_iload_n (pc := 25) (DCa dc_Walk_begin_0 15 rfl) rfl 2 rfl ?_
  refine Q_iaload (pc := 26) (DCa dc_Walk_begin_0 16 rfl) (fun v8 => ?_)
  refine Q_putf (k := 2) (pc := 27) (DCa dc_Walk_begin_0 17 rfl) cls_10 (Nat.le_of_ble_eq_true rfl) fl_10_16 rfl rfl rfl (Or.inl rfl) (Or.inl ⟨rfl, rfl⟩) (fun h9 => ?_)
  refine V_aload_n (pc := 30) (DCa dc_Walk_begin_0 18 rfl) rfl 0 rfl ?_
  refine V_iconst (pc := 31) (DCa dc_Walk_begin_0 19 rfl) (by decide) ?_
  refine Q_putf (k := 3) (pc := 32) (DCa dc_Walk_begin_0 20 rfl) cls_10 (Nat.le_of_ble_eq_true rfl) fl_10_19 rfl rfl rfl (Or.inl rfl) (Or.inl ⟨rfl, rfl⟩) (fun h10 => ?_)
  refine V_aload_n (pc := 35) (DCa dc_Walk_begin_0 21 rfl) rfl 0 rfl ?_
  refine V_iconst (pc := 36) (DCa dc_Walk_begin_0 22 rfl) (by decide) ?_
  refine Q_putf (k := 4) (pc := 37) (DCa dc_Walk_begin_0 23 rfl) cls_10 (Nat.le_of_ble_eq_true rfl) fl_10_22 rfl rfl rfl (Or.inl rfl) (Or.inl ⟨rfl, rfl⟩) (fun h11 => ?_)
  exact V_return (pc := 40) (DCa dc_Walk_begin_0 24 rfl) rfl
theorem sp_Walk_begin (F : Nat) (l0 l1 l2 : Int) (h : Hp) : Sp yX10_begin cX10_begin 3 none 1 20 [(2, l0), (2, l1), (0, l2)] h (Walk_begin F l0 l1 l2 h) := Sp_of (by decide +kernel) rfl rfl (Nat.le_of_ble_eq_true rfl) (v_Walk_begin F l0 l1 l2 h)

-- TideRakes$Planner.spanOf
def Plan_spanOf_B178 (F : Nat)  (l0 l1 : Int) (h : Hp) : Option (Int × Hp) :=
  gf h l0 102 7 fun v43 =>
  iv h l1 107 (Shor_allParts F l1 h) fun r44 h45 =>
  al h45 v43 0 r44 fun v46 =>
  some (v46, h45)
def Plan_spanOf_L118s (F : Nat)  (R118 : Int → Int → Int → Int → Hp → Option (Int × Hp)) (l0 l1 l3 l4 : Int) (h : Hp) : Option (Int × Hp) :=
  gf h l3 106 8 fun v27 =>
  if l4 < v27 then
    (gf h l0 102 3 fun v28 =>
    iv h v28 110 (Walk_begin F v28 l3 l4 h) fun r29 h30 =>
    gf h30 l0 102 2 fun v31 =>
    gf h30 l0 102 8 fun v32 =>
    gf h30 l3 106 4 fun v33 =>
    iv h30 l1 107 (Shor_allParts F l1 h30) fun r34 h35 =>
    gf h35 l0 102 3 fun v36 =>
    iv h35 v31 104 (Rows_fill F v31 v32 v33 r34 v36 0 h35) fun r37 h38 =>
    gf h38 l0 102 2 fun v39 =>
    gf h38 l0 102 7 fun v40 =>
    iv h38 v39 104 (Rows_shareIn F v39 v40 h38) fun r41 h42 =>
    R118 l0 l1 l3 (w32 (l4 + 1)) h42)
  else
    (Plan_spanOf_B178 F l0 l1 h)
def Plan_spanOf_L118 (F : Nat)  : Nat → Int → Int → Int → Int → Hp → Option (Int × Hp)
  | 0 => fun _ _ _ _ _ => none
  | n + 1 => Plan_spanOf_L118s F  (Plan_spanOf_L118 F  n)
def Plan_spanOf_B108 (F : Nat)  (l0 l1 l3 : Int) (h : Hp) : Option (Int × Hp) :=
  gf h l0 102 7 fun v24 =>
  cl (Plan_beginSpans F v24 h) fun r25 h26 =>
  Plan_spanOf_L118 F F l0 l1 l3 0 h26
def Plan_spanOf_L8s (F : Nat)  (R8 : Int → Int → Int → Int → Int → Hp → Option (Int × Hp)) (l0 l1 l2 l3 l4 : Int) (h : Hp) : Option (Int × Hp) :=
  gf h l3 106 4 fun v2 =>
  if l4 < v2 then
    (gf h l0 102 8 fun v3 =>
    al h v3 5 l4 fun v4 =>
    gf h l3 106 11 fun v5 =>
    gf h l3 106 0 fun v6 =>
    al h v6 0 l4 fun v7 =>
    gf h l3 106 11 fun v8 =>
    dv (w32 (l2 * (w32 (v7 - v8)))) 4 fun v9 =>
    pf h v4 105 0 (w32 (v5 + v9)) fun h10 =>
    gf h10 l3 106 12 fun v11 =>
    gf h10 l3 106 1 fun v12 =>
    al h10 v12 0 l4 fun v13 =>
    gf h10 l3 106 12 fun v14 =>
    dv (w32 (l2 * (w32 (v13 - v14)))) 4 fun v15 =>
    pf h10 v4 105 1 (w32 (v11 + v15)) fun h16 =>
    gf h16 l3 106 3 fun v17 =>
    al h16 v17 0 l4 fun v18 =>
    cl (Tide_roundedUp F (w32 (l2 * v18)) 4 h16) fun r19 h20 =>
    pf h20 v4 105 3 r19 fun h21 =>
    iv h21 l1 107 (Shor_layOut F l1 v4 h21) fun r22 h23 =>
    R8 l0 l1 l2 l3 (w32 (l4 + 1)) h23)
  else
    (Plan_spanOf_B108 F l0 l1 l3 h)
def Plan_spanOf_L8 (F : Nat)  : Nat → Int → Int → Int → Int → Int → Hp → Option (Int × Hp)
  | 0 => fun _ _ _ _ _ _ => none
  | n + 1 => Plan_spanOf_L8s F  (Plan_spanOf_L8 F  n)
def Plan_spanOf (F : Nat) (l0 l1 l2 : Int) (h : Hp) : Option (Int × Hp) :=
  gf h l1 107 0 fun v1 =>
  Plan_spanOf_L8 F F l0 l1 l2 v1 0 h

theorem dc_Plan_spanOf_0 : ∀ q ∈ ([(0, .aload_n 1, 1), (1, .getfield 62, 3), (4, .astore_n 3, 1), (5, .iconst 0, 1), (6, .istore 4, 2), (8, .iload 4, 2), (10, .aload_n 3, 1), (11, .getfield 66, 3), (14, .if_icmp .ge 94, 3), (17, .aload_n 0, 1), (18, .getfield 45, 3), (21, .iload 4, 2), (23, .aaload, 1), (24, .astore 5, 2), (26, .aload 5, 2), (28, .aload_n 3, 1), (29, .getfield 147, 3), (32, .iload_n 2, 1), (33, .aload_n 3, 1), (34, .getfield 150, 3), (37, .iload 4, 2), (39, .iaload, 1), (40, .aload_n 3, 1), (41, .getfield 147, 3), (44, .isub, 1), (45, .imul, 1), (46, .iconst 4, 1), (47, .idiv, 1), (48, .iadd, 1), (49, .putfield 153, 3), (52, .aload 5, 2), (54, .aload_n 3, 1), (55, .getfield 156, 3), (58, .iload_n 2, 1), (59, .aload_n 3, 1), (60, .getfield 159, 3), (63, .iload 4, 2), (65, .iaload, 1), (66, .aload_n 3, 1), (67, .getfield 156, 3), (70, .isub, 1), (71, .imul, 1), (72, .iconst 4, 1), (73, .idiv, 1), (74, .iadd, 1), (75, .putfield 162, 3), (78, .aload 5, 2), (80, .iload_n 2, 1), (81, .aload_n 3, 1), (82, .getfield 165, 3)] : List (Nat × Instr × Nat)), decode cX2_spanOf q.1 = .ok (q.2.1, q.2.2) := by decide +kernel
theorem dc_Plan_spanOf_1 : ∀ q ∈ ([(85, .iload 4, 2), (87, .iaload, 1), (88, .imul, 1), (89, .iconst 4, 1), (90, .invokestatic 168, 3), (93, .putfield 172, 3), (96, .aload_n 1, 1), (97, .aload 5, 2), (99, .invokevirtual 174, 3), (102, .iinc 4 1, 3), (105, .goto (-97), 3), (108, .aload_n 0, 1), (109, .getfield 40, 3), (112, .invokestatic 117, 3), (115, .iconst 0, 1), (116, .istore 4, 2), (118, .iload 4, 2), (120, .aload_n 3, 1), (121, .getfield 121, 3), (124, .if_icmp .ge 54, 3), (127, .aload_n 0, 1), (128, .getfield 29, 3), (131, .aload_n 3, 1), (132, .iload 4, 2), (134, .invokevirtual 178, 3), (137, .aload_n 0, 1), (138, .getfield 22, 3), (141, .aload_n 0, 1), (142, .getfield 45, 3), (145, .aload_n 3, 1), (146, .getfield 66, 3), (149, .aload_n 1, 1), (150, .invokevirtual 111, 3), (153, .aload_n 0, 1), (154, .getfield 29, 3), (157, .iconst 0, 1), (158, .invokevirtual 82, 3), (161, .aload_n 0, 1), (162, .getfield 22, 3), (165, .aload_n 0, 1), (166, .getfield 40, 3), (169, .invokevirtual 124, 3), (172, .iinc 4 1, 3), (175, .goto (-57), 3), (178, .aload_n 0, 1), (179, .getfield 40, 3), (182, .aload_n 1, 1), (183, .invokevirtual 111, 3), (186, .iaload, 1), (187, .ireturn, 1)] : List (Nat × Instr × Nat)), decode cX2_spanOf q.1 = .ok (q.2.1, q.2.2) := by decide +kernel
abbrev X_Plan_spanOf : MX := (cX2_spanOf, RX2, "spanOf", 6, (some (.int)), 5, 118)
theorem v_Plan_spanOf_B178 (F : Nat)  (l0 l1 : Int) (h : Hp) : V X_Plan_spanOf 178 [(0, 2, l0), (1, 2, l1)] [] h (Plan_spanOf_B178 F  l0 l1 h) := by
  unfold Plan_spanOf_B178
  refine V_aload_n (pc := 178) (DCa dc_Plan_spanOf_1 44 rfl) rfl 0 rfl ?_
  refine Q_getf (k := 7) (pc := 179) (DCa dc_Plan_spanOf_1 45 rfl) cls_2 (Nat.le_of_ble_eq_true rfl) fl_2_40 rfl rfl rfl (fun v43 => ?_)
  refine V_aload_n (pc := 182) (DCa dc_Plan_spanOf_1 46 rfl) rfl 1 rfl ?_
  refine Q_callv (ci := 7) (st := [(2, v43)]) (pc := 183) (DCa dc_Plan_spanOf_1 47 rfl) (sp_Shor_allParts F _ _) ce_Shor_allParts ml_2_111 rfl rfl ⟨Nat.le_of_ble_eq_true rfl, Nat.le_of_ble_eq_true rfl⟩ rfl (Nat.le_of_ble_eq_true rfl) (fun r44 h45 => ?_)
  refine Q_iaload (pc := 186) (DCa dc_Plan_spanOf_1 48 rfl) (fun v46 => ?_)
  exact V_ireturn (pc := 187) (DCa dc_Plan_spanOf_1 49 rfl) rfl
theorem v_Plan_spanOf_L118s (F : Nat)  (R118 : Int → Int → Int → Int → Hp → Option (Int × Hp)) (hR118 : ∀ (l0 l1 l3 l4 : Int) (h : Hp), V X_Plan_spanOf 118 [(0, 2, l0), (1, 2, l1), (3, 2, l3), (4, 0, l4)] [] h (R118 l0 l1 l3 l4 h)) (l0 l1 l3 l4 : Int) (h : Hp) : V X_Plan_spanOf 118 [(0, 2, l0), (1, 2, l1), (3, 2, l3), (4, 0, l4)] [] h (Plan_spanOf_L118s F  R118 l0 l1 l3 l4 h) := by
  unfold Plan_spanOf_L118s
  refine V_iload (pc := 118) (DCa dc_Plan_spanOf_1 16 rfl) 3 rfl ?_
  refine V_aload_n (pc := 120) (DCa dc_Plan_spanOf_1 17 rfl) rfl 2 rfl ?_
  refine Q_getf (k := 8) (pc := 121) (DCa dc_Plan_spanOf_1 18 rfl) cls_6 (Nat.le_of_ble_eq_true rfl) fl_2_121 rfl rfl rfl (fun v27 => ?_)
  refine V_icmp_ge (tgt := 178) (pc := 124) (DCa dc_Plan_spanOf_1 19 rfl) (by decide) (fun _ => ?_) (fun _ => ?_)
  · refine V_aload_n (pc := 127) (DCa dc_Plan_spanOf_1 20 rfl) rfl 0 rfl ?_
    refine Q_getf (k := 3) (pc := 128) (DCa dc_Plan_spanOf_1 21 rfl) cls_2 (Nat.le_of_ble_eq_true rfl) fl_2_29 rfl rfl rfl (fun v28 => ?_)
    refine V_aload_n (pc := 131) (DCa dc_Plan_spanOf_1 22 rfl) rfl 2 rfl ?_
    refine V_iload (pc := 132) (DCa dc_Plan_spanOf_1 23 rfl) 3 rfl ?_
    refine Q_callv (ci := 10) (st := []) (pc := 134) (DCa dc_Plan_spanOf_1 24 rfl) (sp_Walk_begin F _ _ _ _) ce_Walk_begin ml_2_178 rfl rfl ⟨Nat.le_of_ble_eq_true rfl, Nat.le_of_ble_eq_true rfl⟩ rfl (Nat.le_of_ble_eq_true rfl) (fun r29 h30 => ?_)
    refine V_aload_n (pc := 137) (DCa dc_Plan_spanOf_1 25 rfl) rfl 0 rfl ?_
    refine Q_getf (k := 2) (pc := 138) (DCa dc_Plan_spanOf_1 26 rfl) cls_2 (Nat.le_of_ble_eq_true rfl) fl_2_22 rfl rfl rfl (fun v31 => ?_)
    refine V_aload_n (pc := 141) (DCa dc_Plan_spanOf_1 27 rfl) rfl 0 rfl ?_
    refine Q_getf (k := 8) (pc := 142) (DCa dc_Plan_spanOf_1 28 rfl) cls_2 (Nat.le_of_ble_eq_true rfl) fl_2_45 rfl rfl rfl (fun v32 => ?_)
    refine V_aload_n (pc := 145) (DCa dc_Plan_spanOf_1 29 rfl) rfl 2 rfl ?_
    refine Q_getf (k := 4) (pc := 146) (DCa dc_Plan_spanOf_1 30 rfl) cls_6 (Nat.le_of_ble_eq_true rfl) fl_2_66 rfl rfl rfl (fun v33 => ?_)
    refine V_aload_n (pc := 149) (DCa dc_Plan_spanOf_1 31 rfl) rfl 1 rfl ?_
    refine Q_callv (ci := 7) (st := [(0, v33), (2, v32), (2, v31)]) (pc := 150) (DCa dc_Plan_spanOf_1 32 rfl) (sp_Shor_allParts F _ _) ce_Shor_allParts ml_2_111 rfl rfl ⟨Nat.le_of_ble_eq_true rfl, Nat.le_of_ble_eq_true rfl⟩ rfl (Nat.le_of_ble_eq_true rfl) (fun r34 h35 => ?_)
    refine V_aload_n (pc := 153) (DCa dc_Plan_spanOf_1 33 rfl) rfl 0 rfl ?_
    refine Q_getf (k := 3) (pc := 154) (DCa dc_Plan_spanOf_1 34 rfl) cls_2 (Nat.le_of_ble_eq_true rfl) fl_2_29 rfl rfl rfl (fun v36 => ?_)
    refine V_iconst (pc := 157) (DCa dc_Plan_spanOf_1 35 rfl) (by decide) ?_
    refine Q_callv (ci := 4) (st := []) (pc := 158) (DCa dc_Plan_spanOf_1 36 rfl) (sp_Rows_fill F _ _ _ _ _ _ _) ce_Rows_fill ml_2_82 rfl rfl ⟨Nat.le_of_ble_eq_true rfl, Nat.le_of_ble_eq_true rfl⟩ rfl (Nat.le_of_ble_eq_true rfl) (fun r37 h38 => ?_)
    refine V_aload_n (pc := 161) (DCa dc_Plan_spanOf_1 37 rfl) rfl 0 rfl ?_
    refine Q_getf (k := 2) (pc := 162) (DCa dc_Plan_spanOf_1 38 rfl) cls_2 (Nat.le_of_ble_eq_true rfl) fl_2_22 rfl rfl rfl (fun v39 => ?_)
    refine V_aload_n (pc := 165) (DCa dc_Plan_spanOf_1 39 rfl) rfl 0 rfl ?_
    refine Q_getf (k := 7) (pc := 166) (DCa dc_Plan_spanOf_1 40 rfl) cls_2 (Nat.le_of_ble_eq_true rfl) fl_2_40 rfl rfl rfl (fun v40 => ?_)
    refine Q_callv (ci := 4) (st := []) (pc := 169) (DCa dc_Plan_spanOf_1 41 rfl) (sp_Rows_shareIn F _ _ _) ce_Rows_shareIn ml_2_124 rfl rfl ⟨Nat.le_of_ble_eq_true rfl, Nat.le_of_ble_eq_true rfl⟩ rfl (Nat.le_of_ble_eq_true rfl) (fun r41 h42 => ?_)
    refine V_iinc (ls' := [(0, 2, l0), (1, 2, l1), (3, 2, l3), (4, 0, w32 (l4 + 1))]) (pc := 172) (DCa dc_Plan_spanOf_1 42 rfl) (Nat.le_of_ble_eq_true rfl) (by decide) 3 rfl rfl ?_
    refine V_goto (tgt := 118) (pc := 175) (DCa dc_Plan_spanOf_1 43 rfl) (by decide) ?_
    exact hR118 _ _ _ _ _
  · refine V_pick [0, 1] rfl ?_
    exact v_Plan_spanOf_B178 F _ _ _
theorem v_Plan_spanOf_L118 (F : Nat)  (n : Nat) : ∀ (l0 l1 l3 l4 : Int) (h : Hp), V X_Plan_spanOf 118 [(0, 2, l0), (1, 2, l1), (3, 2, l3), (4, 0, l4)] [] h (Plan_spanOf_L118 F  n l0 l1 l3 l4 h) := by
  induction n with
  | zero => intros; exact V_none
  | succ n ih => exact fun l0 l1 l3 l4 h => v_Plan_spanOf_L118s F  _ ih l0 l1 l3 l4 h
theorem v_Plan_spanOf_B108 (F : Nat)  (l0 l1 l3 : Int) (h : Hp) : V X_Plan_spanOf 108 [(0, 2, l0), (1, 2, l1), (3, 2, l3)] [] h (Plan_spanOf_B108 F  l0 l1 l3 h) := by
  unfold Plan_spanOf_B108
  refine V_aload_n (pc := 108) (DCa dc_Plan_spanOf_1 11 rfl) rfl 0 rfl ?_
  refine Q_getf (k := 7) (pc := 109) (DCa dc_Plan_spanOf_1 12 rfl) cls_2 (Nat.le_of_ble_eq_true rfl) fl_2_40 rfl rfl rfl (fun v24 => ?_)
  refine Q_calls (st := []) (pc := 112) (DCa dc_Plan_spanOf_1 13 rfl) (sp_Plan_beginSpans F _ _) ce_Plan_beginSpans ml_2_117 rfl ⟨Nat.le_of_ble_eq_true rfl, Nat.le_of_ble_eq_true rfl⟩ rfl (Nat.le_of_ble_eq_true rfl) (fun r25 h26 => ?_)
  refine V_iconst (pc := 115) (DCa dc_Plan_spanOf_1 14 rfl) (by decide) ?_
  refine V_istore (ls' := [(0, 2, l0), (1, 2, l1), (3, 2, l3), (4, 0, 0)]) (pc := 116) (DCa dc_Plan_spanOf_1 15 rfl) (Nat.le_of_ble_eq_true rfl) rfl ?_
  exact v_Plan_spanOf_L118 F F _ _ _ _ _
theorem v_Plan_spanOf_L8s (F : Nat)  (R8 : Int → Int → Int → Int → Int → Hp → Option (Int × Hp)) (hR8 : ∀ (l0 l1 l2 l3 l4 : Int) (h : Hp), V X_Plan_spanOf 8 [(0, 2, l0), (1, 2, l1), (2, 0, l2), (3, 2, l3), (4, 0, l4)] [] h (R8 l0 l1 l2 l3 l4 h)) (l0 l1 l2 l3 l4 : Int) (h : Hp) : V X_Plan_spanOf 8 [(0, 2, l0), (1, 2, l1), (2, 0, l2), (3, 2, l3), (4, 0, l4)] [] h (Plan_spanOf_L8s F  R8 l0 l1 l2 l3 l4 h) := by
  unfold Plan_spanOf_L8s
  refine V_iload (pc := 8) (DCa dc_Plan_spanOf_0 5 rfl) 4 rfl ?_
  refine V_aload_n (pc := 10) (DCa dc_Plan_spanOf_0 6 rfl) rfl 3 rfl ?_
  refine Q_getf (k := 4) (pc := 11) (DCa dc_Plan_spanOf_0 7 rfl) cls_6 (Nat.le_of_ble_eq_true rfl) fl_2_66 rfl rfl rfl (fun v2 => ?_)
  refine V_icmp_ge (tgt := 108) (pc := 14) (DCa dc_Plan_spanOf_0 8 rfl) (by decide) (fun _ => ?_) (fun _ => ?_)
  · refine V_aload_n (pc := 17) (DCa dc_Plan_spanOf_0 9 rfl) rfl 0 rfl ?_
    refine Q_getf (k := 8) (pc := 18) (DCa dc_Plan_spanOf_0 10 rfl) cls_2 (Nat.le_of_ble_eq_true rfl) fl_2_45 rfl rfl rfl (fun v3 => ?_)
    refine V_iload (pc := 21) (DCa dc_Plan_spanOf_0 11 rfl) 4 rfl ?_
    refine Q_aaload (pc := 23) (DCa dc_Plan_spanOf_0 12 rfl) (by decide) rfl rfl (fun v4 => ?_)
    refine V_astore (ls' := [(0, 2, l0), (1, 2, l1), (2, 0, l2), (3, 2, l3), (4, 0, l4), (5, 2, v4)]) (pc := 24) (DCa dc_Plan_spanOf_0 13 rfl) (Nat.le_of_ble_eq_true rfl) rfl ?_
    refine V_aload (pc := 26) (DCa dc_Plan_spanOf_0 14 rfl) 5 rfl ?_
    refine V_aload_n (pc := 28) (DCa dc_Plan_spanOf_0 15 rfl) rfl 3 rfl ?_
    refine Q_getf (k := 11) (pc := 29) (DCa dc_Plan_spanOf_0 16 rfl) cls_6 (Nat.le_of_ble_eq_true rfl) fl_2_147 rfl rfl rfl (fun v5 => ?_)
    refine V_iload_n (pc := 32) (DCa dc_Plan_spanOf_0 17 rfl) rfl 2 rfl ?_
    refine V_aload_n (pc := 33) (DCa dc_Plan_spanOf_0 18 rfl) rfl 3 rfl ?_
    refine Q_getf (k := 0) (pc := 34) (DCa dc_Plan_spanOf_0 19 rfl) cls_6 (Nat.le_of_ble_eq_true rfl) fl_2_150 rfl rfl rfl (fun v6 => ?_)
    refine V_iload (pc := 37) (DCa dc_Plan_spanOf_0 20 rfl) 4 rfl ?_
    refine Q_iaload (pc := 39) (DCa dc_Plan_spanOf_0 21 rfl) (fun v7 => ?_)
    refine V_aload_n (pc := 40) (DCa dc_Plan_spanOf_0 22 rfl) rfl 3 rfl ?_
    refine Q_getf (k := 11) (pc := 41) (DCa dc_Plan_spanOf_0 23 rfl) cls_6 (Nat.le_of_ble_eq_true rfl) fl_2_147 rfl rfl rfl (fun v8 => ?_)
    refine V_isub (pc := 44) (DCa dc_Plan_spanOf_0 24 rfl) ?_
    refine V_imul (pc := 45) (DCa dc_Plan_spanOf_0 25 rfl) ?_
    refine V_iconst (pc := 46) (DCa dc_Plan_spanOf_0 26 rfl) (by decide) ?_
    refine Q_idiv (pc := 47) (DCa dc_Plan_spanOf_0 27 rfl) (fun v9 => ?_)
    refine V_iadd (pc := 48) (DCa dc_Plan_spanOf_0 28 rfl) ?_
    refine Q_putf (k := 0) (pc := 49) (DCa dc_Plan_spanOf_0 29 rfl) cls_5 (Nat.le_of_ble_eq_true rfl) fl_2_153 rfl rfl rfl (Or.inl rfl) (Or.inl ⟨rfl, rfl⟩) (fun h10 => ?_)
    refine V_aload (pc := 52) (DCa dc_Plan_spanOf_0 30 rfl) 5 rfl ?_
    refine V_aload_n (pc := 54) (DCa dc_Plan_spanOf_0 31 rfl) rfl 3 rfl ?_
    refine Q_getf (k := 12) (pc := 55) (DCa dc_Plan_spanOf_0 32 rfl) cls_6 (Nat.le_of_ble_eq_true rfl) fl_2_156 rfl rfl rfl (fun v11 => ?_)
    refine V_iload_n (pc := 58) (DCa dc_Plan_spanOf_0 33 rfl) rfl 2 rfl ?_
    refine V_aload_n (pc := 59) (DCa dc_Plan_spanOf_0 34 rfl) rfl 3 rfl ?_
    refine Q_getf (k := 1) (pc := 60) (DCa dc_Plan_spanOf_0 35 rfl) cls_6 (Nat.le_of_ble_eq_true rfl) fl_2_159 rfl rfl rfl (fun v12 => ?_)
    refine V_iload (pc := 63) (DCa dc_Plan_spanOf_0 36 rfl) 4 rfl ?_
    refine Q_iaload (pc := 65) (DCa dc_Plan_spanOf_0 37 rfl) (fun v13 => ?_)
    refine V_aload_n (pc := 66) (DCa dc_Plan_spanOf_0 38 rfl) rfl 3 rfl ?_
    refine Q_getf (k := 12) (pc := 67) (DCa dc_Plan_spanOf_0 39 rfl) cls_6 (Nat.le_of_ble_eq_true rfl) fl_2_156 rfl rfl rfl (fun v14 => ?_)
    refine V_isub (pc := 70) (DCa dc_Plan_spanOf_0 40 rfl) ?_
    refine V_imul (pc := 71) (DCa dc_Plan_spanOf_0 41 rfl) ?_
    refine V_iconst (pc := 72) (DCa dc_Plan_spanOf_0 42 rfl) (by decide) ?_
    refine Q_idiv (pc := 73) (DCa dc_Plan_spanOf_0 43 rfl) (fun v15 => ?_)
    refine V_iadd (pc := 74) (DCa dc_Plan_spanOf_0 44 rfl) ?_
    refine Q_putf (k := 1) (pc := 75) (DCa dc_Plan_spanOf_0 45 rfl) cls_5 (Nat.le_of_ble_eq_true rfl) fl_2_162 rfl rfl rfl (Or.inl rfl) (Or.inl ⟨rfl, rfl⟩) (fun h16 => ?_)
    refine V_aload (pc := 78) (DCa dc_Plan_spanOf_0 46 rfl) 5 rfl ?_
    refine V_iload_n (pc := 80) (DCa dc_Plan_spanOf_0 47 rfl) rfl 2 rfl ?_
    refine V_aload_n (pc := 81) (DCa dc_Plan_spanOf_0 48 rfl) rfl 3 rfl ?_
    refine Q_getf (k := 3) (pc := 82) (DCa dc_Plan_spanOf_0 49 rfl) cls_6 (Nat.le_of_ble_eq_true rfl) fl_2_165 rfl rfl rfl (fun v17 => ?_)
    refine V_iload (pc := 85) (DCa dc_Plan_spanOf_1 0 rfl) 4 rfl ?_
    refine Q_iaload (pc := 87) (DCa dc_Plan_spanOf_1 1 rfl) (fun v18 => ?_)
    refine V_imul (pc := 88) (DCa dc_Plan_spanOf_1 2 rfl) ?_
    refine V_iconst (pc := 89) (DCa dc_Plan_spanOf_1 3 rfl) (by decide) ?_
    refine Q_callsN (st := [(2, v4)]) (host := "TideRakes") (pc := 90) (DCa dc_Plan_spanOf_1 4 rfl) (sp_Tide_roundedUp F _ _ _) ce_Tide_roundedUp (by decide +kernel) rfl ⟨Nat.le_of_ble_eq_true rfl, Nat.le_of_ble_eq_true rfl⟩ rfl (Nat.le_of_ble_eq_true rfl) (fun r19 h20 => ?_)
    refine Q_putf (k := 3) (pc := 93) (DCa dc_Plan_spanOf_1 5 rfl) cls_5 (Nat.le_of_ble_eq_true rfl) fl_2_172 rfl rfl rfl (Or.inl rfl) (Or.inl ⟨rfl, rfl⟩) (fun h21 => ?_)
    refine V_aload_n (pc := 96) (DCa dc_Plan_spanOf_1 6 rfl) rfl 1 rfl ?_
    refine V_aload (pc := 97) (DCa dc_Plan_spanOf_1 7 rfl) 5 rfl ?_
    refine Q_callv (ci := 7) (st := []) (pc := 99) (DCa dc_Plan_spanOf_1 8 rfl) (sp_Shor_layOut F _ _ _) ce_Shor_layOut ml_2_174 rfl rfl ⟨Nat.le_of_ble_eq_true rfl, Nat.le_of_ble_eq_true rfl⟩ rfl (Nat.le_of_ble_eq_true rfl) (fun r22 h23 => ?_)
    refine V_iinc (ls' := [(0, 2, l0), (1, 2, l1), (2, 0, l2), (3, 2, l3), (4, 0, w32 (l4 + 1)), (5, 2, v4)]) (pc := 102) (DCa dc_Plan_spanOf_1 9 rfl) (Nat.le_of_ble_eq_true rfl) (by decide) 4 rfl rfl ?_
    refine V_goto (tgt := 8) (pc := 105) (DCa dc_Plan_spanOf_1 10 rfl) (by decide) ?_
    refine V_pick [0, 1, 2, 3, 4] rfl ?_
    exact hR8 _ _ _ _ _ _
  · refine V_pick [0, 1, 3] rfl ?_
    exact v_Plan_spanOf_B108 F _ _ _ _
theorem v_Plan_spanOf_L8 (F : Nat)  (n : Nat) : ∀ (l0 l1 l2 l3 l4 : Int) (h : Hp), V X_Plan_spanOf 8 [(0, 2, l0), (1, 2, l1), (2, 0, l2), (3, 2, l3), (4, 0, l4)] [] h (Plan_spanOf_L8 F  n l0 l1 l2 l3 l4 h) := by
  induction n with
  | zero => intros; exact V_none
  | succ n ih => exact fun l0 l1 l2 l3 l4 h => v_Plan_spanOf_L8s F  _ ih l0 l1 l2 l3 l4 h
theorem v_Plan_spanOf (F : Nat) (l0 l1 l2 : Int) (h : Hp) : V X_Plan_spanOf 0 [(0, 2, l0), (1, 2, l1), (2, 0, l2)] [] h (Plan_spanOf F l0 l1 l2 h) := by
  unfold Plan_spanOf
  refine V_aload_n (pc := 0) (DCa dc_Plan_spanOf_0 0 rfl) rfl 1 rfl ?_
  refine Q_getf (k := 0) (pc := 1) (DCa dc_Plan_spanOf_0 1 rfl) cls_7 (Nat.le_of_ble_eq_true rfl) fl_2_62 rfl rfl rfl (fun v1 => ?_)
  refine V_astore_n (ls' := [(0, 2, l0), (1, 2, l1), (2, 0, l2), (3, 2, v1)]) (pc := 4) (DCa dc_Plan_spanOf_0 2 rfl) rfl (Nat.le_of_ble_eq_true rfl) rfl ?_
  refine V_iconst (pc := 5) (DCa dc_Plan_spanOf_0 3 rfl) (by decide) ?_
  refine V_istore (ls' := [(0, 2, l0), (1, 2, l1), (2, 0, l2), (3, 2, v1), (4, 0, 0)]) (pc := 6) (DCa dc_Plan_spanOf_0 4 rfl) (Nat.le_of_ble_eq_true rfl) rfl ?_
  exact v_Plan_spanOf_L8 F F _ _ _ _ _ _
theorem sp_Plan_spanOf (F : Nat) (l0 l1 l2 : Int) (h : Hp) : Sp yX2_spanOf cX2_spanOf 6 (some (.int)) 5 118 [(2, l0), (2, l1), (0, l2)] h (Plan_spanOf F l0 l1 l2 h) := Sp_of (by decide +kernel) rfl rfl (Nat.le_of_ble_eq_true rfl) (v_Plan_spanOf F l0 l1 l2 h)

-- TideRakes$Planner.largest
def Plan_largest_B29 (F : Nat) (R3 : Int → Int → Int → Int → Hp → Option (Int × Hp)) (l0 l1 l2 l3 : Int) (h : Hp) : Option (Int × Hp) :=
  gf h l0 102 9 fun v7 =>
  al h v7 0 l3 fun v8 =>
  if l2 < v8 then
    (R3 l0 l1 l2 (w32 (l3 + (-1))) h)
  else
    (some (l3, h))
def Plan_largest_L3s (F : Nat)  (R3 : Int → Int → Int → Int → Hp → Option (Int × Hp)) (l0 l1 l2 l3 : Int) (h : Hp) : Option (Int × Hp) :=
  if 0 < l3 then
    (gf h l0 102 9 fun v1 =>
    al h v1 0 l3 fun v2 =>
    if v2 = (-1) then
      (gf h l0 102 9 fun v3 =>
      iv h l0 102 (Plan_spanOf F l0 l1 l3 h) fun r4 h5 =>
      as h5 v3 0 l3 r4 fun h6 =>
      Plan_largest_B29 F R3 l0 l1 l2 l3 h6)
    else
      (Plan_largest_B29 F R3 l0 l1 l2 l3 h))
  else
    (some (0, h))
def Plan_largest_L3 (F : Nat)  : Nat → Int → Int → Int → Int → Hp → Option (Int × Hp)
  | 0 => fun _ _ _ _ _ => none
  | n + 1 => Plan_largest_L3s F  (Plan_largest_L3 F  n)
def Plan_largest (F : Nat) (l0 l1 l2 : Int) (h : Hp) : Option (Int × Hp) :=
  Plan_largest_L3 F F l0 l1 l2 16 h

theorem dc_Plan_largest_0 : ∀ q ∈ ([(0, .bipush 16, 2), (2, .istore_n 3, 1), (3, .iload_n 3, 1), (4, .ifCond .le 43, 3), (7, .aload_n 0, 1), (8, .getfield 49, 3), (11, .iload_n 3, 1), (12, .iaload, 1), (13, .iconst (-1), 1), (14, .if_icmp .ne 15, 3), (17, .aload_n 0, 1), (18, .getfield 49, 3), (21, .iload_n 3, 1), (22, .aload_n 0, 1), (23, .aload_n 1, 1), (24, .iload_n 3, 1), (25, .invokevirtual 143, 3), (28, .iastore, 1), (29, .aload_n 0, 1), (30, .getfield 49, 3), (33, .iload_n 3, 1), (34, .iaload, 1), (35, .iload_n 2, 1), (36, .if_icmp .gt 5, 3), (39, .iload_n 3, 1), (40, .ireturn, 1), (41, .iinc 3 (-1), 3), (44, .goto (-41), 3), (47, .iconst 0, 1), (48, .ireturn, 1)] : List (Nat × Instr × Nat)), decode cX2_largest q.1 = .ok (q.2.1, q.2.2) := by decide +kernel
abbrev X_Plan_largest : MX := (cX2_largest, RX2, "largest", 4, (some (.int)), 6, 143)
theorem v_Plan_largest_B29 (F : Nat) (R3 : Int → Int → Int → Int → Hp → Option (Int × Hp)) (hR3 : ∀ (l0 l1 l2 l3 : Int) (h : Hp), V X_Plan_largest 3 [(0, 2, l0), (1, 2, l1), (2, 0, l2), (3, 0, l3)] [] h (R3 l0 l1 l2 l3 h)) (l0 l1 l2 l3 : Int) (h : Hp) : V X_Plan_largest 29 [(0, 2, l0), (1, 2, l1), (2, 0, l2), (3, 0, l3)] [] h (Plan_largest_B29 F R3 l0 l1 l2 l3 h) := by
  unfold Plan_largest_B29
  refine V_aload_n (pc := 29) (DCa dc_Plan_largest_0 18 rfl) rfl 0 rfl ?_
  refine Q_getf (k := 9) (pc := 30) (DCa dc_Plan_largest_0 19 rfl) cls_2 (Nat.le_of_ble_eq_true rfl) fl_2_49 rfl rfl rfl (fun v7 => ?_)
  refine V_iload_n (pc := 33) (DCa dc_Plan_largest_0 20 rfl) rfl 3 rfl ?_
  refine Q_iaload (pc := 34) (DCa dc_Plan_largest_0 21 rfl) (fun v8 => ?_)
  refine V_iload_n (pc := 35) (DCa dc_Plan_largest_0 22 rfl) rfl 2 rfl ?_
  refine V_icmp_gt (tgt := 41) (pc := 36) (DCa dc_Plan_largest_0 23 rfl) (by decide) (fun _ => ?_) (fun _ => ?_)
  · refine V_iinc (ls' := [(0, 2, l0), (1, 2, l1), (2, 0, l2), (3, 0, w32 (l3 + (-1)))]) (pc := 41) (DCa dc_Plan_largest_0 26 rfl) (Nat.le_of_ble_eq_true rfl) (by decide) 3 rfl rfl ?_
    refine V_goto (tgt := 3) (pc := 44) (DCa dc_Plan_largest_0 27 rfl) (by decide) ?_
    exact hR3 _ _ _ _ _
  · refine V_iload_n (pc := 39) (DCa dc_Plan_largest_0 24 rfl) rfl 3 rfl ?_
    exact V_ireturn (pc := 40) (DCa dc_Plan_largest_0 25 rfl) rfl
theorem v_Plan_largest_L3s (F : Nat)  (R3 : Int → Int → Int → Int → Hp → Option (Int × Hp)) (hR3 : ∀ (l0 l1 l2 l3 : Int) (h : Hp), V X_Plan_largest 3 [(0, 2, l0), (1, 2, l1), (2, 0, l2), (3, 0, l3)] [] h (R3 l0 l1 l2 l3 h)) (l0 l1 l2 l3 : Int) (h : Hp) : V X_Plan_largest 3 [(0, 2, l0), (1, 2, l1), (2, 0, l2), (3, 0, l3)] [] h (Plan_largest_L3s F  R3 l0 l1 l2 l3 h) := by
  unfold Plan_largest_L3s
  refine V_iload_n (pc := 3) (DCa dc_Plan_largest_0 2 rfl) rfl 3 rfl ?_
  refine V_if_le (tgt := 47) (pc := 4) (DCa dc_Plan_largest_0 3 rfl) (by decide) (fun _ => ?_) (fun _ => ?_)
  · refine V_aload_n (pc := 7) (DCa dc_Plan_largest_0 4 rfl) rfl 0 rfl ?_
    refine Q_getf (k := 9) (pc := 8) (DCa dc_Plan_largest_0 5 rfl) cls_2 (Nat.le_of_ble_eq_true rfl) fl_2_49 rfl rfl rfl (fun v1 => ?_)
    refine V_iload_n (pc := 11) (DCa dc_Plan_largest_0 6 rfl) rfl 3 rfl ?_
    refine Q_iaload (pc := 12) (DCa dc_Plan_largest_0 7 rfl) (fun v2 => ?_)
    refine V_iconst (pc := 13) (DCa dc_Plan_largest_0 8 rfl) (by decide) ?_
    refine V_icmp_ne (tgt := 29) (pc := 14) (DCa dc_Plan_largest_0 9 rfl) (by decide) (fun _ => ?_) (fun _ => ?_)
    · refine V_aload_n (pc := 17) (DCa dc_Plan_largest_0 10 rfl) rfl 0 rfl ?_
      refine Q_getf (k := 9) (pc := 18) (DCa dc_Plan_largest_0 11 rfl) cls_2 (Nat.le_of_ble_eq_true rfl) fl_2_49 rfl rfl rfl (fun v3 => ?_)
      refine V_iload_n (pc := 21) (DCa dc_Plan_largest_0 12 rfl) rfl 3 rfl ?_
      refine V_aload_n (pc := 22) (DCa dc_Plan_largest_0 13 rfl) rfl 0 rfl ?_
      refine V_aload_n (pc := 23) (DCa dc_Plan_largest_0 14 rfl) rfl 1 rfl ?_
      refine V_iload_n (pc := 24) (DCa dc_Plan_largest_0 15 rfl) rfl 3 rfl ?_
      refine Q_callv (ci := 2) (st := [(0, l3), (2, v3)]) (pc := 25) (DCa dc_Plan_largest_0 16 rfl) (sp_Plan_spanOf F _ _ _ _) ce_Plan_spanOf ml_2_143 rfl rfl ⟨Nat.le_of_ble_eq_true rfl, Nat.le_of_ble_eq_true rfl⟩ rfl (Nat.le_of_ble_eq_true rfl) (fun r4 h5 => ?_)
      refine Q_iastore (pc := 28) (DCa dc_Plan_largest_0 17 rfl) (fun h6 => ?_)
      exact v_Plan_largest_B29 F R3 hR3 _ _ _ _ _
    · exact v_Plan_largest_B29 F R3 hR3 _ _ _ _ _
  · refine V_iconst (pc := 47) (DCa dc_Plan_largest_0 28 rfl) (by decide) ?_
    exact V_ireturn (pc := 48) (DCa dc_Plan_largest_0 29 rfl) rfl
theorem v_Plan_largest_L3 (F : Nat)  (n : Nat) : ∀ (l0 l1 l2 l3 : Int) (h : Hp), V X_Plan_largest 3 [(0, 2, l0), (1, 2, l1), (2, 0, l2), (3, 0, l3)] [] h (Plan_largest_L3 F  n l0 l1 l2 l3 h) := by
  induction n with
  | zero => intros; exact V_none
  | succ n ih => exact fun l0 l1 l2 l3 h => v_Plan_largest_L3s F  _ ih l0 l1 l2 l3 h
theorem v_Plan_largest (F : Nat) (l0 l1 l2 : Int) (h : Hp) : V X_Plan_largest 0 [(0, 2, l0), (1, 2, l1), (2, 0, l2)] [] h (Plan_largest F l0 l1 l2 h) := by
  unfold Plan_largest
  refine V_bipush (pc := 0) (DCa dc_Plan_largest_0 0 rfl) (by decide) ?_
  refine V_istore_n (ls' := [(0, 2, l0), (1, 2, l1), (2, 0, l2), (3, 0, 16)]) (pc := 2) (DCa dc_Plan_largest_0 1 rfl) rfl (Nat.le_of_ble_eq_true rfl) rfl ?_
  exact v_Plan_largest_L3 F F _ _ _ _ _
theorem sp_Plan_largest (F : Nat) (l0 l1 l2 : Int) (h : Hp) : Sp yX2_largest cX2_largest 4 (some (.int)) 6 143 [(2, l0), (2, l1), (0, l2)] h (Plan_largest F l0 l1 l2 h) := Sp_of (by decide +kernel) rfl rfl (Nat.le_of_ble_eq_true rfl) (v_Plan_largest F l0 l1 l2 h)

-- TideRakes$Reader.isLetter
def Read_isLetter (F : Nat) (l0 : Int) (h : Hp) : Option (Int × Hp) :=
  if l0 < 97 then
    (rz 0 h)
  else
    (if 122 < l0 then
      (rz 0 h)
    else
      (rz 1 h))

theorem dc_Read_isLetter_0 : ∀ q ∈ ([(0, .iload_n 0, 1), (1, .bipush 97, 2), (3, .if_icmp .lt 13, 3), (6, .iload_n 0, 1), (7, .bipush 122, 2), (9, .if_icmp .gt 7, 3), (12, .iconst 1, 1), (13, .goto 4, 3), (16, .iconst 0, 1), (17, .ireturn, 1)] : List (Nat × Instr × Nat)), decode cX3_isLetter q.1 = .ok (q.2.1, q.2.2) := by decide +kernel
abbrev X_Read_isLetter : MX := (cX3_isLetter, RX3, "isLetter", 1, (some (.boolean)), 1, 20)
theorem v_Read_isLetter (F : Nat) (l0 : Int) (h : Hp) : V X_Read_isLetter 0 [(0, 0, l0)] [] h (Read_isLetter F l0 h) := by
  unfold Read_isLetter
  refine V_iload_n (pc := 0) (DCa dc_Read_isLetter_0 0 rfl) rfl 0 rfl ?_
  refine V_bipush (pc := 1) (DCa dc_Read_isLetter_0 1 rfl) (by decide) ?_
  refine V_icmp_lt (tgt := 16) (pc := 3) (DCa dc_Read_isLetter_0 2 rfl) (by decide) (fun _ => ?_) (fun _ => ?_)
  · refine V_iconst (pc := 16) (DCa dc_Read_isLetter_0 8 rfl) (by decide) ?_
    exact V_zreturn (pc := 17) (DCa dc_Read_isLetter_0 9 rfl) rfl
  · refine V_iload_n (pc := 6) (DCa dc_Read_isLetter_0 3 rfl) rfl 0 rfl ?_
    refine V_bipush (pc := 7) (DCa dc_Read_isLetter_0 4 rfl) (by decide) ?_
    refine V_icmp_gt (tgt := 16) (pc := 9) (DCa dc_Read_isLetter_0 5 rfl) (by decide) (fun _ => ?_) (fun _ => ?_)
    · refine V_iconst (pc := 16) (DCa dc_Read_isLetter_0 8 rfl) (by decide) ?_
      exact V_zreturn (pc := 17) (DCa dc_Read_isLetter_0 9 rfl) rfl
    · refine V_iconst (pc := 12) (DCa dc_Read_isLetter_0 6 rfl) (by decide) ?_
      refine V_goto (tgt := 17) (pc := 13) (DCa dc_Read_isLetter_0 7 rfl) (by decide) ?_
      exact V_zreturn (pc := 17) (DCa dc_Read_isLetter_0 9 rfl) rfl
theorem sp_Read_isLetter (F : Nat) (l0 : Int) (h : Hp) : Sp yX3_isLetter cX3_isLetter 1 (some (.boolean)) 1 20 [(0, l0)] h (Read_isLetter F l0 h) := Sp_of (by decide +kernel) rfl rfl (Nat.le_of_ble_eq_true rfl) (v_Read_isLetter F l0 h)

-- TideRakes$Reader.kindOf
def Read_kindOf_L2s (F : Nat)  (R2 : Int → Int → Int → Hp → Option (Int × Hp)) (l0 l1 l3 : Int) (h : Hp) : Option (Int × Hp) :=
  if l3 < 18 then
    (gf h l0 103 0 fun v1 =>
    al h v1 3 l3 fun v2 =>
    if (lcmp v2 l1) = 0 then
      (some (l3, h))
    else
      (R2 l0 l1 (w32 (l3 + 1)) h))
  else
    (some (18, h))
def Read_kindOf_L2 (F : Nat)  : Nat → Int → Int → Int → Hp → Option (Int × Hp)
  | 0 => fun _ _ _ _ => none
  | n + 1 => Read_kindOf_L2s F  (Read_kindOf_L2 F  n)
def Read_kindOf (F : Nat) (l0 l1 : Int) (h : Hp) : Option (Int × Hp) :=
  Read_kindOf_L2 F F l0 l1 0 h

theorem dc_Read_kindOf_0 : ∀ q ∈ ([(0, .iconst 0, 1), (1, .istore_n 3, 1), (2, .iload_n 3, 1), (3, .bipush 18, 2), (5, .if_icmp .ge 22, 3), (8, .aload_n 0, 1), (9, .getfield 11, 3), (12, .iload_n 3, 1), (13, .laload, 1), (14, .lload_n 1, 1), (15, .lcmp, 1), (16, .ifCond .ne 5, 3), (19, .iload_n 3, 1), (20, .ireturn, 1), (21, .iinc 3 1, 3), (24, .goto (-22), 3), (27, .bipush 18, 2), (29, .ireturn, 1)] : List (Nat × Instr × Nat)), decode cX3_kindOf q.1 = .ok (q.2.1, q.2.2) := by decide +kernel
abbrev X_Read_kindOf : MX := (cX3_kindOf, RX3, "kindOf", 4, (some (.int)), 1, 20)
theorem v_Read_kindOf_L2s (F : Nat)  (R2 : Int → Int → Int → Hp → Option (Int × Hp)) (hR2 : ∀ (l0 l1 l3 : Int) (h : Hp), V X_Read_kindOf 2 [(0, 2, l0), (1, 1, l1), (3, 0, l3)] [] h (R2 l0 l1 l3 h)) (l0 l1 l3 : Int) (h : Hp) : V X_Read_kindOf 2 [(0, 2, l0), (1, 1, l1), (3, 0, l3)] [] h (Read_kindOf_L2s F  R2 l0 l1 l3 h) := by
  unfold Read_kindOf_L2s
  refine V_iload_n (pc := 2) (DCa dc_Read_kindOf_0 2 rfl) rfl 2 rfl ?_
  refine V_bipush (pc := 3) (DCa dc_Read_kindOf_0 3 rfl) (by decide) ?_
  refine V_icmp_ge (tgt := 27) (pc := 5) (DCa dc_Read_kindOf_0 4 rfl) (by decide) (fun _ => ?_) (fun _ => ?_)
  · refine V_aload_n (pc := 8) (DCa dc_Read_kindOf_0 5 rfl) rfl 0 rfl ?_
    refine Q_getf (k := 0) (pc := 9) (DCa dc_Read_kindOf_0 6 rfl) cls_3 (Nat.le_of_ble_eq_true rfl) fl_3_11 rfl rfl rfl (fun v1 => ?_)
    refine V_iload_n (pc := 12) (DCa dc_Read_kindOf_0 7 rfl) rfl 2 rfl ?_
    refine Q_laload (pc := 13) (DCa dc_Read_kindOf_0 8 rfl) (fun v2 => ?_)
    refine V_lload_n (pc := 14) (DCa dc_Read_kindOf_0 9 rfl) rfl 1 rfl ?_
    refine V_lcmp (pc := 15) (DCa dc_Read_kindOf_0 10 rfl) ?_
    refine V_if_ne (tgt := 21) (pc := 16) (DCa dc_Read_kindOf_0 11 rfl) (by decide) (fun _ => ?_) (fun _ => ?_)
    · refine V_iload_n (pc := 19) (DCa dc_Read_kindOf_0 12 rfl) rfl 2 rfl ?_
      exact V_ireturn (pc := 20) (DCa dc_Read_kindOf_0 13 rfl) rfl
    · refine V_iinc (ls' := [(0, 2, l0), (1, 1, l1), (3, 0, w32 (l3 + 1))]) (pc := 21) (DCa dc_Read_kindOf_0 14 rfl) (Nat.le_of_ble_eq_true rfl) (by decide) 2 rfl rfl ?_
      refine V_goto (tgt := 2) (pc := 24) (DCa dc_Read_kindOf_0 15 rfl) (by decide) ?_
      exact hR2 _ _ _ _
  · refine V_bipush (pc := 27) (DCa dc_Read_kindOf_0 16 rfl) (by decide) ?_
    exact V_ireturn (pc := 29) (DCa dc_Read_kindOf_0 17 rfl) rfl
theorem v_Read_kindOf_L2 (F : Nat)  (n : Nat) : ∀ (l0 l1 l3 : Int) (h : Hp), V X_Read_kindOf 2 [(0, 2, l0), (1, 1, l1), (3, 0, l3)] [] h (Read_kindOf_L2 F  n l0 l1 l3 h) := by
  induction n with
  | zero => intros; exact V_none
  | succ n ih => exact fun l0 l1 l3 h => v_Read_kindOf_L2s F  _ ih l0 l1 l3 h
theorem v_Read_kindOf (F : Nat) (l0 l1 : Int) (h : Hp) : V X_Read_kindOf 0 [(0, 2, l0), (1, 1, l1)] [] h (Read_kindOf F l0 l1 h) := by
  unfold Read_kindOf
  refine V_iconst (pc := 0) (DCa dc_Read_kindOf_0 0 rfl) (by decide) ?_
  refine V_istore_n (ls' := [(0, 2, l0), (1, 1, l1), (3, 0, 0)]) (pc := 1) (DCa dc_Read_kindOf_0 1 rfl) rfl (Nat.le_of_ble_eq_true rfl) rfl ?_
  exact v_Read_kindOf_L2 F F _ _ _ _
theorem sp_Read_kindOf (F : Nat) (l0 l1 : Int) (h : Hp) : Sp yX3_kindOf cX3_kindOf 4 (some (.int)) 1 20 [(2, l0), (1, l1)] h (Read_kindOf F l0 l1 h) := Sp_of (by decide +kernel) rfl rfl (Nat.le_of_ble_eq_true rfl) (v_Read_kindOf F l0 l1 h)

-- TideRakes$Reader.withLetter
def Read_withLetter (F : Nat) (l0 l2 : Int) (h : Hp) : Option (Int × Hp) :=
  some (w64 ((w64 (l0 * 32)) + (w32 ((w32 (l2 - 97)) + 1))), h)

theorem dc_Read_withLetter_0 : ∀ q ∈ ([(0, .lload_n 0, 1), (1, .ldc2_w 113, 3), (4, .lmul, 1), (5, .iload_n 2, 1), (6, .bipush 97, 2), (8, .isub, 1), (9, .iconst 1, 1), (10, .iadd, 1), (11, .i2l, 1), (12, .ladd, 1), (13, .lreturn, 1)] : List (Nat × Instr × Nat)), decode cX3_withLetter q.1 = .ok (q.2.1, q.2.2) := by decide +kernel
abbrev X_Read_withLetter : MX := (cX3_withLetter, RX3, "withLetter", 3, (some (.long)), 1, 20)
theorem v_Read_withLetter (F : Nat) (l0 l2 : Int) (h : Hp) : V X_Read_withLetter 0 [(0, 1, l0), (2, 0, l2)] [] h (Read_withLetter F l0 l2 h) := by
  unfold Read_withLetter
  refine V_lload_n (pc := 0) (DCa dc_Read_withLetter_0 0 rfl) rfl 0 rfl ?_
  refine V_ldc2 (v := 32) (x := 32) (pc := 1) (DCa dc_Read_withLetter_0 1 rfl) (tb1 209 rfl rfl) rfl ?_
  refine V_lmul (pc := 4) (DCa dc_Read_withLetter_0 2 rfl) ?_
  refine V_iload_n (pc := 5) (DCa dc_Read_withLetter_0 3 rfl) rfl 1 rfl ?_
  refine V_bipush (pc := 6) (DCa dc_Read_withLetter_0 4 rfl) (by decide) ?_
  refine V_isub (pc := 8) (DCa dc_Read_withLetter_0 5 rfl) ?_
  refine V_iconst (pc := 9) (DCa dc_Read_withLetter_0 6 rfl) (by decide) ?_
  refine V_iadd (pc := 10) (DCa dc_Read_withLetter_0 7 rfl) ?_
  refine V_i2l (pc := 11) (DCa dc_Read_withLetter_0 8 rfl) ?_
  refine V_ladd (pc := 12) (DCa dc_Read_withLetter_0 9 rfl) ?_
  exact V_lreturn (pc := 13) (DCa dc_Read_withLetter_0 10 rfl) rfl
theorem sp_Read_withLetter (F : Nat) (l0 l2 : Int) (h : Hp) : Sp yX3_withLetter cX3_withLetter 3 (some (.long)) 1 20 [(1, l0), (0, l2)] h (Read_withLetter F l0 l2 h) := Sp_of (by decide +kernel) rfl rfl (Nat.le_of_ble_eq_true rfl) (v_Read_withLetter F l0 l2 h)

-- TideRakes$Reader.takeLetters
def Read_takeLetters_B39 (F : Nat)  (l0 l2 l4 l5 l6 : Int) (h : Hp) : Option (Int × Hp) :=
  gf h l0 103 2 fun v7 =>
  as h v7 3 l4 l6 fun h8 =>
  gf h8 l0 103 1 fun v9 =>
  if 8 < (w32 (l5 - l2)) then
    (as h8 v9 0 l4 21 fun h10 =>
    some (l5, h10))
  else
    (iv h8 l0 103 (Read_kindOf F l0 l6 h8) fun r11 h12 =>
    as h12 v9 0 l4 r11 fun h13 =>
    some (l5, h13))
def Read_takeLetters_L6s (F : Nat)  (R6 : Int → Int → Int → Int → Int → Int → Int → Hp → Option (Int × Hp)) (l0 l1 l2 l3 l4 l5 l6 : Int) (h : Hp) : Option (Int × Hp) :=
  if l5 < l3 then
    (al h l1 1 l5 fun v1 =>
    cl (Read_isLetter F v1 h) fun r2 h3 =>
    if r2 = 0 then
      (Read_takeLetters_B39 F l0 l2 l4 l5 l6 h3)
    else
      (al h3 l1 1 l5 fun v4 =>
      cl (Read_withLetter F l6 v4 h3) fun r5 h6 =>
      R6 l0 l1 l2 l3 l4 (w32 (l5 + 1)) r5 h6))
  else
    (Read_takeLetters_B39 F l0 l2 l4 l5 l6 h)
def Read_takeLetters_L6 (F : Nat)  : Nat → Int → Int → Int → Int → Int → Int → Int → Hp → Option (Int × Hp)
  | 0 => fun _ _ _ _ _ _ _ _ => none
  | n + 1 => Read_takeLetters_L6s F  (Read_takeLetters_L6 F  n)
def Read_takeLetters (F : Nat) (l0 l1 l2 l3 l4 : Int) (h : Hp) : Option (Int × Hp) :=
  Read_takeLetters_L6 F F l0 l1 l2 l3 l4 l2 0 h

theorem dc_Read_takeLetters_0 : ∀ q ∈ ([(0, .iload_n 2, 1), (1, .istore 5, 2), (3, .lconst 0, 1), (4, .lstore 6, 2), (6, .iload 5, 2), (8, .iload_n 3, 1), (9, .if_icmp .ge 30, 3), (12, .aload_n 1, 1), (13, .iload 5, 2), (15, .baload, 1), (16, .invokestatic 84, 3), (19, .ifCond .eq 20, 3), (22, .lload 6, 2), (24, .aload_n 1, 1), (25, .iload 5, 2), (27, .baload, 1), (28, .invokestatic 47, 3), (31, .lstore 6, 2), (33, .iinc 5 1, 3), (36, .goto (-30), 3), (39, .aload_n 0, 1), (40, .getfield 19, 3), (43, .iload 4, 2), (45, .lload 6, 2), (47, .lastore, 1), (48, .aload_n 0, 1), (49, .getfield 15, 3), (52, .iload 4, 2), (54, .iload 5, 2), (56, .iload_n 2, 1), (57, .isub, 1), (58, .bipush 8, 2), (60, .if_icmp .le 8, 3), (63, .bipush 21, 2), (65, .goto 9, 3), (68, .aload_n 0, 1), (69, .lload 6, 2), (71, .invokevirtual 109, 3), (74, .iastore, 1), (75, .iload 5, 2), (77, .ireturn, 1)] : List (Nat × Instr × Nat)), decode cX3_takeLetters q.1 = .ok (q.2.1, q.2.2) := by decide +kernel
abbrev X_Read_takeLetters : MX := (cX3_takeLetters, RX3, "takeLetters", 8, (some (.int)), 2, 43)
theorem v_Read_takeLetters_B39 (F : Nat)  (l0 l2 l4 l5 l6 : Int) (h : Hp) : V X_Read_takeLetters 39 [(0, 2, l0), (2, 0, l2), (4, 0, l4), (5, 0, l5), (6, 1, l6)] [] h (Read_takeLetters_B39 F  l0 l2 l4 l5 l6 h) := by
  unfold Read_takeLetters_B39
  refine V_aload_n (pc := 39) (DCa dc_Read_takeLetters_0 20 rfl) rfl 0 rfl ?_
  refine Q_getf (k := 2) (pc := 40) (DCa dc_Read_takeLetters_0 21 rfl) cls_3 (Nat.le_of_ble_eq_true rfl) fl_3_19 rfl rfl rfl (fun v7 => ?_)
  refine V_iload (pc := 43) (DCa dc_Read_takeLetters_0 22 rfl) 2 rfl ?_
  refine V_lload (pc := 45) (DCa dc_Read_takeLetters_0 23 rfl) 4 rfl ?_
  refine Q_lastore (pc := 47) (DCa dc_Read_takeLetters_0 24 rfl) (fun h8 => ?_)
  refine V_aload_n (pc := 48) (DCa dc_Read_takeLetters_0 25 rfl) rfl 0 rfl ?_
  refine Q_getf (k := 1) (pc := 49) (DCa dc_Read_takeLetters_0 26 rfl) cls_3 (Nat.le_of_ble_eq_true rfl) fl_3_15 rfl rfl rfl (fun v9 => ?_)
  refine V_iload (pc := 52) (DCa dc_Read_takeLetters_0 27 rfl) 2 rfl ?_
  refine V_iload (pc := 54) (DCa dc_Read_takeLetters_0 28 rfl) 3 rfl ?_
  refine V_iload_n (pc := 56) (DCa dc_Read_takeLetters_0 29 rfl) rfl 1 rfl ?_
  refine V_isub (pc := 57) (DCa dc_Read_takeLetters_0 30 rfl) ?_
  refine V_bipush (pc := 58) (DCa dc_Read_takeLetters_0 31 rfl) (by decide) ?_
  refine V_icmp_le (tgt := 68) (pc := 60) (DCa dc_Read_takeLetters_0 32 rfl) (by decide) (fun _ => ?_) (fun _ => ?_)
  · refine V_bipush (pc := 63) (DCa dc_Read_takeLetters_0 33 rfl) (by decide) ?_
    refine V_goto (tgt := 74) (pc := 65) (DCa dc_Read_takeLetters_0 34 rfl) (by decide) ?_
    refine Q_iastore (pc := 74) (DCa dc_Read_takeLetters_0 38 rfl) (fun h10 => ?_)
    refine V_iload (pc := 75) (DCa dc_Read_takeLetters_0 39 rfl) 3 rfl ?_
    exact V_ireturn (pc := 77) (DCa dc_Read_takeLetters_0 40 rfl) rfl
  · refine V_aload_n (pc := 68) (DCa dc_Read_takeLetters_0 35 rfl) rfl 0 rfl ?_
    refine V_lload (pc := 69) (DCa dc_Read_takeLetters_0 36 rfl) 4 rfl ?_
    refine Q_callv (ci := 3) (st := [(0, l4), (2, v9)]) (pc := 71) (DCa dc_Read_takeLetters_0 37 rfl) (sp_Read_kindOf F _ _ _) ce_Read_kindOf ml_3_109 rfl rfl ⟨Nat.le_of_ble_eq_true rfl, Nat.le_of_ble_eq_true rfl⟩ rfl (Nat.le_of_ble_eq_true rfl) (fun r11 h12 => ?_)
    refine Q_iastore (pc := 74) (DCa dc_Read_takeLetters_0 38 rfl) (fun h13 => ?_)
    refine V_iload (pc := 75) (DCa dc_Read_takeLetters_0 39 rfl) 3 rfl ?_
    exact V_ireturn (pc := 77) (DCa dc_Read_takeLetters_0 40 rfl) rfl
theorem v_Read_takeLetters_L6s (F : Nat)  (R6 : Int → Int → Int → Int → Int → Int → Int → Hp → Option (Int × Hp)) (hR6 : ∀ (l0 l1 l2 l3 l4 l5 l6 : Int) (h : Hp), V X_Read_takeLetters 6 [(0, 2, l0), (1, 2, l1), (2, 0, l2), (3, 0, l3), (4, 0, l4), (5, 0, l5), (6, 1, l6)] [] h (R6 l0 l1 l2 l3 l4 l5 l6 h)) (l0 l1 l2 l3 l4 l5 l6 : Int) (h : Hp) : V X_Read_takeLetters 6 [(0, 2, l0), (1, 2, l1), (2, 0, l2), (3, 0, l3), (4, 0, l4), (5, 0, l5), (6, 1, l6)] [] h (Read_takeLetters_L6s F  R6 l0 l1 l2 l3 l4 l5 l6 h) := by
  unfold Read_takeLetters_L6s
  refine V_iload (pc := 6) (DCa dc_Read_takeLetters_0 4 rfl) 5 rfl ?_
  refine V_iload_n (pc := 8) (DCa dc_Read_takeLetters_0 5 rfl) rfl 3 rfl ?_
  refine V_icmp_ge (tgt := 39) (pc := 9) (DCa dc_Read_takeLetters_0 6 rfl) (by decide) (fun _ => ?_) (fun _ => ?_)
  · refine V_aload_n (pc := 12) (DCa dc_Read_takeLetters_0 7 rfl) rfl 1 rfl ?_
    refine V_iload (pc := 13) (DCa dc_Read_takeLetters_0 8 rfl) 5 rfl ?_
    refine Q_baload (pc := 15) (DCa dc_Read_takeLetters_0 9 rfl) (fun v1 => ?_)
    refine Q_calls (st := []) (pc := 16) (DCa dc_Read_takeLetters_0 10 rfl) (sp_Read_isLetter F _ _) ce_Read_isLetter ml_3_84 rfl ⟨Nat.le_of_ble_eq_true rfl, Nat.le_of_ble_eq_true rfl⟩ rfl (Nat.le_of_ble_eq_true rfl) (fun r2 h3 => ?_)
    refine V_if_eq (tgt := 39) (pc := 19) (DCa dc_Read_takeLetters_0 11 rfl) (by decide) (fun _ => ?_) (fun _ => ?_)
    · refine V_pick [0, 2, 4, 5, 6] rfl ?_
      exact v_Read_takeLetters_B39 F _ _ _ _ _ _
    · refine V_lload (pc := 22) (DCa dc_Read_takeLetters_0 12 rfl) 6 rfl ?_
      refine V_aload_n (pc := 24) (DCa dc_Read_takeLetters_0 13 rfl) rfl 1 rfl ?_
      refine V_iload (pc := 25) (DCa dc_Read_takeLetters_0 14 rfl) 5 rfl ?_
      refine Q_baload (pc := 27) (DCa dc_Read_takeLetters_0 15 rfl) (fun v4 => ?_)
      refine Q_calls (st := []) (pc := 28) (DCa dc_Read_takeLetters_0 16 rfl) (sp_Read_withLetter F _ _ _) ce_Read_withLetter ml_3_47 rfl ⟨Nat.le_of_ble_eq_true rfl, Nat.le_of_ble_eq_true rfl⟩ rfl (Nat.le_of_ble_eq_true rfl) (fun r5 h6 => ?_)
      refine V_lstore (ls' := [(0, 2, l0), (1, 2, l1), (2, 0, l2), (3, 0, l3), (4, 0, l4), (5, 0, l5), (6, 1, r5)]) (pc := 31) (DCa dc_Read_takeLetters_0 17 rfl) (Nat.le_of_ble_eq_true rfl) rfl ?_
      refine V_iinc (ls' := [(0, 2, l0), (1, 2, l1), (2, 0, l2), (3, 0, l3), (4, 0, l4), (5, 0, w32 (l5 + 1)), (6, 1, r5)]) (pc := 33) (DCa dc_Read_takeLetters_0 18 rfl) (Nat.le_of_ble_eq_true rfl) (by decide) 5 rfl rfl ?_
      refine V_goto (tgt := 6) (pc := 36) (DCa dc_Read_takeLetters_0 19 rfl) (by decide) ?_
      exact hR6 _ _ _ _ _ _ _ _
  · refine V_pick [0, 2, 4, 5, 6] rfl ?_
    exact v_Read_takeLetters_B39 F _ _ _ _ _ _
theorem v_Read_takeLetters_L6 (F : Nat)  (n : Nat) : ∀ (l0 l1 l2 l3 l4 l5 l6 : Int) (h : Hp), V X_Read_takeLetters 6 [(0, 2, l0), (1, 2, l1), (2, 0, l2), (3, 0, l3), (4, 0, l4), (5, 0, l5), (6, 1, l6)] [] h (Read_takeLetters_L6 F  n l0 l1 l2 l3 l4 l5 l6 h) := by
  induction n with
  | zero => intros; exact V_none
  | succ n ih => exact fun l0 l1 l2 l3 l4 l5 l6 h => v_Read_takeLetters_L6s F  _ ih l0 l1 l2 l3 l4 l5 l6 h
theorem v_Read_takeLetters (F : Nat) (l0 l1 l2 l3 l4 : Int) (h : Hp) : V X_Read_takeLetters 0 [(0, 2, l0), (1, 2, l1), (2, 0, l2), (3, 0, l3), (4, 0, l4)] [] h (Read_takeLetters F l0 l1 l2 l3 l4 h) := by
  unfold Read_takeLetters
  refine V_iload_n (pc := 0) (DCa dc_Read_takeLetters_0 0 rfl) rfl 2 rfl ?_
  refine V_istore (ls' := [(0, 2, l0), (1, 2, l1), (2, 0, l2), (3, 0, l3), (4, 0, l4), (5, 0, l2)]) (pc := 1) (DCa dc_Read_takeLetters_0 1 rfl) (Nat.le_of_ble_eq_true rfl) rfl ?_
  refine V_lconst (x := 0) (pc := 3) (DCa dc_Read_takeLetters_0 2 rfl) rfl ?_
  refine V_lstore (ls' := [(0, 2, l0), (1, 2, l1), (2, 0, l2), (3, 0, l3), (4, 0, l4), (5, 0, l2), (6, 1, 0)]) (pc := 4) (DCa dc_Read_takeLetters_0 3 rfl) (Nat.le_of_ble_eq_true rfl) rfl ?_
  exact v_Read_takeLetters_L6 F F _ _ _ _ _ _ _ _
theorem sp_Read_takeLetters (F : Nat) (l0 l1 l2 l3 l4 : Int) (h : Hp) : Sp yX3_takeLetters cX3_takeLetters 8 (some (.int)) 2 43 [(2, l0), (2, l1), (0, l2), (0, l3), (0, l4)] h (Read_takeLetters F l0 l1 l2 l3 l4 h) := Sp_of (by decide +kernel) rfl rfl (Nat.le_of_ble_eq_true rfl) (v_Read_takeLetters F l0 l1 l2 l3 l4 h)

-- TideRakes$Reader.isDigit
def Read_isDigit (F : Nat) (l0 : Int) (h : Hp) : Option (Int × Hp) :=
  if l0 < 48 then
    (rz 0 h)
  else
    (if 57 < l0 then
      (rz 0 h)
    else
      (rz 1 h))

theorem dc_Read_isDigit_0 : ∀ q ∈ ([(0, .iload_n 0, 1), (1, .bipush 48, 2), (3, .if_icmp .lt 13, 3), (6, .iload_n 0, 1), (7, .bipush 57, 2), (9, .if_icmp .gt 7, 3), (12, .iconst 1, 1), (13, .goto 4, 3), (16, .iconst 0, 1), (17, .ireturn, 1)] : List (Nat × Instr × Nat)), decode cX3_isDigit q.1 = .ok (q.2.1, q.2.2) := by decide +kernel
abbrev X_Read_isDigit : MX := (cX3_isDigit, RX3, "isDigit", 1, (some (.boolean)), 1, 20)
theorem v_Read_isDigit (F : Nat) (l0 : Int) (h : Hp) : V X_Read_isDigit 0 [(0, 0, l0)] [] h (Read_isDigit F l0 h) := by
  unfold Read_isDigit
  refine V_iload_n (pc := 0) (DCa dc_Read_isDigit_0 0 rfl) rfl 0 rfl ?_
  refine V_bipush (pc := 1) (DCa dc_Read_isDigit_0 1 rfl) (by decide) ?_
  refine V_icmp_lt (tgt := 16) (pc := 3) (DCa dc_Read_isDigit_0 2 rfl) (by decide) (fun _ => ?_) (fun _ => ?_)
  · refine V_iconst (pc := 16) (DCa dc_Read_isDigit_0 8 rfl) (by decide) ?_
    exact V_zreturn (pc := 17) (DCa dc_Read_isDigit_0 9 rfl) rfl
  · refine V_iload_n (pc := 6) (DCa dc_Read_isDigit_0 3 rfl) rfl 0 rfl ?_
    refine V_bipush (pc := 7) (DCa dc_Read_isDigit_0 4 rfl) (by decide) ?_
    refine V_icmp_gt (tgt := 16) (pc := 9) (DCa dc_Read_isDigit_0 5 rfl) (by decide) (fun _ => ?_) (fun _ => ?_)
    · refine V_iconst (pc := 16) (DCa dc_Read_isDigit_0 8 rfl) (by decide) ?_
      exact V_zreturn (pc := 17) (DCa dc_Read_isDigit_0 9 rfl) rfl
    · refine V_iconst (pc := 12) (DCa dc_Read_isDigit_0 6 rfl) (by decide) ?_
      refine V_goto (tgt := 17) (pc := 13) (DCa dc_Read_isDigit_0 7 rfl) (by decide) ?_
      exact V_zreturn (pc := 17) (DCa dc_Read_isDigit_0 9 rfl) rfl
theorem sp_Read_isDigit (F : Nat) (l0 : Int) (h : Hp) : Sp yX3_isDigit cX3_isDigit 1 (some (.boolean)) 1 20 [(0, l0)] h (Read_isDigit F l0 h) := Sp_of (by decide +kernel) rfl rfl (Nat.le_of_ble_eq_true rfl) (v_Read_isDigit F l0 h)

-- TideRakes$Reader.takeDigits
def Read_takeDigits_B43 (F : Nat)  (l0 l2 l4 l5 l6 : Int) (h : Hp) : Option (Int × Hp) :=
  gf h l0 103 2 fun v6 =>
  as h v6 3 l4 l6 fun h7 =>
  gf h7 l0 103 1 fun v8 =>
  if 4 < (w32 (l5 - l2)) then
    (as h7 v8 0 l4 21 fun h9 =>
    some (l5, h9))
  else
    (as h7 v8 0 l4 19 fun h10 =>
    some (l5, h10))
def Read_takeDigits_L6s (F : Nat)  (R6 : Int → Int → Int → Int → Int → Int → Int → Hp → Option (Int × Hp)) (l0 l1 l2 l3 l4 l5 l6 : Int) (h : Hp) : Option (Int × Hp) :=
  if l5 < l3 then
    (al h l1 1 l5 fun v1 =>
    cl (Read_isDigit F v1 h) fun r2 h3 =>
    if r2 = 0 then
      (Read_takeDigits_B43 F l0 l2 l4 l5 l6 h3)
    else
      (al h3 l1 1 l5 fun v4 =>
      lt (w32 ((w32 ((w32 (l6 * 10)) + v4)) - 48)) fun x5 =>
      R6 l0 l1 l2 l3 l4 (w32 (l5 + 1)) x5 h3))
  else
    (Read_takeDigits_B43 F l0 l2 l4 l5 l6 h)
def Read_takeDigits_L6 (F : Nat)  : Nat → Int → Int → Int → Int → Int → Int → Int → Hp → Option (Int × Hp)
  | 0 => fun _ _ _ _ _ _ _ _ => none
  | n + 1 => Read_takeDigits_L6s F  (Read_takeDigits_L6 F  n)
def Read_takeDigits (F : Nat) (l0 l1 l2 l3 l4 : Int) (h : Hp) : Option (Int × Hp) :=
  Read_takeDigits_L6 F F l0 l1 l2 l3 l4 l2 0 h

theorem dc_Read_takeDigits_0 : ∀ q ∈ ([(0, .iload_n 2, 1), (1, .istore 5, 2), (3, .iconst 0, 1), (4, .istore 6, 2), (6, .iload 5, 2), (8, .iload_n 3, 1), (9, .if_icmp .ge 34, 3), (12, .aload_n 1, 1), (13, .iload 5, 2), (15, .baload, 1), (16, .invokestatic 91, 3), (19, .ifCond .eq 24, 3), (22, .iload 6, 2), (24, .bipush 10, 2), (26, .imul, 1), (27, .aload_n 1, 1), (28, .iload 5, 2), (30, .baload, 1), (31, .iadd, 1), (32, .bipush 48, 2), (34, .isub, 1), (35, .istore 6, 2), (37, .iinc 5 1, 3), (40, .goto (-34), 3), (43, .aload_n 0, 1), (44, .getfield 19, 3), (47, .iload 4, 2), (49, .iload 6, 2), (51, .i2l, 1), (52, .lastore, 1), (53, .aload_n 0, 1), (54, .getfield 15, 3), (57, .iload 4, 2), (59, .iload 5, 2), (61, .iload_n 2, 1), (62, .isub, 1), (63, .iconst 4, 1), (64, .if_icmp .le 8, 3), (67, .bipush 21, 2), (69, .goto 5, 3), (72, .bipush 19, 2), (74, .iastore, 1), (75, .iload 5, 2), (77, .ireturn, 1)] : List (Nat × Instr × Nat)), decode cX3_takeDigits q.1 = .ok (q.2.1, q.2.2) := by decide +kernel
abbrev X_Read_takeDigits : MX := (cX3_takeDigits, RX3, "takeDigits", 7, (some (.int)), 2, 40)
theorem v_Read_takeDigits_B43 (F : Nat)  (l0 l2 l4 l5 l6 : Int) (h : Hp) : V X_Read_takeDigits 43 [(0, 2, l0), (2, 0, l2), (4, 0, l4), (5, 0, l5), (6, 0, l6)] [] h (Read_takeDigits_B43 F  l0 l2 l4 l5 l6 h) := by
  unfold Read_takeDigits_B43
  refine V_aload_n (pc := 43) (DCa dc_Read_takeDigits_0 24 rfl) rfl 0 rfl ?_
  refine Q_getf (k := 2) (pc := 44) (DCa dc_Read_takeDigits_0 25 rfl) cls_3 (Nat.le_of_ble_eq_true rfl) fl_3_19 rfl rfl rfl (fun v6 => ?_)
  refine V_iload (pc := 47) (DCa dc_Read_takeDigits_0 26 rfl) 2 rfl ?_
  refine V_iload (pc := 49) (DCa dc_Read_takeDigits_0 27 rfl) 4 rfl ?_
  refine V_i2l (pc := 51) (DCa dc_Read_takeDigits_0 28 rfl) ?_
  refine Q_lastore (pc := 52) (DCa dc_Read_takeDigits_0 29 rfl) (fun h7 => ?_)
  refine V_aload_n (pc := 53) (DCa dc_Read_takeDigits_0 30 rfl) rfl 0 rfl ?_
  refine Q_getf (k := 1) (pc := 54) (DCa dc_Read_takeDigits_0 31 rfl) cls_3 (Nat.le_of_ble_eq_true rfl) fl_3_15 rfl rfl rfl (fun v8 => ?_)
  refine V_iload (pc := 57) (DCa dc_Read_takeDigits_0 32 rfl) 2 rfl ?_
  refine V_iload (pc := 59) (DCa dc_Read_takeDigits_0 33 rfl) 3 rfl ?_
  refine V_iload_n (pc := 61) (DCa dc_Read_takeDigits_0 34 rfl) rfl 1 rfl ?_
  refine V_isub (pc := 62) (DCa dc_Read_takeDigits_0 35 rfl) ?_
  refine V_iconst (pc := 63) (DCa dc_Read_takeDigits_0 36 rfl) (by decide) ?_
  refine V_icmp_le (tgt := 72) (pc := 64) (DCa dc_Read_takeDigits_0 37 rfl) (by decide) (fun _ => ?_) (fun _ => ?_)
  · refine V_bipush (pc := 67) (DCa dc_Read_takeDigits_0 38 rfl) (by decide) ?_
    refine V_goto (tgt := 74) (pc := 69) (DCa dc_Read_takeDigits_0 39 rfl) (by decide) ?_
    refine Q_iastore (pc := 74) (DCa dc_Read_takeDigits_0 41 rfl) (fun h9 => ?_)
    refine V_iload (pc := 75) (DCa dc_Read_takeDigits_0 42 rfl) 3 rfl ?_
    exact V_ireturn (pc := 77) (DCa dc_Read_takeDigits_0 43 rfl) rfl
  · refine V_bipush (pc := 72) (DCa dc_Read_takeDigits_0 40 rfl) (by decide) ?_
    refine Q_iastore (pc := 74) (DCa dc_Read_takeDigits_0 41 rfl) (fun h10 => ?_)
    refine V_iload (pc := 75) (DCa dc_Read_takeDigits_0 42 rfl) 3 rfl ?_
    exact V_ireturn (pc := 77) (DCa dc_Read_takeDigits_0 43 rfl) rfl
theorem v_Read_takeDigits_L6s (F : Nat)  (R6 : Int → Int → Int → Int → Int → Int → Int → Hp → Option (Int × Hp)) (hR6 : ∀ (l0 l1 l2 l3 l4 l5 l6 : Int) (h : Hp), V X_Read_takeDigits 6 [(0, 2, l0), (1, 2, l1), (2, 0, l2), (3, 0, l3), (4, 0, l4), (5, 0, l5), (6, 0, l6)] [] h (R6 l0 l1 l2 l3 l4 l5 l6 h)) (l0 l1 l2 l3 l4 l5 l6 : Int) (h : Hp) : V X_Read_takeDigits 6 [(0, 2, l0), (1, 2, l1), (2, 0, l2), (3, 0, l3), (4, 0, l4), (5, 0, l5), (6, 0, l6)] [] h (Read_takeDigits_L6s F  R6 l0 l1 l2 l3 l4 l5 l6 h) := by
  unfold Read_takeDigits_L6s
  refine V_iload (pc := 6) (DCa dc_Read_takeDigits_0 4 rfl) 5 rfl ?_
  refine V_iload_n (pc := 8) (DCa dc_Read_takeDigits_0 5 rfl) rfl 3 rfl ?_
  refine V_icmp_ge (tgt := 43) (pc := 9) (DCa dc_Read_takeDigits_0 6 rfl) (by decide) (fun _ => ?_) (fun _ => ?_)
  · refine V_aload_n (pc := 12) (DCa dc_Read_takeDigits_0 7 rfl) rfl 1 rfl ?_
    refine V_iload (pc := 13) (DCa dc_Read_takeDigits_0 8 rfl) 5 rfl ?_
    refine Q_baload (pc := 15) (DCa dc_Read_takeDigits_0 9 rfl) (fun v1 => ?_)
    refine Q_calls (st := []) (pc := 16) (DCa dc_Read_takeDigits_0 10 rfl) (sp_Read_isDigit F _ _) ce_Read_isDigit ml_3_91 rfl ⟨Nat.le_of_ble_eq_true rfl, Nat.le_of_ble_eq_true rfl⟩ rfl (Nat.le_of_ble_eq_true rfl) (fun r2 h3 => ?_)
    refine V_if_eq (tgt := 43) (pc := 19) (DCa dc_Read_takeDigits_0 11 rfl) (by decide) (fun _ => ?_) (fun _ => ?_)
    · refine V_pick [0, 2, 4, 5, 6] rfl ?_
      exact v_Read_takeDigits_B43 F _ _ _ _ _ _
    · refine V_iload (pc := 22) (DCa dc_Read_takeDigits_0 12 rfl) 6 rfl ?_
      refine V_bipush (pc := 24) (DCa dc_Read_takeDigits_0 13 rfl) (by decide) ?_
      refine V_imul (pc := 26) (DCa dc_Read_takeDigits_0 14 rfl) ?_
      refine V_aload_n (pc := 27) (DCa dc_Read_takeDigits_0 15 rfl) rfl 1 rfl ?_
      refine V_iload (pc := 28) (DCa dc_Read_takeDigits_0 16 rfl) 5 rfl ?_
      refine Q_baload (pc := 30) (DCa dc_Read_takeDigits_0 17 rfl) (fun v4 => ?_)
      refine V_iadd (pc := 31) (DCa dc_Read_takeDigits_0 18 rfl) ?_
      refine V_bipush (pc := 32) (DCa dc_Read_takeDigits_0 19 rfl) (by decide) ?_
      refine V_isub (pc := 34) (DCa dc_Read_takeDigits_0 20 rfl) ?_
      refine Q_lt (fun x5 => ?_)
      refine V_istore (ls' := [(0, 2, l0), (1, 2, l1), (2, 0, l2), (3, 0, l3), (4, 0, l4), (5, 0, l5), (6, 0, x5)]) (pc := 35) (DCa dc_Read_takeDigits_0 21 rfl) (Nat.le_of_ble_eq_true rfl) rfl ?_
      refine V_iinc (ls' := [(0, 2, l0), (1, 2, l1), (2, 0, l2), (3, 0, l3), (4, 0, l4), (5, 0, w32 (l5 + 1)), (6, 0, x5)]) (pc := 37) (DCa dc_Read_takeDigits_0 22 rfl) (Nat.le_of_ble_eq_true rfl) (by decide) 5 rfl rfl ?_
      refine V_goto (tgt := 6) (pc := 40) (DCa dc_Read_takeDigits_0 23 rfl) (by decide) ?_
      exact hR6 _ _ _ _ _ _ _ _
  · refine V_pick [0, 2, 4, 5, 6] rfl ?_
    exact v_Read_takeDigits_B43 F _ _ _ _ _ _
theorem v_Read_takeDigits_L6 (F : Nat)  (n : Nat) : ∀ (l0 l1 l2 l3 l4 l5 l6 : Int) (h : Hp), V X_Read_takeDigits 6 [(0, 2, l0), (1, 2, l1), (2, 0, l2), (3, 0, l3), (4, 0, l4), (5, 0, l5), (6, 0, l6)] [] h (Read_takeDigits_L6 F  n l0 l1 l2 l3 l4 l5 l6 h) := by
  induction n with
  | zero => intros; exact V_none
  | succ n ih => exact fun l0 l1 l2 l3 l4 l5 l6 h => v_Read_takeDigits_L6s F  _ ih l0 l1 l2 l3 l4 l5 l6 h
theorem v_Read_takeDigits (F : Nat) (l0 l1 l2 l3 l4 : Int) (h : Hp) : V X_Read_takeDigits 0 [(0, 2, l0), (1, 2, l1), (2, 0, l2), (3, 0, l3), (4, 0, l4)] [] h (Read_takeDigits F l0 l1 l2 l3 l4 h) := by
  unfold Read_takeDigits
  refine V_iload_n (pc := 0) (DCa dc_Read_takeDigits_0 0 rfl) rfl 2 rfl ?_
  refine V_istore (ls' := [(0, 2, l0), (1, 2, l1), (2, 0, l2), (3, 0, l3), (4, 0, l4), (5, 0, l2)]) (pc := 1) (DCa dc_Read_takeDigits_0 1 rfl) (Nat.le_of_ble_eq_true rfl) rfl ?_
  refine V_iconst (pc := 3) (DCa dc_Read_takeDigits_0 2 rfl) (by decide) ?_
  refine V_istore (ls' := [(0, 2, l0), (1, 2, l1), (2, 0, l2), (3, 0, l3), (4, 0, l4), (5, 0, l2), (6, 0, 0)]) (pc := 4) (DCa dc_Read_takeDigits_0 3 rfl) (Nat.le_of_ble_eq_true rfl) rfl ?_
  exact v_Read_takeDigits_L6 F F _ _ _ _ _ _ _ _
theorem sp_Read_takeDigits (F : Nat) (l0 l1 l2 l3 l4 : Int) (h : Hp) : Sp yX3_takeDigits cX3_takeDigits 7 (some (.int)) 2 40 [(2, l0), (2, l1), (0, l2), (0, l3), (0, l4)] h (Read_takeDigits F l0 l1 l2 l3 l4 h) := Sp_of (by decide +kernel) rfl rfl (Nat.le_of_ble_eq_true rfl) (v_Read_takeDigits F l0 l1 l2 l3 l4 h)

-- TideRakes$Reader.isBlank
def Read_isBlank (F : Nat) (l0 : Int) (h : Hp) : Option (Int × Hp) :=
  if l0 = 9 then
    (rz 1 h)
  else
    (if l0 = 10 then
      (rz 1 h)
    else
      (if l0 = 13 then
        (rz 1 h)
      else
        (if l0 = 32 then
          (rz 1 h)
        else
          (rz 0 h))))

theorem dc_Read_isBlank_0 : ∀ q ∈ ([(0, .iload_n 0, 1), (1, .bipush 9, 2), (3, .if_icmp .eq 21, 3), (6, .iload_n 0, 1), (7, .bipush 10, 2), (9, .if_icmp .eq 15, 3), (12, .iload_n 0, 1), (13, .bipush 13, 2), (15, .if_icmp .eq 9, 3), (18, .iload_n 0, 1), (19, .bipush 32, 2), (21, .if_icmp .ne 7, 3), (24, .iconst 1, 1), (25, .goto 4, 3), (28, .iconst 0, 1), (29, .ireturn, 1)] : List (Nat × Instr × Nat)), decode cX3_isBlank q.1 = .ok (q.2.1, q.2.2) := by decide +kernel
abbrev X_Read_isBlank : MX := (cX3_isBlank, RX3, "isBlank", 1, (some (.boolean)), 1, 20)
theorem v_Read_isBlank (F : Nat) (l0 : Int) (h : Hp) : V X_Read_isBlank 0 [(0, 0, l0)] [] h (Read_isBlank F l0 h) := by
  unfold Read_isBlank
  refine V_iload_n (pc := 0) (DCa dc_Read_isBlank_0 0 rfl) rfl 0 rfl ?_
  refine V_bipush (pc := 1) (DCa dc_Read_isBlank_0 1 rfl) (by decide) ?_
  refine V_icmp_eq (tgt := 24) (pc := 3) (DCa dc_Read_isBlank_0 2 rfl) (by decide) (fun _ => ?_) (fun _ => ?_)
  · refine V_iconst (pc := 24) (DCa dc_Read_isBlank_0 12 rfl) (by decide) ?_
    refine V_goto (tgt := 29) (pc := 25) (DCa dc_Read_isBlank_0 13 rfl) (by decide) ?_
    exact V_zreturn (pc := 29) (DCa dc_Read_isBlank_0 15 rfl) rfl
  · refine V_iload_n (pc := 6) (DCa dc_Read_isBlank_0 3 rfl) rfl 0 rfl ?_
    refine V_bipush (pc := 7) (DCa dc_Read_isBlank_0 4 rfl) (by decide) ?_
    refine V_icmp_eq (tgt := 24) (pc := 9) (DCa dc_Read_isBlank_0 5 rfl) (by decide) (fun _ => ?_) (fun _ => ?_)
    · refine V_iconst (pc := 24) (DCa dc_Read_isBlank_0 12 rfl) (by decide) ?_
      refine V_goto (tgt := 29) (pc := 25) (DCa dc_Read_isBlank_0 13 rfl) (by decide) ?_
      exact V_zreturn (pc := 29) (DCa dc_Read_isBlank_0 15 rfl) rfl
    · refine V_iload_n (pc := 12) (DCa dc_Read_isBlank_0 6 rfl) rfl 0 rfl ?_
      refine V_bipush (pc := 13) (DCa dc_Read_isBlank_0 7 rfl) (by decide) ?_
      refine V_icmp_eq (tgt := 24) (pc := 15) (DCa dc_Read_isBlank_0 8 rfl) (by decide) (fun _ => ?_) (fun _ => ?_)
      · refine V_iconst (pc := 24) (DCa dc_Read_isBlank_0 12 rfl) (by decide) ?_
        refine V_goto (tgt := 29) (pc := 25) (DCa dc_Read_isBlank_0 13 rfl) (by decide) ?_
        exact V_zreturn (pc := 29) (DCa dc_Read_isBlank_0 15 rfl) rfl
      · refine V_iload_n (pc := 18) (DCa dc_Read_isBlank_0 9 rfl) rfl 0 rfl ?_
        refine V_bipush (pc := 19) (DCa dc_Read_isBlank_0 10 rfl) (by decide) ?_
        refine V_icmp_ne (tgt := 28) (pc := 21) (DCa dc_Read_isBlank_0 11 rfl) (by decide) (fun _ => ?_) (fun _ => ?_)
        · refine V_iconst (pc := 24) (DCa dc_Read_isBlank_0 12 rfl) (by decide) ?_
          refine V_goto (tgt := 29) (pc := 25) (DCa dc_Read_isBlank_0 13 rfl) (by decide) ?_
          exact V_zreturn (pc := 29) (DCa dc_Read_isBlank_0 15 rfl) rfl
        · refine V_iconst (pc := 28) (DCa dc_Read_isBlank_0 14 rfl) (by decide) ?_
          exact V_zreturn (pc := 29) (DCa dc_Read_isBlank_0 15 rfl) rfl
theorem sp_Read_isBlank (F : Nat) (l0 : Int) (h : Hp) : Sp yX3_isBlank cX3_isBlank 1 (some (.boolean)) 1 20 [(0, l0)] h (Read_isBlank F l0 h) := Sp_of (by decide +kernel) rfl rfl (Nat.le_of_ble_eq_true rfl) (v_Read_isBlank F l0 h)

-- TideRakes$Reader.accept
def Read_accept_B63 (F : Nat)  (l0 s0 s1 : Int) (h : Hp) : Option (Int × Hp) :=
  pf h s1 103 8 s0 fun h11 =>
  gf h11 l0 103 3 fun v12 =>
  gf h11 l0 103 7 fun v13 =>
  al h11 v12 0 v13 fun v14 =>
  pf h11 l0 103 9 v14 fun h15 =>
  rz 0 h15
def Read_accept_B44 (F : Nat)  (l0 l1 : Int) (h : Hp) : Option (Int × Hp) :=
  gf h l0 103 1 fun v8 =>
  gf h l0 103 7 fun v9 =>
  al h v8 0 v9 fun v10 =>
  if v10 = l1 then
    (Read_accept_B63 F l0 2 l0 h)
  else
    (Read_accept_B63 F l0 1 l0 h)
def Read_accept (F : Nat) (l0 l1 : Int) (h : Hp) : Option (Int × Hp) :=
  gf h l0 103 8 fun v1 =>
  if v1 = 0 then
    (gf h l0 103 1 fun v2 =>
    gf h l0 103 7 fun v3 =>
    al h v2 0 v3 fun v4 =>
    if v4 = l1 then
      (gf h l0 103 7 fun v5 =>
      if v5 < 400 then
        (gf h l0 103 7 fun v6 =>
        pf h l0 103 7 (w32 (v6 + 1)) fun h7 =>
        rz 1 h7)
      else
        (Read_accept_B44 F l0 l1 h))
    else
      (Read_accept_B44 F l0 l1 h))
  else
    (rz 0 h)

theorem dc_Read_accept_0 : ∀ q ∈ ([(0, .aload_n 0, 1), (1, .getfield 65, 3), (4, .ifCond .eq 5, 3), (7, .iconst 0, 1), (8, .ireturn, 1), (9, .aload_n 0, 1), (10, .getfield 15, 3), (13, .aload_n 0, 1), (14, .getfield 62, 3), (17, .iaload, 1), (18, .iload_n 1, 1), (19, .if_icmp .ne 25, 3), (22, .aload_n 0, 1), (23, .getfield 62, 3), (26, .sipush 400, 3), (29, .if_icmp .ge 15, 3), (32, .aload_n 0, 1), (33, .dup, 1), (34, .getfield 62, 3), (37, .iconst 1, 1), (38, .iadd, 1), (39, .putfield 62, 3), (42, .iconst 1, 1), (43, .ireturn, 1), (44, .aload_n 0, 1), (45, .aload_n 0, 1), (46, .getfield 15, 3), (49, .aload_n 0, 1), (50, .getfield 62, 3), (53, .iaload, 1), (54, .iload_n 1, 1), (55, .if_icmp .ne 7, 3), (58, .iconst 2, 1), (59, .goto 4, 3), (62, .iconst 1, 1), (63, .putfield 65, 3), (66, .aload_n 0, 1), (67, .aload_n 0, 1), (68, .getfield 22, 3), (71, .aload_n 0, 1), (72, .getfield 62, 3), (75, .iaload, 1), (76, .putfield 77, 3), (79, .iconst 0, 1), (80, .ireturn, 1)] : List (Nat × Instr × Nat)), decode cX3_accept q.1 = .ok (q.2.1, q.2.2) := by decide +kernel
abbrev X_Read_accept : MX := (cX3_accept, RX3, "accept", 2, (some (.boolean)), 1, 20)
theorem v_Read_accept_B63 (F : Nat)  (l0 s0 s1 : Int) (h : Hp) : V X_Read_accept 63 [(0, 2, l0)] [(0, s0), (2, s1)] h (Read_accept_B63 F  l0 s0 s1 h) := by
  unfold Read_accept_B63
  refine Q_putf (k := 8) (pc := 63) (DCa dc_Read_accept_0 35 rfl) cls_3 (Nat.le_of_ble_eq_true rfl) fl_3_65 rfl rfl rfl (Or.inl rfl) (Or.inl ⟨rfl, rfl⟩) (fun h11 => ?_)
  refine V_aload_n (pc := 66) (DCa dc_Read_accept_0 36 rfl) rfl 0 rfl ?_
  refine V_aload_n (pc := 67) (DCa dc_Read_accept_0 37 rfl) rfl 0 rfl ?_
  refine Q_getf (k := 3) (pc := 68) (DCa dc_Read_accept_0 38 rfl) cls_3 (Nat.le_of_ble_eq_true rfl) fl_3_22 rfl rfl rfl (fun v12 => ?_)
  refine V_aload_n (pc := 71) (DCa dc_Read_accept_0 39 rfl) rfl 0 rfl ?_
  refine Q_getf (k := 7) (pc := 72) (DCa dc_Read_accept_0 40 rfl) cls_3 (Nat.le_of_ble_eq_true rfl) fl_3_62 rfl rfl rfl (fun v13 => ?_)
  refine Q_iaload (pc := 75) (DCa dc_Read_accept_0 41 rfl) (fun v14 => ?_)
  refine Q_putf (k := 9) (pc := 76) (DCa dc_Read_accept_0 42 rfl) cls_3 (Nat.le_of_ble_eq_true rfl) fl_3_77 rfl rfl rfl (Or.inl rfl) (Or.inl ⟨rfl, rfl⟩) (fun h15 => ?_)
  refine V_iconst (pc := 79) (DCa dc_Read_accept_0 43 rfl) (by decide) ?_
  exact V_zreturn (pc := 80) (DCa dc_Read_accept_0 44 rfl) rfl
theorem v_Read_accept_B44 (F : Nat)  (l0 l1 : Int) (h : Hp) : V X_Read_accept 44 [(0, 2, l0), (1, 0, l1)] [] h (Read_accept_B44 F  l0 l1 h) := by
  unfold Read_accept_B44
  refine V_aload_n (pc := 44) (DCa dc_Read_accept_0 24 rfl) rfl 0 rfl ?_
  refine V_aload_n (pc := 45) (DCa dc_Read_accept_0 25 rfl) rfl 0 rfl ?_
  refine Q_getf (k := 1) (pc := 46) (DCa dc_Read_accept_0 26 rfl) cls_3 (Nat.le_of_ble_eq_true rfl) fl_3_15 rfl rfl rfl (fun v8 => ?_)
  refine V_aload_n (pc := 49) (DCa dc_Read_accept_0 27 rfl) rfl 0 rfl ?_
  refine Q_getf (k := 7) (pc := 50) (DCa dc_Read_accept_0 28 rfl) cls_3 (Nat.le_of_ble_eq_true rfl) fl_3_62 rfl rfl rfl (fun v9 => ?_)
  refine Q_iaload (pc := 53) (DCa dc_Read_accept_0 29 rfl) (fun v10 => ?_)
  refine V_iload_n (pc := 54) (DCa dc_Read_accept_0 30 rfl) rfl 1 rfl ?_
  refine V_icmp_ne (tgt := 62) (pc := 55) (DCa dc_Read_accept_0 31 rfl) (by decide) (fun _ => ?_) (fun _ => ?_)
  · refine V_iconst (pc := 58) (DCa dc_Read_accept_0 32 rfl) (by decide) ?_
    refine V_goto (tgt := 63) (pc := 59) (DCa dc_Read_accept_0 33 rfl) (by decide) ?_
    refine V_pick [0] rfl ?_
    exact v_Read_accept_B63 F _ _ _ _
  · refine V_iconst (pc := 62) (DCa dc_Read_accept_0 34 rfl) (by decide) ?_
    refine V_pick [0] rfl ?_
    exact v_Read_accept_B63 F _ _ _ _
theorem v_Read_accept (F : Nat) (l0 l1 : Int) (h : Hp) : V X_Read_accept 0 [(0, 2, l0), (1, 0, l1)] [] h (Read_accept F l0 l1 h) := by
  unfold Read_accept
  refine V_aload_n (pc := 0) (DCa dc_Read_accept_0 0 rfl) rfl 0 rfl ?_
  refine Q_getf (k := 8) (pc := 1) (DCa dc_Read_accept_0 1 rfl) cls_3 (Nat.le_of_ble_eq_true rfl) fl_3_65 rfl rfl rfl (fun v1 => ?_)
  refine V_if_eq (tgt := 9) (pc := 4) (DCa dc_Read_accept_0 2 rfl) (by decide) (fun _ => ?_) (fun _ => ?_)
  · refine V_aload_n (pc := 9) (DCa dc_Read_accept_0 5 rfl) rfl 0 rfl ?_
    refine Q_getf (k := 1) (pc := 10) (DCa dc_Read_accept_0 6 rfl) cls_3 (Nat.le_of_ble_eq_true rfl) fl_3_15 rfl rfl rfl (fun v2 => ?_)
    refine V_aload_n (pc := 13) (DCa dc_Read_accept_0 7 rfl) rfl 0 rfl ?_
    refine Q_getf (k := 7) (pc := 14) (DCa dc_Read_accept_0 8 rfl) cls_3 (Nat.le_of_ble_eq_true rfl) fl_3_62 rfl rfl rfl (fun v3 => ?_)
    refine Q_iaload (pc := 17) (DCa dc_Read_accept_0 9 rfl) (fun v4 => ?_)
    refine V_iload_n (pc := 18) (DCa dc_Read_accept_0 10 rfl) rfl 1 rfl ?_
    refine V_icmp_ne (tgt := 44) (pc := 19) (DCa dc_Read_accept_0 11 rfl) (by decide) (fun _ => ?_) (fun _ => ?_)
    · refine V_aload_n (pc := 22) (DCa dc_Read_accept_0 12 rfl) rfl 0 rfl ?_
      refine Q_getf (k := 7) (pc := 23) (DCa dc_Read_accept_0 13 rfl) cls_3 (Nat.le_of_ble_eq_true rfl) fl_3_62 rfl rfl rfl (fun v5 => ?_)
      refine V_sipush (pc := 26) (DCa dc_Read_accept_0 14 rfl) (by decide) ?_
      refine V_icmp_ge (tgt := 44) (pc := 29) (DCa dc_Read_accept_0 15 rfl) (by decide) (fun _ => ?_) (fun _ => ?_)
      · refine V_aload_n (pc := 32) (DCa dc_Read_accept_0 16 rfl) rfl 0 rfl ?_
        refine V_dup (pc := 33) (DCa dc_Read_accept_0 17 rfl) rfl ?_
        refine Q_getf (k := 7) (pc := 34) (DCa dc_Read_accept_0 18 rfl) cls_3 (Nat.le_of_ble_eq_true rfl) fl_3_62 rfl rfl rfl (fun v6 => ?_)
        refine V_iconst (pc := 37) (DCa dc_Read_accept_0 19 rfl) (by decide) ?_
        refine V_iadd (pc := 38) (DCa dc_Read_accept_0 20 rfl) ?_
        refine Q_putf (k := 7) (pc := 39) (DCa dc_Read_accept_0 21 rfl) cls_3 (Nat.le_of_ble_eq_true rfl) fl_3_62 rfl rfl rfl (Or.inl rfl) (Or.inl ⟨rfl, rfl⟩) (fun h7 => ?_)
        refine V_iconst (pc := 42) (DCa dc_Read_accept_0 22 rfl) (by decide) ?_
        exact V_zreturn (pc := 43) (DCa dc_Read_accept_0 23 rfl) rfl
      · exact v_Read_accept_B44 F _ _ _
    · exact v_Read_accept_B44 F _ _ _
  · refine V_iconst (pc := 7) (DCa dc_Read_accept_0 3 rfl) (by decide) ?_
    exact V_zreturn (pc := 8) (DCa dc_Read_accept_0 4 rfl) rfl
theorem sp_Read_accept (F : Nat) (l0 l1 : Int) (h : Hp) : Sp yX3_accept cX3_accept 2 (some (.boolean)) 1 20 [(2, l0), (0, l1)] h (Read_accept F l0 l1 h) := Sp_of (by decide +kernel) rfl rfl (Nat.le_of_ble_eq_true rfl) (v_Read_accept F l0 l1 h)

-- TideRakes$Reader.fail
def Read_fail (F : Nat) (l0 l1 : Int) (h : Hp) : Option (Int × Hp) :=
  gf h l0 103 8 fun v1 =>
  if v1 = 0 then
    (pf h l0 103 8 l1 fun h2 =>
    gf h2 l0 103 3 fun v3 =>
    gf h2 l0 103 7 fun v4 =>
    al h2 v3 0 v4 fun v5 =>
    pf h2 l0 103 9 v5 fun h6 =>
    some (0, h6))
  else
    (some (0, h))

theorem dc_Read_fail_0 : ∀ q ∈ ([(0, .aload_n 0, 1), (1, .getfield 65, 3), (4, .ifCond .ne 21, 3), (7, .aload_n 0, 1), (8, .iload_n 1, 1), (9, .putfield 65, 3), (12, .aload_n 0, 1), (13, .aload_n 0, 1), (14, .getfield 22, 3), (17, .aload_n 0, 1), (18, .getfield 62, 3), (21, .iaload, 1), (22, .putfield 77, 3), (25, .return_, 1)] : List (Nat × Instr × Nat)), decode cX3_fail q.1 = .ok (q.2.1, q.2.2) := by decide +kernel
abbrev X_Read_fail : MX := (cX3_fail, RX3, "fail", 2, none, 1, 20)
theorem v_Read_fail (F : Nat) (l0 l1 : Int) (h : Hp) : V X_Read_fail 0 [(0, 2, l0), (1, 0, l1)] [] h (Read_fail F l0 l1 h) := by
  unfold Read_fail
  refine V_aload_n (pc := 0) (DCa dc_Read_fail_0 0 rfl) rfl 0 rfl ?_
  refine Q_getf (k := 8) (pc := 1) (DCa dc_Read_fail_0 1 rfl) cls_3 (Nat.le_of_ble_eq_true rfl) fl_3_65 rfl rfl rfl (fun v1 => ?_)
  refine V_if_ne (tgt := 25) (pc := 4) (DCa dc_Read_fail_0 2 rfl) (by decide) (fun _ => ?_) (fun _ => ?_)
  · refine V_aload_n (pc := 7) (DCa dc_Read_fail_0 3 rfl) rfl 0 rfl ?_
    refine V_iload_n (pc := 8) (DCa dc_Read_fail_0 4 rfl) rfl 1 rfl ?_
    refine Q_putf (k := 8) (pc := 9) (DCa dc_Read_fail_0 5 rfl) cls_3 (Nat.le_of_ble_eq_true rfl) fl_3_65 rfl rfl rfl (Or.inl rfl) (Or.inl ⟨rfl, rfl⟩) (fun h2 => ?_)
    refine V_aload_n (pc := 12) (DCa dc_Read_fail_0 6 rfl) rfl 0 rfl ?_
    refine V_aload_n (pc := 13) (DCa dc_Read_fail_0 7 rfl) rfl 0 rfl ?_
    refine Q_getf (k := 3) (pc := 14) (DCa dc_Read_fail_0 8 rfl) cls_3 (Nat.le_of_ble_eq_true rfl) fl_3_22 rfl rfl rfl (fun v3 => ?_)
    refine V_aload_n (pc := 17) (DCa dc_Read_fail_0 9 rfl) rfl 0 rfl ?_
    refine Q_getf (k := 7) (pc := 18) (DCa dc_Read_fail_0 10 rfl) cls_3 (Nat.le_of_ble_eq_true rfl) fl_3_62 rfl rfl rfl (fun v4 => ?_)
    refine Q_iaload (pc := 21) (DCa dc_Read_fail_0 11 rfl) (fun v5 => ?_)
    refine Q_putf (k := 9) (pc := 22) (DCa dc_Read_fail_0 12 rfl) cls_3 (Nat.le_of_ble_eq_true rfl) fl_3_77 rfl rfl rfl (Or.inl rfl) (Or.inl ⟨rfl, rfl⟩) (fun h6 => ?_)
    exact V_return (pc := 25) (DCa dc_Read_fail_0 13 rfl) rfl
  · exact V_return (pc := 25) (DCa dc_Read_fail_0 13 rfl) rfl
theorem sp_Read_fail (F : Nat) (l0 l1 : Int) (h : Hp) : Sp yX3_fail cX3_fail 2 none 1 20 [(2, l0), (0, l1)] h (Read_fail F l0 l1 h) := Sp_of (by decide +kernel) rfl rfl (Nat.le_of_ble_eq_true rfl) (v_Read_fail F l0 l1 h)

-- TideRakes$Reader.takeUnit
def Read_takeUnit_B84 (F : Nat) (S : Int → Int → Hp → Option (Int × Hp))  (l0 l1 l2 : Int) (h : Hp) : Option (Int × Hp) :=
  if l2 = 40 then
    (if l1 < 6 then
      (iv h l0 103 (Read_accept F l0 l2 h) fun r19 h20 =>
      if r19 = 0 then
        (some (0, h20))
      else
        (iv h20 l0 103 (S l0 (w32 (l1 + 1)) h20) fun r21 h22 =>
        iv h22 l0 103 (Read_accept F l0 41 h22) fun r23 h24 =>
        some (0, h24)))
    else
      (iv h l0 103 (Read_fail F l0 2 h) fun r25 h26 =>
      some (0, h26)))
  else
    (iv h l0 103 (Read_fail F l0 1 h) fun r27 h28 =>
    some (0, h28))
def Read_takeUnit (F : Nat) (S : Int → Int → Hp → Option (Int × Hp)) (l0 l1 : Int) (h : Hp) : Option (Int × Hp) :=
  gf h l0 103 1 fun v1 =>
  gf h l0 103 7 fun v2 =>
  al h v1 0 v2 fun v3 =>
  if v3 = 19 then
    (gf h l0 103 5 fun v4 =>
    gf h v4 106 14 fun v5 =>
    gf h l0 103 2 fun v6 =>
    gf h l0 103 7 fun v7 =>
    al h v6 3 v7 fun v8 =>
    iv h v5 100 (Laws_emit F v5 1 (w32 v8) h) fun r9 h10 =>
    iv h10 l0 103 (Read_accept F l0 v3 h10) fun r11 h12 =>
    some (0, h12))
  else
    (if v3 < 13 then
      (Read_takeUnit_B84 F S l0 l1 v3 h)
    else
      (if 17 < v3 then
        (Read_takeUnit_B84 F S l0 l1 v3 h)
      else
        (gf h l0 103 5 fun v13 =>
        gf h v13 106 14 fun v14 =>
        iv h v14 100 (Laws_emit F v14 2 (w32 (v3 - 13)) h) fun r15 h16 =>
        iv h16 l0 103 (Read_accept F l0 v3 h16) fun r17 h18 =>
        some (0, h18))))

theorem dc_Read_takeUnit_0 : ∀ q ∈ ([(0, .aload_n 0, 1), (1, .getfield 15, 3), (4, .aload_n 0, 1), (5, .getfield 62, 3), (8, .iaload, 1), (9, .istore_n 2, 1), (10, .iload_n 2, 1), (11, .bipush 19, 2), (13, .if_icmp .ne 34, 3), (16, .aload_n 0, 1), (17, .getfield 31, 3), (20, .getfield 183, 3), (23, .iconst 1, 1), (24, .aload_n 0, 1), (25, .getfield 19, 3), (28, .aload_n 0, 1), (29, .getfield 62, 3), (32, .laload, 1), (33, .l2i, 1), (34, .invokevirtual 195, 3), (37, .pop, 1), (38, .aload_n 0, 1), (39, .iload_n 2, 1), (40, .invokevirtual 125, 3), (43, .pop, 1), (44, .goto 90, 3), (47, .iload_n 2, 1), (48, .bipush 13, 2), (50, .if_icmp .lt 34, 3), (53, .iload_n 2, 1), (54, .bipush 17, 2), (56, .if_icmp .gt 28, 3), (59, .aload_n 0, 1), (60, .getfield 31, 3), (63, .getfield 183, 3), (66, .iconst 2, 1), (67, .iload_n 2, 1), (68, .bipush 13, 2), (70, .isub, 1), (71, .invokevirtual 195, 3), (74, .pop, 1), (75, .aload_n 0, 1), (76, .iload_n 2, 1), (77, .invokevirtual 125, 3), (80, .pop, 1), (81, .goto 53, 3), (84, .iload_n 2, 1), (85, .bipush 40, 2), (87, .if_icmp .eq 11, 3), (90, .aload_n 0, 1)] : List (Nat × Instr × Nat)), decode cX3_takeUnit q.1 = .ok (q.2.1, q.2.2) := by decide +kernel
theorem dc_Read_takeUnit_1 : ∀ q ∈ ([(91, .iconst 1, 1), (92, .invokevirtual 146, 3), (95, .goto 39, 3), (98, .iload_n 1, 1), (99, .bipush 6, 2), (101, .if_icmp .lt 11, 3), (104, .aload_n 0, 1), (105, .iconst 2, 1), (106, .invokevirtual 146, 3), (109, .goto 25, 3), (112, .aload_n 0, 1), (113, .iload_n 2, 1), (114, .invokevirtual 125, 3), (117, .ifCond .eq 17, 3), (120, .aload_n 0, 1), (121, .iload_n 1, 1), (122, .iconst 1, 1), (123, .iadd, 1), (124, .invokevirtual 192, 3), (127, .aload_n 0, 1), (128, .bipush 41, 2), (130, .invokevirtual 125, 3), (133, .pop, 1), (134, .return_, 1)] : List (Nat × Instr × Nat)), decode cX3_takeUnit q.1 = .ok (q.2.1, q.2.2) := by decide +kernel
abbrev X_Read_takeUnit (a b : Nat) : MX := (cX3_takeUnit, RX3, "takeUnit", 3, none, a + 4, b + 60)
theorem v_Read_takeUnit_B84 (F : Nat) (a b : Nat) (S : Int → Int → Hp → Option (Int × Hp)) (hS : ∀ (x d : Int) (h : Hp), Sp yX3_takeSum cX3_takeSum 4 none a b [(2, x), (0, d)] h (S x d h))  (l0 l1 l2 : Int) (h : Hp) : V (X_Read_takeUnit a b) 84 [(0, 2, l0), (1, 0, l1), (2, 0, l2)] [] h (Read_takeUnit_B84 F S  l0 l1 l2 h) := by
  unfold Read_takeUnit_B84
  refine V_iload_n (pc := 84) (DCa dc_Read_takeUnit_0 46 rfl) rfl 2 rfl ?_
  refine V_bipush (pc := 85) (DCa dc_Read_takeUnit_0 47 rfl) (by decide) ?_
  refine V_icmp_eq (tgt := 98) (pc := 87) (DCa dc_Read_takeUnit_0 48 rfl) (by decide) (fun _ => ?_) (fun _ => ?_)
  · refine V_iload_n (pc := 98) (DCa dc_Read_takeUnit_1 3 rfl) rfl 1 rfl ?_
    refine V_bipush (pc := 99) (DCa dc_Read_takeUnit_1 4 rfl) (by decide) ?_
    refine V_icmp_lt (tgt := 112) (pc := 101) (DCa dc_Read_takeUnit_1 5 rfl) (by decide) (fun _ => ?_) (fun _ => ?_)
    · refine V_aload_n (pc := 112) (DCa dc_Read_takeUnit_1 10 rfl) rfl 0 rfl ?_
      refine V_iload_n (pc := 113) (DCa dc_Read_takeUnit_1 11 rfl) rfl 2 rfl ?_
      refine Q_callv (ci := 3) (st := []) (pc := 114) (DCa dc_Read_takeUnit_1 12 rfl) (sp_Read_accept F _ _ _) ce_Read_accept ml_3_125 rfl rfl ⟨by dsimp only; omega, by dsimp only; omega⟩ rfl (Nat.le_of_ble_eq_true rfl) (fun r19 h20 => ?_)
      refine V_if_eq (tgt := 134) (pc := 117) (DCa dc_Read_takeUnit_1 13 rfl) (by decide) (fun _ => ?_) (fun _ => ?_)
      · exact V_return (pc := 134) (DCa dc_Read_takeUnit_1 23 rfl) rfl
      · refine V_aload_n (pc := 120) (DCa dc_Read_takeUnit_1 14 rfl) rfl 0 rfl ?_
        refine V_iload_n (pc := 121) (DCa dc_Read_takeUnit_1 15 rfl) rfl 1 rfl ?_
        refine V_iconst (pc := 122) (DCa dc_Read_takeUnit_1 16 rfl) (by decide) ?_
        refine V_iadd (pc := 123) (DCa dc_Read_takeUnit_1 17 rfl) ?_
        refine Q_callv (ci := 3) (st := []) (pc := 124) (DCa dc_Read_takeUnit_1 18 rfl) (hS _ _ _) ce_Read_takeSum ml_3_192 rfl rfl ⟨by dsimp only; omega, by dsimp only; omega⟩ rfl (Nat.le_of_ble_eq_true rfl) (fun r21 h22 => ?_)
        refine V_aload_n (pc := 127) (DCa dc_Read_takeUnit_1 19 rfl) rfl 0 rfl ?_
        refine V_bipush (pc := 128) (DCa dc_Read_takeUnit_1 20 rfl) (by decide) ?_
        refine Q_callv (ci := 3) (st := []) (pc := 130) (DCa dc_Read_takeUnit_1 21 rfl) (sp_Read_accept F _ _ _) ce_Read_accept ml_3_125 rfl rfl ⟨by dsimp only; omega, by dsimp only; omega⟩ rfl (Nat.le_of_ble_eq_true rfl) (fun r23 h24 => ?_)
        refine V_pop (pc := 133) (DCa dc_Read_takeUnit_1 22 rfl) rfl ?_
        exact V_return (pc := 134) (DCa dc_Read_takeUnit_1 23 rfl) rfl
    · refine V_aload_n (pc := 104) (DCa dc_Read_takeUnit_1 6 rfl) rfl 0 rfl ?_
      refine V_iconst (pc := 105) (DCa dc_Read_takeUnit_1 7 rfl) (by decide) ?_
      refine Q_callv (ci := 3) (st := []) (pc := 106) (DCa dc_Read_takeUnit_1 8 rfl) (sp_Read_fail F _ _ _) ce_Read_fail ml_3_146 rfl rfl ⟨by dsimp only; omega, by dsimp only; omega⟩ rfl (Nat.le_of_ble_eq_true rfl) (fun r25 h26 => ?_)
      refine V_goto (tgt := 134) (pc := 109) (DCa dc_Read_takeUnit_1 9 rfl) (by decide) ?_
      exact V_return (pc := 134) (DCa dc_Read_takeUnit_1 23 rfl) rfl
  · refine V_aload_n (pc := 90) (DCa dc_Read_takeUnit_0 49 rfl) rfl 0 rfl ?_
    refine V_iconst (pc := 91) (DCa dc_Read_takeUnit_1 0 rfl) (by decide) ?_
    refine Q_callv (ci := 3) (st := []) (pc := 92) (DCa dc_Read_takeUnit_1 1 rfl) (sp_Read_fail F _ _ _) ce_Read_fail ml_3_146 rfl rfl ⟨by dsimp only; omega, by dsimp only; omega⟩ rfl (Nat.le_of_ble_eq_true rfl) (fun r27 h28 => ?_)
    refine V_goto (tgt := 134) (pc := 95) (DCa dc_Read_takeUnit_1 2 rfl) (by decide) ?_
    exact V_return (pc := 134) (DCa dc_Read_takeUnit_1 23 rfl) rfl
theorem v_Read_takeUnit (F : Nat) (a b : Nat) (S : Int → Int → Hp → Option (Int × Hp)) (hS : ∀ (x d : Int) (h : Hp), Sp yX3_takeSum cX3_takeSum 4 none a b [(2, x), (0, d)] h (S x d h)) (l0 l1 : Int) (h : Hp) : V (X_Read_takeUnit a b) 0 [(0, 2, l0), (1, 0, l1)] [] h (Read_takeUnit F S l0 l1 h) := by
  unfold Read_takeUnit
  refine V_aload_n (pc := 0) (DCa dc_Read_takeUnit_0 0 rfl) rfl 0 rfl ?_
  refine Q_getf (k := 1) (pc := 1) (DCa dc_Read_takeUnit_0 1 rfl) cls_3 (Nat.le_of_ble_eq_true rfl) fl_3_15 rfl rfl rfl (fun v1 => ?_)
  refine V_aload_n (pc := 4) (DCa dc_Read_takeUnit_0 2 rfl) rfl 0 rfl ?_
  refine Q_getf (k := 7) (pc := 5) (DCa dc_Read_takeUnit_0 3 rfl) cls_3 (Nat.le_of_ble_eq_true rfl) fl_3_62 rfl rfl rfl (fun v2 => ?_)
  refine Q_iaload (pc := 8) (DCa dc_Read_takeUnit_0 4 rfl) (fun v3 => ?_)
  refine V_istore_n (ls' := [(0, 2, l0), (1, 0, l1), (2, 0, v3)]) (pc := 9) (DCa dc_Read_takeUnit_0 5 rfl) rfl (Nat.le_of_ble_eq_true rfl) rfl ?_
  refine V_iload_n (pc := 10) (DCa dc_Read_takeUnit_0 6 rfl) rfl 2 rfl ?_
  refine V_bipush (pc := 11) (DCa dc_Read_takeUnit_0 7 rfl) (by decide) ?_
  refine V_icmp_ne (tgt := 47) (pc := 13) (DCa dc_Read_takeUnit_0 8 rfl) (by decide) (fun _ => ?_) (fun _ => ?_)
  · refine V_aload_n (pc := 16) (DCa dc_Read_takeUnit_0 9 rfl) rfl 0 rfl ?_
    refine Q_getf (k := 5) (pc := 17) (DCa dc_Read_takeUnit_0 10 rfl) cls_3 (Nat.le_of_ble_eq_true rfl) fl_3_31 rfl rfl rfl (fun v4 => ?_)
    refine Q_getf (k := 14) (pc := 20) (DCa dc_Read_takeUnit_0 11 rfl) cls_6 (Nat.le_of_ble_eq_true rfl) fl_3_183 rfl rfl rfl (fun v5 => ?_)
    refine V_iconst (pc := 23) (DCa dc_Read_takeUnit_0 12 rfl) (by decide) ?_
    refine V_aload_n (pc := 24) (DCa dc_Read_takeUnit_0 13 rfl) rfl 0 rfl ?_
    refine Q_getf (k := 2) (pc := 25) (DCa dc_Read_takeUnit_0 14 rfl) cls_3 (Nat.le_of_ble_eq_true rfl) fl_3_19 rfl rfl rfl (fun v6 => ?_)
    refine V_aload_n (pc := 28) (DCa dc_Read_takeUnit_0 15 rfl) rfl 0 rfl ?_
    refine Q_getf (k := 7) (pc := 29) (DCa dc_Read_takeUnit_0 16 rfl) cls_3 (Nat.le_of_ble_eq_true rfl) fl_3_62 rfl rfl rfl (fun v7 => ?_)
    refine Q_laload (pc := 32) (DCa dc_Read_takeUnit_0 17 rfl) (fun v8 => ?_)
    refine V_l2i (pc := 33) (DCa dc_Read_takeUnit_0 18 rfl) ?_
    refine Q_callv (ci := 0) (st := []) (pc := 34) (DCa dc_Read_takeUnit_0 19 rfl) (sp_Laws_emit F _ _ _ _) ce_Laws_emit ml_3_195 rfl rfl ⟨by dsimp only; omega, by dsimp only; omega⟩ rfl (Nat.le_of_ble_eq_true rfl) (fun r9 h10 => ?_)
    refine V_pop (pc := 37) (DCa dc_Read_takeUnit_0 20 rfl) rfl ?_
    refine V_aload_n (pc := 38) (DCa dc_Read_takeUnit_0 21 rfl) rfl 0 rfl ?_
    refine V_iload_n (pc := 39) (DCa dc_Read_takeUnit_0 22 rfl) rfl 2 rfl ?_
    refine Q_callv (ci := 3) (st := []) (pc := 40) (DCa dc_Read_takeUnit_0 23 rfl) (sp_Read_accept F _ _ _) ce_Read_accept ml_3_125 rfl rfl ⟨by dsimp only; omega, by dsimp only; omega⟩ rfl (Nat.le_of_ble_eq_true rfl) (fun r11 h12 => ?_)
    refine V_pop (pc := 43) (DCa dc_Read_takeUnit_0 24 rfl) rfl ?_
    refine V_goto (tgt := 134) (pc := 44) (DCa dc_Read_takeUnit_0 25 rfl) (by decide) ?_
    exact V_return (pc := 134) (DCa dc_Read_takeUnit_1 23 rfl) rfl
  · refine V_iload_n (pc := 47) (DCa dc_Read_takeUnit_0 26 rfl) rfl 2 rfl ?_
    refine V_bipush (pc := 48) (DCa dc_Read_takeUnit_0 27 rfl) (by decide) ?_
    refine V_icmp_lt (tgt := 84) (pc := 50) (DCa dc_Read_takeUnit_0 28 rfl) (by decide) (fun _ => ?_) (fun _ => ?_)
    · exact v_Read_takeUnit_B84 F a b S hS _ _ _ _
    · refine V_iload_n (pc := 53) (DCa dc_Read_takeUnit_0 29 rfl) rfl 2 rfl ?_
      refine V_bipush (pc := 54) (DCa dc_Read_takeUnit_0 30 rfl) (by decide) ?_
      refine V_icmp_gt (tgt := 84) (pc := 56) (DCa dc_Read_takeUnit_0 31 rfl) (by decide) (fun _ => ?_) (fun _ => ?_)
      · exact v_Read_takeUnit_B84 F a b S hS _ _ _ _
      · refine V_aload_n (pc := 59) (DCa dc_Read_takeUnit_0 32 rfl) rfl 0 rfl ?_
        refine Q_getf (k := 5) (pc := 60) (DCa dc_Read_takeUnit_0 33 rfl) cls_3 (Nat.le_of_ble_eq_true rfl) fl_3_31 rfl rfl rfl (fun v13 => ?_)
        refine Q_getf (k := 14) (pc := 63) (DCa dc_Read_takeUnit_0 34 rfl) cls_6 (Nat.le_of_ble_eq_true rfl) fl_3_183 rfl rfl rfl (fun v14 => ?_)
        refine V_iconst (pc := 66) (DCa dc_Read_takeUnit_0 35 rfl) (by decide) ?_
        refine V_iload_n (pc := 67) (DCa dc_Read_takeUnit_0 36 rfl) rfl 2 rfl ?_
        refine V_bipush (pc := 68) (DCa dc_Read_takeUnit_0 37 rfl) (by decide) ?_
        refine V_isub (pc := 70) (DCa dc_Read_takeUnit_0 38 rfl) ?_
        refine Q_callv (ci := 0) (st := []) (pc := 71) (DCa dc_Read_takeUnit_0 39 rfl) (sp_Laws_emit F _ _ _ _) ce_Laws_emit ml_3_195 rfl rfl ⟨by dsimp only; omega, by dsimp only; omega⟩ rfl (Nat.le_of_ble_eq_true rfl) (fun r15 h16 => ?_)
        refine V_pop (pc := 74) (DCa dc_Read_takeUnit_0 40 rfl) rfl ?_
        refine V_aload_n (pc := 75) (DCa dc_Read_takeUnit_0 41 rfl) rfl 0 rfl ?_
        refine V_iload_n (pc := 76) (DCa dc_Read_takeUnit_0 42 rfl) rfl 2 rfl ?_
        refine Q_callv (ci := 3) (st := []) (pc := 77) (DCa dc_Read_takeUnit_0 43 rfl) (sp_Read_accept F _ _ _) ce_Read_accept ml_3_125 rfl rfl ⟨by dsimp only; omega, by dsimp only; omega⟩ rfl (Nat.le_of_ble_eq_true rfl) (fun r17 h18 => ?_)
        refine V_pop (pc := 80) (DCa dc_Read_takeUnit_0 44 rfl) rfl ?_
        refine V_goto (tgt := 134) (pc := 81) (DCa dc_Read_takeUnit_0 45 rfl) (by decide) ?_
        exact V_return (pc := 134) (DCa dc_Read_takeUnit_1 23 rfl) rfl
theorem sp_Read_takeUnit (F : Nat) (a b : Nat) (S : Int → Int → Hp → Option (Int × Hp)) (hS : ∀ (x d : Int) (h : Hp), Sp yX3_takeSum cX3_takeSum 4 none a b [(2, x), (0, d)] h (S x d h)) (l0 l1 : Int) (h : Hp) : Sp yX3_takeUnit cX3_takeUnit 3 none (a + 4) (b + 60) [(2, l0), (0, l1)] h (Read_takeUnit F S l0 l1 h) := Sp_of (by decide +kernel) rfl rfl (Nat.le_of_ble_eq_true rfl) (v_Read_takeUnit F a b S hS l0 l1 h)

-- TideRakes$Reader.takeProduct
def Read_takeProduct_B49 (F : Nat) (S : Int → Int → Hp → Option (Int × Hp)) (R7 : Int → Int → Int → Hp → Option (Int × Hp)) (l0 l1 l2 : Int) (h : Hp) : Option (Int × Hp) :=
  gf h l0 103 1 fun v10 =>
  gf h l0 103 7 fun v11 =>
  al h v10 0 v11 fun v12 =>
  iv h l0 103 (Read_accept F l0 v12 h) fun r13 h14 =>
  iv h14 l0 103 (Read_takeUnit F S l0 l1 h14) fun r15 h16 =>
  gf h16 l0 103 5 fun v17 =>
  gf h16 v17 106 14 fun v18 =>
  iv h16 v18 100 (Laws_emit F v18 v12 0 h16) fun r19 h20 =>
  R7 l0 l1 (w32 (l2 + 1)) h20
def Read_takeProduct_L7s (F : Nat) (S : Int → Int → Hp → Option (Int × Hp))  (R7 : Int → Int → Int → Hp → Option (Int × Hp)) (l0 l1 l2 : Int) (h : Hp) : Option (Int × Hp) :=
  if 400 < l2 then
    (some (0, h))
  else
    (gf h l0 103 8 fun v3 =>
    if v3 = 0 then
      (gf h l0 103 1 fun v4 =>
      gf h l0 103 7 fun v5 =>
      al h v4 0 v5 fun v6 =>
      if v6 = 42 then
        (Read_takeProduct_B49 F S R7 l0 l1 l2 h)
      else
        (gf h l0 103 1 fun v7 =>
        gf h l0 103 7 fun v8 =>
        al h v7 0 v8 fun v9 =>
        if v9 = 47 then
          (Read_takeProduct_B49 F S R7 l0 l1 l2 h)
        else
          (some (0, h))))
    else
      (some (0, h)))
def Read_takeProduct_L7 (F : Nat) (S : Int → Int → Hp → Option (Int × Hp))  : Nat → Int → Int → Int → Hp → Option (Int × Hp)
  | 0 => fun _ _ _ _ => none
  | n + 1 => Read_takeProduct_L7s F S  (Read_takeProduct_L7 F S  n)
def Read_takeProduct (F : Nat) (S : Int → Int → Hp → Option (Int × Hp)) (l0 l1 : Int) (h : Hp) : Option (Int × Hp) :=
  iv h l0 103 (Read_takeUnit F S l0 l1 h) fun r1 h2 =>
  Read_takeProduct_L7 F S F l0 l1 0 h2

theorem dc_Read_takeProduct_0 : ∀ q ∈ ([(0, .aload_n 0, 1), (1, .iload_n 1, 1), (2, .invokevirtual 204, 3), (5, .iconst 0, 1), (6, .istore_n 2, 1), (7, .iload_n 2, 1), (8, .sipush 400, 3), (11, .if_icmp .gt 78, 3), (14, .aload_n 0, 1), (15, .getfield 65, 3), (18, .ifCond .ne 71, 3), (21, .aload_n 0, 1), (22, .getfield 15, 3), (25, .aload_n 0, 1), (26, .getfield 62, 3), (29, .iaload, 1), (30, .bipush 42, 2), (32, .if_icmp .eq 17, 3), (35, .aload_n 0, 1), (36, .getfield 15, 3), (39, .aload_n 0, 1), (40, .getfield 62, 3), (43, .iaload, 1), (44, .bipush 47, 2), (46, .if_icmp .ne 43, 3), (49, .aload_n 0, 1), (50, .getfield 15, 3), (53, .aload_n 0, 1), (54, .getfield 62, 3), (57, .iaload, 1), (58, .istore_n 3, 1), (59, .aload_n 0, 1), (60, .iload_n 3, 1), (61, .invokevirtual 125, 3), (64, .pop, 1), (65, .aload_n 0, 1), (66, .iload_n 1, 1), (67, .invokevirtual 204, 3), (70, .aload_n 0, 1), (71, .getfield 31, 3), (74, .getfield 183, 3), (77, .iload_n 3, 1), (78, .iconst 0, 1), (79, .invokevirtual 195, 3), (82, .pop, 1), (83, .iinc 2 1, 3), (86, .goto (-79), 3), (89, .return_, 1)] : List (Nat × Instr × Nat)), decode cX3_takeProduct q.1 = .ok (q.2.1, q.2.2) := by decide +kernel
abbrev X_Read_takeProduct (a b : Nat) : MX := (cX3_takeProduct, RX3, "takeProduct", 4, none, a + 5, b + 120)
theorem v_Read_takeProduct_B49 (F : Nat) (a b : Nat) (S : Int → Int → Hp → Option (Int × Hp)) (hS : ∀ (x d : Int) (h : Hp), Sp yX3_takeSum cX3_takeSum 4 none a b [(2, x), (0, d)] h (S x d h)) (R7 : Int → Int → Int → Hp → Option (Int × Hp)) (hR7 : ∀ (l0 l1 l2 : Int) (h : Hp), V (X_Read_takeProduct a b) 7 [(0, 2, l0), (1, 0, l1), (2, 0, l2)] [] h (R7 l0 l1 l2 h)) (l0 l1 l2 : Int) (h : Hp) : V (X_Read_takeProduct a b) 49 [(0, 2, l0), (1, 0, l1), (2, 0, l2)] [] h (Read_takeProduct_B49 F S R7 l0 l1 l2 h) := by
  unfold Read_takeProduct_B49
  refine V_aload_n (pc := 49) (DCa dc_Read_takeProduct_0 25 rfl) rfl 0 rfl ?_
  refine Q_getf (k := 1) (pc := 50) (DCa dc_Read_takeProduct_0 26 rfl) cls_3 (Nat.le_of_ble_eq_true rfl) fl_3_15 rfl rfl rfl (fun v10 => ?_)
  refine V_aload_n (pc := 53) (DCa dc_Read_takeProduct_0 27 rfl) rfl 0 rfl ?_
  refine Q_getf (k := 7) (pc := 54) (DCa dc_Read_takeProduct_0 28 rfl) cls_3 (Nat.le_of_ble_eq_true rfl) fl_3_62 rfl rfl rfl (fun v11 => ?_)
  refine Q_iaload (pc := 57) (DCa dc_Read_takeProduct_0 29 rfl) (fun v12 => ?_)
  refine V_istore_n (ls' := [(0, 2, l0), (1, 0, l1), (2, 0, l2), (3, 0, v12)]) (pc := 58) (DCa dc_Read_takeProduct_0 30 rfl) rfl (Nat.le_of_ble_eq_true rfl) rfl ?_
  refine V_aload_n (pc := 59) (DCa dc_Read_takeProduct_0 31 rfl) rfl 0 rfl ?_
  refine V_iload_n (pc := 60) (DCa dc_Read_takeProduct_0 32 rfl) rfl 3 rfl ?_
  refine Q_callv (ci := 3) (st := []) (pc := 61) (DCa dc_Read_takeProduct_0 33 rfl) (sp_Read_accept F _ _ _) ce_Read_accept ml_3_125 rfl rfl ⟨by dsimp only; omega, by dsimp only; omega⟩ rfl (Nat.le_of_ble_eq_true rfl) (fun r13 h14 => ?_)
  refine V_pop (pc := 64) (DCa dc_Read_takeProduct_0 34 rfl) rfl ?_
  refine V_aload_n (pc := 65) (DCa dc_Read_takeProduct_0 35 rfl) rfl 0 rfl ?_
  refine V_iload_n (pc := 66) (DCa dc_Read_takeProduct_0 36 rfl) rfl 1 rfl ?_
  refine Q_callv (ci := 3) (st := []) (pc := 67) (DCa dc_Read_takeProduct_0 37 rfl) (sp_Read_takeUnit F a b S hS _ _ _) ce_Read_takeUnit ml_3_204 rfl rfl ⟨by dsimp only; omega, by dsimp only; omega⟩ rfl (Nat.le_of_ble_eq_true rfl) (fun r15 h16 => ?_)
  refine V_aload_n (pc := 70) (DCa dc_Read_takeProduct_0 38 rfl) rfl 0 rfl ?_
  refine Q_getf (k := 5) (pc := 71) (DCa dc_Read_takeProduct_0 39 rfl) cls_3 (Nat.le_of_ble_eq_true rfl) fl_3_31 rfl rfl rfl (fun v17 => ?_)
  refine Q_getf (k := 14) (pc := 74) (DCa dc_Read_takeProduct_0 40 rfl) cls_6 (Nat.le_of_ble_eq_true rfl) fl_3_183 rfl rfl rfl (fun v18 => ?_)
  refine V_iload_n (pc := 77) (DCa dc_Read_takeProduct_0 41 rfl) rfl 3 rfl ?_
  refine V_iconst (pc := 78) (DCa dc_Read_takeProduct_0 42 rfl) (by decide) ?_
  refine Q_callv (ci := 0) (st := []) (pc := 79) (DCa dc_Read_takeProduct_0 43 rfl) (sp_Laws_emit F _ _ _ _) ce_Laws_emit ml_3_195 rfl rfl ⟨by dsimp only; omega, by dsimp only; omega⟩ rfl (Nat.le_of_ble_eq_true rfl) (fun r19 h20 => ?_)
  refine V_pop (pc := 82) (DCa dc_Read_takeProduct_0 44 rfl) rfl ?_
  refine V_iinc (ls' := [(0, 2, l0), (1, 0, l1), (2, 0, w32 (l2 + 1)), (3, 0, v12)]) (pc := 83) (DCa dc_Read_takeProduct_0 45 rfl) (Nat.le_of_ble_eq_true rfl) (by decide) 2 rfl rfl ?_
  refine V_goto (tgt := 7) (pc := 86) (DCa dc_Read_takeProduct_0 46 rfl) (by decide) ?_
  refine V_pick [0, 1, 2] rfl ?_
  exact hR7 _ _ _ _
theorem v_Read_takeProduct_L7s (F : Nat) (a b : Nat) (S : Int → Int → Hp → Option (Int × Hp)) (hS : ∀ (x d : Int) (h : Hp), Sp yX3_takeSum cX3_takeSum 4 none a b [(2, x), (0, d)] h (S x d h))  (R7 : Int → Int → Int → Hp → Option (Int × Hp)) (hR7 : ∀ (l0 l1 l2 : Int) (h : Hp), V (X_Read_takeProduct a b) 7 [(0, 2, l0), (1, 0, l1), (2, 0, l2)] [] h (R7 l0 l1 l2 h)) (l0 l1 l2 : Int) (h : Hp) : V (X_Read_takeProduct a b) 7 [(0, 2, l0), (1, 0, l1), (2, 0, l2)] [] h (Read_takeProduct_L7s F S  R7 l0 l1 l2 h) := by
  unfold Read_takeProduct_L7s
  refine V_iload_n (pc := 7) (DCa dc_Read_takeProduct_0 5 rfl) rfl 2 rfl ?_
  refine V_sipush (pc := 8) (DCa dc_Read_takeProduct_0 6 rfl) (by decide) ?_
  refine V_icmp_gt (tgt := 89) (pc := 11) (DCa dc_Read_takeProduct_0 7 rfl) (by decide) (fun _ => ?_) (fun _ => ?_)
  · exact V_return (pc := 89) (DCa dc_Read_takeProduct_0 47 rfl) rfl
  · refine V_aload_n (pc := 14) (DCa dc_Read_takeProduct_0 8 rfl) rfl 0 rfl ?_
    refine Q_getf (k := 8) (pc := 15) (DCa dc_Read_takeProduct_0 9 rfl) cls_3 (Nat.le_of_ble_eq_true rfl) fl_3_65 rfl rfl rfl (fun v3 => ?_)
    refine V_if_ne (tgt := 89) (pc := 18) (DCa dc_Read_takeProduct_0 10 rfl) (by decide) (fun _ => ?_) (fun _ => ?_)
    · refine V_aload_n (pc := 21) (DCa dc_Read_takeProduct_0 11 rfl) rfl 0 rfl ?_
      refine Q_getf (k := 1) (pc := 22) (DCa dc_Read_takeProduct_0 12 rfl) cls_3 (Nat.le_of_ble_eq_true rfl) fl_3_15 rfl rfl rfl (fun v4 => ?_)
      refine V_aload_n (pc := 25) (DCa dc_Read_takeProduct_0 13 rfl) rfl 0 rfl ?_
      refine Q_getf (k := 7) (pc := 26) (DCa dc_Read_takeProduct_0 14 rfl) cls_3 (Nat.le_of_ble_eq_true rfl) fl_3_62 rfl rfl rfl (fun v5 => ?_)
      refine Q_iaload (pc := 29) (DCa dc_Read_takeProduct_0 15 rfl) (fun v6 => ?_)
      refine V_bipush (pc := 30) (DCa dc_Read_takeProduct_0 16 rfl) (by decide) ?_
      refine V_icmp_eq (tgt := 49) (pc := 32) (DCa dc_Read_takeProduct_0 17 rfl) (by decide) (fun _ => ?_) (fun _ => ?_)
      · exact v_Read_takeProduct_B49 F a b S hS R7 hR7 _ _ _ _
      · refine V_aload_n (pc := 35) (DCa dc_Read_takeProduct_0 18 rfl) rfl 0 rfl ?_
        refine Q_getf (k := 1) (pc := 36) (DCa dc_Read_takeProduct_0 19 rfl) cls_3 (Nat.le_of_ble_eq_true rfl) fl_3_15 rfl rfl rfl (fun v7 => ?_)
        refine V_aload_n (pc := 39) (DCa dc_Read_takeProduct_0 20 rfl) rfl 0 rfl ?_
        refine Q_getf (k := 7) (pc := 40) (DCa dc_Read_takeProduct_0 21 rfl) cls_3 (Nat.le_of_ble_eq_true rfl) fl_3_62 rfl rfl rfl (fun v8 => ?_)
        refine Q_iaload (pc := 43) (DCa dc_Read_takeProduct_0 22 rfl) (fun v9 => ?_)
        refine V_bipush (pc := 44) (DCa dc_Read_takeProduct_0 23 rfl) (by decide) ?_
        refine V_icmp_ne (tgt := 89) (pc := 46) (DCa dc_Read_takeProduct_0 24 rfl) (by decide) (fun _ => ?_) (fun _ => ?_)
        · exact v_Read_takeProduct_B49 F a b S hS R7 hR7 _ _ _ _
        · exact V_return (pc := 89) (DCa dc_Read_takeProduct_0 47 rfl) rfl
    · exact V_return (pc := 89) (DCa dc_Read_takeProduct_0 47 rfl) rfl
theorem v_Read_takeProduct_L7 (F : Nat) (a b : Nat) (S : Int → Int → Hp → Option (Int × Hp)) (hS : ∀ (x d : Int) (h : Hp), Sp yX3_takeSum cX3_takeSum 4 none a b [(2, x), (0, d)] h (S x d h))  (n : Nat) : ∀ (l0 l1 l2 : Int) (h : Hp), V (X_Read_takeProduct a b) 7 [(0, 2, l0), (1, 0, l1), (2, 0, l2)] [] h (Read_takeProduct_L7 F S  n l0 l1 l2 h) := by
  induction n with
  | zero => intros; exact V_none
  | succ n ih => exact fun l0 l1 l2 h => v_Read_takeProduct_L7s F a b S hS  _ ih l0 l1 l2 h
theorem v_Read_takeProduct (F : Nat) (a b : Nat) (S : Int → Int → Hp → Option (Int × Hp)) (hS : ∀ (x d : Int) (h : Hp), Sp yX3_takeSum cX3_takeSum 4 none a b [(2, x), (0, d)] h (S x d h)) (l0 l1 : Int) (h : Hp) : V (X_Read_takeProduct a b) 0 [(0, 2, l0), (1, 0, l1)] [] h (Read_takeProduct F S l0 l1 h) := by
  unfold Read_takeProduct
  refine V_aload_n (pc := 0) (DCa dc_Read_takeProduct_0 0 rfl) rfl 0 rfl ?_
  refine V_iload_n (pc := 1) (DCa dc_Read_takeProduct_0 1 rfl) rfl 1 rfl ?_
  refine Q_callv (ci := 3) (st := []) (pc := 2) (DCa dc_Read_takeProduct_0 2 rfl) (sp_Read_takeUnit F a b S hS _ _ _) ce_Read_takeUnit ml_3_204 rfl rfl ⟨by dsimp only; omega, by dsimp only; omega⟩ rfl (Nat.le_of_ble_eq_true rfl) (fun r1 h2 => ?_)
  refine V_iconst (pc := 5) (DCa dc_Read_takeProduct_0 3 rfl) (by decide) ?_
  refine V_istore_n (ls' := [(0, 2, l0), (1, 0, l1), (2, 0, 0)]) (pc := 6) (DCa dc_Read_takeProduct_0 4 rfl) rfl (Nat.le_of_ble_eq_true rfl) rfl ?_
  exact v_Read_takeProduct_L7 F a b S hS F _ _ _ _
theorem sp_Read_takeProduct (F : Nat) (a b : Nat) (S : Int → Int → Hp → Option (Int × Hp)) (hS : ∀ (x d : Int) (h : Hp), Sp yX3_takeSum cX3_takeSum 4 none a b [(2, x), (0, d)] h (S x d h)) (l0 l1 : Int) (h : Hp) : Sp yX3_takeProduct cX3_takeProduct 4 none (a + 5) (b + 120) [(2, l0), (0, l1)] h (Read_takeProduct F S l0 l1 h) := Sp_of (by decide +kernel) rfl rfl (Nat.le_of_ble_eq_true rfl) (v_Read_takeProduct F a b S hS l0 l1 h)

-- TideRakes$Reader.takeSum
def Read_takeSum_B49 (F : Nat) (S : Int → Int → Hp → Option (Int × Hp)) (R7 : Int → Int → Int → Hp → Option (Int × Hp)) (l0 l1 l2 : Int) (h : Hp) : Option (Int × Hp) :=
  gf h l0 103 1 fun v10 =>
  gf h l0 103 7 fun v11 =>
  al h v10 0 v11 fun v12 =>
  iv h l0 103 (Read_accept F l0 v12 h) fun r13 h14 =>
  iv h14 l0 103 (Read_takeProduct F S l0 l1 h14) fun r15 h16 =>
  gf h16 l0 103 5 fun v17 =>
  gf h16 v17 106 14 fun v18 =>
  iv h16 v18 100 (Laws_emit F v18 v12 0 h16) fun r19 h20 =>
  R7 l0 l1 (w32 (l2 + 1)) h20
def Read_takeSum_L7s (F : Nat) (S : Int → Int → Hp → Option (Int × Hp))  (R7 : Int → Int → Int → Hp → Option (Int × Hp)) (l0 l1 l2 : Int) (h : Hp) : Option (Int × Hp) :=
  if 400 < l2 then
    (some (0, h))
  else
    (gf h l0 103 8 fun v3 =>
    if v3 = 0 then
      (gf h l0 103 1 fun v4 =>
      gf h l0 103 7 fun v5 =>
      al h v4 0 v5 fun v6 =>
      if v6 = 43 then
        (Read_takeSum_B49 F S R7 l0 l1 l2 h)
      else
        (gf h l0 103 1 fun v7 =>
        gf h l0 103 7 fun v8 =>
        al h v7 0 v8 fun v9 =>
        if v9 = 45 then
          (Read_takeSum_B49 F S R7 l0 l1 l2 h)
        else
          (some (0, h))))
    else
      (some (0, h)))
def Read_takeSum_L7 (F : Nat) (S : Int → Int → Hp → Option (Int × Hp))  : Nat → Int → Int → Int → Hp → Option (Int × Hp)
  | 0 => fun _ _ _ _ => none
  | n + 1 => Read_takeSum_L7s F S  (Read_takeSum_L7 F S  n)
def Read_takeSum (F : Nat) (S : Int → Int → Hp → Option (Int × Hp)) (l0 l1 : Int) (h : Hp) : Option (Int × Hp) :=
  iv h l0 103 (Read_takeProduct F S l0 l1 h) fun r1 h2 =>
  Read_takeSum_L7 F S F l0 l1 0 h2

theorem dc_Read_takeSum_0 : ∀ q ∈ ([(0, .aload_n 0, 1), (1, .iload_n 1, 1), (2, .invokevirtual 201, 3), (5, .iconst 0, 1), (6, .istore_n 2, 1), (7, .iload_n 2, 1), (8, .sipush 400, 3), (11, .if_icmp .gt 78, 3), (14, .aload_n 0, 1), (15, .getfield 65, 3), (18, .ifCond .ne 71, 3), (21, .aload_n 0, 1), (22, .getfield 15, 3), (25, .aload_n 0, 1), (26, .getfield 62, 3), (29, .iaload, 1), (30, .bipush 43, 2), (32, .if_icmp .eq 17, 3), (35, .aload_n 0, 1), (36, .getfield 15, 3), (39, .aload_n 0, 1), (40, .getfield 62, 3), (43, .iaload, 1), (44, .bipush 45, 2), (46, .if_icmp .ne 43, 3), (49, .aload_n 0, 1), (50, .getfield 15, 3), (53, .aload_n 0, 1), (54, .getfield 62, 3), (57, .iaload, 1), (58, .istore_n 3, 1), (59, .aload_n 0, 1), (60, .iload_n 3, 1), (61, .invokevirtual 125, 3), (64, .pop, 1), (65, .aload_n 0, 1), (66, .iload_n 1, 1), (67, .invokevirtual 201, 3), (70, .aload_n 0, 1), (71, .getfield 31, 3), (74, .getfield 183, 3), (77, .iload_n 3, 1), (78, .iconst 0, 1), (79, .invokevirtual 195, 3), (82, .pop, 1), (83, .iinc 2 1, 3), (86, .goto (-79), 3), (89, .return_, 1)] : List (Nat × Instr × Nat)), decode cX3_takeSum q.1 = .ok (q.2.1, q.2.2) := by decide +kernel
abbrev X_Read_takeSum (a b : Nat) : MX := (cX3_takeSum, RX3, "takeSum", 4, none, a + 6, b + 180)
theorem v_Read_takeSum_B49 (F : Nat) (a b : Nat) (S : Int → Int → Hp → Option (Int × Hp)) (hS : ∀ (x d : Int) (h : Hp), Sp yX3_takeSum cX3_takeSum 4 none a b [(2, x), (0, d)] h (S x d h)) (R7 : Int → Int → Int → Hp → Option (Int × Hp)) (hR7 : ∀ (l0 l1 l2 : Int) (h : Hp), V (X_Read_takeSum a b) 7 [(0, 2, l0), (1, 0, l1), (2, 0, l2)] [] h (R7 l0 l1 l2 h)) (l0 l1 l2 : Int) (h : Hp) : V (X_Read_takeSum a b) 49 [(0, 2, l0), (1, 0, l1), (2, 0, l2)] [] h (Read_takeSum_B49 F S R7 l0 l1 l2 h) := by
  unfold Read_takeSum_B49
  refine V_aload_n (pc := 49) (DCa dc_Read_takeSum_0 25 rfl) rfl 0 rfl ?_
  refine Q_getf (k := 1) (pc := 50) (DCa dc_Read_takeSum_0 26 rfl) cls_3 (Nat.le_of_ble_eq_true rfl) fl_3_15 rfl rfl rfl (fun v10 => ?_)
  refine V_aload_n (pc := 53) (DCa dc_Read_takeSum_0 27 rfl) rfl 0 rfl ?_
  refine Q_getf (k := 7) (pc := 54) (DCa dc_Read_takeSum_0 28 rfl) cls_3 (Nat.le_of_ble_eq_true rfl) fl_3_62 rfl rfl rfl (fun v11 => ?_)
  refine Q_iaload (pc := 57) (DCa dc_Read_takeSum_0 29 rfl) (fun v12 => ?_)
  refine V_istore_n (ls' := [(0, 2, l0), (1, 0, l1), (2, 0, l2), (3, 0, v12)]) (pc := 58) (DCa dc_Read_takeSum_0 30 rfl) rfl (Nat.le_of_ble_eq_true rfl) rfl ?_
  refine V_aload_n (pc := 59) (DCa dc_Read_takeSum_0 31 rfl) rfl 0 rfl ?_
  refine V_iload_n (pc := 60) (DCa dc_Read_takeSum_0 32 rfl) rfl 3 rfl ?_
  refine Q_callv (ci := 3) (st := []) (pc := 61) (DCa dc_Read_takeSum_0 33 rfl) (sp_Read_accept F _ _ _) ce_Read_accept ml_3_125 rfl rfl ⟨by dsimp only; omega, by dsimp only; omega⟩ rfl (Nat.le_of_ble_eq_true rfl) (fun r13 h14 => ?_)
  refine V_pop (pc := 64) (DCa dc_Read_takeSum_0 34 rfl) rfl ?_
  refine V_aload_n (pc := 65) (DCa dc_Read_takeSum_0 35 rfl) rfl 0 rfl ?_
  refine V_iload_n (pc := 66) (DCa dc_Read_takeSum_0 36 rfl) rfl 1 rfl ?_
  refine Q_callv (ci := 3) (st := []) (pc := 67) (DCa dc_Read_takeSum_0 37 rfl) (sp_Read_takeProduct F a b S hS _ _ _) ce_Read_takeProduct ml_3_201 rfl rfl ⟨by dsimp only; omega, by dsimp only; omega⟩ rfl (Nat.le_of_ble_eq_true rfl) (fun r15 h16 => ?_)
  refine V_aload_n (pc := 70) (DCa dc_Read_takeSum_0 38 rfl) rfl 0 rfl ?_
  refine Q_getf (k := 5) (pc := 71) (DCa dc_Read_takeSum_0 39 rfl) cls_3 (Nat.le_of_ble_eq_true rfl) fl_3_31 rfl rfl rfl (fun v17 => ?_)
  refine Q_getf (k := 14) (pc := 74) (DCa dc_Read_takeSum_0 40 rfl) cls_6 (Nat.le_of_ble_eq_true rfl) fl_3_183 rfl rfl rfl (fun v18 => ?_)
  refine V_iload_n (pc := 77) (DCa dc_Read_takeSum_0 41 rfl) rfl 3 rfl ?_
  refine V_iconst (pc := 78) (DCa dc_Read_takeSum_0 42 rfl) (by decide) ?_
  refine Q_callv (ci := 0) (st := []) (pc := 79) (DCa dc_Read_takeSum_0 43 rfl) (sp_Laws_emit F _ _ _ _) ce_Laws_emit ml_3_195 rfl rfl ⟨by dsimp only; omega, by dsimp only; omega⟩ rfl (Nat.le_of_ble_eq_true rfl) (fun r19 h20 => ?_)
  refine V_pop (pc := 82) (DCa dc_Read_takeSum_0 44 rfl) rfl ?_
  refine V_iinc (ls' := [(0, 2, l0), (1, 0, l1), (2, 0, w32 (l2 + 1)), (3, 0, v12)]) (pc := 83) (DCa dc_Read_takeSum_0 45 rfl) (Nat.le_of_ble_eq_true rfl) (by decide) 2 rfl rfl ?_
  refine V_goto (tgt := 7) (pc := 86) (DCa dc_Read_takeSum_0 46 rfl) (by decide) ?_
  refine V_pick [0, 1, 2] rfl ?_
  exact hR7 _ _ _ _
theorem v_Read_takeSum_L7s (F : Nat) (a b : Nat) (S : Int → Int → Hp → Option (Int × Hp)) (hS : ∀ (x d : Int) (h : Hp), Sp yX3_takeSum cX3_takeSum 4 none a b [(2, x), (0, d)] h (S x d h))  (R7 : Int → Int → Int → Hp → Option (Int × Hp)) (hR7 : ∀ (l0 l1 l2 : Int) (h : Hp), V (X_Read_takeSum a b) 7 [(0, 2, l0), (1, 0, l1), (2, 0, l2)] [] h (R7 l0 l1 l2 h)) (l0 l1 l2 : Int) (h : Hp) : V (X_Read_takeSum a b) 7 [(0, 2, l0), (1, 0, l1), (2, 0, l2)] [] h (Read_takeSum_L7s F S  R7 l0 l1 l2 h) := by
  unfold Read_takeSum_L7s
  refine V_iload_n (pc := 7) (DCa dc_Read_takeSum_0 5 rfl) rfl 2 rfl ?_
  refine V_sipush (pc := 8) (DCa dc_Read_takeSum_0 6 rfl) (by decide) ?_
  refine V_icmp_gt (tgt := 89) (pc := 11) (DCa dc_Read_takeSum_0 7 rfl) (by decide) (fun _ => ?_) (fun _ => ?_)
  · exact V_return (pc := 89) (DCa dc_Read_takeSum_0 47 rfl) rfl
  · refine V_aload_n (pc := 14) (DCa dc_Read_takeSum_0 8 rfl) rfl 0 rfl ?_
    refine Q_getf (k := 8) (pc := 15) (DCa dc_Read_takeSum_0 9 rfl) cls_3 (Nat.le_of_ble_eq_true rfl) fl_3_65 rfl rfl rfl (fun v3 => ?_)
    refine V_if_ne (tgt := 89) (pc := 18) (DCa dc_Read_takeSum_0 10 rfl) (by decide) (fun _ => ?_) (fun _ => ?_)
    · refine V_aload_n (pc := 21) (DCa dc_Read_takeSum_0 11 rfl) rfl 0 rfl ?_
      refine Q_getf (k := 1) (pc := 22) (DCa dc_Read_takeSum_0 12 rfl) cls_3 (Nat.le_of_ble_eq_true rfl) fl_3_15 rfl rfl rfl (fun v4 => ?_)
      refine V_aload_n (pc := 25) (DCa dc_Read_takeSum_0 13 rfl) rfl 0 rfl ?_
      refine Q_getf (k := 7) (pc := 26) (DCa dc_Read_takeSum_0 14 rfl) cls_3 (Nat.le_of_ble_eq_true rfl) fl_3_62 rfl rfl rfl (fun v5 => ?_)
      refine Q_iaload (pc := 29) (DCa dc_Read_takeSum_0 15 rfl) (fun v6 => ?_)
      refine V_bipush (pc := 30) (DCa dc_Read_takeSum_0 16 rfl) (by decide) ?_
      refine V_icmp_eq (tgt := 49) (pc := 32) (DCa dc_Read_takeSum_0 17 rfl) (by decide) (fun _ => ?_) (fun _ => ?_)
      · exact v_Read_takeSum_B49 F a b S hS R7 hR7 _ _ _ _
      · refine V_aload_n (pc := 35) (DCa dc_Read_takeSum_0 18 rfl) rfl 0 rfl ?_
        refine Q_getf (k := 1) (pc := 36) (DCa dc_Read_takeSum_0 19 rfl) cls_3 (Nat.le_of_ble_eq_true rfl) fl_3_15 rfl rfl rfl (fun v7 => ?_)
        refine V_aload_n (pc := 39) (DCa dc_Read_takeSum_0 20 rfl) rfl 0 rfl ?_
        refine Q_getf (k := 7) (pc := 40) (DCa dc_Read_takeSum_0 21 rfl) cls_3 (Nat.le_of_ble_eq_true rfl) fl_3_62 rfl rfl rfl (fun v8 => ?_)
        refine Q_iaload (pc := 43) (DCa dc_Read_takeSum_0 22 rfl) (fun v9 => ?_)
        refine V_bipush (pc := 44) (DCa dc_Read_takeSum_0 23 rfl) (by decide) ?_
        refine V_icmp_ne (tgt := 89) (pc := 46) (DCa dc_Read_takeSum_0 24 rfl) (by decide) (fun _ => ?_) (fun _ => ?_)
        · exact v_Read_takeSum_B49 F a b S hS R7 hR7 _ _ _ _
        · exact V_return (pc := 89) (DCa dc_Read_takeSum_0 47 rfl) rfl
    · exact V_return (pc := 89) (DCa dc_Read_takeSum_0 47 rfl) rfl
theorem v_Read_takeSum_L7 (F : Nat) (a b : Nat) (S : Int → Int → Hp → Option (Int × Hp)) (hS : ∀ (x d : Int) (h : Hp), Sp yX3_takeSum cX3_takeSum 4 none a b [(2, x), (0, d)] h (S x d h))  (n : Nat) : ∀ (l0 l1 l2 : Int) (h : Hp), V (X_Read_takeSum a b) 7 [(0, 2, l0), (1, 0, l1), (2, 0, l2)] [] h (Read_takeSum_L7 F S  n l0 l1 l2 h) := by
  induction n with
  | zero => intros; exact V_none
  | succ n ih => exact fun l0 l1 l2 h => v_Read_takeSum_L7s F a b S hS  _ ih l0 l1 l2 h
theorem v_Read_takeSum (F : Nat) (a b : Nat) (S : Int → Int → Hp → Option (Int × Hp)) (hS : ∀ (x d : Int) (h : Hp), Sp yX3_takeSum cX3_takeSum 4 none a b [(2, x), (0, d)] h (S x d h)) (l0 l1 : Int) (h : Hp) : V (X_Read_takeSum a b) 0 [(0, 2, l0), (1, 0, l1)] [] h (Read_takeSum F S l0 l1 h) := by
  unfold Read_takeSum
  refine V_aload_n (pc := 0) (DCa dc_Read_takeSum_0 0 rfl) rfl 0 rfl ?_
  refine V_iload_n (pc := 1) (DCa dc_Read_takeSum_0 1 rfl) rfl 1 rfl ?_
  refine Q_callv (ci := 3) (st := []) (pc := 2) (DCa dc_Read_takeSum_0 2 rfl) (sp_Read_takeProduct F a b S hS _ _ _) ce_Read_takeProduct ml_3_201 rfl rfl ⟨by dsimp only; omega, by dsimp only; omega⟩ rfl (Nat.le_of_ble_eq_true rfl) (fun r1 h2 => ?_)
  refine V_iconst (pc := 5) (DCa dc_Read_takeSum_0 3 rfl) (by decide) ?_
  refine V_istore_n (ls' := [(0, 2, l0), (1, 0, l1), (2, 0, 0)]) (pc := 6) (DCa dc_Read_takeSum_0 4 rfl) rfl (Nat.le_of_ble_eq_true rfl) rfl ?_
  exact v_Read_takeSum_L7 F a b S hS F _ _ _ _
theorem sp_Read_takeSum (F : Nat) (a b : Nat) (S : Int → Int → Hp → Option (Int × Hp)) (hS : ∀ (x d : Int) (h : Hp), Sp yX3_takeSum cX3_takeSum 4 none a b [(2, x), (0, d)] h (S x d h)) (l0 l1 : Int) (h : Hp) : Sp yX3_takeSum cX3_takeSum 4 none (a + 6) (b + 180) [(2, l0), (0, l1)] h (Read_takeSum F S l0 l1 h) := Sp_of (by decide +kernel) rfl rfl (Nat.le_of_ble_eq_true rfl) (v_Read_takeSum F a b S hS l0 l1 h)

def Read_takeSumN (F : Nat) : Nat → Int → Int → Hp → Option (Int × Hp)
  | 0 => fun _ _ _ => none
  | n + 1 => Read_takeSum F (Read_takeSumN F n)
theorem sp_Read_takeSumN (F n : Nat) : ∀ (x d : Int) (h : Hp), Sp yX3_takeSum cX3_takeSum 4 none (6 * n) (180 * n) [(2, x), (0, d)] h (Read_takeSumN F n x d h) := by
  induction n with
  | zero => intro x d h r h' ho; cases ho
  | succ n ih => exact fun x d h => sp_Read_takeSum F (6 * n) (180 * n) (Read_takeSumN F n) ih x d h

-- TideRakes$Reader.takeLaw
def Read_takeLaw_B137 (F : Nat)  (l0 l2 : Int) (h : Hp) : Option (Int × Hp) :=
  iv h l0 103 (Read_takeSumN F 8 l0 0 h) fun r33 h34 =>
  iv h34 l2 100 (Laws_emit F l2 4 0 h34) fun r35 h36 =>
  some (0, h36)
def Read_takeLaw_B61 (F : Nat)  (l0 : Int) (h : Hp) : Option (Int × Hp) :=
  iv h l0 103 (Read_fail F l0 2 h) fun r37 h38 =>
  some (0, h38)
def Read_takeLaw_L30s (F : Nat)  (R30 : Int → Int → Int → Hp → Option (Int × Hp)) (l0 l2 l3 : Int) (h : Hp) : Option (Int × Hp) :=
  if 4 < l3 then
    (Read_takeLaw_B137 F l0 l2 h)
  else
    (gf h l0 103 8 fun v9 =>
    if v9 = 0 then
      (gf h l0 103 1 fun v10 =>
      gf h l0 103 7 fun v11 =>
      al h v10 0 v11 fun v12 =>
      if v12 = 10 then
        (if l3 = 4 then
          (Read_takeLaw_B61 F l0 h)
        else
          (iv h l0 103 (Read_accept F l0 10 h) fun r13 h14 =>
          iv h14 l0 103 (Read_takeSumN F 8 l0 0 h14) fun r15 h16 =>
          iv h16 l0 103 (Read_accept F l0 60 h16) fun r17 h18 =>
          iv h18 l0 103 (Read_takeSumN F 8 l0 0 h18) fun r19 h20 =>
          iv h20 l0 103 (Read_accept F l0 11 h20) fun r21 h22 =>
          iv h22 l2 100 (Laws_emit F l2 3 0 h22) fun r23 h24 =>
          iv h24 l0 103 (Read_takeSumN F 8 l0 0 h24) fun r25 h26 =>
          iv h26 l2 100 (Laws_emit F l2 4 0 h26) fun r27 h28 =>
          iv h28 l0 103 (Read_accept F l0 12 h28) fun r29 h30 =>
          iv h30 l2 100 (Laws_jumpHere F l2 r23 h30) fun r31 h32 =>
          R30 l0 l2 (w32 (l3 + 1)) h32))
      else
        (Read_takeLaw_B137 F l0 l2 h))
    else
      (Read_takeLaw_B137 F l0 l2 h))
def Read_takeLaw_L30 (F : Nat)  : Nat → Int → Int → Int → Hp → Option (Int × Hp)
  | 0 => fun _ _ _ _ => none
  | n + 1 => Read_takeLaw_L30s F  (Read_takeLaw_L30 F  n)
def Read_takeLaw (F : Nat) (l0 l1 : Int) (h : Hp) : Option (Int × Hp) :=
  gf h l0 103 5 fun v1 =>
  gf h v1 106 14 fun v2 =>
  iv h l0 103 (Read_accept F l0 l1 h) fun r3 h4 =>
  iv h4 l0 103 (Read_accept F l0 61 h4) fun r5 h6 =>
  iv h6 v2 100 (Laws_begin F v2 (w32 (l1 - 2)) h6) fun r7 h8 =>
  Read_takeLaw_L30 F F l0 v2 0 h8

theorem dc_Read_takeLaw_0 : ∀ q ∈ ([(0, .aload_n 0, 1), (1, .getfield 31, 3), (4, .getfield 183, 3), (7, .astore_n 2, 1), (8, .aload_n 0, 1), (9, .iload_n 1, 1), (10, .invokevirtual 125, 3), (13, .pop, 1), (14, .aload_n 0, 1), (15, .bipush 61, 2), (17, .invokevirtual 125, 3), (20, .pop, 1), (21, .aload_n 2, 1), (22, .iload_n 1, 1), (23, .iconst 2, 1), (24, .isub, 1), (25, .invokevirtual 187, 3), (28, .iconst 0, 1), (29, .istore_n 3, 1), (30, .iload_n 3, 1), (31, .iconst 4, 1), (32, .if_icmp .gt 105, 3), (35, .aload_n 0, 1), (36, .getfield 65, 3), (39, .ifCond .ne 98, 3), (42, .aload_n 0, 1), (43, .getfield 15, 3), (46, .aload_n 0, 1), (47, .getfield 62, 3), (50, .iaload, 1), (51, .bipush 10, 2), (53, .if_icmp .ne 84, 3), (56, .iload_n 3, 1), (57, .iconst 4, 1), (58, .if_icmp .ne 9, 3), (61, .aload_n 0, 1), (62, .iconst 2, 1), (63, .invokevirtual 146, 3), (66, .return_, 1), (67, .aload_n 0, 1), (68, .bipush 10, 2), (70, .invokevirtual 125, 3), (73, .pop, 1), (74, .aload_n 0, 1), (75, .iconst 0, 1), (76, .invokevirtual 192, 3), (79, .aload_n 0, 1), (80, .bipush 60, 2), (82, .invokevirtual 125, 3), (85, .pop, 1)] : List (Nat × Instr × Nat)), decode cX3_takeLaw q.1 = .ok (q.2.1, q.2.2) := by decide +kernel
theorem dc_Read_takeLaw_1 : ∀ q ∈ ([(86, .aload_n 0, 1), (87, .iconst 0, 1), (88, .invokevirtual 192, 3), (91, .aload_n 0, 1), (92, .bipush 11, 2), (94, .invokevirtual 125, 3), (97, .pop, 1), (98, .aload_n 2, 1), (99, .iconst 3, 1), (100, .iconst 0, 1), (101, .invokevirtual 195, 3), (104, .istore 4, 2), (106, .aload_n 0, 1), (107, .iconst 0, 1), (108, .invokevirtual 192, 3), (111, .aload_n 2, 1), (112, .iconst 4, 1), (113, .iconst 0, 1), (114, .invokevirtual 195, 3), (117, .pop, 1), (118, .aload_n 0, 1), (119, .bipush 12, 2), (121, .invokevirtual 125, 3), (124, .pop, 1), (125, .aload_n 2, 1), (126, .iload 4, 2), (128, .invokevirtual 198, 3), (131, .iinc 3 1, 3), (134, .goto (-104), 3), (137, .aload_n 0, 1), (138, .iconst 0, 1), (139, .invokevirtual 192, 3), (142, .aload_n 2, 1), (143, .iconst 4, 1), (144, .iconst 0, 1), (145, .invokevirtual 195, 3), (148, .pop, 1), (149, .return_, 1)] : List (Nat × Instr × Nat)), decode cX3_takeLaw q.1 = .ok (q.2.1, q.2.2) := by decide +kernel
abbrev X_Read_takeLaw : MX := (cX3_takeLaw, RX3, "takeLaw", 5, none, 49, 1463)
theorem v_Read_takeLaw_B137 (F : Nat)  (l0 l2 : Int) (h : Hp) : V X_Read_takeLaw 137 [(0, 2, l0), (2, 2, l2)] [] h (Read_takeLaw_B137 F  l0 l2 h) := by
  unfold Read_takeLaw_B137
  refine V_aload_n (pc := 137) (DCa dc_Read_takeLaw_1 29 rfl) rfl 0 rfl ?_
  refine V_iconst (pc := 138) (DCa dc_Read_takeLaw_1 30 rfl) (by decide) ?_
  refine Q_callv (ci := 3) (st := []) (pc := 139) (DCa dc_Read_takeLaw_1 31 rfl) (sp_Read_takeSumN F 8 _ _ _) ce_Read_takeSum ml_3_192 rfl rfl ⟨Nat.le_of_ble_eq_true rfl, Nat.le_of_ble_eq_true rfl⟩ rfl (Nat.le_of_ble_eq_true rfl) (fun r33 h34 => ?_)
  refine V_aload_n (pc := 142) (DCa dc_Read_takeLaw_1 32 rfl) rfl 1 rfl ?_
  refine V_iconst (pc := 143) (DCa dc_Read_takeLaw_1 33 rfl) (by decide) ?_
  refine V_iconst (pc := 144) (DCa dc_Read_takeLaw_1 34 rfl) (by decide) ?_
  refine Q_callv (ci := 0) (st := []) (pc := 145) (DCa dc_Read_takeLaw_1 35 rfl) (sp_Laws_emit F _ _ _ _) ce_Laws_emit ml_3_195 rfl rfl ⟨Nat.le_of_ble_eq_true rfl, Nat.le_of_ble_eq_true rfl⟩ rfl (Nat.le_of_ble_eq_true rfl) (fun r35 h36 => ?_)
  refine V_pop (pc := 148) (DCa dc_Read_takeLaw_1 36 rfl) rfl ?_
  exact V_return (pc := 149) (DCa dc_Read_takeLaw_1 37 rfl) rfl
theorem v_Read_takeLaw_B61 (F : Nat)  (l0 : Int) (h : Hp) : V X_Read_takeLaw 61 [(0, 2, l0)] [] h (Read_takeLaw_B61 F  l0 h) := by
  unfold Read_takeLaw_B61
  refine V_aload_n (pc := 61) (DCa dc_Read_takeLaw_0 35 rfl) rfl 0 rfl ?_
  refine V_iconst (pc := 62) (DCa dc_Read_takeLaw_0 36 rfl) (by decide) ?_
  refine Q_callv (ci := 3) (st := []) (pc := 63) (DCa dc_Read_takeLaw_0 37 rfl) (sp_Read_fail F _ _ _) ce_Read_fail ml_3_146 rfl rfl ⟨Nat.le_of_ble_eq_true rfl, Nat.le_of_ble_eq_true rfl⟩ rfl (Nat.le_of_ble_eq_true rfl) (fun r37 h38 => ?_)
  exact V_return (pc := 66) (DCa dc_Read_takeLaw_0 38 rfl) rfl
theorem v_Read_takeLaw_L30s (F : Nat)  (R30 : Int → Int → Int → Hp → Option (Int × Hp)) (hR30 : ∀ (l0 l2 l3 : Int) (h : Hp), V X_Read_takeLaw 30 [(0, 2, l0), (2, 2, l2), (3, 0, l3)] [] h (R30 l0 l2 l3 h)) (l0 l2 l3 : Int) (h : Hp) : V X_Read_takeLaw 30 [(0, 2, l0), (2, 2, l2), (3, 0, l3)] [] h (Read_takeLaw_L30s F  R30 l0 l2 l3 h) := by
  unfold Read_takeLaw_L30s
  refine V_iload_n (pc := 30) (DCa dc_Read_takeLaw_0 19 rfl) rfl 2 rfl ?_
  refine V_iconst (pc := 31) (DCa dc_Read_takeLaw_0 20 rfl) (by decide) ?_
  refine V_icmp_gt (tgt := 137) (pc := 32) (DCa dc_Read_takeLaw_0 21 rfl) (by decide) (fun _ => ?_) (fun _ => ?_)
  · refine V_pick [0, 1] rfl ?_
    exact v_Read_takeLaw_B137 F _ _ _
  · refine V_aload_n (pc := 35) (DCa dc_Read_takeLaw_0 22 rfl) rfl 0 rfl ?_
    refine Q_getf (k := 8) (pc := 36) (DCa dc_Read_takeLaw_0 23 rfl) cls_3 (Nat.le_of_ble_eq_true rfl) fl_3_65 rfl rfl rfl (fun v9 => ?_)
    refine V_if_ne (tgt := 137) (pc := 39) (DCa dc_Read_takeLaw_0 24 rfl) (by decide) (fun _ => ?_) (fun _ => ?_)
    · refine V_aload_n (pc := 42) (DCa dc_Read_takeLaw_0 25 rfl) rfl 0 rfl ?_
      refine Q_getf (k := 1) (pc := 43) (DCa dc_Read_takeLaw_0 26 rfl) cls_3 (Nat.le_of_ble_eq_true rfl) fl_3_15 rfl rfl rfl (fun v10 => ?_)
      refine V_aload_n (pc := 46) (DCa dc_Read_takeLaw_0 27 rfl) rfl 0 rfl ?_
      refine Q_getf (k := 7) (pc := 47) (DCa dc_Read_takeLaw_0 28 rfl) cls_3 (Nat.le_of_ble_eq_true rfl) fl_3_62 rfl rfl rfl (fun v11 => ?_)
      refine Q_iaload (pc := 50) (DCa dc_Read_takeLaw_0 29 rfl) (fun v12 => ?_)
      refine V_bipush (pc := 51) (DCa dc_Read_takeLaw_0 30 rfl) (by decide) ?_
      refine V_icmp_ne (tgt := 137) (pc := 53) (DCa dc_Read_takeLaw_0 31 rfl) (by decide) (fun _ => ?_) (fun _ => ?_)
      · refine V_iload_n (pc := 56) (DCa dc_Read_takeLaw_0 32 rfl) rfl 2 rfl ?_
        refine V_iconst (pc := 57) (DCa dc_Read_takeLaw_0 33 rfl) (by decide) ?_
        refine V_icmp_ne (tgt := 67) (pc := 58) (DCa dc_Read_takeLaw_0 34 rfl) (by decide) (fun _ => ?_) (fun _ => ?_)
        · refine V_pick [0] rfl ?_
          exact v_Read_takeLaw_B61 F _ _
        · refine V_aload_n (pc := 67) (DCa dc_Read_takeLaw_0 39 rfl) rfl 0 rfl ?_
          refine V_bipush (pc := 68) (DCa dc_Read_takeLaw_0 40 rfl) (by decide) ?_
          refine Q_callv (ci := 3) (st := []) (pc := 70) (DCa dc_Read_takeLaw_0 41 rfl) (sp_Read_accept F _ _ _) ce_Read_accept ml_3_125 rfl rfl ⟨Nat.le_of_ble_eq_true rfl, Nat.le_of_ble_eq_true rfl⟩ rfl (Nat.le_of_ble_eq_true rfl) (fun r13 h14 => ?_)
          refine V_pop (pc := 73) (DCa dc_Read_takeLaw_0 42 rfl) rfl ?_
          refine V_aload_n (pc := 74) (DCa dc_Read_takeLaw_0 43 rfl) rfl 0 rfl ?_
          refine V_iconst (pc := 75) (DCa dc_Read_takeLaw_0 44 rfl) (by decide) ?_
          refine Q_callv (ci := 3) (st := []) (pc := 76) (DCa dc_Read_takeLaw_0 45 rfl) (sp_Read_takeSumN F 8 _ _ _) ce_Read_takeSum ml_3_192 rfl rfl ⟨Nat.le_of_ble_eq_true rfl, Nat.le_of_ble_eq_true rfl⟩ rfl (Nat.le_of_ble_eq_true rfl) (fun r15 h16 => ?_)
          refine V_aload_n (pc := 79) (DCa dc_Read_takeLaw_0 46 rfl) rfl 0 rfl ?_
          refine V_bipush (pc := 80) (DCa dc_Read_takeLaw_0 47 rfl) (by decide) ?_
          refine Q_callv (ci := 3) (st := []) (pc := 82) (DCa dc_Read_takeLaw_0 48 rfl) (sp_Read_accept F _ _ _) ce_Read_accept ml_3_125 rfl rfl ⟨Nat.le_of_ble_eq_true rfl, Nat.le_of_ble_eq_true rfl⟩ rfl (Nat.le_of_ble_eq_true rfl) (fun r17 h18 => ?_)
          refine V_pop (pc := 85) (DCa dc_Read_takeLaw_0 49 rfl) rfl ?_
          refine V_aload_n (pc := 86) (DCa dc_Read_takeLaw_1 0 rfl) rfl 0 rfl ?_
          refine V_iconst (pc := 87) (DCa dc_Read_takeLaw_1 1 rfl) (by decide) ?_
          refine Q_callv (ci := 3) (st := []) (pc := 88) (DCa dc_Read_takeLaw_1 2 rfl) (sp_Read_takeSumN F 8 _ _ _) ce_Read_takeSum ml_3_192 rfl rfl ⟨Nat.le_of_ble_eq_true rfl, Nat.le_of_ble_eq_true rfl⟩ rfl (Nat.le_of_ble_eq_true rfl) (fun r19 h20 => ?_)
          refine V_aload_n (pc := 91) (DCa dc_Read_takeLaw_1 3 rfl) rfl 0 rfl ?_
          refine V_bipush (pc := 92) (DCa dc_Read_takeLaw_1 4 rfl) (by decide) ?_
          refine Q_callv (ci := 3) (st := []) (pc := 94) (DCa dc_Read_takeLaw_1 5 rfl) (sp_Read_accept F _ _ _) ce_Read_accept ml_3_125 rfl rfl ⟨Nat.le_of_ble_eq_true rfl, Nat.le_of_ble_eq_true rfl⟩ rfl (Nat.le_of_ble_eq_true rfl) (fun r21 h22 => ?_)
          refine V_pop (pc := 97) (DCa dc_Read_takeLaw_1 6 rfl) rfl ?_
          refine V_aload_n (pc := 98) (DCa dc_Read_takeLaw_1 7 rfl) rfl 1 rfl ?_
          refine V_iconst (pc := 99) (DCa dc_Read_takeLaw_1 8 rfl) (by decide) ?_
          refine V_iconst (pc := 100) (DCa dc_Read_takeLaw_1 9 rfl) (by decide) ?_
          refine Q_callv (ci := 0) (st := []) (pc := 101) (DCa dc_Read_takeLaw_1 10 rfl) (sp_Laws_emit F _ _ _ _) ce_Laws_emit ml_3_195 rfl rfl ⟨Nat.le_of_ble_eq_true rfl, Nat.le_of_ble_eq_true rfl⟩ rfl (Nat.le_of_ble_eq_true rfl) (fun r23 h24 => ?_)
          refine V_istore (ls' := [(0, 2, l0), (2, 2, l2), (3, 0, l3), (4, 0, r23)]) (pc := 104) (DCa dc_Read_takeLaw_1 11 rfl) (Nat.le_of_ble_eq_true rfl) rfl ?_
          refine V_aload_n (pc := 106) (DCa dc_Read_takeLaw_1 12 rfl) rfl 0 rfl ?_
          refine V_iconst (pc := 107) (DCa dc_Read_takeLaw_1 13 rfl) (by decide) ?_
          refine Q_callv (ci := 3) (st := []) (pc := 108) (DCa dc_Read_takeLaw_1 14 rfl) (sp_Read_takeSumN F 8 _ _ _) ce_Read_takeSum ml_3_192 rfl rfl ⟨Nat.le_of_ble_eq_true rfl, Nat.le_of_ble_eq_true rfl⟩ rfl (Nat.le_of_ble_eq_true rfl) (fun r25 h26 => ?_)
          refine V_aload_n (pc := 111) (DCa dc_Read_takeLaw_1 15 rfl) rfl 1 rfl ?_
          refine V_iconst (pc := 112) (DCa dc_Read_takeLaw_1 16 rfl) (by decide) ?_
          refine V_iconst (pc := 113) (DCa dc_Read_takeLaw_1 17 rfl) (by decide) ?_
          refine Q_callv (ci := 0) (st := []) (pc := 114) (DCa dc_Read_takeLaw_1 18 rfl) (sp_Laws_emit F _ _ _ _) ce_Laws_emit ml_3_195 rfl rfl ⟨Nat.le_of_ble_eq_true rfl, Nat.le_of_ble_eq_true rfl⟩ rfl (Nat.le_of_ble_eq_true rfl) (fun r27 h28 => ?_)
          refine V_pop (pc := 117) (DCa dc_Read_takeLaw_1 19 rfl) rfl ?_
          refine V_aload_n (pc := 118) (DCa dc_Read_takeLaw_1 20 rfl) rfl 0 rfl ?_
          refine V_bipush (pc := 119) (DCa dc_Read_takeLaw_1 21 rfl) (by decide) ?_
          refine Q_callv (ci := 3) (st := []) (pc := 121) (DCa dc_Read_takeLaw_1 22 rfl) (sp_Read_accept F _ _ _) ce_Read_accept ml_3_125 rfl rfl ⟨Nat.le_of_ble_eq_true rfl, Nat.le_of_ble_eq_true rfl⟩ rfl (Nat.le_of_ble_eq_true rfl) (fun r29 h30 => ?_)
          refine V_pop (pc := 124) (DCa dc_Read_takeLaw_1 23 rfl) rfl ?_
          refine V_aload_n (pc := 125) (DCa dc_Read_takeLaw_1 24 rfl) rfl 1 rfl ?_
          refine V_iload (pc := 126) (DCa dc_Read_takeLaw_1 25 rfl) 3 rfl ?_
          refine Q_callv (ci := 0) (st := []) (pc := 128) (DCa dc_Read_takeLaw_1 26 rfl) (sp_Laws_jumpHere F _ _ _) ce_Laws_jumpHere ml_3_198 rfl rfl ⟨Nat.le_of_ble_eq_true rfl, Nat.le_of_ble_eq_true rfl⟩ rfl (Nat.le_of_ble_eq_true rfl) (fun r31 h32 => ?_)
          refine V_iinc (ls' := [(0, 2, l0), (2, 2, l2), (3, 0, w32 (l3 + 1)), (4, 0, r23)]) (pc := 131) (DCa dc_Read_takeLaw_1 27 rfl) (Nat.le_of_ble_eq_true rfl) (by decide) 2 rfl rfl ?_
          refine V_goto (tgt := 30) (pc := 134) (DCa dc_Read_takeLaw_1 28 rfl) (by decide) ?_
          refine V_pick [0, 1, 2] rfl ?_
          exact hR30 _ _ _ _
      · refine V_pick [0, 1] rfl ?_
        exact v_Read_takeLaw_B137 F _ _ _
    · refine V_pick [0, 1] rfl ?_
      exact v_Read_takeLaw_B137 F _ _ _
theorem v_Read_takeLaw_L30 (F : Nat)  (n : Nat) : ∀ (l0 l2 l3 : Int) (h : Hp), V X_Read_takeLaw 30 [(0, 2, l0), (2, 2, l2), (3, 0, l3)] [] h (Read_takeLaw_L30 F  n l0 l2 l3 h) := by
  induction n with
  | zero => intros; exact V_none
  | succ n ih => exact fun l0 l2 l3 h => v_Read_takeLaw_L30s F  _ ih l0 l2 l3 h
theorem v_Read_takeLaw (F : Nat) (l0 l1 : Int) (h : Hp) : V X_Read_takeLaw 0 [(0, 2, l0), (1, 0, l1)] [] h (Read_takeLaw F l0 l1 h) := by
  unfold Read_takeLaw
  refine V_aload_n (pc := 0) (DCa dc_Read_takeLaw_0 0 rfl) rfl 0 rfl ?_
  refine Q_getf (k := 5) (pc := 1) (DCa dc_Read_takeLaw_0 1 rfl) cls_3 (Nat.le_of_ble_eq_true rfl) fl_3_31 rfl rfl rfl (fun v1 => ?_)
  refine Q_getf (k := 14) (pc := 4) (DCa dc_Read_takeLaw_0 2 rfl) cls_6 (Nat.le_of_ble_eq_true rfl) fl_3_183 rfl rfl rfl (fun v2 => ?_)
  refine V_astore_n (ls' := [(0, 2, l0), (1, 0, l1), (2, 2, v2)]) (pc := 7) (DCa dc_Read_takeLaw_0 3 rfl) rfl (Nat.le_of_ble_eq_true rfl) rfl ?_
  refine V_aload_n (pc := 8) (DCa dc_Read_takeLaw_0 4 rfl) rfl 0 rfl ?_
  refine V_iload_n (pc := 9) (DCa dc_Read_takeLaw_0 5 rfl) rfl 1 rfl ?_
  refine Q_callv (ci := 3) (st := []) (pc := 10) (DCa dc_Read_takeLaw_0 6 rfl) (sp_Read_accept F _ _ _) ce_Read_accept ml_3_125 rfl rfl ⟨Nat.le_of_ble_eq_true rfl, Nat.le_of_ble_eq_true rfl⟩ rfl (Nat.le_of_ble_eq_true rfl) (fun r3 h4 => ?_)
  refine V_pop (pc := 13) (DCa dc_Read_takeLaw_0 7 rfl) rfl ?_
  refine V_aload_n (pc := 14) (DCa dc_Read_takeLaw_0 8 rfl) rfl 0 rfl ?_
  refine V_bipush (pc := 15) (DCa dc_Read_takeLaw_0 9 rfl) (by decide) ?_
  refine Q_callv (ci := 3) (st := []) (pc := 17) (DCa dc_Read_takeLaw_0 10 rfl) (sp_Read_accept F _ _ _) ce_Read_accept ml_3_125 rfl rfl ⟨Nat.le_of_ble_eq_true rfl, Nat.le_of_ble_eq_true rfl⟩ rfl (Nat.le_of_ble_eq_true rfl) (fun r5 h6 => ?_)
  refine V_pop (pc := 20) (DCa dc_Read_takeLaw_0 11 rfl) rfl ?_
  refine V_aload_n (pc := 21) (DCa dc_Read_takeLaw_0 12 rfl) rfl 2 rfl ?_
  refine V_iload_n (pc := 22) (DCa dc_Read_takeLaw_0 13 rfl) rfl 1 rfl ?_
  refine V_iconst (pc := 23) (DCa dc_Read_takeLaw_0 14 rfl) (by decide) ?_
  refine V_isub (pc := 24) (DCa dc_Read_takeLaw_0 15 rfl) ?_
  refine Q_callv (ci := 0) (st := []) (pc := 25) (DCa dc_Read_takeLaw_0 16 rfl) (sp_Laws_begin F _ _ _) ce_Laws_begin ml_3_187 rfl rfl ⟨Nat.le_of_ble_eq_true rfl, Nat.le_of_ble_eq_true rfl⟩ rfl (Nat.le_of_ble_eq_true rfl) (fun r7 h8 => ?_)
  refine V_iconst (pc := 28) (DCa dc_Read_takeLaw_0 17 rfl) (by decide) ?_
  refine V_istore_n (ls' := [(0, 2, l0), (1, 0, l1), (2, 2, v2), (3, 0, 0)]) (pc := 29) (DCa dc_Read_takeLaw_0 18 rfl) rfl (Nat.le_of_ble_eq_true rfl) rfl ?_
  refine V_pick [0, 2, 3] rfl ?_
  exact v_Read_takeLaw_L30 F F _ _ _ _
theorem sp_Read_takeLaw (F : Nat) (l0 l1 : Int) (h : Hp) : Sp yX3_takeLaw cX3_takeLaw 5 none 49 1463 [(2, l0), (0, l1)] h (Read_takeLaw F l0 l1 h) := Sp_of (by decide +kernel) rfl rfl (Nat.le_of_ble_eq_true rfl) (v_Read_takeLaw F l0 l1 h)

-- TideRakes$Reader.failMildly
def Read_failMildly (F : Nat) (l0 l1 l2 : Int) (h : Hp) : Option (Int × Hp) :=
  gf h l0 103 10 fun v1 =>
  if v1 = 0 then
    (pf h l0 103 10 l1 fun h2 =>
    pf h2 l0 103 11 l2 fun h3 =>
    some (0, h3))
  else
    (some (0, h))

theorem dc_Read_failMildly_0 : ∀ q ∈ ([(0, .aload_n 0, 1), (1, .getfield 68, 3), (4, .ifCond .ne 13, 3), (7, .aload_n 0, 1), (8, .iload_n 1, 1), (9, .putfield 68, 3), (12, .aload_n 0, 1), (13, .iload_n 2, 1), (14, .putfield 74, 3), (17, .return_, 1)] : List (Nat × Instr × Nat)), decode cX3_failMildly q.1 = .ok (q.2.1, q.2.2) := by decide +kernel
abbrev X_Read_failMildly : MX := (cX3_failMildly, RX3, "failMildly", 3, none, 1, 20)
theorem v_Read_failMildly (F : Nat) (l0 l1 l2 : Int) (h : Hp) : V X_Read_failMildly 0 [(0, 2, l0), (1, 0, l1), (2, 0, l2)] [] h (Read_failMildly F l0 l1 l2 h) := by
  unfold Read_failMildly
  refine V_aload_n (pc := 0) (DCa dc_Read_failMildly_0 0 rfl) rfl 0 rfl ?_
  refine Q_getf (k := 10) (pc := 1) (DCa dc_Read_failMildly_0 1 rfl) cls_3 (Nat.le_of_ble_eq_true rfl) fl_3_68 rfl rfl rfl (fun v1 => ?_)
  refine V_if_ne (tgt := 17) (pc := 4) (DCa dc_Read_failMildly_0 2 rfl) (by decide) (fun _ => ?_) (fun _ => ?_)
  · refine V_aload_n (pc := 7) (DCa dc_Read_failMildly_0 3 rfl) rfl 0 rfl ?_
    refine V_iload_n (pc := 8) (DCa dc_Read_failMildly_0 4 rfl) rfl 1 rfl ?_
    refine Q_putf (k := 10) (pc := 9) (DCa dc_Read_failMildly_0 5 rfl) cls_3 (Nat.le_of_ble_eq_true rfl) fl_3_68 rfl rfl rfl (Or.inl rfl) (Or.inl ⟨rfl, rfl⟩) (fun h2 => ?_)
    refine V_aload_n (pc := 12) (DCa dc_Read_failMildly_0 6 rfl) rfl 0 rfl ?_
    refine V_iload_n (pc := 13) (DCa dc_Read_failMildly_0 7 rfl) rfl 2 rfl ?_
    refine Q_putf (k := 11) (pc := 14) (DCa dc_Read_failMildly_0 8 rfl) cls_3 (Nat.le_of_ble_eq_true rfl) fl_3_74 rfl rfl rfl (Or.inl rfl) (Or.inl ⟨rfl, rfl⟩) (fun h3 => ?_)
    exact V_return (pc := 17) (DCa dc_Read_failMildly_0 9 rfl) rfl
  · exact V_return (pc := 17) (DCa dc_Read_failMildly_0 9 rfl) rfl
theorem sp_Read_failMildly (F : Nat) (l0 l1 l2 : Int) (h : Hp) : Sp yX3_failMildly cX3_failMildly 3 none 1 20 [(2, l0), (0, l1), (0, l2)] h (Read_failMildly F l0 l1 l2 h) := Sp_of (by decide +kernel) rfl rfl (Nat.le_of_ble_eq_true rfl) (v_Read_failMildly F l0 l1 l2 h)

-- TideRakes$Reader.takeNumber
def Read_takeNumber_B43 (F : Nat)  (l0 l3 l4 : Int) (h : Hp) : Option (Int × Hp) :=
  iv h l0 103 (Read_failMildly F l0 5 l4 h) fun r10 h11 =>
  some (l3, h11)
def Read_takeNumber (F : Nat) (l0 l1 l2 : Int) (h : Hp) : Option (Int × Hp) :=
  gf h l0 103 2 fun v1 =>
  gf h l0 103 7 fun v2 =>
  al h v1 3 v2 fun v3 =>
  lt (w32 v3) fun x4 =>
  gf h l0 103 3 fun v5 =>
  gf h l0 103 7 fun v6 =>
  al h v5 0 v6 fun v7 =>
  iv h l0 103 (Read_accept F l0 19 h) fun r8 h9 =>
  if r8 = 0 then
    (some (l1, h9))
  else
    (if x4 < l1 then
      (Read_takeNumber_B43 F l0 x4 v7 h9)
    else
      (if l2 < x4 then
        (Read_takeNumber_B43 F l0 x4 v7 h9)
      else
        (some (x4, h9))))

theorem dc_Read_takeNumber_0 : ∀ q ∈ ([(0, .aload_n 0, 1), (1, .getfield 19, 3), (4, .aload_n 0, 1), (5, .getfield 62, 3), (8, .laload, 1), (9, .l2i, 1), (10, .istore_n 3, 1), (11, .aload_n 0, 1), (12, .getfield 22, 3), (15, .aload_n 0, 1), (16, .getfield 62, 3), (19, .iaload, 1), (20, .istore 4, 2), (22, .aload_n 0, 1), (23, .bipush 19, 2), (25, .invokevirtual 125, 3), (28, .ifCond .ne 5, 3), (31, .iload_n 1, 1), (32, .ireturn, 1), (33, .iload_n 3, 1), (34, .iload_n 1, 1), (35, .if_icmp .lt 8, 3), (38, .iload_n 3, 1), (39, .iload_n 2, 1), (40, .if_icmp .le 10, 3), (43, .aload_n 0, 1), (44, .iconst 5, 1), (45, .iload 4, 2), (47, .invokevirtual 179, 3), (50, .iload_n 3, 1), (51, .ireturn, 1)] : List (Nat × Instr × Nat)), decode cX3_takeNumber q.1 = .ok (q.2.1, q.2.2) := by decide +kernel
abbrev X_Read_takeNumber : MX := (cX3_takeNumber, RX3, "takeNumber", 5, (some (.int)), 2, 42)
theorem v_Read_takeNumber_B43 (F : Nat)  (l0 l3 l4 : Int) (h : Hp) : V X_Read_takeNumber 43 [(0, 2, l0), (3, 0, l3), (4, 0, l4)] [] h (Read_takeNumber_B43 F  l0 l3 l4 h) := by
  unfold Read_takeNumber_B43
  refine V_aload_n (pc := 43) (DCa dc_Read_takeNumber_0 25 rfl) rfl 0 rfl ?_
  refine V_iconst (pc := 44) (DCa dc_Read_takeNumber_0 26 rfl) (by decide) ?_
  refine V_iload (pc := 45) (DCa dc_Read_takeNumber_0 27 rfl) 2 rfl ?_
  refine Q_callv (ci := 3) (st := []) (pc := 47) (DCa dc_Read_takeNumber_0 28 rfl) (sp_Read_failMildly F _ _ _ _) ce_Read_failMildly ml_3_179 rfl rfl ⟨Nat.le_of_ble_eq_true rfl, Nat.le_of_ble_eq_true rfl⟩ rfl (Nat.le_of_ble_eq_true rfl) (fun r10 h11 => ?_)
  refine V_iload_n (pc := 50) (DCa dc_Read_takeNumber_0 29 rfl) rfl 1 rfl ?_
  exact V_ireturn (pc := 51) (DCa dc_Read_takeNumber_0 30 rfl) rfl
theorem v_Read_takeNumber (F : Nat) (l0 l1 l2 : Int) (h : Hp) : V X_Read_takeNumber 0 [(0, 2, l0), (1, 0, l1), (2, 0, l2)] [] h (Read_takeNumber F l0 l1 l2 h) := by
  unfold Read_takeNumber
  refine V_aload_n (pc := 0) (DCa dc_Read_takeNumber_0 0 rfl) rfl 0 rfl ?_
  refine Q_getf (k := 2) (pc := 1) (DCa dc_Read_takeNumber_0 1 rfl) cls_3 (Nat.le_of_ble_eq_true rfl) fl_3_19 rfl rfl rfl (fun v1 => ?_)
  refine V_aload_n (pc := 4) (DCa dc_Read_takeNumber_0 2 rfl) rfl 0 rfl ?_
  refine Q_getf (k := 7) (pc := 5) (DCa dc_Read_takeNumber_0 3 rfl) cls_3 (Nat.le_of_ble_eq_true rfl) fl_3_62 rfl rfl rfl (fun v2 => ?_)
  refine Q_laload (pc := 8) (DCa dc_Read_takeNumber_0 4 rfl) (fun v3 => ?_)
  refine V_l2i (pc := 9) (DCa dc_Read_takeNumber_0 5 rfl) ?_
  refine Q_lt (fun x4 => ?_)
  refine V_istore_n (ls' := [(0, 2, l0), (1, 0, l1), (2, 0, l2), (3, 0, x4)]) (pc := 10) (DCa dc_Read_takeNumber_0 6 rfl) rfl (Nat.le_of_ble_eq_true rfl) rfl ?_
  refine V_aload_n (pc := 11) (DCa dc_Read_takeNumber_0 7 rfl) rfl 0 rfl ?_
  refine Q_getf (k := 3) (pc := 12) (DCa dc_Read_takeNumber_0 8 rfl) cls_3 (Nat.le_of_ble_eq_true rfl) fl_3_22 rfl rfl rfl (fun v5 => ?_)
  refine V_aload_n (pc := 15) (DCa dc_Read_takeNumber_0 9 rfl) rfl 0 rfl ?_
  refine Q_getf (k := 7) (pc := 16) (DCa dc_Read_takeNumber_0 10 rfl) cls_3 (Nat.le_of_ble_eq_true rfl) fl_3_62 rfl rfl rfl (fun v6 => ?_)
  refine Q_iaload (pc := 19) (DCa dc_Read_takeNumber_0 11 rfl) (fun v7 => ?_)
  refine V_istore (ls' := [(0, 2, l0), (1, 0, l1), (2, 0, l2), (3, 0, x4), (4, 0, v7)]) (pc := 20) (DCa dc_Read_takeNumber_0 12 rfl) (Nat.le_of_ble_eq_true rfl) rfl ?_
  refine V_aload_n (pc := 22) (DCa dc_Read_takeNumber_0 13 rfl) rfl 0 rfl ?_
  refine V_bipush (pc := 23) (DCa dc_Read_takeNumber_0 14 rfl) (by decide) ?_
  refine Q_callv (ci := 3) (st := []) (pc := 25) (DCa dc_Read_takeNumber_0 15 rfl) (sp_Read_accept F _ _ _) ce_Read_accept ml_3_125 rfl rfl ⟨Nat.le_of_ble_eq_true rfl, Nat.le_of_ble_eq_true rfl⟩ rfl (Nat.le_of_ble_eq_true rfl) (fun r8 h9 => ?_)
  refine V_if_ne (tgt := 33) (pc := 28) (DCa dc_Read_takeNumber_0 16 rfl) (by decide) (fun _ => ?_) (fun _ => ?_)
  · refine V_iload_n (pc := 31) (DCa dc_Read_takeNumber_0 17 rfl) rfl 1 rfl ?_
    exact V_ireturn (pc := 32) (DCa dc_Read_takeNumber_0 18 rfl) rfl
  · refine V_iload_n (pc := 33) (DCa dc_Read_takeNumber_0 19 rfl) rfl 3 rfl ?_
    refine V_iload_n (pc := 34) (DCa dc_Read_takeNumber_0 20 rfl) rfl 1 rfl ?_
    refine V_icmp_lt (tgt := 43) (pc := 35) (DCa dc_Read_takeNumber_0 21 rfl) (by decide) (fun _ => ?_) (fun _ => ?_)
    · refine V_pick [0, 3, 4] rfl ?_
      exact v_Read_takeNumber_B43 F _ _ _ _
    · refine V_iload_n (pc := 38) (DCa dc_Read_takeNumber_0 22 rfl) rfl 3 rfl ?_
      refine V_iload_n (pc := 39) (DCa dc_Read_takeNumber_0 23 rfl) rfl 2 rfl ?_
      refine V_icmp_le (tgt := 50) (pc := 40) (DCa dc_Read_takeNumber_0 24 rfl) (by decide) (fun _ => ?_) (fun _ => ?_)
      · refine V_pick [0, 3, 4] rfl ?_
        exact v_Read_takeNumber_B43 F _ _ _ _
      · refine V_iload_n (pc := 50) (DCa dc_Read_takeNumber_0 29 rfl) rfl 3 rfl ?_
        exact V_ireturn (pc := 51) (DCa dc_Read_takeNumber_0 30 rfl) rfl
theorem sp_Read_takeNumber (F : Nat) (l0 l1 l2 : Int) (h : Hp) : Sp yX3_takeNumber cX3_takeNumber 5 (some (.int)) 2 42 [(2, l0), (0, l1), (0, l2)] h (Read_takeNumber F l0 l1 l2 h) := Sp_of (by decide +kernel) rfl rfl (Nat.le_of_ble_eq_true rfl) (v_Read_takeNumber F l0 l1 l2 h)

-- TideRakes$Reader.takeName
def Read_takeName_B66 (F : Nat)  (l0 l1 : Int) (h : Hp) : Option (Int × Hp) :=
  gf h l0 103 6 fun v14 =>
  gf h l0 103 4 fun v15 =>
  aln h v15 3 fun v16 =>
  if v14 < v16 then
    (gf h l0 103 4 fun v17 =>
    gf h l0 103 6 fun v18 =>
    as h v17 3 v18 l1 fun h19 =>
    gf h19 l0 103 6 fun v20 =>
    pf h19 l0 103 6 (w32 (v20 + 1)) fun h21 =>
    some (0, h21))
  else
    (some (0, h))
def Read_takeName_L33s (F : Nat)  (R33 : Int → Int → Int → Int → Hp → Option (Int × Hp)) (l0 l1 l3 l4 : Int) (h : Hp) : Option (Int × Hp) :=
  gf h l0 103 6 fun v9 =>
  if l4 < v9 then
    (gf h l0 103 4 fun v10 =>
    al h v10 3 l4 fun v11 =>
    if (lcmp v11 l1) = 0 then
      (iv h l0 103 (Read_failMildly F l0 3 l3 h) fun r12 h13 =>
      R33 l0 l1 l3 (w32 (l4 + 1)) h13)
    else
      (R33 l0 l1 l3 (w32 (l4 + 1)) h))
  else
    (Read_takeName_B66 F l0 l1 h)
def Read_takeName_L33 (F : Nat)  : Nat → Int → Int → Int → Int → Hp → Option (Int × Hp)
  | 0 => fun _ _ _ _ _ => none
  | n + 1 => Read_takeName_L33s F  (Read_takeName_L33 F  n)
def Read_takeName (F : Nat) (l0 : Int) (h : Hp) : Option (Int × Hp) :=
  gf h l0 103 2 fun v1 =>
  gf h l0 103 7 fun v2 =>
  al h v1 3 v2 fun v3 =>
  gf h l0 103 3 fun v4 =>
  gf h l0 103 7 fun v5 =>
  al h v4 0 v5 fun v6 =>
  iv h l0 103 (Read_accept F l0 18 h) fun r7 h8 =>
  if r7 = 0 then
    (some (0, h8))
  else
    (Read_takeName_L33 F F l0 v3 v6 0 h8)

theorem dc_Read_takeName_0 : ∀ q ∈ ([(0, .aload_n 0, 1), (1, .getfield 19, 3), (4, .aload_n 0, 1), (5, .getfield 62, 3), (8, .laload, 1), (9, .lstore_n 1, 1), (10, .aload_n 0, 1), (11, .getfield 22, 3), (14, .aload_n 0, 1), (15, .getfield 62, 3), (18, .iaload, 1), (19, .istore_n 3, 1), (20, .aload_n 0, 1), (21, .bipush 18, 2), (23, .invokevirtual 125, 3), (26, .ifCond .ne 4, 3), (29, .return_, 1), (30, .iconst 0, 1), (31, .istore 4, 2), (33, .iload 4, 2), (35, .aload_n 0, 1), (36, .getfield 58, 3), (39, .if_icmp .ge 27, 3), (42, .aload_n 0, 1), (43, .getfield 25, 3), (46, .iload 4, 2), (48, .laload, 1), (49, .lload_n 1, 1), (50, .lcmp, 1), (51, .ifCond .ne 9, 3), (54, .aload_n 0, 1), (55, .iconst 3, 1), (56, .iload_n 3, 1), (57, .invokevirtual 179, 3), (60, .iinc 4 1, 3), (63, .goto (-30), 3), (66, .aload_n 0, 1), (67, .getfield 58, 3), (70, .aload_n 0, 1), (71, .getfield 25, 3), (74, .arraylength, 1), (75, .if_icmp .ge 23, 3), (78, .aload_n 0, 1), (79, .getfield 25, 3), (82, .aload_n 0, 1), (83, .getfield 58, 3), (86, .lload_n 1, 1), (87, .lastore, 1), (88, .aload_n 0, 1), (89, .dup, 1)] : List (Nat × Instr × Nat)), decode cX3_takeName q.1 = .ok (q.2.1, q.2.2) := by decide +kernel
theorem dc_Read_takeName_1 : ∀ q ∈ ([(90, .getfield 58, 3), (93, .iconst 1, 1), (94, .iadd, 1), (95, .putfield 58, 3), (98, .return_, 1)] : List (Nat × Instr × Nat)), decode cX3_takeName q.1 = .ok (q.2.1, q.2.2) := by decide +kernel
abbrev X_Read_takeName : MX := (cX3_takeName, RX3, "takeName", 5, none, 2, 42)
theorem v_Read_takeName_B66 (F : Nat)  (l0 l1 : Int) (h : Hp) : V X_Read_takeName 66 [(0, 2, l0), (1, 1, l1)] [] h (Read_takeName_B66 F  l0 l1 h) := by
  unfold Read_takeName_B66
  refine V_aload_n (pc := 66) (DCa dc_Read_takeName_0 36 rfl) rfl 0 rfl ?_
  refine Q_getf (k := 6) (pc := 67) (DCa dc_Read_takeName_0 37 rfl) cls_3 (Nat.le_of_ble_eq_true rfl) fl_3_58 rfl rfl rfl (fun v14 => ?_)
  refine V_aload_n (pc := 70) (DCa dc_Read_takeName_0 38 rfl) rfl 0 rfl ?_
  refine Q_getf (k := 4) (pc := 71) (DCa dc_Read_takeName_0 39 rfl) cls_3 (Nat.le_of_ble_eq_true rfl) fl_3_25 rfl rfl rfl (fun v15 => ?_)
  refine Q_alen (pc := 74) (DCa dc_Read_takeName_0 40 rfl) (by decide) (fun v16 => ?_)
  refine V_icmp_ge (tgt := 98) (pc := 75) (DCa dc_Read_takeName_0 41 rfl) (by decide) (fun _ => ?_) (fun _ => ?_)
  · refine V_aload_n (pc := 78) (DCa dc_Read_takeName_0 42 rfl) rfl 0 rfl ?_
    refine Q_getf (k := 4) (pc := 79) (DCa dc_Read_takeName_0 43 rfl) cls_3 (Nat.le_of_ble_eq_true rfl) fl_3_25 rfl rfl rfl (fun v17 => ?_)
    refine V_aload_n (pc := 82) (DCa dc_Read_takeName_0 44 rfl) rfl 0 rfl ?_
    refine Q_getf (k := 6) (pc := 83) (DCa dc_Read_takeName_0 45 rfl) cls_3 (Nat.le_of_ble_eq_true rfl) fl_3_58 rfl rfl rfl (fun v18 => ?_)
    refine V_lload_n (pc := 86) (DCa dc_Read_takeName_0 46 rfl) rfl 1 rfl ?_
    refine Q_lastore (pc := 87) (DCa dc_Read_takeName_0 47 rfl) (fun h19 => ?_)
    refine V_aload_n (pc := 88) (DCa dc_Read_takeName_0 48 rfl) rfl 0 rfl ?_
    refine V_dup (pc := 89) (DCa dc_Read_takeName_0 49 rfl) rfl ?_
    refine Q_getf (k := 6) (pc := 90) (DCa dc_Read_takeName_1 0 rfl) cls_3 (Nat.le_of_ble_eq_true rfl) fl_3_58 rfl rfl rfl (fun v20 => ?_)
    refine V_iconst (pc := 93) (DCa dc_Read_takeName_1 1 rfl) (by decide) ?_
    refine V_iadd (pc := 94) (DCa dc_Read_takeName_1 2 rfl) ?_
    refine Q_putf (k := 6) (pc := 95) (DCa dc_Read_takeName_1 3 rfl) cls_3 (Nat.le_of_ble_eq_true rfl) fl_3_58 rfl rfl rfl (Or.inl rfl) (Or.inl ⟨rfl, rfl⟩) (fun h21 => ?_)
    exact V_return (pc := 98) (DCa dc_Read_takeName_1 4 rfl) rfl
  · exact V_return (pc := 98) (DCa dc_Read_takeName_1 4 rfl) rfl
theorem v_Read_takeName_L33s (F : Nat)  (R33 : Int → Int → Int → Int → Hp → Option (Int × Hp)) (hR33 : ∀ (l0 l1 l3 l4 : Int) (h : Hp), V X_Read_takeName 33 [(0, 2, l0), (1, 1, l1), (3, 0, l3), (4, 0, l4)] [] h (R33 l0 l1 l3 l4 h)) (l0 l1 l3 l4 : Int) (h : Hp) : V X_Read_takeName 33 [(0, 2, l0), (1, 1, l1), (3, 0, l3), (4, 0, l4)] [] h (Read_takeName_L33s F  R33 l0 l1 l3 l4 h) := by
  unfold Read_takeName_L33s
  refine V_iload (pc := 33) (DCa dc_Read_takeName_0 19 rfl) 3 rfl ?_
  refine V_aload_n (pc := 35) (DCa dc_Read_takeName_0 20 rfl) rfl 0 rfl ?_
  refine Q_getf (k := 6) (pc := 36) (DCa dc_Read_takeName_0 21 rfl) cls_3 (Nat.le_of_ble_eq_true rfl) fl_3_58 rfl rfl rfl (fun v9 => ?_)
  refine V_icmp_ge (tgt := 66) (pc := 39) (DCa dc_Read_takeName_0 22 rfl) (by decide) (fun _ => ?_) (fun _ => ?_)
  · refine V_aload_n (pc := 42) (DCa dc_Read_takeName_0 23 rfl) rfl 0 rfl ?_
    refine Q_getf (k := 4) (pc := 43) (DCa dc_Read_takeName_0 24 rfl) cls_3 (Nat.le_of_ble_eq_true rfl) fl_3_25 rfl rfl rfl (fun v10 => ?_)
    refine V_iload (pc := 46) (DCa dc_Read_takeName_0 25 rfl) 3 rfl ?_
    refine Q_laload (pc := 48) (DCa dc_Read_takeName_0 26 rfl) (fun v11 => ?_)
    refine V_lload_n (pc := 49) (DCa dc_Read_takeName_0 27 rfl) rfl 1 rfl ?_
    refine V_lcmp (pc := 50) (DCa dc_Read_takeName_0 28 rfl) ?_
    refine V_if_ne (tgt := 60) (pc := 51) (DCa dc_Read_takeName_0 29 rfl) (by decide) (fun _ => ?_) (fun _ => ?_)
    · refine V_aload_n (pc := 54) (DCa dc_Read_takeName_0 30 rfl) rfl 0 rfl ?_
      refine V_iconst (pc := 55) (DCa dc_Read_takeName_0 31 rfl) (by decide) ?_
      refine V_iload_n (pc := 56) (DCa dc_Read_takeName_0 32 rfl) rfl 2 rfl ?_
      refine Q_callv (ci := 3) (st := []) (pc := 57) (DCa dc_Read_takeName_0 33 rfl) (sp_Read_failMildly F _ _ _ _) ce_Read_failMildly ml_3_179 rfl rfl ⟨Nat.le_of_ble_eq_true rfl, Nat.le_of_ble_eq_true rfl⟩ rfl (Nat.le_of_ble_eq_true rfl) (fun r12 h13 => ?_)
      refine V_iinc (ls' := [(0, 2, l0), (1, 1, l1), (3, 0, l3), (4, 0, w32 (l4 + 1))]) (pc := 60) (DCa dc_Read_takeName_0 34 rfl) (Nat.le_of_ble_eq_true rfl) (by decide) 3 rfl rfl ?_
      refine V_goto (tgt := 33) (pc := 63) (DCa dc_Read_takeName_0 35 rfl) (by decide) ?_
      exact hR33 _ _ _ _ _
    · refine V_iinc (ls' := [(0, 2, l0), (1, 1, l1), (3, 0, l3), (4, 0, w32 (l4 + 1))]) (pc := 60) (DCa dc_Read_takeName_0 34 rfl) (Nat.le_of_ble_eq_true rfl) (by decide) 3 rfl rfl ?_
      refine V_goto (tgt := 33) (pc := 63) (DCa dc_Read_takeName_0 35 rfl) (by decide) ?_
      exact hR33 _ _ _ _ _
  · refine V_pick [0, 1] rfl ?_
    exact v_Read_takeName_B66 F _ _ _
theorem v_Read_takeName_L33 (F : Nat)  (n : Nat) : ∀ (l0 l1 l3 l4 : Int) (h : Hp), V X_Read_takeName 33 [(0, 2, l0), (1, 1, l1), (3, 0, l3), (4, 0, l4)] [] h (Read_takeName_L33 F  n l0 l1 l3 l4 h) := by
  induction n with
  | zero => intros; exact V_none
  | succ n ih => exact fun l0 l1 l3 l4 h => v_Read_takeName_L33s F  _ ih l0 l1 l3 l4 h
theorem v_Read_takeName (F : Nat) (l0 : Int) (h : Hp) : V X_Read_takeName 0 [(0, 2, l0)] [] h (Read_takeName F l0 h) := by
  unfold Read_takeName
  refine V_aload_n (pc := 0) (DCa dc_Read_takeName_0 0 rfl) rfl 0 rfl ?_
  refine Q_getf (k := 2) (pc := 1) (DCa dc_Read_takeName_0 1 rfl) cls_3 (Nat.le_of_ble_eq_true rfl) fl_3_19 rfl rfl rfl (fun v1 => ?_)
  refine V_aload_n (pc := 4) (DCa dc_Read_takeName_0 2 rfl) rfl 0 rfl ?_
  refine Q_getf (k := 7) (pc := 5) (DCa dc_Read_takeName_0 3 rfl) cls_3 (Nat.le_of_ble_eq_true rfl) fl_3_62 rfl rfl rfl (fun v2 => ?_)
  refine Q_laload (pc := 8) (DCa dc_Read_takeName_0 4 rfl) (fun v3 => ?_)
  refine V_lstore_n (ls' := [(0, 2, l0), (1, 1, v3)]) (pc := 9) (DCa dc_Read_takeName_0 5 rfl) rfl (Nat.le_of_ble_eq_true rfl) rfl ?_
  refine V_aload_n (pc := 10) (DCa dc_Read_takeName_0 6 rfl) rfl 0 rfl ?_
  refine Q_getf (k := 3) (pc := 11) (DCa dc_Read_takeName_0 7 rfl) cls_3 (Nat.le_of_ble_eq_true rfl) fl_3_22 rfl rfl rfl (fun v4 => ?_)
  refine V_aload_n (pc := 14) (DCa dc_Read_takeName_0 8 rfl) rfl 0 rfl ?_
  refine Q_getf (k := 7) (pc := 15) (DCa dc_Read_takeName_0 9 rfl) cls_3 (Nat.le_of_ble_eq_true rfl) fl_3_62 rfl rfl rfl (fun v5 => ?_)
  refine Q_iaload (pc := 18) (DCa dc_Read_takeName_0 10 rfl) (fun v6 => ?_)
  refine V_istore_n (ls' := [(0, 2, l0), (1, 1, v3), (3, 0, v6)]) (pc := 19) (DCa dc_Read_takeName_0 11 rfl) rfl (Nat.le_of_ble_eq_true rfl) rfl ?_
  refine V_aload_n (pc := 20) (DCa dc_Read_takeName_0 12 rfl) rfl 0 rfl ?_
  refine V_bipush (pc := 21) (DCa dc_Read_takeName_0 13 rfl) (by decide) ?_
  refine Q_callv (ci := 3) (st := []) (pc := 23) (DCa dc_Read_takeName_0 14 rfl) (sp_Read_accept F _ _ _) ce_Read_accept ml_3_125 rfl rfl ⟨Nat.le_of_ble_eq_true rfl, Nat.le_of_ble_eq_true rfl⟩ rfl (Nat.le_of_ble_eq_true rfl) (fun r7 h8 => ?_)
  refine V_if_ne (tgt := 30) (pc := 26) (DCa dc_Read_takeName_0 15 rfl) (by decide) (fun _ => ?_) (fun _ => ?_)
  · exact V_return (pc := 29) (DCa dc_Read_takeName_0 16 rfl) rfl
  · refine V_iconst (pc := 30) (DCa dc_Read_takeName_0 17 rfl) (by decide) ?_
    refine V_istore (ls' := [(0, 2, l0), (1, 1, v3), (3, 0, v6), (4, 0, 0)]) (pc := 31) (DCa dc_Read_takeName_0 18 rfl) (Nat.le_of_ble_eq_true rfl) rfl ?_
    exact v_Read_takeName_L33 F F _ _ _ _ _
theorem sp_Read_takeName (F : Nat) (l0 : Int) (h : Hp) : Sp yX3_takeName cX3_takeName 5 none 2 42 [(2, l0)] h (Read_takeName F l0 h) := Sp_of (by decide +kernel) rfl rfl (Nat.le_of_ble_eq_true rfl) (v_Read_takeName F l0 h)

-- TideRakes$Reader.takePart
def Read_takePart (F : Nat) (l0 : Int) (h : Hp) : Option (Int × Hp) :=
  gf h l0 103 5 fun v1 =>
  gf h v1 106 4 fun v2 =>
  if v2 < 8 then
    (iv h l0 103 (Read_accept F l0 0 h) fun r3 h4 =>
    iv h4 l0 103 (Read_takeName F l0 h4) fun r5 h6 =>
    gf h6 l0 103 5 fun v7 =>
    gf h6 v7 106 0 fun v8 =>
    iv h6 l0 103 (Read_takeNumber F l0 0 99 h6) fun r9 h10 =>
    as h10 v8 0 v2 r9 fun h11 =>
    gf h11 l0 103 5 fun v12 =>
    gf h11 v12 106 1 fun v13 =>
    iv h11 l0 103 (Read_takeNumber F l0 0 99 h11) fun r14 h15 =>
    as h15 v13 0 v2 r14 fun h16 =>
    gf h16 l0 103 5 fun v17 =>
    gf h16 v17 106 2 fun v18 =>
    iv h16 l0 103 (Read_takeNumber F l0 0 99 h16) fun r19 h20 =>
    as h20 v18 0 v2 r19 fun h21 =>
    gf h21 l0 103 5 fun v22 =>
    gf h21 v22 106 3 fun v23 =>
    iv h21 l0 103 (Read_takeNumber F l0 1 60 h21) fun r24 h25 =>
    as h25 v23 0 v2 r24 fun h26 =>
    gf h26 l0 103 5 fun v27 =>
    gf h26 v27 106 4 fun v28 =>
    pf h26 v27 106 4 (w32 (v28 + 1)) fun h29 =>
    some (0, h29))
  else
    (iv h l0 103 (Read_fail F l0 2 h) fun r30 h31 =>
    some (0, h31))

theorem dc_Read_takePart_0 : ∀ q ∈ ([(0, .aload_n 0, 1), (1, .getfield 31, 3), (4, .getfield 149, 3), (7, .istore_n 1, 1), (8, .iload_n 1, 1), (9, .bipush 8, 2), (11, .if_icmp .lt 9, 3), (14, .aload_n 0, 1), (15, .iconst 2, 1), (16, .invokevirtual 146, 3), (19, .return_, 1), (20, .aload_n 0, 1), (21, .iconst 0, 1), (22, .invokevirtual 125, 3), (25, .pop, 1), (26, .aload_n 0, 1), (27, .invokevirtual 152, 3), (30, .aload_n 0, 1), (31, .getfield 31, 3), (34, .getfield 155, 3), (37, .iload_n 1, 1), (38, .aload_n 0, 1), (39, .iconst 0, 1), (40, .bipush 99, 2), (42, .invokevirtual 128, 3), (45, .iastore, 1), (46, .aload_n 0, 1), (47, .getfield 31, 3), (50, .getfield 158, 3), (53, .iload_n 1, 1), (54, .aload_n 0, 1), (55, .iconst 0, 1), (56, .bipush 99, 2), (58, .invokevirtual 128, 3), (61, .iastore, 1), (62, .aload_n 0, 1), (63, .getfield 31, 3), (66, .getfield 161, 3), (69, .iload_n 1, 1), (70, .aload_n 0, 1), (71, .iconst 0, 1), (72, .bipush 99, 2), (74, .invokevirtual 128, 3), (77, .iastore, 1), (78, .aload_n 0, 1), (79, .getfield 31, 3), (82, .getfield 164, 3), (85, .iload_n 1, 1), (86, .aload_n 0, 1), (87, .iconst 1, 1)] : List (Nat × Instr × Nat)), decode cX3_takePart q.1 = .ok (q.2.1, q.2.2) := by decide +kernel
theorem dc_Read_takePart_1 : ∀ q ∈ ([(88, .bipush 60, 2), (90, .invokevirtual 128, 3), (93, .iastore, 1), (94, .aload_n 0, 1), (95, .getfield 31, 3), (98, .dup, 1), (99, .getfield 149, 3), (102, .iconst 1, 1), (103, .iadd, 1), (104, .putfield 149, 3), (107, .return_, 1)] : List (Nat × Instr × Nat)), decode cX3_takePart q.1 = .ok (q.2.1, q.2.2) := by decide +kernel
abbrev X_Read_takePart : MX := (cX3_takePart, RX3, "takePart", 2, none, 3, 66)
theorem v_Read_takePart (F : Nat) (l0 : Int) (h : Hp) : V X_Read_takePart 0 [(0, 2, l0)] [] h (Read_takePart F l0 h) := by
  unfold Read_takePart
  refine V_aload_n (pc := 0) (DCa dc_Read_takePart_0 0 rfl) rfl 0 rfl ?_
  refine Q_getf (k := 5) (pc := 1) (DCa dc_Read_takePart_0 1 rfl) cls_3 (Nat.le_of_ble_eq_true rfl) fl_3_31 rfl rfl rfl (fun v1 => ?_)
  refine Q_getf (k := 4) (pc := 4) (DCa dc_Read_takePart_0 2 rfl) cls_6 (Nat.le_of_ble_eq_true rfl) fl_3_149 rfl rfl rfl (fun v2 => ?_)
  refine V_istore_n (ls' := [(0, 2, l0), (1, 0, v2)]) (pc := 7) (DCa dc_Read_takePart_0 3 rfl) rfl (Nat.le_of_ble_eq_true rfl) rfl ?_
  refine V_iload_n (pc := 8) (DCa dc_Read_takePart_0 4 rfl) rfl 1 rfl ?_
  refine V_bipush (pc := 9) (DCa dc_Read_takePart_0 5 rfl) (by decide) ?_
  refine V_icmp_lt (tgt := 20) (pc := 11) (DCa dc_Read_takePart_0 6 rfl) (by decide) (fun _ => ?_) (fun _ => ?_)
  · refine V_aload_n (pc := 20) (DCa dc_Read_takePart_0 11 rfl) rfl 0 rfl ?_
    refine V_iconst (pc := 21) (DCa dc_Read_takePart_0 12 rfl) (by decide) ?_
    refine Q_callv (ci := 3) (st := []) (pc := 22) (DCa dc_Read_takePart_0 13 rfl) (sp_Read_accept F _ _ _) ce_Read_accept ml_3_125 rfl rfl ⟨Nat.le_of_ble_eq_true rfl, Nat.le_of_ble_eq_true rfl⟩ rfl (Nat.le_of_ble_eq_true rfl) (fun r3 h4 => ?_)
    refine V_pop (pc := 25) (DCa dc_Read_takePart_0 14 rfl) rfl ?_
    refine V_aload_n (pc := 26) (DCa dc_Read_takePart_0 15 rfl) rfl 0 rfl ?_
    refine Q_callv (ci := 3) (st := []) (pc := 27) (DCa dc_Read_takePart_0 16 rfl) (sp_Read_takeName F _ _) ce_Read_takeName ml_3_152 rfl rfl ⟨Nat.le_of_ble_eq_true rfl, Nat.le_of_ble_eq_true rfl⟩ rfl (Nat.le_of_ble_eq_true rfl) (fun r5 h6 => ?_)
    refine V_aload_n (pc := 30) (DCa dc_Read_takePart_0 17 rfl) rfl 0 rfl ?_
    refine Q_getf (k := 5) (pc := 31) (DCa dc_Read_takePart_0 18 rfl) cls_3 (Nat.le_of_ble_eq_true rfl) fl_3_31 rfl rfl rfl (fun v7 => ?_)
    refine Q_getf (k := 0) (pc := 34) (DCa dc_Read_takePart_0 19 rfl) cls_6 (Nat.le_of_ble_eq_true rfl) fl_3_155 rfl rfl rfl (fun v8 => ?_)
    refine V_iload_n (pc := 37) (DCa dc_Read_takePart_0 20 rfl) rfl 1 rfl ?_
    refine V_aload_n (pc := 38) (DCa dc_Read_takePart_0 21 rfl) rfl 0 rfl ?_
    refine V_iconst (pc := 39) (DCa dc_Read_takePart_0 22 rfl) (by decide) ?_
    refine V_bipush (pc := 40) (DCa dc_Read_takePart_0 23 rfl) (by decide) ?_
    refine Q_callv (ci := 3) (st := [(0, v2), (2, v8)]) (pc := 42) (DCa dc_Read_takePart_0 24 rfl) (sp_Read_takeNumber F _ _ _ _) ce_Read_takeNumber ml_3_128 rfl rfl ⟨Nat.le_of_ble_eq_true rfl, Nat.le_of_ble_eq_true rfl⟩ rfl (Nat.le_of_ble_eq_true rfl) (fun r9 h10 => ?_)
    refine Q_iastore (pc := 45) (DCa dc_Read_takePart_0 25 rfl) (fun h11 => ?_)
    refine V_aload_n (pc := 46) (DCa dc_Read_takePart_0 26 rfl) rfl 0 rfl ?_
    refine Q_getf (k := 5) (pc := 47) (DCa dc_Read_takePart_0 27 rfl) cls_3 (Nat.le_of_ble_eq_true rfl) fl_3_31 rfl rfl rfl (fun v12 => ?_)
    refine Q_getf (k := 1) (pc := 50) (DCa dc_Read_takePart_0 28 rfl) cls_6 (Nat.le_of_ble_eq_true rfl) fl_3_158 rfl rfl rfl (fun v13 => ?_)
    refine V_iload_n (pc := 53) (DCa dc_Read_takePart_0 29 rfl) rfl 1 rfl ?_
    refine V_aload_n (pc := 54) (DCa dc_Read_takePart_0 30 rfl) rfl 0 rfl ?_
    refine V_iconst (pc := 55) (DCa dc_Read_takePart_0 31 rfl) (by decide) ?_
    refine V_bipush (pc := 56) (DCa dc_Read_takePart_0 32 rfl) (by decide) ?_
    refine Q_callv (ci := 3) (st := [(0, v2), (2, v13)]) (pc := 58) (DCa dc_Read_takePart_0 33 rfl) (sp_Read_takeNumber F _ _ _ _) ce_Read_takeNumber ml_3_128 rfl rfl ⟨Nat.le_of_ble_eq_true rfl, Nat.le_of_ble_eq_true rfl⟩ rfl (Nat.le_of_ble_eq_true rfl) (fun r14 h15 => ?_)
    refine Q_iastore (pc := 61) (DCa dc_Read_takePart_0 34 rfl) (fun h16 => ?_)
    refine V_aload_n (pc := 62) (DCa dc_Read_takePart_0 35 rfl) rfl 0 rfl ?_
    refine Q_getf (k := 5) (pc := 63) (DCa dc_Read_takePart_0 36 rfl) cls_3 (Nat.le_of_ble_eq_true rfl) fl_3_31 rfl rfl rfl (fun v17 => ?_)
    refine Q_getf (k := 2) (pc := 66) (DCa dc_Read_takePart_0 37 rfl) cls_6 (Nat.le_of_ble_eq_true rfl) fl_3_161 rfl rfl rfl (fun v18 => ?_)
    refine V_iload_n (pc := 69) (DCa dc_Read_takePart_0 38 rfl) rfl 1 rfl ?_
    refine V_aload_n (pc := 70) (DCa dc_Read_takePart_0 39 rfl) rfl 0 rfl ?_
    refine V_iconst (pc := 71) (DCa dc_Read_takePart_0 40 rfl) (by decide) ?_
    refine V_bipush (pc := 72) (DCa dc_Read_takePart_0 41 rfl) (by decide) ?_
    refine Q_callv (ci := 3) (st := [(0, v2), (2, v18)]) (pc := 74) (DCa dc_Read_takePart_0 42 rfl) (sp_Read_takeNumber F _ _ _ _) ce_Read_takeNumber ml_3_128 rfl rfl ⟨Nat.le_of_ble_eq_true rfl, Nat.le_of_ble_eq_true rfl⟩ rfl (Nat.le_of_ble_eq_true rfl) (fun r19 h20 => ?_)
    refine Q_iastore (pc := 77) (DCa dc_Read_takePart_0 43 rfl) (fun h21 => ?_)
    refine V_aload_n (pc := 78) (DCa dc_Read_takePart_0 44 rfl) rfl 0 rfl ?_
    refine Q_getf (k := 5) (pc := 79) (DCa dc_Read_takePart_0 45 rfl) cls_3 (Nat.le_of_ble_eq_true rfl) fl_3_31 rfl rfl rfl (fun v22 => ?_)
    refine Q_getf (k := 3) (pc := 82) (DCa dc_Read_takePart_0 46 rfl) cls_6 (Nat.le_of_ble_eq_true rfl) fl_3_164 rfl rfl rfl (fun v23 => ?_)
    refine V_iload_n (pc := 85) (DCa dc_Read_takePart_0 47 rfl) rfl 1 rfl ?_
    refine V_aload_n (pc := 86) (DCa dc_Read_takePart_0 48 rfl) rfl 0 rfl ?_
    refine V_iconst (pc := 87) (DCa dc_Read_takePart_0 49 rfl) (by decide) ?_
    refine V_bipush (pc := 88) (DCa dc_Read_takePart_1 0 rfl) (by decide) ?_
    refine Q_callv (ci := 3) (st := [(0, v2), (2, v23)]) (pc := 90) (DCa dc_Read_takePart_1 1 rfl) (sp_Read_takeNumber F _ _ _ _) ce_Read_takeNumber ml_3_128 rfl rfl ⟨Nat.le_of_ble_eq_true rfl, Nat.le_of_ble_eq_true rfl⟩ rfl (Nat.le_of_ble_eq_true rfl) (fun r24 h25 => ?_)
    refine Q_iastore (pc := 93) (DCa dc_Read_takePart_1 2 rfl) (fun h26 => ?_)
    refine V_aload_n (pc := 94) (DCa dc_Read_takePart_1 3 rfl) rfl 0 rfl ?_
    refine Q_getf (k := 5) (pc := 95) (DCa dc_Read_takePart_1 4 rfl) cls_3 (Nat.le_of_ble_eq_true rfl) fl_3_31 rfl rfl rfl (fun v27 => ?_)
    refine V_dup (pc := 98) (DCa dc_Read_takePart_1 5 rfl) rfl ?_
    refine Q_getf (k := 4) (pc := 99) (DCa dc_Read_takePart_1 6 rfl) cls_6 (Nat.le_of_ble_eq_true rfl) fl_3_149 rfl rfl rfl (fun v28 => ?_)
    refine V_iconst (pc := 102) (DCa dc_Read_takePart_1 7 rfl) (by decide) ?_
    refine V_iadd (pc := 103) (DCa dc_Read_takePart_1 8 rfl) ?_
    refine Q_putf (k := 4) (pc := 104) (DCa dc_Read_takePart_1 9 rfl) cls_6 (Nat.le_of_ble_eq_true rfl) fl_3_149 rfl rfl rfl (Or.inl rfl) (Or.inl ⟨rfl, rfl⟩) (fun h29 => ?_)
    exact V_return (pc := 107) (DCa dc_Read_takePart_1 10 rfl) rfl
  · refine V_aload_n (pc := 14) (DCa dc_Read_takePart_0 7 rfl) rfl 0 rfl ?_
    refine V_iconst (pc := 15) (DCa dc_Read_takePart_0 8 rfl) (by decide) ?_
    refine Q_callv (ci := 3) (st := []) (pc := 16) (DCa dc_Read_takePart_0 9 rfl) (sp_Read_fail F _ _ _) ce_Read_fail ml_3_146 rfl rfl ⟨Nat.le_of_ble_eq_true rfl, Nat.le_of_ble_eq_true rfl⟩ rfl (Nat.le_of_ble_eq_true rfl) (fun r30 h31 => ?_)
    exact V_return (pc := 19) (DCa dc_Read_takePart_0 10 rfl) rfl
theorem sp_Read_takePart (F : Nat) (l0 : Int) (h : Hp) : Sp yX3_takePart cX3_takePart 2 none 3 66 [(2, l0)] h (Read_takePart F l0 h) := Sp_of (by decide +kernel) rfl rfl (Nat.le_of_ble_eq_true rfl) (v_Read_takePart F l0 h)

-- TideRakes$Reader.takeWorker
def Read_takeWorker (F : Nat) (l0 : Int) (h : Hp) : Option (Int × Hp) :=
  gf h l0 103 5 fun v1 =>
  gf h v1 106 8 fun v2 =>
  if v2 < 3 then
    (iv h l0 103 (Read_accept F l0 1 h) fun r3 h4 =>
    iv h4 l0 103 (Read_takeName F l0 h4) fun r5 h6 =>
    gf h6 l0 103 5 fun v7 =>
    gf h6 v7 106 5 fun v8 =>
    iv h6 l0 103 (Read_takeNumber F l0 0 99 h6) fun r9 h10 =>
    as h10 v8 0 v2 r9 fun h11 =>
    gf h11 l0 103 5 fun v12 =>
    gf h11 v12 106 6 fun v13 =>
    iv h11 l0 103 (Read_takeNumber F l0 0 99 h11) fun r14 h15 =>
    as h15 v13 0 v2 r14 fun h16 =>
    gf h16 l0 103 5 fun v17 =>
    gf h16 v17 106 7 fun v18 =>
    iv h16 l0 103 (Read_takeNumber F l0 1 20 h16) fun r19 h20 =>
    as h20 v18 0 v2 r19 fun h21 =>
    gf h21 l0 103 5 fun v22 =>
    gf h21 v22 106 8 fun v23 =>
    pf h21 v22 106 8 (w32 (v23 + 1)) fun h24 =>
    some (0, h24))
  else
    (iv h l0 103 (Read_fail F l0 2 h) fun r25 h26 =>
    some (0, h26))

theorem dc_Read_takeWorker_0 : ∀ q ∈ ([(0, .aload_n 0, 1), (1, .getfield 31, 3), (4, .getfield 167, 3), (7, .istore_n 1, 1), (8, .iload_n 1, 1), (9, .iconst 3, 1), (10, .if_icmp .lt 9, 3), (13, .aload_n 0, 1), (14, .iconst 2, 1), (15, .invokevirtual 146, 3), (18, .return_, 1), (19, .aload_n 0, 1), (20, .iconst 1, 1), (21, .invokevirtual 125, 3), (24, .pop, 1), (25, .aload_n 0, 1), (26, .invokevirtual 152, 3), (29, .aload_n 0, 1), (30, .getfield 31, 3), (33, .getfield 170, 3), (36, .iload_n 1, 1), (37, .aload_n 0, 1), (38, .iconst 0, 1), (39, .bipush 99, 2), (41, .invokevirtual 128, 3), (44, .iastore, 1), (45, .aload_n 0, 1), (46, .getfield 31, 3), (49, .getfield 173, 3), (52, .iload_n 1, 1), (53, .aload_n 0, 1), (54, .iconst 0, 1), (55, .bipush 99, 2), (57, .invokevirtual 128, 3), (60, .iastore, 1), (61, .aload_n 0, 1), (62, .getfield 31, 3), (65, .getfield 176, 3), (68, .iload_n 1, 1), (69, .aload_n 0, 1), (70, .iconst 1, 1), (71, .bipush 20, 2), (73, .invokevirtual 128, 3), (76, .iastore, 1), (77, .aload_n 0, 1), (78, .getfield 31, 3), (81, .dup, 1), (82, .getfield 167, 3), (85, .iconst 1, 1), (86, .iadd, 1)] : List (Nat × Instr × Nat)), decode cX3_takeWorker q.1 = .ok (q.2.1, q.2.2) := by decide +kernel
theorem dc_Read_takeWorker_1 : ∀ q ∈ ([(87, .putfield 167, 3), (90, .return_, 1)] : List (Nat × Instr × Nat)), decode cX3_takeWorker q.1 = .ok (q.2.1, q.2.2) := by decide +kernel
abbrev X_Read_takeWorker : MX := (cX3_takeWorker, RX3, "takeWorker", 2, none, 3, 66)
theorem v_Read_takeWorker (F : Nat) (l0 : Int) (h : Hp) : V X_Read_takeWorker 0 [(0, 2, l0)] [] h (Read_takeWorker F l0 h) := by
  unfold Read_takeWorker
  refine V_aload_n (pc := 0) (DCa dc_Read_takeWorker_0 0 rfl) rfl 0 rfl ?_
  refine Q_getf (k := 5) (pc := 1) (DCa dc_Read_takeWorker_0 1 rfl) cls_3 (Nat.le_of_ble_eq_true rfl) fl_3_31 rfl rfl rfl (fun v1 => ?_)
  refine Q_getf (k := 8) (pc := 4) (DCa dc_Read_takeWorker_0 2 rfl) cls_6 (Nat.le_of_ble_eq_true rfl) fl_3_167 rfl rfl rfl (fun v2 => ?_)
  refine V_istore_n (ls' := [(0, 2, l0), (1, 0, v2)]) (pc := 7) (DCa dc_Read_takeWorker_0 3 rfl) rfl (Nat.le_of_ble_eq_true rfl) rfl ?_
  refine V_iload_n (pc := 8) (DCa dc_Read_takeWorker_0 4 rfl) rfl 1 rfl ?_
  refine V_iconst (pc := 9) (DCa dc_Read_takeWorker_0 5 rfl) (by decide) ?_
  refine V_icmp_lt (tgt := 19) (pc := 10) (DCa dc_Read_takeWorker_0 6 rfl) (by decide) (fun _ => ?_) (fun _ => ?_)
  · refine V_aload_n (pc := 19) (DCa dc_Read_takeWorker_0 11 rfl) rfl 0 rfl ?_
    refine V_iconst (pc := 20) (DCa dc_Read_takeWorker_0 12 rfl) (by decide) ?_
    refine Q_callv (ci := 3) (st := []) (pc := 21) (DCa dc_Read_takeWorker_0 13 rfl) (sp_Read_accept F _ _ _) ce_Read_accept ml_3_125 rfl rfl ⟨Nat.le_of_ble_eq_true rfl, Nat.le_of_ble_eq_true rfl⟩ rfl (Nat.le_of_ble_eq_true rfl) (fun r3 h4 => ?_)
    refine V_pop (pc := 24) (DCa dc_Read_takeWorker_0 14 rfl) rfl ?_
    refine V_aload_n (pc := 25) (DCa dc_Read_takeWorker_0 15 rfl) rfl 0 rfl ?_
    refine Q_callv (ci := 3) (st := []) (pc := 26) (DCa dc_Read_takeWorker_0 16 rfl) (sp_Read_takeName F _ _) ce_Read_takeName ml_3_152 rfl rfl ⟨Nat.le_of_ble_eq_true rfl, Nat.le_of_ble_eq_true rfl⟩ rfl (Nat.le_of_ble_eq_true rfl) (fun r5 h6 => ?_)
    refine V_aload_n (pc := 29) (DCa dc_Read_takeWorker_0 17 rfl) rfl 0 rfl ?_
    refine Q_getf (k := 5) (pc := 30) (DCa dc_Read_takeWorker_0 18 rfl) cls_3 (Nat.le_of_ble_eq_true rfl) fl_3_31 rfl rfl rfl (fun v7 => ?_)
    refine Q_getf (k := 5) (pc := 33) (DCa dc_Read_takeWorker_0 19 rfl) cls_6 (Nat.le_of_ble_eq_true rfl) fl_3_170 rfl rfl rfl (fun v8 => ?_)
    refine V_iload_n (pc := 36) (DCa dc_Read_takeWorker_0 20 rfl) rfl 1 rfl ?_
    refine V_aload_n (pc := 37) (DCa dc_Read_takeWorker_0 21 rfl) rfl 0 rfl ?_
    refine V_iconst (pc := 38) (DCa dc_Read_takeWorker_0 22 rfl) (by decide) ?_
    refine V_bipush (pc := 39) (DCa dc_Read_takeWorker_0 23 rfl) (by decide) ?_
    refine Q_callv (ci := 3) (st := [(0, v2), (2, v8)]) (pc := 41) (DCa dc_Read_takeWorker_0 24 rfl) (sp_Read_takeNumber F _ _ _ _) ce_Read_takeNumber ml_3_128 rfl rfl ⟨Nat.le_of_ble_eq_true rfl, Nat.le_of_ble_eq_true rfl⟩ rfl (Nat.le_of_ble_eq_true rfl) (fun r9 h10 => ?_)
    refine Q_iastore (pc := 44) (DCa dc_Read_takeWorker_0 25 rfl) (fun h11 => ?_)
    refine V_aload_n (pc := 45) (DCa dc_Read_takeWorker_0 26 rfl) rfl 0 rfl ?_
    refine Q_getf (k := 5) (pc := 46) (DCa dc_Read_takeWorker_0 27 rfl) cls_3 (Nat.le_of_ble_eq_true rfl) fl_3_31 rfl rfl rfl (fun v12 => ?_)
    refine Q_getf (k := 6) (pc := 49) (DCa dc_Read_takeWorker_0 28 rfl) cls_6 (Nat.le_of_ble_eq_true rfl) fl_3_173 rfl rfl rfl (fun v13 => ?_)
    refine V_iload_n (pc := 52) (DCa dc_Read_takeWorker_0 29 rfl) rfl 1 rfl ?_
    refine V_aload_n (pc := 53) (DCa dc_Read_takeWorker_0 30 rfl) rfl 0 rfl ?_
    refine V_iconst (pc := 54) (DCa dc_Read_takeWorker_0 31 rfl) (by decide) ?_
    refine V_bipush (pc := 55) (DCa dc_Read_takeWorker_0 32 rfl) (by decide) ?_
    refine Q_callv (ci := 3) (st := [(0, v2), (2, v13)]) (pc := 57) (DCa dc_Read_takeWorker_0 33 rfl) (sp_Read_takeNumber F _ _ _ _) ce_Read_takeNumber ml_3_128 rfl rfl ⟨Nat.le_of_ble_eq_true rfl, Nat.le_of_ble_eq_true rfl⟩ rfl (Nat.le_of_ble_eq_true rfl) (fun r14 h15 => ?_)
    refine Q_iastore (pc := 60) (DCa dc_Read_takeWorker_0 34 rfl) (fun h16 => ?_)
    refine V_aload_n (pc := 61) (DCa dc_Read_takeWorker_0 35 rfl) rfl 0 rfl ?_
    refine Q_getf (k := 5) (pc := 62) (DCa dc_Read_takeWorker_0 36 rfl) cls_3 (Nat.le_of_ble_eq_true rfl) fl_3_31 rfl rfl rfl (fun v17 => ?_)
    refine Q_getf (k := 7) (pc := 65) (DCa dc_Read_takeWorker_0 37 rfl) cls_6 (Nat.le_of_ble_eq_true rfl) fl_3_176 rfl rfl rfl (fun v18 => ?_)
    refine V_iload_n (pc := 68) (DCa dc_Read_takeWorker_0 38 rfl) rfl 1 rfl ?_
    refine V_aload_n (pc := 69) (DCa dc_Read_takeWorker_0 39 rfl) rfl 0 rfl ?_
    refine V_iconst (pc := 70) (DCa dc_Read_takeWorker_0 40 rfl) (by decide) ?_
    refine V_bipush (pc := 71) (DCa dc_Read_takeWorker_0 41 rfl) (by decide) ?_
    refine Q_callv (ci := 3) (st := [(0, v2), (2, v18)]) (pc := 73) (DCa dc_Read_takeWorker_0 42 rfl) (sp_Read_takeNumber F _ _ _ _) ce_Read_takeNumber ml_3_128 rfl rfl ⟨Nat.le_of_ble_eq_true rfl, Nat.le_of_ble_eq_true rfl⟩ rfl (Nat.le_of_ble_eq_true rfl) (fun r19 h20 => ?_)
    refine Q_iastore (pc := 76) (DCa dc_Read_takeWorker_0 43 rfl) (fun h21 => ?_)
    refine V_aload_n (pc := 77) (DCa dc_Read_takeWorker_0 44 rfl) rfl 0 rfl ?_
    refine Q_getf (k := 5) (pc := 78) (DCa dc_Read_takeWorker_0 45 rfl) cls_3 (Nat.le_of_ble_eq_true rfl) fl_3_31 rfl rfl rfl (fun v22 => ?_)
    refine V_dup (pc := 81) (DCa dc_Read_takeWorker_0 46 rfl) rfl ?_
    refine Q_getf (k := 8) (pc := 82) (DCa dc_Read_takeWorker_0 47 rfl) cls_6 (Nat.le_of_ble_eq_true rfl) fl_3_167 rfl rfl rfl (fun v23 => ?_)
    refine V_iconst (pc := 85) (DCa dc_Read_takeWorker_0 48 rfl) (by decide) ?_
    refine V_iadd (pc := 86) (DCa dc_Read_takeWorker_0 49 rfl) ?_
    refine Q_putf (k := 8) (pc := 87) (DCa dc_Read_takeWorker_1 0 rfl) cls_6 (Nat.le_of_ble_eq_true rfl) fl_3_167 rfl rfl rfl (Or.inl rfl) (Or.inl ⟨rfl, rfl⟩) (fun h24 => ?_)
    exact V_return (pc := 90) (DCa dc_Read_takeWorker_1 1 rfl) rfl
  · refine V_aload_n (pc := 13) (DCa dc_Read_takeWorker_0 7 rfl) rfl 0 rfl ?_
    refine V_iconst (pc := 14) (DCa dc_Read_takeWorker_0 8 rfl) (by decide) ?_
    refine Q_callv (ci := 3) (st := []) (pc := 15) (DCa dc_Read_takeWorker_0 9 rfl) (sp_Read_fail F _ _ _) ce_Read_fail ml_3_146 rfl rfl ⟨Nat.le_of_ble_eq_true rfl, Nat.le_of_ble_eq_true rfl⟩ rfl (Nat.le_of_ble_eq_true rfl) (fun r25 h26 => ?_)
    exact V_return (pc := 18) (DCa dc_Read_takeWorker_0 10 rfl) rfl
theorem sp_Read_takeWorker (F : Nat) (l0 : Int) (h : Hp) : Sp yX3_takeWorker cX3_takeWorker 2 none 3 66 [(2, l0)] h (Read_takeWorker F l0 h) := Sp_of (by decide +kernel) rfl rfl (Nat.le_of_ble_eq_true rfl) (v_Read_takeWorker F l0 h)

-- TideRakes$Reader.takeTell
def Read_takeTell_B175 (F : Nat)  (l0 : Int) (h : Hp) : Option (Int × Hp) :=
  iv h l0 103 (Read_accept F l0 59 h) fun r10 h11 =>
  some (0, h11)
def Read_takeTell_B52 (F : Nat)  (l0 l1 : Int) (h : Hp) : Option (Int × Hp) :=
  if l1 = 7 then
    (iv h l0 103 (Read_accept F l0 l1 h) fun r12 h13 =>
    gf h13 l0 103 5 fun v14 =>
    iv h13 l0 103 (Read_takeNumber F l0 1 600 h13) fun r15 h16 =>
    pf h16 v14 106 9 r15 fun h17 =>
    gf h17 l0 103 5 fun v18 =>
    iv h17 l0 103 (Read_takeNumber F l0 1 600 h17) fun r19 h20 =>
    pf h20 v18 106 10 r19 fun h21 =>
    Read_takeTell_B175 F l0 h21)
  else
    (if l1 = 8 then
      (iv h l0 103 (Read_accept F l0 l1 h) fun r22 h23 =>
      gf h23 l0 103 5 fun v24 =>
      iv h23 l0 103 (Read_takeNumber F l0 0 99 h23) fun r25 h26 =>
      pf h26 v24 106 11 r25 fun h27 =>
      gf h27 l0 103 5 fun v28 =>
      iv h27 l0 103 (Read_takeNumber F l0 0 99 h27) fun r29 h30 =>
      pf h30 v28 106 12 r29 fun h31 =>
      Read_takeTell_B175 F l0 h31)
    else
      (if l1 = 9 then
        (iv h l0 103 (Read_accept F l0 l1 h) fun r32 h33 =>
        gf h33 l0 103 5 fun v34 =>
        iv h33 l0 103 (Read_takeNumber F l0 0 9999 h33) fun r35 h36 =>
        pf h36 v34 106 13 r35 fun h37 =>
        Read_takeTell_B175 F l0 h37)
      else
        (iv h l0 103 (Read_fail F l0 1 h) fun r38 h39 =>
        Read_takeTell_B175 F l0 h39)))
def Read_takeTell (F : Nat) (l0 : Int) (h : Hp) : Option (Int × Hp) :=
  gf h l0 103 1 fun v1 =>
  gf h l0 103 7 fun v2 =>
  al h v1 0 v2 fun v3 =>
  if v3 = 0 then
    (iv h l0 103 (Read_takePart F l0 h) fun r4 h5 =>
    Read_takeTell_B175 F l0 h5)
  else
    (if v3 = 1 then
      (iv h l0 103 (Read_takeWorker F l0 h) fun r6 h7 =>
      Read_takeTell_B175 F l0 h7)
    else
      (if v3 < 2 then
        (Read_takeTell_B52 F l0 v3 h)
      else
        (if 6 < v3 then
          (Read_takeTell_B52 F l0 v3 h)
        else
          (iv h l0 103 (Read_takeLaw F l0 v3 h) fun r8 h9 =>
          Read_takeTell_B175 F l0 h9))))

theorem dc_Read_takeTell_0 : ∀ q ∈ ([(0, .aload_n 0, 1), (1, .getfield 15, 3), (4, .aload_n 0, 1), (5, .getfield 62, 3), (8, .iaload, 1), (9, .istore_n 1, 1), (10, .iload_n 1, 1), (11, .ifCond .ne 10, 3), (14, .aload_n 0, 1), (15, .invokevirtual 115, 3), (18, .goto 157, 3), (21, .iload_n 1, 1), (22, .iconst 1, 1), (23, .if_icmp .ne 10, 3), (26, .aload_n 0, 1), (27, .invokevirtual 118, 3), (30, .goto 145, 3), (33, .iload_n 1, 1), (34, .iconst 2, 1), (35, .if_icmp .lt 17, 3), (38, .iload_n 1, 1), (39, .bipush 6, 2), (41, .if_icmp .gt 11, 3), (44, .aload_n 0, 1), (45, .iload_n 1, 1), (46, .invokevirtual 121, 3), (49, .goto 126, 3), (52, .iload_n 1, 1), (53, .bipush 7, 2), (55, .if_icmp .ne 42, 3), (58, .aload_n 0, 1), (59, .iload_n 1, 1), (60, .invokevirtual 125, 3), (63, .pop, 1), (64, .aload_n 0, 1), (65, .getfield 31, 3), (68, .aload_n 0, 1), (69, .iconst 1, 1), (70, .sipush 600, 3), (73, .invokevirtual 128, 3), (76, .putfield 131, 3), (79, .aload_n 0, 1), (80, .getfield 31, 3), (83, .aload_n 0, 1), (84, .iconst 1, 1), (85, .sipush 600, 3), (88, .invokevirtual 128, 3), (91, .putfield 134, 3), (94, .goto 81, 3), (97, .iload_n 1, 1)] : List (Nat × Instr × Nat)), decode cX3_takeTell q.1 = .ok (q.2.1, q.2.2) := by decide +kernel
theorem dc_Read_takeTell_1 : ∀ q ∈ ([(98, .bipush 8, 2), (100, .if_icmp .ne 40, 3), (103, .aload_n 0, 1), (104, .iload_n 1, 1), (105, .invokevirtual 125, 3), (108, .pop, 1), (109, .aload_n 0, 1), (110, .getfield 31, 3), (113, .aload_n 0, 1), (114, .iconst 0, 1), (115, .bipush 99, 2), (117, .invokevirtual 128, 3), (120, .putfield 137, 3), (123, .aload_n 0, 1), (124, .getfield 31, 3), (127, .aload_n 0, 1), (128, .iconst 0, 1), (129, .bipush 99, 2), (131, .invokevirtual 128, 3), (134, .putfield 140, 3), (137, .goto 38, 3), (140, .iload_n 1, 1), (141, .bipush 9, 2), (143, .if_icmp .ne 27, 3), (146, .aload_n 0, 1), (147, .iload_n 1, 1), (148, .invokevirtual 125, 3), (151, .pop, 1), (152, .aload_n 0, 1), (153, .getfield 31, 3), (156, .aload_n 0, 1), (157, .iconst 0, 1), (158, .sipush 9999, 3), (161, .invokevirtual 128, 3), (164, .putfield 143, 3), (167, .goto 8, 3), (170, .aload_n 0, 1), (171, .iconst 1, 1), (172, .invokevirtual 146, 3), (175, .aload_n 0, 1), (176, .bipush 59, 2), (178, .invokevirtual 125, 3), (181, .pop, 1), (182, .return_, 1)] : List (Nat × Instr × Nat)), decode cX3_takeTell q.1 = .ok (q.2.1, q.2.2) := by decide +kernel
abbrev X_Read_takeTell : MX := (cX3_takeTell, RX3, "takeTell", 2, none, 50, 1487)
theorem v_Read_takeTell_B175 (F : Nat)  (l0 : Int) (h : Hp) : V X_Read_takeTell 175 [(0, 2, l0)] [] h (Read_takeTell_B175 F  l0 h) := by
  unfold Read_takeTell_B175
  refine V_aload_n (pc := 175) (DCa dc_Read_takeTell_1 39 rfl) rfl 0 rfl ?_
  refine V_bipush (pc := 176) (DCa dc_Read_takeTell_1 40 rfl) (by decide) ?_
  refine Q_callv (ci := 3) (st := []) (pc := 178) (DCa dc_Read_takeTell_1 41 rfl) (sp_Read_accept F _ _ _) ce_Read_accept ml_3_125 rfl rfl ⟨Nat.le_of_ble_eq_true rfl, Nat.le_of_ble_eq_true rfl⟩ rfl (Nat.le_of_ble_eq_true rfl) (fun r10 h11 => ?_)
  refine V_pop (pc := 181) (DCa dc_Read_takeTell_1 42 rfl) rfl ?_
  exact V_return (pc := 182) (DCa dc_Read_takeTell_1 43 rfl) rfl
theorem v_Read_takeTell_B52 (F : Nat)  (l0 l1 : Int) (h : Hp) : V X_Read_takeTell 52 [(0, 2, l0), (1, 0, l1)] [] h (Read_takeTell_B52 F  l0 l1 h) := by
  unfold Read_takeTell_B52
  refine V_iload_n (pc := 52) (DCa dc_Read_takeTell_0 27 rfl) rfl 1 rfl ?_
  refine V_bipush (pc := 53) (DCa dc_Read_takeTell_0 28 rfl) (by decide) ?_
  refine V_icmp_ne (tgt := 97) (pc := 55) (DCa dc_Read_takeTell_0 29 rfl) (by decide) (fun _ => ?_) (fun _ => ?_)
  · refine V_aload_n (pc := 58) (DCa dc_Read_takeTell_0 30 rfl) rfl 0 rfl ?_
    refine V_iload_n (pc := 59) (DCa dc_Read_takeTell_0 31 rfl) rfl 1 rfl ?_
    refine Q_callv (ci := 3) (st := []) (pc := 60) (DCa dc_Read_takeTell_0 32 rfl) (sp_Read_accept F _ _ _) ce_Read_accept ml_3_125 rfl rfl ⟨Nat.le_of_ble_eq_true rfl, Nat.le_of_ble_eq_true rfl⟩ rfl (Nat.le_of_ble_eq_true rfl) (fun r12 h13 => ?_)
    refine V_pop (pc := 63) (DCa dc_Read_takeTell_0 33 rfl) rfl ?_
    refine V_aload_n (pc := 64) (DCa dc_Read_takeTell_0 34 rfl) rfl 0 rfl ?_
    refine Q_getf (k := 5) (pc := 65) (DCa dc_Read_takeTell_0 35 rfl) cls_3 (Nat.le_of_ble_eq_true rfl) fl_3_31 rfl rfl rfl (fun v14 => ?_)
    refine V_aload_n (pc := 68) (DCa dc_Read_takeTell_0 36 rfl) rfl 0 rfl ?_
    refine V_iconst (pc := 69) (DCa dc_Read_takeTell_0 37 rfl) (by decide) ?_
    refine V_sipush (pc := 70) (DCa dc_Read_takeTell_0 38 rfl) (by decide) ?_
    refine Q_callv (ci := 3) (st := [(2, v14)]) (pc := 73) (DCa dc_Read_takeTell_0 39 rfl) (sp_Read_takeNumber F _ _ _ _) ce_Read_takeNumber ml_3_128 rfl rfl ⟨Nat.le_of_ble_eq_true rfl, Nat.le_of_ble_eq_true rfl⟩ rfl (Nat.le_of_ble_eq_true rfl) (fun r15 h16 => ?_)
    refine Q_putf (k := 9) (pc := 76) (DCa dc_Read_takeTell_0 40 rfl) cls_6 (Nat.le_of_ble_eq_true rfl) fl_3_131 rfl rfl rfl (Or.inl rfl) (Or.inl ⟨rfl, rfl⟩) (fun h17 => ?_)
    refine V_aload_n (pc := 79) (DCa dc_Read_takeTell_0 41 rfl) rfl 0 rfl ?_
    refine Q_getf (k := 5) (pc := 80) (DCa dc_Read_takeTell_0 42 rfl) cls_3 (Nat.le_of_ble_eq_true rfl) fl_3_31 rfl rfl rfl (fun v18 => ?_)
    refine V_aload_n (pc := 83) (DCa dc_Read_takeTell_0 43 rfl) rfl 0 rfl ?_
    refine V_iconst (pc := 84) (DCa dc_Read_takeTell_0 44 rfl) (by decide) ?_
    refine V_sipush (pc := 85) (DCa dc_Read_takeTell_0 45 rfl) (by decide) ?_
    refine Q_callv (ci := 3) (st := [(2, v18)]) (pc := 88) (DCa dc_Read_takeTell_0 46 rfl) (sp_Read_takeNumber F _ _ _ _) ce_Read_takeNumber ml_3_128 rfl rfl ⟨Nat.le_of_ble_eq_true rfl, Nat.le_of_ble_eq_true rfl⟩ rfl (Nat.le_of_ble_eq_true rfl) (fun r19 h20 => ?_)
    refine Q_putf (k := 10) (pc := 91) (DCa dc_Read_takeTell_0 47 rfl) cls_6 (Nat.le_of_ble_eq_true rfl) fl_3_134 rfl rfl rfl (Or.inl rfl) (Or.inl ⟨rfl, rfl⟩) (fun h21 => ?_)
    refine V_goto (tgt := 175) (pc := 94) (DCa dc_Read_takeTell_0 48 rfl) (by decide) ?_
    refine V_pick [0] rfl ?_
    exact v_Read_takeTell_B175 F _ _
  · refine V_iload_n (pc := 97) (DCa dc_Read_takeTell_0 49 rfl) rfl 1 rfl ?_
    refine V_bipush (pc := 98) (DCa dc_Read_takeTell_1 0 rfl) (by decide) ?_
    refine V_icmp_ne (tgt := 140) (pc := 100) (DCa dc_Read_takeTell_1 1 rfl) (by decide) (fun _ => ?_) (fun _ => ?_)
    · refine V_aload_n (pc := 103) (DCa dc_Read_takeTell_1 2 rfl) rfl 0 rfl ?_
      refine V_iload_n (pc := 104) (DCa dc_Read_takeTell_1 3 rfl) rfl 1 rfl ?_
      refine Q_callv (ci := 3) (st := []) (pc := 105) (DCa dc_Read_takeTell_1 4 rfl) (sp_Read_accept F _ _ _) ce_Read_accept ml_3_125 rfl rfl ⟨Nat.le_of_ble_eq_true rfl, Nat.le_of_ble_eq_true rfl⟩ rfl (Nat.le_of_ble_eq_true rfl) (fun r22 h23 => ?_)
      refine V_pop (pc := 108) (DCa dc_Read_takeTell_1 5 rfl) rfl ?_
      refine V_aload_n (pc := 109) (DCa dc_Read_takeTell_1 6 rfl) rfl 0 rfl ?_
      refine Q_getf (k := 5) (pc := 110) (DCa dc_Read_takeTell_1 7 rfl) cls_3 (Nat.le_of_ble_eq_true rfl) fl_3_31 rfl rfl rfl (fun v24 => ?_)
      refine V_aload_n (pc := 113) (DCa dc_Read_takeTell_1 8 rfl) rfl 0 rfl ?_
      refine V_iconst (pc := 114) (DCa dc_Read_takeTell_1 9 rfl) (by decide) ?_
      refine V_bipush (pc := 115) (DCa dc_Read_takeTell_1 10 rfl) (by decide) ?_
      refine Q_callv (ci := 3) (st := [(2, v24)]) (pc := 117) (DCa dc_Read_takeTell_1 11 rfl) (sp_Read_takeNumber F _ _ _ _) ce_Read_takeNumber ml_3_128 rfl rfl ⟨Nat.le_of_ble_eq_true rfl, Nat.le_of_ble_eq_true rfl⟩ rfl (Nat.le_of_ble_eq_true rfl) (fun r25 h26 => ?_)
      refine Q_putf (k := 11) (pc := 120) (DCa dc_Read_takeTell_1 12 rfl) cls_6 (Nat.le_of_ble_eq_true rfl) fl_3_137 rfl rfl rfl (Or.inl rfl) (Or.inl ⟨rfl, rfl⟩) (fun h27 => ?_)
      refine V_aload_n (pc := 123) (DCa dc_Read_takeTell_1 13 rfl) rfl 0 rfl ?_
      refine Q_getf (k := 5) (pc := 124) (DCa dc_Read_takeTell_1 14 rfl) cls_3 (Nat.le_of_ble_eq_true rfl) fl_3_31 rfl rfl rfl (fun v28 => ?_)
      refine V_aload_n (pc := 127) (DCa dc_Read_takeTell_1 15 rfl) rfl 0 rfl ?_
      refine V_iconst (pc := 128) (DCa dc_Read_takeTell_1 16 rfl) (by decide) ?_
      refine V_bipush (pc := 129) (DCa dc_Read_takeTell_1 17 rfl) (by decide) ?_
      refine Q_callv (ci := 3) (st := [(2, v28)]) (pc := 131) (DCa dc_Read_takeTell_1 18 rfl) (sp_Read_takeNumber F _ _ _ _) ce_Read_takeNumber ml_3_128 rfl rfl ⟨Nat.le_of_ble_eq_true rfl, Nat.le_of_ble_eq_true rfl⟩ rfl (Nat.le_of_ble_eq_true rfl) (fun r29 h30 => ?_)
      refine Q_putf (k := 12) (pc := 134) (DCa dc_Read_takeTell_1 19 rfl) cls_6 (Nat.le_of_ble_eq_true rfl) fl_3_140 rfl rfl rfl (Or.inl rfl) (Or.inl ⟨rfl, rfl⟩) (fun h31 => ?_)
      refine V_goto (tgt := 175) (pc := 137) (DCa dc_Read_takeTell_1 20 rfl) (by decide) ?_
      refine V_pick [0] rfl ?_
      exact v_Read_takeTell_B175 F _ _
    · refine V_iload_n (pc := 140) (DCa dc_Read_takeTell_1 21 rfl) rfl 1 rfl ?_
      refine V_bipush (pc := 141) (DCa dc_Read_takeTell_1 22 rfl) (by decide) ?_
      refine V_icmp_ne (tgt := 170) (pc := 143) (DCa dc_Read_takeTell_1 23 rfl) (by decide) (fun _ => ?_) (fun _ => ?_)
      · refine V_aload_n (pc := 146) (DCa dc_Read_takeTell_1 24 rfl) rfl 0 rfl ?_
        refine V_iload_n (pc := 147) (DCa dc_Read_takeTell_1 25 rfl) rfl 1 rfl ?_
        refine Q_callv (ci := 3) (st := []) (pc := 148) (DCa dc_Read_takeTell_1 26 rfl) (sp_Read_accept F _ _ _) ce_Read_accept ml_3_125 rfl rfl ⟨Nat.le_of_ble_eq_true rfl, Nat.le_of_ble_eq_true rfl⟩ rfl (Nat.le_of_ble_eq_true rfl) (fun r32 h33 => ?_)
        refine V_pop (pc := 151) (DCa dc_Read_takeTell_1 27 rfl) rfl ?_
        refine V_aload_n (pc := 152) (DCa dc_Read_takeTell_1 28 rfl) rfl 0 rfl ?_
        refine Q_getf (k := 5) (pc := 153) (DCa dc_Read_takeTell_1 29 rfl) cls_3 (Nat.le_of_ble_eq_true rfl) fl_3_31 rfl rfl rfl (fun v34 => ?_)
        refine V_aload_n (pc := 156) (DCa dc_Read_takeTell_1 30 rfl) rfl 0 rfl ?_
        refine V_iconst (pc := 157) (DCa dc_Read_takeTell_1 31 rfl) (by decide) ?_
        refine V_sipush (pc := 158) (DCa dc_Read_takeTell_1 32 rfl) (by decide) ?_
        refine Q_callv (ci := 3) (st := [(2, v34)]) (pc := 161) (DCa dc_Read_takeTell_1 33 rfl) (sp_Read_takeNumber F _ _ _ _) ce_Read_takeNumber ml_3_128 rfl rfl ⟨Nat.le_of_ble_eq_true rfl, Nat.le_of_ble_eq_true rfl⟩ rfl (Nat.le_of_ble_eq_true rfl) (fun r35 h36 => ?_)
        refine Q_putf (k := 13) (pc := 164) (DCa dc_Read_takeTell_1 34 rfl) cls_6 (Nat.le_of_ble_eq_true rfl) fl_3_143 rfl rfl rfl (Or.inl rfl) (Or.inl ⟨rfl, rfl⟩) (fun h37 => ?_)
        refine V_goto (tgt := 175) (pc := 167) (DCa dc_Read_takeTell_1 35 rfl) (by decide) ?_
        refine V_pick [0] rfl ?_
        exact v_Read_takeTell_B175 F _ _
      · refine V_aload_n (pc := 170) (DCa dc_Read_takeTell_1 36 rfl) rfl 0 rfl ?_
        refine V_iconst (pc := 171) (DCa dc_Read_takeTell_1 37 rfl) (by decide) ?_
        refine Q_callv (ci := 3) (st := []) (pc := 172) (DCa dc_Read_takeTell_1 38 rfl) (sp_Read_fail F _ _ _) ce_Read_fail ml_3_146 rfl rfl ⟨Nat.le_of_ble_eq_true rfl, Nat.le_of_ble_eq_true rfl⟩ rfl (Nat.le_of_ble_eq_true rfl) (fun r38 h39 => ?_)
        refine V_pick [0] rfl ?_
        exact v_Read_takeTell_B175 F _ _
theorem v_Read_takeTell (F : Nat) (l0 : Int) (h : Hp) : V X_Read_takeTell 0 [(0, 2, l0)] [] h (Read_takeTell F l0 h) := by
  unfold Read_takeTell
  refine V_aload_n (pc := 0) (DCa dc_Read_takeTell_0 0 rfl) rfl 0 rfl ?_
  refine Q_getf (k := 1) (pc := 1) (DCa dc_Read_takeTell_0 1 rfl) cls_3 (Nat.le_of_ble_eq_true rfl) fl_3_15 rfl rfl rfl (fun v1 => ?_)
  refine V_aload_n (pc := 4) (DCa dc_Read_takeTell_0 2 rfl) rfl 0 rfl ?_
  refine Q_getf (k := 7) (pc := 5) (DCa dc_Read_takeTell_0 3 rfl) cls_3 (Nat.le_of_ble_eq_true rfl) fl_3_62 rfl rfl rfl (fun v2 => ?_)
  refine Q_iaload (pc := 8) (DCa dc_Read_takeTell_0 4 rfl) (fun v3 => ?_)
  refine V_istore_n (ls' := [(0, 2, l0), (1, 0, v3)]) (pc := 9) (DCa dc_Read_takeTell_0 5 rfl) rfl (Nat.le_of_ble_eq_true rfl) rfl ?_
  refine V_iload_n (pc := 10) (DCa dc_Read_takeTell_0 6 rfl) rfl 1 rfl ?_
  refine V_if_ne (tgt := 21) (pc := 11) (DCa dc_Read_takeTell_0 7 rfl) (by decide) (fun _ => ?_) (fun _ => ?_)
  · refine V_aload_n (pc := 14) (DCa dc_Read_takeTell_0 8 rfl) rfl 0 rfl ?_
    refine Q_callv (ci := 3) (st := []) (pc := 15) (DCa dc_Read_takeTell_0 9 rfl) (sp_Read_takePart F _ _) ce_Read_takePart ml_3_115 rfl rfl ⟨Nat.le_of_ble_eq_true rfl, Nat.le_of_ble_eq_true rfl⟩ rfl (Nat.le_of_ble_eq_true rfl) (fun r4 h5 => ?_)
    refine V_goto (tgt := 175) (pc := 18) (DCa dc_Read_takeTell_0 10 rfl) (by decide) ?_
    refine V_pick [0] rfl ?_
    exact v_Read_takeTell_B175 F _ _
  · refine V_iload_n (pc := 21) (DCa dc_Read_takeTell_0 11 rfl) rfl 1 rfl ?_
    refine V_iconst (pc := 22) (DCa dc_Read_takeTell_0 12 rfl) (by decide) ?_
    refine V_icmp_ne (tgt := 33) (pc := 23) (DCa dc_Read_takeTell_0 13 rfl) (by decide) (fun _ => ?_) (fun _ => ?_)
    · refine V_aload_n (pc := 26) (DCa dc_Read_takeTell_0 14 rfl) rfl 0 rfl ?_
      refine Q_callv (ci := 3) (st := []) (pc := 27) (DCa dc_Read_takeTell_0 15 rfl) (sp_Read_takeWorker F _ _) ce_Read_takeWorker ml_3_118 rfl rfl ⟨Nat.le_of_ble_eq_true rfl, Nat.le_of_ble_eq_true rfl⟩ rfl (Nat.le_of_ble_eq_true rfl) (fun r6 h7 => ?_)
      refine V_goto (tgt := 175) (pc := 30) (DCa dc_Read_takeTell_0 16 rfl) (by decide) ?_
      refine V_pick [0] rfl ?_
      exact v_Read_takeTell_B175 F _ _
    · refine V_iload_n (pc := 33) (DCa dc_Read_takeTell_0 17 rfl) rfl 1 rfl ?_
      refine V_iconst (pc := 34) (DCa dc_Read_takeTell_0 18 rfl) (by decide) ?_
      refine V_icmp_lt (tgt := 52) (pc := 35) (DCa dc_Read_takeTell_0 19 rfl) (by decide) (fun _ => ?_) (fun _ => ?_)
      · exact v_Read_takeTell_B52 F _ _ _
      · refine V_iload_n (pc := 38) (DCa dc_Read_takeTell_0 20 rfl) rfl 1 rfl ?_
        refine V_bipush (pc := 39) (DCa dc_Read_takeTell_0 21 rfl) (by decide) ?_
        refine V_icmp_gt (tgt := 52) (pc := 41) (DCa dc_Read_takeTell_0 22 rfl) (by decide) (fun _ => ?_) (fun _ => ?_)
        · exact v_Read_takeTell_B52 F _ _ _
        · refine V_aload_n (pc := 44) (DCa dc_Read_takeTell_0 23 rfl) rfl 0 rfl ?_
          refine V_iload_n (pc := 45) (DCa dc_Read_takeTell_0 24 rfl) rfl 1 rfl ?_
          refine Q_callv (ci := 3) (st := []) (pc := 46) (DCa dc_Read_takeTell_0 25 rfl) (sp_Read_takeLaw F _ _ _) ce_Read_takeLaw ml_3_121 rfl rfl ⟨Nat.le_of_ble_eq_true rfl, Nat.le_of_ble_eq_true rfl⟩ rfl (Nat.le_of_ble_eq_true rfl) (fun r8 h9 => ?_)
          refine V_goto (tgt := 175) (pc := 49) (DCa dc_Read_takeTell_0 26 rfl) (by decide) ?_
          refine V_pick [0] rfl ?_
          exact v_Read_takeTell_B175 F _ _
theorem sp_Read_takeTell (F : Nat) (l0 : Int) (h : Hp) : Sp yX3_takeTell cX3_takeTell 2 none 50 1487 [(2, l0)] h (Read_takeTell F l0 h) := Sp_of (by decide +kernel) rfl rfl (Nat.le_of_ble_eq_true rfl) (v_Read_takeTell F l0 h)
