-- TideRakesModel.sharesAll
def Mod_sharesAll_L138s (F : Nat) (R32 : Int → Int → Hp → Option (Int × Hp)) (R138 : Int → Int → Int → Hp → Option (Int × Hp)) (l0 l1 l2 : Int) (h : Hp) : Option (Int × Hp) :=
  if l2 < 256 then
    (gf h l0 112 75 fun v15 =>
    gf h l0 112 76 fun v16 =>
    al h v16 2 l2 fun v17 =>
    az h v15 l2 v17 fun h18 =>
    R138 l0 l1 (w32 (l2 + 1)) h18)
  else
    (R32 l0 (w32 (l1 + 1)) h)
def Mod_sharesAll_L138 (F : Nat) (R32 : Int → Int → Hp → Option (Int × Hp)) : Nat → Int → Int → Int → Hp → Option (Int × Hp)
  | 0 => fun _ _ _ _ => none
  | n + 1 => Mod_sharesAll_L138s F R32 (Mod_sharesAll_L138 F R32 n)
def Mod_sharesAll_L78s (F : Nat) (R32 : Int → Int → Hp → Option (Int × Hp)) (R69 : Int → Int → Int → Hp → Option (Int × Hp)) (R78 : Int → Int → Int → Int → Hp → Option (Int × Hp)) (l0 l1 l2 l3 : Int) (h : Hp) : Option (Int × Hp) :=
  if l3 < 256 then
    (if (iand l2 l3) = 0 then
      (gf h l0 112 75 fun v9 =>
      al h v9 2 l2 fun v10 =>
      if v10 = 0 then
        (R78 l0 l1 l2 (w32 (l3 + 1)) h)
      else
        (gf h l0 112 74 fun v11 =>
        al h v11 2 (w32 ((w32 (256 * l1)) + l3)) fun v12 =>
        if v12 = 0 then
          (R78 l0 l1 l2 (w32 (l3 + 1)) h)
        else
          (gf h l0 112 76 fun v13 =>
          az h v13 (ior l2 l3) 1 fun h14 =>
          R78 l0 l1 l2 (w32 (l3 + 1)) h14)))
    else
      (R78 l0 l1 l2 (w32 (l3 + 1)) h))
  else
    (R69 l0 l1 (w32 (l2 + 1)) h)
def Mod_sharesAll_L78 (F : Nat) (R32 : Int → Int → Hp → Option (Int × Hp)) (R69 : Int → Int → Int → Hp → Option (Int × Hp)) : Nat → Int → Int → Int → Int → Hp → Option (Int × Hp)
  | 0 => fun _ _ _ _ _ => none
  | n + 1 => Mod_sharesAll_L78s F R32 R69 (Mod_sharesAll_L78 F R32 R69 n)
def Mod_sharesAll_L69s (F : Nat) (R32 : Int → Int → Hp → Option (Int × Hp)) (R69 : Int → Int → Int → Hp → Option (Int × Hp)) (l0 l1 l2 : Int) (h : Hp) : Option (Int × Hp) :=
  if l2 < 256 then
    (Mod_sharesAll_L78 F R32 R69 F l0 l1 l2 0 h)
  else
    (Mod_sharesAll_L138 F R32 F l0 l1 0 h)
def Mod_sharesAll_L69 (F : Nat) (R32 : Int → Int → Hp → Option (Int × Hp)) : Nat → Int → Int → Int → Hp → Option (Int × Hp)
  | 0 => fun _ _ _ _ => none
  | n + 1 => Mod_sharesAll_L69s F R32 (Mod_sharesAll_L69 F R32 n)
def Mod_sharesAll_L47s (F : Nat) (R32 : Int → Int → Hp → Option (Int × Hp)) (R47 : Int → Int → Int → Hp → Option (Int × Hp)) (l0 l1 l2 : Int) (h : Hp) : Option (Int × Hp) :=
  if l2 < 256 then
    (gf h l0 112 76 fun v7 =>
    az h v7 l2 0 fun h8 =>
    R47 l0 l1 (w32 (l2 + 1)) h8)
  else
    (Mod_sharesAll_L69 F R32 F l0 l1 0 h)
def Mod_sharesAll_L47 (F : Nat) (R32 : Int → Int → Hp → Option (Int × Hp)) : Nat → Int → Int → Int → Hp → Option (Int × Hp)
  | 0 => fun _ _ _ _ => none
  | n + 1 => Mod_sharesAll_L47s F R32 (Mod_sharesAll_L47 F R32 n)
def Mod_sharesAll_L32s (F : Nat)  (R32 : Int → Int → Hp → Option (Int × Hp)) (l0 l1 : Int) (h : Hp) : Option (Int × Hp) :=
  gf h l0 112 27 fun v4 =>
  gf h l0 112 18 fun v5 =>
  al h v4 0 v5 fun v6 =>
  if l1 < v6 then
    (Mod_sharesAll_L47 F R32 F l0 l1 0 h)
  else
    (some (0, h))
def Mod_sharesAll_L32 (F : Nat)  : Nat → Int → Int → Hp → Option (Int × Hp)
  | 0 => fun _ _ _ => none
  | n + 1 => Mod_sharesAll_L32s F  (Mod_sharesAll_L32 F  n)
def Mod_sharesAll_L2s (F : Nat)  (R2 : Int → Int → Hp → Option (Int × Hp)) (l0 l1 : Int) (h : Hp) : Option (Int × Hp) :=
  if l1 < 256 then
    (gf h l0 112 75 fun v1 =>
    if l1 = 0 then
      (az h v1 l1 1 fun h2 =>
      R2 l0 (w32 (l1 + 1)) h2)
    else
      (az h v1 l1 0 fun h3 =>
      R2 l0 (w32 (l1 + 1)) h3))
  else
    (Mod_sharesAll_L32 F F l0 0 h)
def Mod_sharesAll_L2 (F : Nat)  : Nat → Int → Int → Hp → Option (Int × Hp)
  | 0 => fun _ _ _ => none
  | n + 1 => Mod_sharesAll_L2s F  (Mod_sharesAll_L2 F  n)
def Mod_sharesAll (F : Nat) (l0 : Int) (h : Hp) : Option (Int × Hp) :=
  Mod_sharesAll_L2 F F l0 0 h

theorem dc_Mod_sharesAll_0 : ∀ q ∈ ([(0, .iconst 0, 1), (1, .istore_n 1, 1), (2, .iload_n 1, 1), (3, .sipush 256, 3), (6, .if_icmp .ge 24, 3), (9, .aload_n 0, 1), (10, .getfield 170, 3), (13, .iload_n 1, 1), (14, .iload_n 1, 1), (15, .ifCond .ne 7, 3), (18, .iconst 1, 1), (19, .goto 4, 3), (22, .iconst 0, 1), (23, .bastore, 1), (24, .iinc 1 1, 3), (27, .goto (-25), 3), (30, .iconst 0, 1), (31, .istore_n 1, 1), (32, .iload_n 1, 1), (33, .aload_n 0, 1), (34, .getfield 58, 3), (37, .aload_n 0, 1), (38, .getfield 281, 3), (41, .iaload, 1), (42, .if_icmp .ge 127, 3), (45, .iconst 0, 1), (46, .istore_n 2, 1), (47, .iload_n 2, 1), (48, .sipush 256, 3), (51, .if_icmp .ge 16, 3), (54, .aload_n 0, 1), (55, .getfield 173, 3), (58, .iload_n 2, 1), (59, .iconst 0, 1), (60, .bastore, 1), (61, .iinc 2 1, 3), (64, .goto (-17), 3), (67, .iconst 0, 1), (68, .istore_n 2, 1), (69, .iload_n 2, 1), (70, .sipush 256, 3), (73, .if_icmp .ge 63, 3), (76, .iconst 0, 1), (77, .istore_n 3, 1), (78, .iload_n 3, 1), (79, .sipush 256, 3), (82, .if_icmp .ge 48, 3), (85, .iload_n 2, 1), (86, .iload_n 3, 1), (87, .iand, 1)] : List (Nat × Instr × Nat)), decode cX12_sharesAll q.1 = .ok (q.2.1, q.2.2) := by decide +kernel
theorem dc_Mod_sharesAll_1 : ∀ q ∈ ([(88, .ifCond .ne 36, 3), (91, .aload_n 0, 1), (92, .getfield 170, 3), (95, .iload_n 2, 1), (96, .baload, 1), (97, .ifCond .eq 27, 3), (100, .aload_n 0, 1), (101, .getfield 167, 3), (104, .sipush 256, 3), (107, .iload_n 1, 1), (108, .imul, 1), (109, .iload_n 3, 1), (110, .iadd, 1), (111, .baload, 1), (112, .ifCond .eq 12, 3), (115, .aload_n 0, 1), (116, .getfield 173, 3), (119, .iload_n 2, 1), (120, .iload_n 3, 1), (121, .ior, 1), (122, .iconst 1, 1), (123, .bastore, 1), (124, .iinc 3 1, 3), (127, .goto (-49), 3), (130, .iinc 2 1, 3), (133, .goto (-64), 3), (136, .iconst 0, 1), (137, .istore_n 2, 1), (138, .iload_n 2, 1), (139, .sipush 256, 3), (142, .if_icmp .ge 21, 3), (145, .aload_n 0, 1), (146, .getfield 170, 3), (149, .iload_n 2, 1), (150, .aload_n 0, 1), (151, .getfield 173, 3), (154, .iload_n 2, 1), (155, .baload, 1), (156, .bastore, 1), (157, .iinc 2 1, 3), (160, .goto (-22), 3), (163, .iinc 1 1, 3), (166, .goto (-134), 3), (169, .return_, 1)] : List (Nat × Instr × Nat)), decode cX12_sharesAll q.1 = .ok (q.2.1, q.2.2) := by decide +kernel
abbrev X_Mod_sharesAll : MX := (cX12_sharesAll, RX12, "sharesAll", 4, none, 1, 20)
theorem v_Mod_sharesAll_L138s (F : Nat) (R32 : Int → Int → Hp → Option (Int × Hp)) (hR32 : ∀ (l0 l1 : Int) (h : Hp), V X_Mod_sharesAll 32 [(0, 2, l0), (1, 0, l1)] [] h (R32 l0 l1 h)) (R138 : Int → Int → Int → Hp → Option (Int × Hp)) (hR138 : ∀ (l0 l1 l2 : Int) (h : Hp), V X_Mod_sharesAll 138 [(0, 2, l0), (1, 0, l1), (2, 0, l2)] [] h (R138 l0 l1 l2 h)) (l0 l1 l2 : Int) (h : Hp) : V X_Mod_sharesAll 138 [(0, 2, l0), (1, 0, l1), (2, 0, l2)] [] h (Mod_sharesAll_L138s F R32 R138 l0 l1 l2 h) := by
  unfold Mod_sharesAll_L138s
  refine V_iload_n (pc := 138) (DCa dc_Mod_sharesAll_1 28 rfl) rfl 2 rfl ?_
  refine V_sipush (pc := 139) (DCa dc_Mod_sharesAll_1 29 rfl) (by decide) ?_
  refine V_icmp_ge (tgt := 163) (pc := 142) (DCa dc_Mod_sharesAll_1 30 rfl) (by decide) (fun _ => ?_) (fun _ => ?_)
  · refine V_aload_n (pc := 145) (DCa dc_Mod_sharesAll_1 31 rfl) rfl 0 rfl ?_
    refine Q_getf (k := 75) (pc := 146) (DCa dc_Mod_sharesAll_1 32 rfl) cls_12 (Nat.le_of_ble_eq_true rfl) fl_12_170 rfl rfl rfl (fun v15 => ?_)
    refine V_iload_n (pc := 149) (DCa dc_Mod_sharesAll_1 33 rfl) rfl 2 rfl ?_
    refine V_aload_n (pc := 150) (DCa dc_Mod_sharesAll_1 34 rfl) rfl 0 rfl ?_
    refine Q_getf (k := 76) (pc := 151) (DCa dc_Mod_sharesAll_1 35 rfl) cls_12 (Nat.le_of_ble_eq_true rfl) fl_12_173 rfl rfl rfl (fun v16 => ?_)
    refine V_iload_n (pc := 154) (DCa dc_Mod_sharesAll_1 36 rfl) rfl 2 rfl ?_
    refine Q_zaload (pc := 155) (DCa dc_Mod_sharesAll_1 37 rfl) (fun v17 => ?_)
    refine Q_zastore (pc := 156) (DCa dc_Mod_sharesAll_1 38 rfl) (fun h18 => ?_)
    refine V_iinc (ls' := [(0, 2, l0), (1, 0, l1), (2, 0, w32 (l2 + 1))]) (pc := 157) (DCa dc_Mod_sharesAll_1 39 rfl) (Nat.le_of_ble_eq_true rfl) (by decide) 2 rfl rfl ?_
    refine V_goto (tgt := 138) (pc := 160) (DCa dc_Mod_sharesAll_1 40 rfl) (by decide) ?_
    exact hR138 _ _ _ _
  · refine V_iinc (ls' := [(0, 2, l0), (1, 0, w32 (l1 + 1)), (2, 0, l2)]) (pc := 163) (DCa dc_Mod_sharesAll_1 41 rfl) (Nat.le_of_ble_eq_true rfl) (by decide) 1 rfl rfl ?_
    refine V_goto (tgt := 32) (pc := 166) (DCa dc_Mod_sharesAll_1 42 rfl) (by decide) ?_
    refine V_pick [0, 1] rfl ?_
    exact hR32 _ _ _
theorem v_Mod_sharesAll_L138 (F : Nat) (R32 : Int → Int → Hp → Option (Int × Hp)) (hR32 : ∀ (l0 l1 : Int) (h : Hp), V X_Mod_sharesAll 32 [(0, 2, l0), (1, 0, l1)] [] h (R32 l0 l1 h)) (n : Nat) : ∀ (l0 l1 l2 : Int) (h : Hp), V X_Mod_sharesAll 138 [(0, 2, l0), (1, 0, l1), (2, 0, l2)] [] h (Mod_sharesAll_L138 F R32 n l0 l1 l2 h) := by
  induction n with
  | zero => intros; exact V_none
  | succ n ih => exact fun l0 l1 l2 h => v_Mod_sharesAll_L138s F R32 hR32 _ ih l0 l1 l2 h
theorem v_Mod_sharesAll_L78s (F : Nat) (R32 : Int → Int → Hp → Option (Int × Hp)) (hR32 : ∀ (l0 l1 : Int) (h : Hp), V X_Mod_sharesAll 32 [(0, 2, l0), (1, 0, l1)] [] h (R32 l0 l1 h)) (R69 : Int → Int → Int → Hp → Option (Int × Hp)) (hR69 : ∀ (l0 l1 l2 : Int) (h : Hp), V X_Mod_sharesAll 69 [(0, 2, l0), (1, 0, l1), (2, 0, l2)] [] h (R69 l0 l1 l2 h)) (R78 : Int → Int → Int → Int → Hp → Option (Int × Hp)) (hR78 : ∀ (l0 l1 l2 l3 : Int) (h : Hp), V X_Mod_sharesAll 78 [(0, 2, l0), (1, 0, l1), (2, 0, l2), (3, 0, l3)] [] h (R78 l0 l1 l2 l3 h)) (l0 l1 l2 l3 : Int) (h : Hp) : V X_Mod_sharesAll 78 [(0, 2, l0), (1, 0, l1), (2, 0, l2), (3, 0, l3)] [] h (Mod_sharesAll_L78s F R32 R69 R78 l0 l1 l2 l3 h) := by
  unfold Mod_sharesAll_L78s
  refine V_iload_n (pc := 78) (DCa dc_Mod_sharesAll_0 44 rfl) rfl 3 rfl ?_
  refine V_sipush (pc := 79) (DCa dc_Mod_sharesAll_0 45 rfl) (by decide) ?_
  refine V_icmp_ge (tgt := 130) (pc := 82) (DCa dc_Mod_sharesAll_0 46 rfl) (by decide) (fun _ => ?_) (fun _ => ?_)
  · refine V_iload_n (pc := 85) (DCa dc_Mod_sharesAll_0 47 rfl) rfl 2 rfl ?_
    refine V_iload_n (pc := 86) (DCa dc_Mod_sharesAll_0 48 rfl) rfl 3 rfl ?_
    refine V_iand (pc := 87) (DCa dc_Mod_sharesAll_0 49 rfl) ?_
    refine V_if_ne (tgt := 124) (pc := 88) (DCa dc_Mod_sharesAll_1 0 rfl) (by decide) (fun _ => ?_) (fun _ => ?_)
    · refine V_aload_n (pc := 91) (DCa dc_Mod_sharesAll_1 1 rfl) rfl 0 rfl ?_
      refine Q_getf (k := 75) (pc := 92) (DCa dc_Mod_sharesAll_1 2 rfl) cls_12 (Nat.le_of_ble_eq_true rfl) fl_12_170 rfl rfl rfl (fun v9 => ?_)
      refine V_iload_n (pc := 95) (DCa dc_Mod_sharesAll_1 3 rfl) rfl 2 rfl ?_
      refine Q_zaload (pc := 96) (DCa dc_Mod_sharesAll_1 4 rfl) (fun v10 => ?_)
      refine V_if_eq (tgt := 124) (pc := 97) (DCa dc_Mod_sharesAll_1 5 rfl) (by decide) (fun _ => ?_) (fun _ => ?_)
      · refine V_iinc (ls' := [(0, 2, l0), (1, 0, l1), (2, 0, l2), (3, 0, w32 (l3 + 1))]) (pc := 124) (DCa dc_Mod_sharesAll_1 22 rfl) (Nat.le_of_ble_eq_true rfl) (by decide) 3 rfl rfl ?_
        refine V_goto (tgt := 78) (pc := 127) (DCa dc_Mod_sharesAll_1 23 rfl) (by decide) ?_
        exact hR78 _ _ _ _ _
      · refine V_aload_n (pc := 100) (DCa dc_Mod_sharesAll_1 6 rfl) rfl 0 rfl ?_
        refine Q_getf (k := 74) (pc := 101) (DCa dc_Mod_sharesAll_1 7 rfl) cls_12 (Nat.le_of_ble_eq_true rfl) fl_12_167 rfl rfl rfl (fun v11 => ?_)
        refine V_sipush (pc := 104) (DCa dc_Mod_sharesAll_1 8 rfl) (by decide) ?_
        refine V_iload_n (pc := 107) (DCa dc_Mod_sharesAll_1 9 rfl) rfl 1 rfl ?_
        refine V_imul (pc := 108) (DCa dc_Mod_sharesAll_1 10 rfl) ?_
        refine V_iload_n (pc := 109) (DCa dc_Mod_sharesAll_1 11 rfl) rfl 3 rfl ?_
        refine V_iadd (pc := 110) (DCa dc_Mod_sharesAll_1 12 rfl) ?_
        refine Q_zaload (pc := 111) (DCa dc_Mod_sharesAll_1 13 rfl) (fun v12 => ?_)
        refine V_if_eq (tgt := 124) (pc := 112) (DCa dc_Mod_sharesAll_1 14 rfl) (by decide) (fun _ => ?_) (fun _ => ?_)
        · refine V_iinc (ls' := [(0, 2, l0), (1, 0, l1), (2, 0, l2), (3, 0, w32 (l3 + 1))]) (pc := 124) (DCa dc_Mod_sharesAll_1 22 rfl) (Nat.le_of_ble_eq_true rfl) (by decide) 3 rfl rfl ?_
          refine V_goto (tgt := 78) (pc := 127) (DCa dc_Mod_sharesAll_1 23 rfl) (by decide) ?_
          exact hR78 _ _ _ _ _
        · refine V_aload_n (pc := 115) (DCa dc_Mod_sharesAll_1 15 rfl) rfl 0 rfl ?_
          refine Q_getf (k := 76) (pc := 116) (DCa dc_Mod_sharesAll_1 16 rfl) cls_12 (Nat.le_of_ble_eq_true rfl) fl_12_173 rfl rfl rfl (fun v13 => ?_)
          refine V_iload_n (pc := 119) (DCa dc_Mod_sharesAll_1 17 rfl) rfl 2 rfl ?_
          refine V_iload_n (pc := 120) (DCa dc_Mod_sharesAll_1 18 rfl) rfl 3 rfl ?_
          refine V_ior (pc := 121) (DCa dc_Mod_sharesAll_1 19 rfl) ?_
          refine V_iconst (pc := 122) (DCa dc_Mod_sharesAll_1 20 rfl) (by decide) ?_
          refine Q_zastore (pc := 123) (DCa dc_Mod_sharesAll_1 21 rfl) (fun h14 => ?_)
          refine V_iinc (ls' := [(0, 2, l0), (1, 0, l1), (2, 0, l2), (3, 0, w32 (l3 + 1))]) (pc := 124) (DCa dc_Mod_sharesAll_1 22 rfl) (Nat.le_of_ble_eq_true rfl) (by decide) 3 rfl rfl ?_
          refine V_goto (tgt := 78) (pc := 127) (DCa dc_Mod_sharesAll_1 23 rfl) (by decide) ?_
          exact hR78 _ _ _ _ _
    · refine V_iinc (ls' := [(0, 2, l0), (1, 0, l1), (2, 0, l2), (3, 0, w32 (l3 + 1))]) (pc := 124) (DCa dc_Mod_sharesAll_1 22 rfl) (Nat.le_of_ble_eq_true rfl) (by decide) 3 rfl rfl ?_
      refine V_goto (tgt := 78) (pc := 127) (DCa dc_Mod_sharesAll_1 23 rfl) (by decide) ?_
      exact hR78 _ _ _ _ _
  · refine V_iinc (ls' := [(0, 2, l0), (1, 0, l1), (2, 0, w32 (l2 + 1)), (3, 0, l3)]) (pc := 130) (DCa dc_Mod_sharesAll_1 24 rfl) (Nat.le_of_ble_eq_true rfl) (by decide) 2 rfl rfl ?_
    refine V_goto (tgt := 69) (pc := 133) (DCa dc_Mod_sharesAll_1 25 rfl) (by decide) ?_
    refine V_pick [0, 1, 2] rfl ?_
    exact hR69 _ _ _ _
theorem v_Mod_sharesAll_L78 (F : Nat) (R32 : Int → Int → Hp → Option (Int × Hp)) (hR32 : ∀ (l0 l1 : Int) (h : Hp), V X_Mod_sharesAll 32 [(0, 2, l0), (1, 0, l1)] [] h (R32 l0 l1 h)) (R69 : Int → Int → Int → Hp → Option (Int × Hp)) (hR69 : ∀ (l0 l1 l2 : Int) (h : Hp), V X_Mod_sharesAll 69 [(0, 2, l0), (1, 0, l1), (2, 0, l2)] [] h (R69 l0 l1 l2 h)) (n : Nat) : ∀ (l0 l1 l2 l3 : Int) (h : Hp), V X_Mod_sharesAll 78 [(0, 2, l0), (1, 0, l1), (2, 0, l2), (3, 0, l3)] [] h (Mod_sharesAll_L78 F R32 R69 n l0 l1 l2 l3 h) := by
  induction n with
  | zero => intros; exact V_none
  | succ n ih => exact fun l0 l1 l2 l3 h => v_Mod_sharesAll_L78s F R32 hR32 R69 hR69 _ ih l0 l1 l2 l3 h
theorem v_Mod_sharesAll_L69s (F : Nat) (R32 : Int → Int → Hp → Option (Int × Hp)) (hR32 : ∀ (l0 l1 : Int) (h : Hp), V X_Mod_sharesAll 32 [(0, 2, l0), (1, 0, l1)] [] h (R32 l0 l1 h)) (R69 : Int → Int → Int → Hp → Option (Int × Hp)) (hR69 : ∀ (l0 l1 l2 : Int) (h : Hp), V X_Mod_sharesAll 69 [(0, 2, l0), (1, 0, l1), (2, 0, l2)] [] h (R69 l0 l1 l2 h)) (l0 l1 l2 : Int) (h : Hp) : V X_Mod_sharesAll 69 [(0, 2, l0), (1, 0, l1), (2, 0, l2)] [] h (Mod_sharesAll_L69s F R32 R69 l0 l1 l2 h) := by
  unfold Mod_sharesAll_L69s
  refine V_iload_n (pc := 69) (DCa dc_Mod_sharesAll_0 39 rfl) rfl 2 rfl ?_
  refine V_sipush (pc := 70) (DCa dc_Mod_sharesAll_0 40 rfl) (by decide) ?_
  refine V_icmp_ge (tgt := 136) (pc := 73) (DCa dc_Mod_sharesAll_0 41 rfl) (by decide) (fun _ => ?_) (fun _ => ?_)
  · refine V_iconst (pc := 76) (DCa dc_Mod_sharesAll_0 42 rfl) (by decide) ?_
    refine V_istore_n (ls' := [(0, 2, l0), (1, 0, l1), (2, 0, l2), (3, 0, 0)]) (pc := 77) (DCa dc_Mod_sharesAll_0 43 rfl) rfl (Nat.le_of_ble_eq_true rfl) rfl ?_
    exact v_Mod_sharesAll_L78 F R32 hR32 R69 hR69 F _ _ _ _ _
  · refine V_iconst (pc := 136) (DCa dc_Mod_sharesAll_1 26 rfl) (by decide) ?_
    refine V_istore_n (ls' := [(0, 2, l0), (1, 0, l1), (2, 0, 0)]) (pc := 137) (DCa dc_Mod_sharesAll_1 27 rfl) rfl (Nat.le_of_ble_eq_true rfl) rfl ?_
    exact v_Mod_sharesAll_L138 F R32 hR32 F _ _ _ _
theorem v_Mod_sharesAll_L69 (F : Nat) (R32 : Int → Int → Hp → Option (Int × Hp)) (hR32 : ∀ (l0 l1 : Int) (h : Hp), V X_Mod_sharesAll 32 [(0, 2, l0), (1, 0, l1)] [] h (R32 l0 l1 h)) (n : Nat) : ∀ (l0 l1 l2 : Int) (h : Hp), V X_Mod_sharesAll 69 [(0, 2, l0), (1, 0, l1), (2, 0, l2)] [] h (Mod_sharesAll_L69 F R32 n l0 l1 l2 h) := by
  induction n with
  | zero => intros; exact V_none
  | succ n ih => exact fun l0 l1 l2 h => v_Mod_sharesAll_L69s F R32 hR32 _ ih l0 l1 l2 h
theorem v_Mod_sharesAll_L47s (F : Nat) (R32 : Int → Int → Hp → Option (Int × Hp)) (hR32 : ∀ (l0 l1 : Int) (h : Hp), V X_Mod_sharesAll 32 [(0, 2, l0), (1, 0, l1)] [] h (R32 l0 l1 h)) (R47 : Int → Int → Int → Hp → Option (Int × Hp)) (hR47 : ∀ (l0 l1 l2 : Int) (h : Hp), V X_Mod_sharesAll 47 [(0, 2, l0), (1, 0, l1), (2, 0, l2)] [] h (R47 l0 l1 l2 h)) (l0 l1 l2 : Int) (h : Hp) : V X_Mod_sharesAll 47 [(0, 2, l0), (1, 0, l1), (2, 0, l2)] [] h (Mod_sharesAll_L47s F R32 R47 l0 l1 l2 h) := by
  unfold Mod_sharesAll_L47s
  refine V_iload_n (pc := 47) (DCa dc_Mod_sharesAll_0 27 rfl) rfl 2 rfl ?_
  refine V_sipush (pc := 48) (DCa dc_Mod_sharesAll_0 28 rfl) (by decide) ?_
  refine V_icmp_ge (tgt := 67) (pc := 51) (DCa dc_Mod_sharesAll_0 29 rfl) (by decide) (fun _ => ?_) (fun _ => ?_)
  · refine V_aload_n (pc := 54) (DCa dc_Mod_sharesAll_0 30 rfl) rfl 0 rfl ?_
    refine Q_getf (k := 76) (pc := 55) (DCa dc_Mod_sharesAll_0 31 rfl) cls_12 (Nat.le_of_ble_eq_true rfl) fl_12_173 rfl rfl rfl (fun v7 => ?_)
    refine V_iload_n (pc := 58) (DCa dc_Mod_sharesAll_0 32 rfl) rfl 2 rfl ?_
    refine V_iconst (pc := 59) (DCa dc_Mod_sharesAll_0 33 rfl) (by decide) ?_
    refine Q_zastore (pc := 60) (DCa dc_Mod_sharesAll_0 34 rfl) (fun h8 => ?_)
    refine V_iinc (ls' := [(0, 2, l0), (1, 0, l1), (2, 0, w32 (l2 + 1))]) (pc := 61) (DCa dc_Mod_sharesAll_0 35 rfl) (Nat.le_of_ble_eq_true rfl) (by decide) 2 rfl rfl ?_
    refine V_goto (tgt := 47) (pc := 64) (DCa dc_Mod_sharesAll_0 36 rfl) (by decide) ?_
    exact hR47 _ _ _ _
  · refine V_iconst (pc := 67) (DCa dc_Mod_sharesAll_0 37 rfl) (by decide) ?_
    refine V_istore_n (ls' := [(0, 2, l0), (1, 0, l1), (2, 0, 0)]) (pc := 68) (DCa dc_Mod_sharesAll_0 38 rfl) rfl (Nat.le_of_ble_eq_true rfl) rfl ?_
    exact v_Mod_sharesAll_L69 F R32 hR32 F _ _ _ _
theorem v_Mod_sharesAll_L47 (F : Nat) (R32 : Int → Int → Hp → Option (Int × Hp)) (hR32 : ∀ (l0 l1 : Int) (h : Hp), V X_Mod_sharesAll 32 [(0, 2, l0), (1, 0, l1)] [] h (R32 l0 l1 h)) (n : Nat) : ∀ (l0 l1 l2 : Int) (h : Hp), V X_Mod_sharesAll 47 [(0, 2, l0), (1, 0, l1), (2, 0, l2)] [] h (Mod_sharesAll_L47 F R32 n l0 l1 l2 h) := by
  induction n with
  | zero => intros; exact V_none
  | succ n ih => exact fun l0 l1 l2 h => v_Mod_sharesAll_L47s F R32 hR32 _ ih l0 l1 l2 h
theorem v_Mod_sharesAll_L32s (F : Nat)  (R32 : Int → Int → Hp → Option (Int × Hp)) (hR32 : ∀ (l0 l1 : Int) (h : Hp), V X_Mod_sharesAll 32 [(0, 2, l0), (1, 0, l1)] [] h (R32 l0 l1 h)) (l0 l1 : Int) (h : Hp) : V X_Mod_sharesAll 32 [(0, 2, l0), (1, 0, l1)] [] h (Mod_sharesAll_L32s F  R32 l0 l1 h) := by
  unfold Mod_sharesAll_L32s
  refine V_iload_n (pc := 32) (DCa dc_Mod_sharesAll_0 18 rfl) rfl 1 rfl ?_
  refine V_aload_n (pc := 33) (DCa dc_Mod_sharesAll_0 19 rfl) rfl 0 rfl ?_
  refine Q_getf (k := 27) (pc := 34) (DCa dc_Mod_sharesAll_0 20 rfl) cls_12 (Nat.le_of_ble_eq_true rfl) fl_12_58 rfl rfl rfl (fun v4 => ?_)
  refine V_aload_n (pc := 37) (DCa dc_Mod_sharesAll_0 21 rfl) rfl 0 rfl ?_
  refine Q_getf (k := 18) (pc := 38) (DCa dc_Mod_sharesAll_0 22 rfl) cls_12 (Nat.le_of_ble_eq_true rfl) fl_12_281 rfl rfl rfl (fun v5 => ?_)
  refine Q_iaload (pc := 41) (DCa dc_Mod_sharesAll_0 23 rfl) (fun v6 => ?_)
  refine V_icmp_ge (tgt := 169) (pc := 42) (DCa dc_Mod_sharesAll_0 24 rfl) (by decide) (fun _ => ?_) (fun _ => ?_)
  · refine V_iconst (pc := 45) (DCa dc_Mod_sharesAll_0 25 rfl) (by decide) ?_
    refine V_istore_n (ls' := [(0, 2, l0), (1, 0, l1), (2, 0, 0)]) (pc := 46) (DCa dc_Mod_sharesAll_0 26 rfl) rfl (Nat.le_of_ble_eq_true rfl) rfl ?_
    exact v_Mod_sharesAll_L47 F R32 hR32 F _ _ _ _
  · exact V_return (pc := 169) (DCa dc_Mod_sharesAll_1 43 rfl) rfl
theorem v_Mod_sharesAll_L32 (F : Nat)  (n : Nat) : ∀ (l0 l1 : Int) (h : Hp), V X_Mod_sharesAll 32 [(0, 2, l0), (1, 0, l1)] [] h (Mod_sharesAll_L32 F  n l0 l1 h) := by
  induction n with
  | zero => intros; exact V_none
  | succ n ih => exact fun l0 l1 h => v_Mod_sharesAll_L32s F  _ ih l0 l1 h
theorem v_Mod_sharesAll_L2s (F : Nat)  (R2 : Int → Int → Hp → Option (Int × Hp)) (hR2 : ∀ (l0 l1 : Int) (h : Hp), V X_Mod_sharesAll 2 [(0, 2, l0), (1, 0, l1)] [] h (R2 l0 l1 h)) (l0 l1 : Int) (h : Hp) : V X_Mod_sharesAll 2 [(0, 2, l0), (1, 0, l1)] [] h (Mod_sharesAll_L2s F  R2 l0 l1 h) := by
  unfold Mod_sharesAll_L2s
  refine V_iload_n (pc := 2) (DCa dc_Mod_sharesAll_0 2 rfl) rfl 1 rfl ?_
  refine V_sipush (pc := 3) (DCa dc_Mod_sharesAll_0 3 rfl) (by decide) ?_
  refine V_icmp_ge (tgt := 30) (pc := 6) (DCa dc_Mod_sharesAll_0 4 rfl) (by decide) (fun _ => ?_) (fun _ => ?_)
  · refine V_aload_n (pc := 9) (DCa dc_Mod_sharesAll_0 5 rfl) rfl 0 rfl ?_
    refine Q_getf (k := 75) (pc := 10) (DCa dc_Mod_sharesAll_0 6 rfl) cls_12 (Nat.le_of_ble_eq_true rfl) fl_12_170 rfl rfl rfl (fun v1 => ?_)
    refine V_iload_n (pc := 13) (DCa dc_Mod_sharesAll_0 7 rfl) rfl 1 rfl ?_
    refine V_iload_n (pc := 14) (DCa dc_Mod_sharesAll_0 8 rfl) rfl 1 rfl ?_
    refine V_if_ne (tgt := 22) (pc := 15) (DCa dc_Mod_sharesAll_0 9 rfl) (by decide) (fun _ => ?_) (fun _ => ?_)
    · refine V_iconst (pc := 18) (DCa dc_Mod_sharesAll_0 10 rfl) (by decide) ?_
      refine V_goto (tgt := 23) (pc := 19) (DCa dc_Mod_sharesAll_0 11 rfl) (by decide) ?_
      refine Q_zastore (pc := 23) (DCa dc_Mod_sharesAll_0 13 rfl) (fun h2 => ?_)
      refine V_iinc (ls' := [(0, 2, l0), (1, 0, w32 (l1 + 1))]) (pc := 24) (DCa dc_Mod_sharesAll_0 14 rfl) (Nat.le_of_ble_eq_true rfl) (by decide) 1 rfl rfl ?_
      refine V_goto (tgt := 2) (pc := 27) (DCa dc_Mod_sharesAll_0 15 rfl) (by decide) ?_
      exact hR2 _ _ _
    · refine V_iconst (pc := 22) (DCa dc_Mod_sharesAll_0 12 rfl) (by decide) ?_
      refine Q_zastore (pc := 23) (DCa dc_Mod_sharesAll_0 13 rfl) (fun h3 => ?_)
      refine V_iinc (ls' := [(0, 2, l0), (1, 0, w32 (l1 + 1))]) (pc := 24) (DCa dc_Mod_sharesAll_0 14 rfl) (Nat.le_of_ble_eq_true rfl) (by decide) 1 rfl rfl ?_
      refine V_goto (tgt := 2) (pc := 27) (DCa dc_Mod_sharesAll_0 15 rfl) (by decide) ?_
      exact hR2 _ _ _
  · refine V_iconst (pc := 30) (DCa dc_Mod_sharesAll_0 16 rfl) (by decide) ?_
    refine V_istore_n (ls' := [(0, 2, l0), (1, 0, 0)]) (pc := 31) (DCa dc_Mod_sharesAll_0 17 rfl) rfl (Nat.le_of_ble_eq_true rfl) rfl ?_
    exact v_Mod_sharesAll_L32 F F _ _ _
theorem v_Mod_sharesAll_L2 (F : Nat)  (n : Nat) : ∀ (l0 l1 : Int) (h : Hp), V X_Mod_sharesAll 2 [(0, 2, l0), (1, 0, l1)] [] h (Mod_sharesAll_L2 F  n l0 l1 h) := by
  induction n with
  | zero => intros; exact V_none
  | succ n ih => exact fun l0 l1 h => v_Mod_sharesAll_L2s F  _ ih l0 l1 h
theorem v_Mod_sharesAll (F : Nat) (l0 : Int) (h : Hp) : V X_Mod_sharesAll 0 [(0, 2, l0)] [] h (Mod_sharesAll F l0 h) := by
  unfold Mod_sharesAll
  refine V_iconst (pc := 0) (DCa dc_Mod_sharesAll_0 0 rfl) (by decide) ?_
  refine V_istore_n (ls' := [(0, 2, l0), (1, 0, 0)]) (pc := 1) (DCa dc_Mod_sharesAll_0 1 rfl) rfl (Nat.le_of_ble_eq_true rfl) rfl ?_
  exact v_Mod_sharesAll_L2 F F _ _ _
theorem sp_Mod_sharesAll (F : Nat) (l0 : Int) (h : Hp) : Sp yX12_sharesAll cX12_sharesAll 4 none 1 20 [(2, l0)] h (Mod_sharesAll F l0 h) := Sp_of (by decide +kernel) rfl rfl (Nat.le_of_ble_eq_true rfl) (v_Mod_sharesAll F l0 h)

-- TideRakesModel.hands
def Mod_hands_B109 (F : Nat)  (l0 l2 l3 : Int) (h : Hp) : Option (Int × Hp) :=
  if l2 = 0 then
    (iv h l0 112 (Mod_worthBy F l0 l3 h) fun r24 h25 =>
    some (r24, h25))
  else
    (some (l3, h))
def Mod_hands_L68s (F : Nat)  (R68 : Int → Int → Int → Int → Hp → Option (Int × Hp)) (l0 l2 l3 l4 : Int) (h : Hp) : Option (Int × Hp) :=
  if l4 < 256 then
    (gf h l0 112 75 fun v18 =>
    al h v18 2 l4 fun v19 =>
    if v19 = 0 then
      (R68 l0 l2 l3 (w32 (l4 + 1)) h)
    else
      (iv h l0 112 (Mod_worthBy F l0 l4 h) fun r20 h21 =>
      iv h21 l0 112 (Mod_worthBy F l0 l3 h21) fun r22 h23 =>
      if r22 < r20 then
        (R68 l0 l2 l4 (w32 (l4 + 1)) h23)
      else
        (R68 l0 l2 l3 (w32 (l4 + 1)) h23)))
  else
    (Mod_hands_B109 F l0 l2 l3 h)
def Mod_hands_L68 (F : Nat)  : Nat → Int → Int → Int → Int → Hp → Option (Int × Hp)
  | 0 => fun _ _ _ _ _ => none
  | n + 1 => Mod_hands_L68s F  (Mod_hands_L68 F  n)
def Mod_hands_B59 (F : Nat)  (l0 l2 : Int) (h : Hp) : Option (Int × Hp) :=
  iv h l0 112 (Mod_sharesAll F l0 h) fun r16 h17 =>
  Mod_hands_L68 F F l0 l2 0 1 h17
def Mod_hands_L24s (F : Nat)  (R24 : Int → Int → Int → Int → Hp → Option (Int × Hp)) (l0 l1 l2 l3 : Int) (h : Hp) : Option (Int × Hp) :=
  gf h l0 112 27 fun v7 =>
  gf h l0 112 18 fun v8 =>
  al h v7 0 v8 fun v9 =>
  if l3 < v9 then
    (iv h l0 112 (Mod_startsAs F l0 l3 0 h) fun r10 h11 =>
    iv h11 l0 112 (Mod_neverDone F l0 h11) fun r12 h13 =>
    iv h13 l0 112 (Mod_fillsCan F l0 l3 r12 l1 h13) fun r14 h15 =>
    R24 l0 l1 l2 (w32 (l3 + 1)) h15)
  else
    (Mod_hands_B59 F l0 l2 h)
def Mod_hands_L24 (F : Nat)  : Nat → Int → Int → Int → Int → Hp → Option (Int × Hp)
  | 0 => fun _ _ _ _ _ => none
  | n + 1 => Mod_hands_L24s F  (Mod_hands_L24 F  n)
def Mod_hands (F : Nat) (l0 l1 l2 : Int) (h : Hp) : Option (Int × Hp) :=
  cl (Mod_isBy F l1 h) fun r1 h2 =>
  if r1 = 0 then
    (some ((-1), h2))
  else
    (cl (Mod_in F l2 0 1 h2) fun r3 h4 =>
    if r3 = 0 then
      (some ((-1), h4))
    else
      (iv h4 l0 112 (Mod_copies F l0 h4) fun r5 h6 =>
      Mod_hands_L24 F F l0 l1 l2 0 h6))

theorem dc_Mod_hands_0 : ∀ q ∈ ([(0, .iload_n 1, 1), (1, .invokestatic 470, 3), (4, .ifCond .eq 12, 3), (7, .iload_n 2, 1), (8, .iconst 0, 1), (9, .iconst 1, 1), (10, .invokestatic 355, 3), (13, .ifCond .ne 5, 3), (16, .iconst (-1), 1), (17, .ireturn, 1), (18, .aload_n 0, 1), (19, .invokevirtual 409, 3), (22, .iconst 0, 1), (23, .istore_n 3, 1), (24, .iload_n 3, 1), (25, .aload_n 0, 1), (26, .getfield 58, 3), (29, .aload_n 0, 1), (30, .getfield 281, 3), (33, .iaload, 1), (34, .if_icmp .ge 25, 3), (37, .aload_n 0, 1), (38, .iload_n 3, 1), (39, .iconst 0, 1), (40, .invokevirtual 461, 3), (43, .aload_n 0, 1), (44, .iload_n 3, 1), (45, .aload_n 0, 1), (46, .invokevirtual 464, 3), (49, .iload_n 1, 1), (50, .invokevirtual 488, 3), (53, .iinc 3 1, 3), (56, .goto (-32), 3), (59, .aload_n 0, 1), (60, .invokevirtual 491, 3), (63, .iconst 0, 1), (64, .istore_n 3, 1), (65, .iconst 1, 1), (66, .istore 4, 2), (68, .iload 4, 2), (70, .sipush 256, 3), (73, .if_icmp .ge 36, 3), (76, .aload_n 0, 1), (77, .getfield 170, 3), (80, .iload 4, 2), (82, .baload, 1), (83, .ifCond .eq 20, 3), (86, .aload_n 0, 1), (87, .iload 4, 2), (89, .invokevirtual 458, 3)] : List (Nat × Instr × Nat)), decode cX12_hands q.1 = .ok (q.2.1, q.2.2) := by decide +kernel
theorem dc_Mod_hands_1 : ∀ q ∈ ([(92, .aload_n 0, 1), (93, .iload_n 3, 1), (94, .invokevirtual 458, 3), (97, .if_icmp .le 6, 3), (100, .iload 4, 2), (102, .istore_n 3, 1), (103, .iinc 4 1, 3), (106, .goto (-38), 3), (109, .iload_n 2, 1), (110, .ifCond .ne 11, 3), (113, .aload_n 0, 1), (114, .iload_n 3, 1), (115, .invokevirtual 458, 3), (118, .goto 4, 3), (121, .iload_n 3, 1), (122, .ireturn, 1)] : List (Nat × Instr × Nat)), decode cX12_hands q.1 = .ok (q.2.1, q.2.2) := by decide +kernel
abbrev X_Mod_hands : MX := (cX12_hands, RX12, "hands", 5, (some (.int)), 7, 172)
theorem v_Mod_hands_B109 (F : Nat)  (l0 l2 l3 : Int) (h : Hp) : V X_Mod_hands 109 [(0, 2, l0), (2, 0, l2), (3, 0, l3)] [] h (Mod_hands_B109 F  l0 l2 l3 h) := by
  unfold Mod_hands_B109
  refine V_iload_n (pc := 109) (DCa dc_Mod_hands_1 8 rfl) rfl 1 rfl ?_
  refine V_if_ne (tgt := 121) (pc := 110) (DCa dc_Mod_hands_1 9 rfl) (by decide) (fun _ => ?_) (fun _ => ?_)
  · refine V_aload_n (pc := 113) (DCa dc_Mod_hands_1 10 rfl) rfl 0 rfl ?_
    refine V_iload_n (pc := 114) (DCa dc_Mod_hands_1 11 rfl) rfl 2 rfl ?_
    refine Q_callv (ci := 12) (st := []) (pc := 115) (DCa dc_Mod_hands_1 12 rfl) (sp_Mod_worthBy F _ _ _) ce_Mod_worthBy ml_12_458 rfl rfl ⟨Nat.le_of_ble_eq_true rfl, Nat.le_of_ble_eq_true rfl⟩ rfl (Nat.le_of_ble_eq_true rfl) (fun r24 h25 => ?_)
    refine V_goto (tgt := 122) (pc := 118) (DCa dc_Mod_hands_1 13 rfl) (by decide) ?_
    exact V_ireturn (pc := 122) (DCa dc_Mod_hands_1 15 rfl) rfl
  · refine V_iload_n (pc := 121) (DCa dc_Mod_hands_1 14 rfl) rfl 2 rfl ?_
    exact V_ireturn (pc := 122) (DCa dc_Mod_hands_1 15 rfl) rfl
theorem v_Mod_hands_L68s (F : Nat)  (R68 : Int → Int → Int → Int → Hp → Option (Int × Hp)) (hR68 : ∀ (l0 l2 l3 l4 : Int) (h : Hp), V X_Mod_hands 68 [(0, 2, l0), (2, 0, l2), (3, 0, l3), (4, 0, l4)] [] h (R68 l0 l2 l3 l4 h)) (l0 l2 l3 l4 : Int) (h : Hp) : V X_Mod_hands 68 [(0, 2, l0), (2, 0, l2), (3, 0, l3), (4, 0, l4)] [] h (Mod_hands_L68s F  R68 l0 l2 l3 l4 h) := by
  unfold Mod_hands_L68s
  refine V_iload (pc := 68) (DCa dc_Mod_hands_0 39 rfl) 3 rfl ?_
  refine V_sipush (pc := 70) (DCa dc_Mod_hands_0 40 rfl) (by decide) ?_
  refine V_icmp_ge (tgt := 109) (pc := 73) (DCa dc_Mod_hands_0 41 rfl) (by decide) (fun _ => ?_) (fun _ => ?_)
  · refine V_aload_n (pc := 76) (DCa dc_Mod_hands_0 42 rfl) rfl 0 rfl ?_
    refine Q_getf (k := 75) (pc := 77) (DCa dc_Mod_hands_0 43 rfl) cls_12 (Nat.le_of_ble_eq_true rfl) fl_12_170 rfl rfl rfl (fun v18 => ?_)
    refine V_iload (pc := 80) (DCa dc_Mod_hands_0 44 rfl) 3 rfl ?_
    refine Q_zaload (pc := 82) (DCa dc_Mod_hands_0 45 rfl) (fun v19 => ?_)
    refine V_if_eq (tgt := 103) (pc := 83) (DCa dc_Mod_hands_0 46 rfl) (by decide) (fun _ => ?_) (fun _ => ?_)
    · refine V_iinc (ls' := [(0, 2, l0), (2, 0, l2), (3, 0, l3), (4, 0, w32 (l4 + 1))]) (pc := 103) (DCa dc_Mod_hands_1 6 rfl) (Nat.le_of_ble_eq_true rfl) (by decide) 3 rfl rfl ?_
      refine V_goto (tgt := 68) (pc := 106) (DCa dc_Mod_hands_1 7 rfl) (by decide) ?_
      exact hR68 _ _ _ _ _
    · refine V_aload_n (pc := 86) (DCa dc_Mod_hands_0 47 rfl) rfl 0 rfl ?_
      refine V_iload (pc := 87) (DCa dc_Mod_hands_0 48 rfl) 3 rfl ?_
      refine Q_callv (ci := 12) (st := []) (pc := 89) (DCa dc_Mod_hands_0 49 rfl) (sp_Mod_worthBy F _ _ _) ce_Mod_worthBy ml_12_458 rfl rfl ⟨Nat.le_of_ble_eq_true rfl, Nat.le_of_ble_eq_true rfl⟩ rfl (Nat.le_of_ble_eq_true rfl) (fun r20 h21 => ?_)
      refine V_aload_n (pc := 92) (DCa dc_Mod_hands_1 0 rfl) rfl 0 rfl ?_
      refine V_iload_n (pc := 93) (DCa dc_Mod_hands_1 1 rfl) rfl 2 rfl ?_
      refine Q_callv (ci := 12) (st := [(0, r20)]) (pc := 94) (DCa dc_Mod_hands_1 2 rfl) (sp_Mod_worthBy F _ _ _) ce_Mod_worthBy ml_12_458 rfl rfl ⟨Nat.le_of_ble_eq_true rfl, Nat.le_of_ble_eq_true rfl⟩ rfl (Nat.le_of_ble_eq_true rfl) (fun r22 h23 => ?_)
      refine V_icmp_le (tgt := 103) (pc := 97) (DCa dc_Mod_hands_1 3 rfl) (by decide) (fun _ => ?_) (fun _ => ?_)
      · refine V_iload (pc := 100) (DCa dc_Mod_hands_1 4 rfl) 3 rfl ?_
        refine V_istore_n (ls' := [(0, 2, l0), (2, 0, l2), (3, 0, l4), (4, 0, l4)]) (pc := 102) (DCa dc_Mod_hands_1 5 rfl) rfl (Nat.le_of_ble_eq_true rfl) rfl ?_
        refine V_iinc (ls' := [(0, 2, l0), (2, 0, l2), (3, 0, l4), (4, 0, w32 (l4 + 1))]) (pc := 103) (DCa dc_Mod_hands_1 6 rfl) (Nat.le_of_ble_eq_true rfl) (by decide) 3 rfl rfl ?_
        refine V_goto (tgt := 68) (pc := 106) (DCa dc_Mod_hands_1 7 rfl) (by decide) ?_
        exact hR68 _ _ _ _ _
      · refine V_iinc (ls' := [(0, 2, l0), (2, 0, l2), (3, 0, l3), (4, 0, w32 (l4 + 1))]) (pc := 103) (DCa dc_Mod_hands_1 6 rfl) (Nat.le_of_ble_eq_true rfl) (by decide) 3 rfl rfl ?_
        refine V_goto (tgt := 68) (pc := 106) (DCa dc_Mod_hands_1 7 rfl) (by decide) ?_
        exact hR68 _ _ _ _ _
  · refine V_pick [0, 1, 2] rfl ?_
    exact v_Mod_hands_B109 F _ _ _ _
theorem v_Mod_hands_L68 (F : Nat)  (n : Nat) : ∀ (l0 l2 l3 l4 : Int) (h : Hp), V X_Mod_hands 68 [(0, 2, l0), (2, 0, l2), (3, 0, l3), (4, 0, l4)] [] h (Mod_hands_L68 F  n l0 l2 l3 l4 h) := by
  induction n with
  | zero => intros; exact V_none
  | succ n ih => exact fun l0 l2 l3 l4 h => v_Mod_hands_L68s F  _ ih l0 l2 l3 l4 h
theorem v_Mod_hands_B59 (F : Nat)  (l0 l2 : Int) (h : Hp) : V X_Mod_hands 59 [(0, 2, l0), (2, 0, l2)] [] h (Mod_hands_B59 F  l0 l2 h) := by
  unfold Mod_hands_B59
  refine V_aload_n (pc := 59) (DCa dc_Mod_hands_0 33 rfl) rfl 0 rfl ?_
  refine Q_callv (ci := 12) (st := []) (pc := 60) (DCa dc_Mod_hands_0 34 rfl) (sp_Mod_sharesAll F _ _) ce_Mod_sharesAll ml_12_491 rfl rfl ⟨Nat.le_of_ble_eq_true rfl, Nat.le_of_ble_eq_true rfl⟩ rfl (Nat.le_of_ble_eq_true rfl) (fun r16 h17 => ?_)
  refine V_iconst (pc := 63) (DCa dc_Mod_hands_0 35 rfl) (by decide) ?_
  refine V_istore_n (ls' := [(0, 2, l0), (2, 0, l2), (3, 0, 0)]) (pc := 64) (DCa dc_Mod_hands_0 36 rfl) rfl (Nat.le_of_ble_eq_true rfl) rfl ?_
  refine V_iconst (pc := 65) (DCa dc_Mod_hands_0 37 rfl) (by decide) ?_
  refine V_istore (ls' := [(0, 2, l0), (2, 0, l2), (3, 0, 0), (4, 0, 1)]) (pc := 66) (DCa dc_Mod_hands_0 38 rfl) (Nat.le_of_ble_eq_true rfl) rfl ?_
  exact v_Mod_hands_L68 F F _ _ _ _ _
theorem v_Mod_hands_L24s (F : Nat)  (R24 : Int → Int → Int → Int → Hp → Option (Int × Hp)) (hR24 : ∀ (l0 l1 l2 l3 : Int) (h : Hp), V X_Mod_hands 24 [(0, 2, l0), (1, 0, l1), (2, 0, l2), (3, 0, l3)] [] h (R24 l0 l1 l2 l3 h)) (l0 l1 l2 l3 : Int) (h : Hp) : V X_Mod_hands 24 [(0, 2, l0), (1, 0, l1), (2, 0, l2), (3, 0, l3)] [] h (Mod_hands_L24s F  R24 l0 l1 l2 l3 h) := by
  unfold Mod_hands_L24s
  refine V_iload_n (pc := 24) (DCa dc_Mod_hands_0 14 rfl) rfl 3 rfl ?_
  refine V_aload_n (pc := 25) (DCa dc_Mod_hands_0 15 rfl) rfl 0 rfl ?_
  refine Q_getf (k := 27) (pc := 26) (DCa dc_Mod_hands_0 16 rfl) cls_12 (Nat.le_of_ble_eq_true rfl) fl_12_58 rfl rfl rfl (fun v7 => ?_)
  refine V_aload_n (pc := 29) (DCa dc_Mod_hands_0 17 rfl) rfl 0 rfl ?_
  refine Q_getf (k := 18) (pc := 30) (DCa dc_Mod_hands_0 18 rfl) cls_12 (Nat.le_of_ble_eq_true rfl) fl_12_281 rfl rfl rfl (fun v8 => ?_)
  refine Q_iaload (pc := 33) (DCa dc_Mod_hands_0 19 rfl) (fun v9 => ?_)
  refine V_icmp_ge (tgt := 59) (pc := 34) (DCa dc_Mod_hands_0 20 rfl) (by decide) (fun _ => ?_) (fun _ => ?_)
  · refine V_aload_n (pc := 37) (DCa dc_Mod_hands_0 21 rfl) rfl 0 rfl ?_
    refine V_iload_n (pc := 38) (DCa dc_Mod_hands_0 22 rfl) rfl 3 rfl ?_
    refine V_iconst (pc := 39) (DCa dc_Mod_hands_0 23 rfl) (by decide) ?_
    refine Q_callv (ci := 12) (st := []) (pc := 40) (DCa dc_Mod_hands_0 24 rfl) (sp_Mod_startsAs F _ _ _ _) ce_Mod_startsAs ml_12_461 rfl rfl ⟨Nat.le_of_ble_eq_true rfl, Nat.le_of_ble_eq_true rfl⟩ rfl (Nat.le_of_ble_eq_true rfl) (fun r10 h11 => ?_)
    refine V_aload_n (pc := 43) (DCa dc_Mod_hands_0 25 rfl) rfl 0 rfl ?_
    refine V_iload_n (pc := 44) (DCa dc_Mod_hands_0 26 rfl) rfl 3 rfl ?_
    refine V_aload_n (pc := 45) (DCa dc_Mod_hands_0 27 rfl) rfl 0 rfl ?_
    refine Q_callv (ci := 12) (st := [(0, l3), (2, l0)]) (pc := 46) (DCa dc_Mod_hands_0 28 rfl) (sp_Mod_neverDone F _ _) ce_Mod_neverDone ml_12_464 rfl rfl ⟨Nat.le_of_ble_eq_true rfl, Nat.le_of_ble_eq_true rfl⟩ rfl (Nat.le_of_ble_eq_true rfl) (fun r12 h13 => ?_)
    refine V_iload_n (pc := 49) (DCa dc_Mod_hands_0 29 rfl) rfl 1 rfl ?_
    refine Q_callv (ci := 12) (st := []) (pc := 50) (DCa dc_Mod_hands_0 30 rfl) (sp_Mod_fillsCan F _ _ _ _ _) ce_Mod_fillsCan ml_12_488 rfl rfl ⟨Nat.le_of_ble_eq_true rfl, Nat.le_of_ble_eq_true rfl⟩ rfl (Nat.le_of_ble_eq_true rfl) (fun r14 h15 => ?_)
    refine V_iinc (ls' := [(0, 2, l0), (1, 0, l1), (2, 0, l2), (3, 0, w32 (l3 + 1))]) (pc := 53) (DCa dc_Mod_hands_0 31 rfl) (Nat.le_of_ble_eq_true rfl) (by decide) 3 rfl rfl ?_
    refine V_goto (tgt := 24) (pc := 56) (DCa dc_Mod_hands_0 32 rfl) (by decide) ?_
    exact hR24 _ _ _ _ _
  · refine V_pick [0, 2] rfl ?_
    exact v_Mod_hands_B59 F _ _ _
theorem v_Mod_hands_L24 (F : Nat)  (n : Nat) : ∀ (l0 l1 l2 l3 : Int) (h : Hp), V X_Mod_hands 24 [(0, 2, l0), (1, 0, l1), (2, 0, l2), (3, 0, l3)] [] h (Mod_hands_L24 F  n l0 l1 l2 l3 h) := by
  induction n with
  | zero => intros; exact V_none
  | succ n ih => exact fun l0 l1 l2 l3 h => v_Mod_hands_L24s F  _ ih l0 l1 l2 l3 h
theorem v_Mod_hands (F : Nat) (l0 l1 l2 : Int) (h : Hp) : V X_Mod_hands 0 [(0, 2, l0), (1, 0, l1), (2, 0, l2)] [] h (Mod_hands F l0 l1 l2 h) := by
  unfold Mod_hands
  refine V_iload_n (pc := 0) (DCa dc_Mod_hands_0 0 rfl) rfl 1 rfl ?_
  refine Q_calls (st := []) (pc := 1) (DCa dc_Mod_hands_0 1 rfl) (sp_Mod_isBy F _ _) ce_Mod_isBy ml_12_470 rfl ⟨Nat.le_of_ble_eq_true rfl, Nat.le_of_ble_eq_true rfl⟩ rfl (Nat.le_of_ble_eq_true rfl) (fun r1 h2 => ?_)
  refine V_if_eq (tgt := 16) (pc := 4) (DCa dc_Mod_hands_0 2 rfl) (by decide) (fun _ => ?_) (fun _ => ?_)
  · refine V_iconst (pc := 16) (DCa dc_Mod_hands_0 8 rfl) (by decide) ?_
    exact V_ireturn (pc := 17) (DCa dc_Mod_hands_0 9 rfl) rfl
  · refine V_iload_n (pc := 7) (DCa dc_Mod_hands_0 3 rfl) rfl 2 rfl ?_
    refine V_iconst (pc := 8) (DCa dc_Mod_hands_0 4 rfl) (by decide) ?_
    refine V_iconst (pc := 9) (DCa dc_Mod_hands_0 5 rfl) (by decide) ?_
    refine Q_calls (st := []) (pc := 10) (DCa dc_Mod_hands_0 6 rfl) (sp_Mod_in F _ _ _ _) ce_Mod_in ml_12_355 rfl ⟨Nat.le_of_ble_eq_true rfl, Nat.le_of_ble_eq_true rfl⟩ rfl (Nat.le_of_ble_eq_true rfl) (fun r3 h4 => ?_)
    refine V_if_ne (tgt := 18) (pc := 13) (DCa dc_Mod_hands_0 7 rfl) (by decide) (fun _ => ?_) (fun _ => ?_)
    · refine V_iconst (pc := 16) (DCa dc_Mod_hands_0 8 rfl) (by decide) ?_
      exact V_ireturn (pc := 17) (DCa dc_Mod_hands_0 9 rfl) rfl
    · refine V_aload_n (pc := 18) (DCa dc_Mod_hands_0 10 rfl) rfl 0 rfl ?_
      refine Q_callv (ci := 12) (st := []) (pc := 19) (DCa dc_Mod_hands_0 11 rfl) (sp_Mod_copies F _ _) ce_Mod_copies ml_12_409 rfl rfl ⟨Nat.le_of_ble_eq_true rfl, Nat.le_of_ble_eq_true rfl⟩ rfl (Nat.le_of_ble_eq_true rfl) (fun r5 h6 => ?_)
      refine V_iconst (pc := 22) (DCa dc_Mod_hands_0 12 rfl) (by decide) ?_
      refine V_istore_n (ls' := [(0, 2, l0), (1, 0, l1), (2, 0, l2), (3, 0, 0)]) (pc := 23) (DCa dc_Mod_hands_0 13 rfl) rfl (Nat.le_of_ble_eq_true rfl) rfl ?_
      exact v_Mod_hands_L24 F F _ _ _ _ _
theorem sp_Mod_hands (F : Nat) (l0 l1 l2 : Int) (h : Hp) : Sp yX12_hands cX12_hands 5 (some (.int)) 7 172 [(2, l0), (0, l1), (0, l2)] h (Mod_hands F l0 l1 l2 h) := Sp_of (by decide +kernel) rfl rfl (Nat.le_of_ble_eq_true rfl) (v_Mod_hands F l0 l1 l2 h)

-- TideRakesModel.isLarge
def Mod_isLarge_B258 (F : Nat)  (l0 l3 : Int) (h : Hp) : Option (Int × Hp) :=
  iv h l0 112 (Mod_sharesAll F l0 h) fun r56 h57 =>
  gf h57 l0 112 75 fun v58 =>
  al h57 v58 2 l3 fun v59 =>
  rz v59 h57
def Mod_isLarge_L178s (F : Nat)  (R178 : Int → Int → Int → Int → Hp → Option (Int × Hp)) (l0 l2 l3 l4 : Int) (h : Hp) : Option (Int × Hp) :=
  gf h l0 112 27 fun v40 =>
  gf h l0 112 18 fun v41 =>
  al h v40 0 v41 fun v42 =>
  if l4 < v42 then
    (gf h l0 112 28 fun v43 =>
    gf h l0 112 18 fun v44 =>
    al h v43 0 (w32 ((w32 (3 * v44)) + l4)) fun v45 =>
    pf h l0 112 67 v45 fun h46 =>
    gf h46 l0 112 29 fun v47 =>
    gf h46 l0 112 18 fun v48 =>
    al h46 v47 0 (w32 ((w32 (3 * v48)) + l4)) fun v49 =>
    pf h46 l0 112 68 v49 fun h50 =>
    pf h50 l0 112 69 0 fun h51 =>
    pf h51 l0 112 70 8 fun h52 =>
    pz h52 l0 112 71 0 fun h53 =>
    iv h53 l0 112 (Mod_fillsCan F l0 l4 l3 l2 h53) fun r54 h55 =>
    R178 l0 l2 l3 (w32 (l4 + 1)) h55)
  else
    (Mod_isLarge_B258 F l0 l3 h)
def Mod_isLarge_L178 (F : Nat)  : Nat → Int → Int → Int → Int → Hp → Option (Int × Hp)
  | 0 => fun _ _ _ _ _ => none
  | n + 1 => Mod_isLarge_L178s F  (Mod_isLarge_L178 F  n)
def Mod_isLarge_L17s (F : Nat)  (R17 : Int → Int → Int → Int → Int → Hp → Option (Int × Hp)) (l0 l1 l2 l3 l4 : Int) (h : Hp) : Option (Int × Hp) :=
  gf h l0 112 22 fun v5 =>
  gf h l0 112 18 fun v6 =>
  al h v5 0 v6 fun v7 =>
  if l4 < v7 then
    (gf h l0 112 55 fun v8 =>
    gf h l0 112 33 fun v9 =>
    gf h l0 112 18 fun v10 =>
    al h v9 0 v10 fun v11 =>
    gf h l0 112 23 fun v12 =>
    gf h l0 112 18 fun v13 =>
    al h v12 0 (w32 ((w32 (8 * v13)) + l4)) fun v14 =>
    gf h l0 112 33 fun v15 =>
    gf h l0 112 18 fun v16 =>
    al h v15 0 v16 fun v17 =>
    dv (w32 ((w32 (v14 - v17)) * l1)) 4 fun v18 =>
    as h v8 0 (w32 (8 + l4)) (w32 (v11 + v18)) fun h19 =>
    gf h19 l0 112 56 fun v20 =>
    gf h19 l0 112 34 fun v21 =>
    gf h19 l0 112 18 fun v22 =>
    al h19 v21 0 v22 fun v23 =>
    gf h19 l0 112 24 fun v24 =>
    gf h19 l0 112 18 fun v25 =>
    al h19 v24 0 (w32 ((w32 (8 * v25)) + l4)) fun v26 =>
    gf h19 l0 112 34 fun v27 =>
    gf h19 l0 112 18 fun v28 =>
    al h19 v27 0 v28 fun v29 =>
    dv (w32 ((w32 (v26 - v29)) * l1)) 4 fun v30 =>
    as h19 v20 0 (w32 (8 + l4)) (w32 (v23 + v30)) fun h31 =>
    gf h31 l0 112 57 fun v32 =>
    gf h31 l0 112 26 fun v33 =>
    gf h31 l0 112 18 fun v34 =>
    al h31 v33 0 (w32 ((w32 (8 * v34)) + l4)) fun v35 =>
    dv (w32 ((w32 (v35 * l1)) + 3)) 4 fun v36 =>
    as h31 v32 0 (w32 (8 + l4)) v36 fun h37 =>
    iv h37 l0 112 (Mod_laysPart F l0 (w32 (8 + l4)) h37) fun r38 h39 =>
    R17 l0 l1 l2 l3 (w32 (l4 + 1)) h39)
  else
    (Mod_isLarge_L178 F F l0 l2 l3 0 h)
def Mod_isLarge_L17 (F : Nat)  : Nat → Int → Int → Int → Int → Int → Hp → Option (Int × Hp)
  | 0 => fun _ _ _ _ _ _ => none
  | n + 1 => Mod_isLarge_L17s F  (Mod_isLarge_L17 F  n)
def Mod_isLarge (F : Nat) (l0 l1 l2 : Int) (h : Hp) : Option (Int × Hp) :=
  gf h l0 112 22 fun v1 =>
  gf h l0 112 18 fun v2 =>
  al h v1 0 v2 fun v3 =>
  lt (w32 ((ishl 1 v3) - 1)) fun x4 =>
  Mod_isLarge_L17 F F l0 l1 l2 x4 0 h

theorem dc_Mod_isLarge_0 : ∀ q ∈ ([(0, .iconst 1, 1), (1, .aload_n 0, 1), (2, .getfield 43, 3), (5, .aload_n 0, 1), (6, .getfield 281, 3), (9, .iaload, 1), (10, .ishl, 1), (11, .iconst 1, 1), (12, .isub, 1), (13, .istore_n 3, 1), (14, .iconst 0, 1), (15, .istore 4, 2), (17, .iload 4, 2), (19, .aload_n 0, 1), (20, .getfield 43, 3), (23, .aload_n 0, 1), (24, .getfield 281, 3), (27, .iaload, 1), (28, .if_icmp .ge 147, 3), (31, .aload_n 0, 1), (32, .getfield 131, 3), (35, .bipush 8, 2), (37, .iload 4, 2), (39, .iadd, 1), (40, .aload_n 0, 1), (41, .getfield 76, 3), (44, .aload_n 0, 1), (45, .getfield 281, 3), (48, .iaload, 1), (49, .aload_n 0, 1), (50, .getfield 46, 3), (53, .bipush 8, 2), (55, .aload_n 0, 1), (56, .getfield 281, 3), (59, .imul, 1), (60, .iload 4, 2), (62, .iadd, 1), (63, .iaload, 1), (64, .aload_n 0, 1), (65, .getfield 76, 3), (68, .aload_n 0, 1), (69, .getfield 281, 3), (72, .iaload, 1), (73, .isub, 1), (74, .iload_n 1, 1), (75, .imul, 1), (76, .iconst 4, 1), (77, .idiv, 1), (78, .iadd, 1), (79, .iastore, 1)] : List (Nat × Instr × Nat)), decode cX12_isLarge q.1 = .ok (q.2.1, q.2.2) := by decide +kernel
theorem dc_Mod_isLarge_1 : ∀ q ∈ ([(80, .aload_n 0, 1), (81, .getfield 134, 3), (84, .bipush 8, 2), (86, .iload 4, 2), (88, .iadd, 1), (89, .aload_n 0, 1), (90, .getfield 79, 3), (93, .aload_n 0, 1), (94, .getfield 281, 3), (97, .iaload, 1), (98, .aload_n 0, 1), (99, .getfield 49, 3), (102, .bipush 8, 2), (104, .aload_n 0, 1), (105, .getfield 281, 3), (108, .imul, 1), (109, .iload 4, 2), (111, .iadd, 1), (112, .iaload, 1), (113, .aload_n 0, 1), (114, .getfield 79, 3), (117, .aload_n 0, 1), (118, .getfield 281, 3), (121, .iaload, 1), (122, .isub, 1), (123, .iload_n 1, 1), (124, .imul, 1), (125, .iconst 4, 1), (126, .idiv, 1), (127, .iadd, 1), (128, .iastore, 1), (129, .aload_n 0, 1), (130, .getfield 137, 3), (133, .bipush 8, 2), (135, .iload 4, 2), (137, .iadd, 1), (138, .aload_n 0, 1), (139, .getfield 55, 3), (142, .bipush 8, 2), (144, .aload_n 0, 1), (145, .getfield 281, 3), (148, .imul, 1), (149, .iload 4, 2), (151, .iadd, 1), (152, .iaload, 1), (153, .iload_n 1, 1), (154, .imul, 1), (155, .iconst 3, 1), (156, .iadd, 1), (157, .iconst 4, 1)] : List (Nat × Instr × Nat)), decode cX12_isLarge q.1 = .ok (q.2.1, q.2.2) := by decide +kernel
theorem dc_Mod_isLarge_2 : ∀ q ∈ ([(158, .idiv, 1), (159, .iastore, 1), (160, .aload_n 0, 1), (161, .bipush 8, 2), (163, .iload 4, 2), (165, .iadd, 1), (166, .invokevirtual 370, 3), (169, .iinc 4 1, 3), (172, .goto (-155), 3), (175, .iconst 0, 1), (176, .istore 4, 2), (178, .iload 4, 2), (180, .aload_n 0, 1), (181, .getfield 58, 3), (184, .aload_n 0, 1), (185, .getfield 281, 3), (188, .iaload, 1), (189, .if_icmp .ge 69, 3), (192, .aload_n 0, 1), (193, .aload_n 0, 1), (194, .getfield 61, 3), (197, .iconst 3, 1), (198, .aload_n 0, 1), (199, .getfield 281, 3), (202, .imul, 1), (203, .iload 4, 2), (205, .iadd, 1), (206, .iaload, 1), (207, .putfield 434, 3), (210, .aload_n 0, 1), (211, .aload_n 0, 1), (212, .getfield 64, 3), (215, .iconst 3, 1), (216, .aload_n 0, 1), (217, .getfield 281, 3), (220, .imul, 1), (221, .iload 4, 2), (223, .iadd, 1), (224, .iaload, 1), (225, .putfield 437, 3), (228, .aload_n 0, 1), (229, .iconst 0, 1), (230, .putfield 440, 3), (233, .aload_n 0, 1), (234, .bipush 8, 2), (236, .putfield 427, 3), (239, .aload_n 0, 1), (240, .iconst 0, 1), (241, .putfield 430, 3), (244, .aload_n 0, 1)] : List (Nat × Instr × Nat)), decode cX12_isLarge q.1 = .ok (q.2.1, q.2.2) := by decide +kernel
theorem dc_Mod_isLarge_3 : ∀ q ∈ ([(245, .iload 4, 2), (247, .iload_n 3, 1), (248, .iload_n 2, 1), (249, .invokevirtual 488, 3), (252, .iinc 4 1, 3), (255, .goto (-77), 3), (258, .aload_n 0, 1), (259, .invokevirtual 491, 3), (262, .aload_n 0, 1), (263, .getfield 170, 3), (266, .iload_n 3, 1), (267, .baload, 1), (268, .ireturn, 1)] : List (Nat × Instr × Nat)), decode cX12_isLarge q.1 = .ok (q.2.1, q.2.2) := by decide +kernel
abbrev X_Mod_isLarge : MX := (cX12_isLarge, RX12, "isLarge", 5, (some (.boolean)), 7, 172)
theorem v_Mod_isLarge_B258 (F : Nat)  (l0 l3 : Int) (h : Hp) : V X_Mod_isLarge 258 [(0, 2, l0), (3, 0, l3)] [] h (Mod_isLarge_B258 F  l0 l3 h) := by
  unfold Mod_isLarge_B258
  refine V_aload_n (pc := 258) (DCa dc_Mod_isLarge_3 6 rfl) rfl 0 rfl ?_
  refine Q_callv (ci := 12) (st := []) (pc := 259) (DCa dc_Mod_isLarge_3 7 rfl) (sp_Mod_sharesAll F _ _) ce_Mod_sharesAll ml_12_491 rfl rfl ⟨Nat.le_of_ble_eq_true rfl, Nat.le_of_ble_eq_true rfl⟩ rfl (Nat.le_of_ble_eq_true rfl) (fun r56 h57 => ?_)
  refine V_aload_n (pc := 262) (DCa dc_Mod_isLarge_3 8 rfl) rfl 0 rfl ?_
  refine Q_getf (k := 75) (pc := 263) (DCa dc_Mod_isLarge_3 9 rfl) cls_12 (Nat.le_of_ble_eq_true rfl) fl_12_170 rfl rfl rfl (fun v58 => ?_)
  refine V_iload_n (pc := 266) (DCa dc_Mod_isLarge_3 10 rfl) rfl 1 rfl ?_
  refine Q_zaload (pc := 267) (DCa dc_Mod_isLarge_3 11 rfl) (fun v59 => ?_)
  exact V_zreturn (pc := 268) (DCa dc_Mod_isLarge_3 12 rfl) rfl
theorem v_Mod_isLarge_L178s (F : Nat)  (R178 : Int → Int → Int → Int → Hp → Option (Int × Hp)) (hR178 : ∀ (l0 l2 l3 l4 : Int) (h : Hp), V X_Mod_isLarge 178 [(0, 2, l0), (2, 0, l2), (3, 0, l3), (4, 0, l4)] [] h (R178 l0 l2 l3 l4 h)) (l0 l2 l3 l4 : Int) (h : Hp) : V X_Mod_isLarge 178 [(0, 2, l0), (2, 0, l2), (3, 0, l3), (4, 0, l4)] [] h (Mod_isLarge_L178s F  R178 l0 l2 l3 l4 h) := by
  unfold Mod_isLarge_L178s
  refine V_iload (pc := 178) (DCa dc_Mod_isLarge_2 11 rfl) 3 rfl ?_
  refine V_aload_n (pc := 180) (DCa dc_Mod_isLarge_2 12 rfl) rfl 0 rfl ?_
  refine Q_getf (k := 27) (pc := 181) (DCa dc_Mod_isLarge_2 13 rfl) cls_12 (Nat.le_of_ble_eq_true rfl) fl_12_58 rfl rfl rfl (fun v40 => ?_)
  refine V_aload_n (pc := 184) (DCa dc_Mod_isLarge_2 14 rfl) rfl 0 rfl ?_
  refine Q_getf (k := 18) (pc := 185) (DCa dc_Mod_isLarge_2 15 rfl) cls_12 (Nat.le_of_ble_eq_true rfl) fl_12_281 rfl rfl rfl (fun v41 => ?_)
  refine Q_iaload (pc := 188) (DCa dc_Mod_isLarge_2 16 rfl) (fun v42 => ?_)
  refine V_icmp_ge (tgt := 258) (pc := 189) (DCa dc_Mod_isLarge_2 17 rfl) (by decide) (fun _ => ?_) (fun _ => ?_)
  · refine V_aload_n (pc := 192) (DCa dc_Mod_isLarge_2 18 rfl) rfl 0 rfl ?_
    refine V_aload_n (pc := 193) (DCa dc_Mod_isLarge_2 19 rfl) rfl 0 rfl ?_
    refine Q_getf (k := 28) (pc := 194) (DCa dc_Mod_isLarge_2 20 rfl) cls_12 (Nat.le_of_ble_eq_true rfl) fl_12_61 rfl rfl rfl (fun v43 => ?_)
    refine V_iconst (pc := 197) (DCa dc_Mod_isLarge_2 21 rfl) (by decide) ?_
    refine V_aload_n (pc := 198) (DCa dc_Mod_isLarge_2 22 rfl) rfl 0 rfl ?_
    refine Q_getf (k := 18) (pc := 199) (DCa dc_Mod_isLarge_2 23 rfl) cls_12 (Nat.le_of_ble_eq_true rfl) fl_12_281 rfl rfl rfl (fun v44 => ?_)
    refine V_imul (pc := 202) (DCa dc_Mod_isLarge_2 24 rfl) ?_
    refine V_iload (pc := 203) (DCa dc_Mod_isLarge_2 25 rfl) 3 rfl ?_
    refine V_iadd (pc := 205) (DCa dc_Mod_isLarge_2 26 rfl) ?_
    refine Q_iaload (pc := 206) (DCa dc_Mod_isLarge_2 27 rfl) (fun v45 => ?_)
    refine Q_putf (k := 67) (pc := 207) (DCa dc_Mod_isLarge_2 28 rfl) cls_12 (Nat.le_of_ble_eq_true rfl) fl_12_434 rfl rfl rfl (Or.inl rfl) (Or.inl ⟨rfl, rfl⟩) (fun h46 => ?_)
    refine V_aload_n (pc := 210) (DCa dc_Mod_isLarge_2 29 rfl) rfl 0 rfl ?_
    refine V_aload_n (pc := 211) (DCa dc_Mod_isLarge_2 30 rfl) rfl 0 rfl ?_
    refine Q_getf (k := 29) (pc := 212) (DCa dc_Mod_isLarge_2 31 rfl) cls_12 (Nat.le_of_ble_eq_true rfl) fl_12_64 rfl rfl rfl (fun v47 => ?_)
    refine V_iconst (pc := 215) (DCa dc_Mod_isLarge_2 32 rfl) (by decide) ?_
    refine V_aload_n (pc := 216) (DCa dc_Mod_isLarge_2 33 rfl) rfl 0 rfl ?_
    refine Q_getf (k := 18) (pc := 217) (DCa dc_Mod_isLarge_2 34 rfl) cls_12 (Nat.le_of_ble_eq_true rfl) fl_12_281 rfl rfl rfl (fun v48 => ?_)
    refine V_imul (pc := 220) (DCa dc_Mod_isLarge_2 35 rfl) ?_
    refine V_iload (pc := 221) (DCa dc_Mod_isLarge_2 36 rfl) 3 rfl ?_
    refine V_iadd (pc := 223) (DCa dc_Mod_isLarge_2 37 rfl) ?_
    refine Q_iaload (pc := 224) (DCa dc_Mod_isLarge_2 38 rfl) (fun v49 => ?_)
    refine Q_putf (k := 68) (pc := 225) (DCa dc_Mod_isLarge_2 39 rfl) cls_12 (Nat.le_of_ble_eq_true rfl) fl_12_437 rfl rfl rfl (Or.inl rfl) (Or.inl ⟨rfl, rfl⟩) (fun h50 => ?_)
    refine V_aload_n (pc := 228) (DCa dc_Mod_isLarge_2 40 rfl) rfl 0 rfl ?_
    refine V_iconst (pc := 229) (DCa dc_Mod_isLarge_2 41 rfl) (by decide) ?_
    refine Q_putf (k := 69) (pc := 230) (DCa dc_Mod_isLarge_2 42 rfl) cls_12 (Nat.le_of_ble_eq_true rfl) fl_12_440 rfl rfl rfl (Or.inl rfl) (Or.inl ⟨rfl, rfl⟩) (fun h51 => ?_)
    refine V_aload_n (pc := 233) (DCa dc_Mod_isLarge_2 43 rfl) rfl 0 rfl ?_
    refine V_bipush (pc := 234) (DCa dc_Mod_isLarge_2 44 rfl) (by decide) ?_
    refine Q_putf (k := 70) (pc := 236) (DCa dc_Mod_isLarge_2 45 rfl) cls_12 (Nat.le_of_ble_eq_true rfl) fl_12_427 rfl rfl rfl (Or.inl rfl) (Or.inl ⟨rfl, rfl⟩) (fun h52 => ?_)
    refine V_aload_n (pc := 239) (DCa dc_Mod_isLarge_2 46 rfl) rfl 0 rfl ?_
    refine V_iconst (pc := 240) (DCa dc_Mod_isLarge_2 47 rfl) (by decide) ?_
    refine Q_putz (k := 71) (pc := 241) (DCa dc_Mod_isLarge_2 48 rfl) cls_12 (Nat.le_of_ble_eq_true rfl) fl_12_430 rfl rfl rfl (Or.inl rfl) rfl (fun h53 => ?_)
    refine V_aload_n (pc := 244) (DCa dc_Mod_isLarge_2 49 rfl) rfl 0 rfl ?_
    refine V_iload (pc := 245) (DCa dc_Mod_isLarge_3 0 rfl) 3 rfl ?_
    refine V_iload_n (pc := 247) (DCa dc_Mod_isLarge_3 1 rfl) rfl 2 rfl ?_
    refine V_iload_n (pc := 248) (DCa dc_Mod_isLarge_3 2 rfl) rfl 1 rfl ?_
    refine Q_callv (ci := 12) (st := []) (pc := 249) (DCa dc_Mod_isLarge_3 3 rfl) (sp_Mod_fillsCan F _ _ _ _ _) ce_Mod_fillsCan ml_12_488 rfl rfl ⟨Nat.le_of_ble_eq_true rfl, Nat.le_of_ble_eq_true rfl⟩ rfl (Nat.le_of_ble_eq_true rfl) (fun r54 h55 => ?_)
    refine V_iinc (ls' := [(0, 2, l0), (2, 0, l2), (3, 0, l3), (4, 0, w32 (l4 + 1))]) (pc := 252) (DCa dc_Mod_isLarge_3 4 rfl) (Nat.le_of_ble_eq_true rfl) (by decide) 3 rfl rfl ?_
    refine V_goto (tgt := 178) (pc := 255) (DCa dc_Mod_isLarge_3 5 rfl) (by decide) ?_
    exact hR178 _ _ _ _ _
  · refine V_pick [0, 2] rfl ?_
    exact v_Mod_isLarge_B258 F _ _ _
theorem v_Mod_isLarge_L178 (F : Nat)  (n : Nat) : ∀ (l0 l2 l3 l4 : Int) (h : Hp), V X_Mod_isLarge 178 [(0, 2, l0), (2, 0, l2), (3, 0, l3), (4, 0, l4)] [] h (Mod_isLarge_L178 F  n l0 l2 l3 l4 h) := by
  induction n with
  | zero => intros; exact V_none
  | succ n ih => exact fun l0 l2 l3 l4 h => v_Mod_isLarge_L178s F  _ ih l0 l2 l3 l4 h
theorem v_Mod_isLarge_L17s (F : Nat)  (R17 : Int → Int → Int → Int → Int → Hp → Option (Int × Hp)) (hR17 : ∀ (l0 l1 l2 l3 l4 : Int) (h : Hp), V X_Mod_isLarge 17 [(0, 2, l0), (1, 0, l1), (2, 0, l2), (3, 0, l3), (4, 0, l4)] [] h (R17 l0 l1 l2 l3 l4 h)) (l0 l1 l2 l3 l4 : Int) (h : Hp) : V X_Mod_isLarge 17 [(0, 2, l0), (1, 0, l1), (2, 0, l2), (3, 0, l3), (4, 0, l4)] [] h (Mod_isLarge_L17s F  R17 l0 l1 l2 l3 l4 h) := by
  unfold Mod_isLarge_L17s
  refine V_iload (pc := 17) (DCa dc_Mod_isLarge_0 12 rfl) 4 rfl ?_
  refine V_aload_n (pc := 19) (DCa dc_Mod_isLarge_0 13 rfl) rfl 0 rfl ?_
  refine Q_getf (k := 22) (pc := 20) (DCa dc_Mod_isLarge_0 14 rfl) cls_12 (Nat.le_of_ble_eq_true rfl) fl_12_43 rfl rfl rfl (fun v5 => ?_)
  refine V_aload_n (pc := 23) (DCa dc_Mod_isLarge_0 15 rfl) rfl 0 rfl ?_
  refine Q_getf (k := 18) (pc := 24) (DCa dc_Mod_isLarge_0 16 rfl) cls_12 (Nat.le_of_ble_eq_true rfl) fl_12_281 rfl rfl rfl (fun v6 => ?_)
  refine Q_iaload (pc := 27) (DCa dc_Mod_isLarge_0 17 rfl) (fun v7 => ?_)
  refine V_icmp_ge (tgt := 175) (pc := 28) (DCa dc_Mod_isLarge_0 18 rfl) (by decide) (fun _ => ?_) (fun _ => ?_)
  · refine V_aload_n (pc := 31) (DCa dc_Mod_isLarge_0 19 rfl) rfl 0 rfl ?_
    refine Q_getf (k := 55) (pc := 32) (DCa dc_Mod_isLarge_0 20 rfl) cls_12 (Nat.le_of_ble_eq_true rfl) fl_12_131 rfl rfl rfl (fun v8 => ?_)
    refine V_bipush (pc := 35) (DCa dc_Mod_isLarge_0 21 rfl) (by decide) ?_
    refine V_iload (pc := 37) (DCa dc_Mod_isLarge_0 22 rfl) 4 rfl ?_
    refine V_iadd (pc := 39) (DCa dc_Mod_isLarge_0 23 rfl) ?_
    refine V_aload_n (pc := 40) (DCa dc_Mod_isLarge_0 24 rfl) rfl 0 rfl ?_
    refine Q_getf (k := 33) (pc := 41) (DCa dc_Mod_isLarge_0 25 rfl) cls_12 (Nat.le_of_ble_eq_true rfl) fl_12_76 rfl rfl rfl (fun v9 => ?_)
    refine V_aload_n (pc := 44) (DCa dc_Mod_isLarge_0 26 rfl) rfl 0 rfl ?_
    refine Q_getf (k := 18) (pc := 45) (DCa dc_Mod_isLarge_0 27 rfl) cls_12 (Nat.le_of_ble_eq_true rfl) fl_12_281 rfl rfl rfl (fun v10 => ?_)
    refine Q_iaload (pc := 48) (DCa dc_Mod_isLarge_0 28 rfl) (fun v11 => ?_)
    refine V_aload_n (pc := 49) (DCa dc_Mod_isLarge_0 29 rfl) rfl 0 rfl ?_
    refine Q_getf (k := 23) (pc := 50) (DCa dc_Mod_isLarge_0 30 rfl) cls_12 (Nat.le_of_ble_eq_true rfl) fl_12_46 rfl rfl rfl (fun v12 => ?_)
    refine V_bipush (pc := 53) (DCa dc_Mod_isLarge_0 31 rfl) (by decide) ?_
    refine V_aload_n (pc := 55) (DCa dc_Mod_isLarge_0 32 rfl) rfl 0 rfl ?_
    refine Q_getf (k := 18) (pc := 56) (DCa dc_Mod_isLarge_0 33 rfl) cls_12 (Nat.le_of_ble_eq_true rfl) fl_12_281 rfl rfl rfl (fun v13 => ?_)
    refine V_imul (pc := 59) (DCa dc_Mod_isLarge_0 34 rfl) ?_
    refine V_iload (pc := 60) (DCa dc_Mod_isLarge_0 35 rfl) 4 rfl ?_
    refine V_iadd (pc := 62) (DCa dc_Mod_isLarge_0 36 rfl) ?_
    refine Q_iaload (pc := 63) (DCa dc_Mod_isLarge_0 37 rfl) (fun v14 => ?_)
    refine V_aload_n (pc := 64) (DCa dc_Mod_isLarge_0 38 rfl) rfl 0 rfl ?_
    refine Q_getf (k := 33) (pc := 65) (DCa dc_Mod_isLarge_0 39 rfl) cls_12 (Nat.le_of_ble_eq_true rfl) fl_12_76 rfl rfl rfl (fun v15 => ?_)
    refine V_aload_n (pc := 68) (DCa dc_Mod_isLarge_0 40 rfl) rfl 0 rfl ?_
    refine Q_getf (k := 18) (pc := 69) (DCa dc_Mod_isLarge_0 41 rfl) cls_12 (Nat.le_of_ble_eq_true rfl) fl_12_281 rfl rfl rfl (fun v16 => ?_)
    refine Q_iaload (pc := 72) (DCa dc_Mod_isLarge_0 42 rfl) (fun v17 => ?_)
    refine V_isub (pc := 73) (DCa dc_Mod_isLarge_0 43 rfl) ?_
    refine V_iload_n (pc := 74) (DCa dc_Mod_isLarge_0 44 rfl) rfl 1 rfl ?_
    refine V_imul (pc := 75) (DCa dc_Mod_isLarge_0 45 rfl) ?_
    refine V_iconst (pc := 76) (DCa dc_Mod_isLarge_0 46 rfl) (by decide) ?_
    refine Q_idiv (pc := 77) (DCa dc_Mod_isLarge_0 47 rfl) (fun v18 => ?_)
    refine V_iadd (pc := 78) (DCa dc_Mod_isLarge_0 48 rfl) ?_
    refine Q_iastore (pc := 79) (DCa dc_Mod_isLarge_0 49 rfl) (fun h19 => ?_)
    refine V_aload_n (pc := 80) (DCa dc_Mod_isLarge_1 0 rfl) rfl 0 rfl ?_
    refine Q_getf (k := 56) (pc := 81) (DCa dc_Mod_isLarge_1 1 rfl) cls_12 (Nat.le_of_ble_eq_true rfl) fl_12_134 rfl rfl rfl (fun v20 => ?_)
    refine V_bipush (pc := 84) (DCa dc_Mod_isLarge_1 2 rfl) (by decide) ?_
    refine V_iload (pc := 86) (DCa dc_Mod_isLarge_1 3 rfl) 4 rfl ?_
    refine V_iadd (pc := 88) (DCa dc_Mod_isLarge_1 4 rfl) ?_
    refine V_aload_n (pc := 89) (DCa dc_Mod_isLarge_1 5 rfl) rfl 0 rfl ?_
    refine Q_getf (k := 34) (pc := 90) (DCa dc_Mod_isLarge_1 6 rfl) cls_12 (Nat.le_of_ble_eq_true rfl) fl_12_79 rfl rfl rfl (fun v21 => ?_)
    refine V_aload_n (pc := 93) (DCa dc_Mod_isLarge_1 7 rfl) rfl 0 rfl ?_
    refine Q_getf (k := 18) (pc := 94) (DCa dc_Mod_isLarge_1 8 rfl) cls_12 (Nat.le_of_ble_eq_true rfl) fl_12_281 rfl rfl rfl (fun v22 => ?_)
    refine Q_iaload (pc := 97) (DCa dc_Mod_isLarge_1 9 rfl) (fun v23 => ?_)
    refine V_aload_n (pc := 98) (DCa dc_Mod_isLarge_1 10 rfl) rfl 0 rfl ?_
    refine Q_getf (k := 24) (pc := 99) (DCa dc_Mod_isLarge_1 11 rfl) cls_12 (Nat.le_of_ble_eq_true rfl) fl_12_49 rfl rfl rfl (fun v24 => ?_)
    refine V_bipush (pc := 102) (DCa dc_Mod_isLarge_1 12 rfl) (by decide) ?_
    refine V_aload_n (pc := 104) (DCa dc_Mod_isLarge_1 13 rfl) rfl 0 rfl ?_
    refine Q_getf (k := 18) (pc := 105) (DCa dc_Mod_isLarge_1 14 rfl) cls_12 (Nat.le_of_ble_eq_true rfl) fl_12_281 rfl rfl rfl (fun v25 => ?_)
    refine V_imul (pc := 108) (DCa dc_Mod_isLarge_1 15 rfl) ?_
    refine V_iload (pc := 109) (DCa dc_Mod_isLarge_1 16 rfl) 4 rfl ?_
    refine V_iadd (pc := 111) (DCa dc_Mod_isLarge_1 17 rfl) ?_
    refine Q_iaload (pc := 112) (DCa dc_Mod_isLarge_1 18 rfl) (fun v26 => ?_)
    refine V_aload_n (pc := 113) (DCa dc_Mod_isLarge_1 19 rfl) rfl 0 rfl ?_
    refine Q_getf (k := 34) (pc := 114) (DCa dc_Mod_isLarge_1 20 rfl) cls_12 (Nat.le_of_ble_eq_true rfl) fl_12_79 rfl rfl rfl (fun v27 => ?_)
    refine V_aload_n (pc := 117) (DCa dc_Mod_isLarge_1 21 rfl) rfl 0 rfl ?_
    refine Q_getf (k := 18) (pc := 118) (DCa dc_Mod_isLarge_1 22 rfl) cls_12 (Nat.le_of_ble_eq_true rfl) fl_12_281 rfl rfl rfl (fun v28 => ?_)
    refine Q_iaload (pc := 121) (DCa dc_Mod_isLarge_1 23 rfl) (fun v29 => ?_)
    refine V_isub (pc := 122) (DCa dc_Mod_isLarge_1 24 rfl) ?_
    refine V_iload_n (pc := 123) (DCa dc_Mod_isLarge_1 25 rfl) rfl 1 rfl ?_
    refine V_imul (pc := 124) (DCa dc_Mod_isLarge_1 26 rfl) ?_
    refine V_iconst (pc := 125) (DCa dc_Mod_isLarge_1 27 rfl) (by decide) ?_
    refine Q_idiv (pc := 126) (DCa dc_Mod_isLarge_1 28 rfl) (fun v30 => ?_)
    refine V_iadd (pc := 127) (DCa dc_Mod_isLarge_1 29 rfl) ?_
    refine Q_iastore (pc := 128) (DCa dc_Mod_isLarge_1 30 rfl) (fun h31 => ?_)
    refine V_aload_n (pc := 129) (DCa dc_Mod_isLarge_1 31 rfl) rfl 0 rfl ?_
    refine Q_getf (k := 57) (pc := 130) (DCa dc_Mod_isLarge_1 32 rfl) cls_12 (Nat.le_of_ble_eq_true rfl) fl_12_137 rfl rfl rfl (fun v32 => ?_)
    refine V_bipush (pc := 133) (DCa dc_Mod_isLarge_1 33 rfl) (by decide) ?_
    refine V_iload (pc := 135) (DCa dc_Mod_isLarge_1 34 rfl) 4 rfl ?_
    refine V_iadd (pc := 137) (DCa dc_Mod_isLarge_1 35 rfl) ?_
    refine V_aload_n (pc := 138) (DCa dc_Mod_isLarge_1 36 rfl) rfl 0 rfl ?_
    refine Q_getf (k := 26) (pc := 139) (DCa dc_Mod_isLarge_1 37 rfl) cls_12 (Nat.le_of_ble_eq_true rfl) fl_12_55 rfl rfl rfl (fun v33 => ?_)
    refine V_bipush (pc := 142) (DCa dc_Mod_isLarge_1 38 rfl) (by decide) ?_
    refine V_aload_n (pc := 144) (DCa dc_Mod_isLarge_1 39 rfl) rfl 0 rfl ?_
    refine Q_getf (k := 18) (pc := 145) (DCa dc_Mod_isLarge_1 40 rfl) cls_12 (Nat.le_of_ble_eq_true rfl) fl_12_281 rfl rfl rfl (fun v34 => ?_)
    refine V_imul (pc := 148) (DCa dc_Mod_isLarge_1 41 rfl) ?_
    refine V_iload (pc := 149) (DCa dc_Mod_isLarge_1 42 rfl) 4 rfl ?_
    refine V_iadd (pc := 151) (DCa dc_Mod_isLarge_1 43 rfl) ?_
    refine Q_iaload (pc := 152) (DCa dc_Mod_isLarge_1 44 rfl) (fun v35 => ?_)
    refine V_iload_n (pc := 153) (DCa dc_Mod_isLarge_1 45 rfl) rfl 1 rfl ?_
    refine V_imul (pc := 154) (DCa dc_Mod_isLarge_1 46 rfl) ?_
    refine V_iconst (pc := 155) (DCa dc_Mod_isLarge_1 47 rfl) (by decide) ?_
    refine V_iadd (pc := 156) (DCa dc_Mod_isLarge_1 48 rfl) ?_
    refine V_iconst (pc := 157) (DCa dc_Mod_isLarge_1 49 rfl) (by decide) ?_
    refine Q_idiv (pc := 158) (DCa dc_Mod_isLarge_2 0 rfl) (fun v36 => ?_)
    refine Q_iastore (pc := 159) (DCa dc_Mod_isLarge_2 1 rfl) (fun h37 => ?_)
    refine V_aload_n (pc := 160) (DCa dc_Mod_isLarge_2 2 rfl) rfl 0 rfl ?_
    refine V_bipush (pc := 161) (DCa dc_Mod_isLarge_2 3 rfl) (by decide) ?_
    refine V_iload (pc := 163) (DCa dc_Mod_isLarge_2 4 rfl) 4 rfl ?_
    refine V_iadd (pc := 165) (DCa dc_Mod_isLarge_2 5 rfl) ?_
    refine Q_callv (ci := 12) (st := []) (pc := 166) (DCa dc_Mod_isLarge_2 6 rfl) (sp_Mod_laysPart F _ _ _) ce_Mod_laysPart ml_12_370 rfl rfl ⟨Nat.le_of_ble_eq_true rfl, Nat.le_of_ble_eq_true rfl⟩ rfl (Nat.le_of_ble_eq_true rfl) (fun r38 h39 => ?_)
    refine V_iinc (ls' := [(0, 2, l0), (1, 0, l1), (2, 0, l2), (3, 0, l3), (4, 0, w32 (l4 + 1))]) (pc := 169) (DCa dc_Mod_isLarge_2 7 rfl) (Nat.le_of_ble_eq_true rfl) (by decide) 4 rfl rfl ?_
    refine V_goto (tgt := 17) (pc := 172) (DCa dc_Mod_isLarge_2 8 rfl) (by decide) ?_
    exact hR17 _ _ _ _ _ _
  · refine V_iconst (pc := 175) (DCa dc_Mod_isLarge_2 9 rfl) (by decide) ?_
    refine V_istore (ls' := [(0, 2, l0), (1, 0, l1), (2, 0, l2), (3, 0, l3), (4, 0, 0)]) (pc := 176) (DCa dc_Mod_isLarge_2 10 rfl) (Nat.le_of_ble_eq_true rfl) rfl ?_
    refine V_pick [0, 2, 3, 4] rfl ?_
    exact v_Mod_isLarge_L178 F F _ _ _ _ _
theorem v_Mod_isLarge_L17 (F : Nat)  (n : Nat) : ∀ (l0 l1 l2 l3 l4 : Int) (h : Hp), V X_Mod_isLarge 17 [(0, 2, l0), (1, 0, l1), (2, 0, l2), (3, 0, l3), (4, 0, l4)] [] h (Mod_isLarge_L17 F  n l0 l1 l2 l3 l4 h) := by
  induction n with
  | zero => intros; exact V_none
  | succ n ih => exact fun l0 l1 l2 l3 l4 h => v_Mod_isLarge_L17s F  _ ih l0 l1 l2 l3 l4 h
theorem v_Mod_isLarge (F : Nat) (l0 l1 l2 : Int) (h : Hp) : V X_Mod_isLarge 0 [(0, 2, l0), (1, 0, l1), (2, 0, l2)] [] h (Mod_isLarge F l0 l1 l2 h) := by
  unfold Mod_isLarge
  refine V_iconst (pc := 0) (DCa dc_Mod_isLarge_0 0 rfl) (by decide) ?_
  refine V_aload_n (pc := 1) (DCa dc_Mod_isLarge_0 1 rfl) rfl 0 rfl ?_
  refine Q_getf (k := 22) (pc := 2) (DCa dc_Mod_isLarge_0 2 rfl) cls_12 (Nat.le_of_ble_eq_true rfl) fl_12_43 rfl rfl rfl (fun v1 => ?_)
  refine V_aload_n (pc := 5) (DCa dc_Mod_isLarge_0 3 rfl) rfl 0 rfl ?_
  refine Q_getf (k := 18) (pc := 6) (DCa dc_Mod_isLarge_0 4 rfl) cls_12 (Nat.le_of_ble_eq_true rfl) fl_12_281 rfl rfl rfl (fun v2 => ?_)
  refine Q_iaload (pc := 9) (DCa dc_Mod_isLarge_0 5 rfl) (fun v3 => ?_)
  refine V_ishl (pc := 10) (DCa dc_Mod_isLarge_0 6 rfl) ?_
  refine V_iconst (pc := 11) (DCa dc_Mod_isLarge_0 7 rfl) (by decide) ?_
  refine V_isub (pc := 12) (DCa dc_Mod_isLarge_0 8 rfl) ?_
  refine Q_lt (fun x4 => ?_)
  refine V_istore_n (ls' := [(0, 2, l0), (1, 0, l1), (2, 0, l2), (3, 0, x4)]) (pc := 13) (DCa dc_Mod_isLarge_0 9 rfl) rfl (Nat.le_of_ble_eq_true rfl) rfl ?_
  refine V_iconst (pc := 14) (DCa dc_Mod_isLarge_0 10 rfl) (by decide) ?_
  refine V_istore (ls' := [(0, 2, l0), (1, 0, l1), (2, 0, l2), (3, 0, x4), (4, 0, 0)]) (pc := 15) (DCa dc_Mod_isLarge_0 11 rfl) (Nat.le_of_ble_eq_true rfl) rfl ?_
  exact v_Mod_isLarge_L17 F F _ _ _ _ _ _
theorem sp_Mod_isLarge (F : Nat) (l0 l1 l2 : Int) (h : Hp) : Sp yX12_isLarge cX12_isLarge 5 (some (.boolean)) 7 172 [(2, l0), (0, l1), (0, l2)] h (Mod_isLarge F l0 l1 l2 h) := Sp_of (by decide +kernel) rfl rfl (Nat.le_of_ble_eq_true rfl) (v_Mod_isLarge F l0 l1 l2 h)

-- TideRakesModel.large
def Mod_large_L12s (F : Nat)  (R12 : Int → Int → Int → Hp → Option (Int × Hp)) (l0 l1 l2 : Int) (h : Hp) : Option (Int × Hp) :=
  if 0 < l2 then
    (iv h l0 112 (Mod_isLarge F l0 l2 l1 h) fun r3 h4 =>
    if r3 = 0 then
      (R12 l0 l1 (w32 (l2 + (-1))) h4)
    else
      (some (l2, h4)))
  else
    (some (0, h))
def Mod_large_L12 (F : Nat)  : Nat → Int → Int → Int → Hp → Option (Int × Hp)
  | 0 => fun _ _ _ _ => none
  | n + 1 => Mod_large_L12s F  (Mod_large_L12 F  n)
def Mod_large (F : Nat) (l0 l1 : Int) (h : Hp) : Option (Int × Hp) :=
  cl (Mod_isBy F l1 h) fun r1 h2 =>
  if r1 = 0 then
    (some ((-1), h2))
  else
    (Mod_large_L12 F F l0 l1 16 h2)

theorem dc_Mod_large_0 : ∀ q ∈ ([(0, .iload_n 1, 1), (1, .invokestatic 470, 3), (4, .ifCond .ne 5, 3), (7, .iconst (-1), 1), (8, .ireturn, 1), (9, .bipush 16, 2), (11, .istore_n 2, 1), (12, .iload_n 2, 1), (13, .ifCond .le 20, 3), (16, .aload_n 0, 1), (17, .iload_n 2, 1), (18, .iload_n 1, 1), (19, .invokevirtual 494, 3), (22, .ifCond .eq 5, 3), (25, .iload_n 2, 1), (26, .ireturn, 1), (27, .iinc 2 (-1), 3), (30, .goto (-18), 3), (33, .iconst 0, 1), (34, .ireturn, 1)] : List (Nat × Instr × Nat)), decode cX12_large q.1 = .ok (q.2.1, q.2.2) := by decide +kernel
abbrev X_Mod_large : MX := (cX12_large, RX12, "large", 3, (some (.int)), 8, 196)
theorem v_Mod_large_L12s (F : Nat)  (R12 : Int → Int → Int → Hp → Option (Int × Hp)) (hR12 : ∀ (l0 l1 l2 : Int) (h : Hp), V X_Mod_large 12 [(0, 2, l0), (1, 0, l1), (2, 0, l2)] [] h (R12 l0 l1 l2 h)) (l0 l1 l2 : Int) (h : Hp) : V X_Mod_large 12 [(0, 2, l0), (1, 0, l1), (2, 0, l2)] [] h (Mod_large_L12s F  R12 l0 l1 l2 h) := by
  unfold Mod_large_L12s
  refine V_iload_n (pc := 12) (DCa dc_Mod_large_0 7 rfl) rfl 2 rfl ?_
  refine V_if_le (tgt := 33) (pc := 13) (DCa dc_Mod_large_0 8 rfl) (by decide) (fun _ => ?_) (fun _ => ?_)
  · refine V_aload_n (pc := 16) (DCa dc_Mod_large_0 9 rfl) rfl 0 rfl ?_
    refine V_iload_n (pc := 17) (DCa dc_Mod_large_0 10 rfl) rfl 2 rfl ?_
    refine V_iload_n (pc := 18) (DCa dc_Mod_large_0 11 rfl) rfl 1 rfl ?_
    refine Q_callv (ci := 12) (st := []) (pc := 19) (DCa dc_Mod_large_0 12 rfl) (sp_Mod_isLarge F _ _ _ _) ce_Mod_isLarge ml_12_494 rfl rfl ⟨Nat.le_of_ble_eq_true rfl, Nat.le_of_ble_eq_true rfl⟩ rfl (Nat.le_of_ble_eq_true rfl) (fun r3 h4 => ?_)
    refine V_if_eq (tgt := 27) (pc := 22) (DCa dc_Mod_large_0 13 rfl) (by decide) (fun _ => ?_) (fun _ => ?_)
    · refine V_iinc (ls' := [(0, 2, l0), (1, 0, l1), (2, 0, w32 (l2 + (-1)))]) (pc := 27) (DCa dc_Mod_large_0 16 rfl) (Nat.le_of_ble_eq_true rfl) (by decide) 2 rfl rfl ?_
      refine V_goto (tgt := 12) (pc := 30) (DCa dc_Mod_large_0 17 rfl) (by decide) ?_
      exact hR12 _ _ _ _
    · refine V_iload_n (pc := 25) (DCa dc_Mod_large_0 14 rfl) rfl 2 rfl ?_
      exact V_ireturn (pc := 26) (DCa dc_Mod_large_0 15 rfl) rfl
  · refine V_iconst (pc := 33) (DCa dc_Mod_large_0 18 rfl) (by decide) ?_
    exact V_ireturn (pc := 34) (DCa dc_Mod_large_0 19 rfl) rfl
theorem v_Mod_large_L12 (F : Nat)  (n : Nat) : ∀ (l0 l1 l2 : Int) (h : Hp), V X_Mod_large 12 [(0, 2, l0), (1, 0, l1), (2, 0, l2)] [] h (Mod_large_L12 F  n l0 l1 l2 h) := by
  induction n with
  | zero => intros; exact V_none
  | succ n ih => exact fun l0 l1 l2 h => v_Mod_large_L12s F  _ ih l0 l1 l2 h
theorem v_Mod_large (F : Nat) (l0 l1 : Int) (h : Hp) : V X_Mod_large 0 [(0, 2, l0), (1, 0, l1)] [] h (Mod_large F l0 l1 h) := by
  unfold Mod_large
  refine V_iload_n (pc := 0) (DCa dc_Mod_large_0 0 rfl) rfl 1 rfl ?_
  refine Q_calls (st := []) (pc := 1) (DCa dc_Mod_large_0 1 rfl) (sp_Mod_isBy F _ _) ce_Mod_isBy ml_12_470 rfl ⟨Nat.le_of_ble_eq_true rfl, Nat.le_of_ble_eq_true rfl⟩ rfl (Nat.le_of_ble_eq_true rfl) (fun r1 h2 => ?_)
  refine V_if_ne (tgt := 9) (pc := 4) (DCa dc_Mod_large_0 2 rfl) (by decide) (fun _ => ?_) (fun _ => ?_)
  · refine V_iconst (pc := 7) (DCa dc_Mod_large_0 3 rfl) (by decide) ?_
    exact V_ireturn (pc := 8) (DCa dc_Mod_large_0 4 rfl) rfl
  · refine V_bipush (pc := 9) (DCa dc_Mod_large_0 5 rfl) (by decide) ?_
    refine V_istore_n (ls' := [(0, 2, l0), (1, 0, l1), (2, 0, 16)]) (pc := 11) (DCa dc_Mod_large_0 6 rfl) rfl (Nat.le_of_ble_eq_true rfl) rfl ?_
    exact v_Mod_large_L12 F F _ _ _ _
theorem sp_Mod_large (F : Nat) (l0 l1 : Int) (h : Hp) : Sp yX12_large cX12_large 3 (some (.int)) 8 196 [(2, l0), (0, l1)] h (Mod_large F l0 l1 h) := Sp_of (by decide +kernel) rfl rfl (Nat.le_of_ble_eq_true rfl) (v_Mod_large F l0 l1 h)

-- TideRakesModel.mixed
def Mod_mixed (F : Nat) (l0 l1 : Int) (h : Hp) : Option (Int × Hp) :=
  lt (w32 ((w32 ((ixor l0 l1) * 1103515245)) + 12345)) fun x1 =>
  some (ixor x1 (iushr x1 15), h)

theorem dc_Mod_mixed_0 : ∀ q ∈ ([(0, .iload_n 0, 1), (1, .iload_n 1, 1), (2, .ixor, 1), (3, .ldc_w 497, 3), (6, .imul, 1), (7, .sipush 12345, 3), (10, .iadd, 1), (11, .istore_n 2, 1), (12, .iload_n 2, 1), (13, .iload_n 2, 1), (14, .bipush 15, 2), (16, .iushr, 1), (17, .ixor, 1), (18, .ireturn, 1)] : List (Nat × Instr × Nat)), decode cX12_mixed q.1 = .ok (q.2.1, q.2.2) := by decide +kernel
abbrev X_Mod_mixed : MX := (cX12_mixed, RX12, "mixed", 3, (some (.int)), 1, 20)
theorem v_Mod_mixed (F : Nat) (l0 l1 : Int) (h : Hp) : V X_Mod_mixed 0 [(0, 0, l0), (1, 0, l1)] [] h (Mod_mixed F l0 l1 h) := by
  unfold Mod_mixed
  refine V_iload_n (pc := 0) (DCa dc_Mod_mixed_0 0 rfl) rfl 0 rfl ?_
  refine V_iload_n (pc := 1) (DCa dc_Mod_mixed_0 1 rfl) rfl 1 rfl ?_
  refine V_ixor (pc := 2) (DCa dc_Mod_mixed_0 2 rfl) ?_
  refine V_ldcw (v := 1103515245) (x := 1103515245) (pc := 3) (DCa dc_Mod_mixed_0 3 rfl) (tb9 23 rfl rfl) rfl ?_
  refine V_imul (pc := 6) (DCa dc_Mod_mixed_0 4 rfl) ?_
  refine V_sipush (pc := 7) (DCa dc_Mod_mixed_0 5 rfl) (by decide) ?_
  refine V_iadd (pc := 10) (DCa dc_Mod_mixed_0 6 rfl) ?_
  refine Q_lt (fun x1 => ?_)
  refine V_istore_n (ls' := [(0, 0, l0), (1, 0, l1), (2, 0, x1)]) (pc := 11) (DCa dc_Mod_mixed_0 7 rfl) rfl (Nat.le_of_ble_eq_true rfl) rfl ?_
  refine V_iload_n (pc := 12) (DCa dc_Mod_mixed_0 8 rfl) rfl 2 rfl ?_
  refine V_iload_n (pc := 13) (DCa dc_Mod_mixed_0 9 rfl) rfl 2 rfl ?_
  refine V_bipush (pc := 14) (DCa dc_Mod_mixed_0 10 rfl) (by decide) ?_
  refine V_iushr (pc := 16) (DCa dc_Mod_mixed_0 11 rfl) ?_
  refine V_ixor (pc := 17) (DCa dc_Mod_mixed_0 12 rfl) ?_
  exact V_ireturn (pc := 18) (DCa dc_Mod_mixed_0 13 rfl) rfl
theorem sp_Mod_mixed (F : Nat) (l0 l1 : Int) (h : Hp) : Sp yX12_mixed cX12_mixed 3 (some (.int)) 1 20 [(0, l0), (0, l1)] h (Mod_mixed F l0 l1 h) := Sp_of (by decide +kernel) rfl rfl (Nat.le_of_ble_eq_true rfl) (v_Mod_mixed F l0 l1 h)

-- TideRakesModel.lotOf
def Mod_lotOf (F : Nat) (l0 l1 l2 : Int) (h : Hp) : Option (Int × Hp) :=
  cl (Mod_mixed F l0 29 h) fun r1 h2 =>
  cl (Mod_mixed F r1 l1 h2) fun r3 h4 =>
  dm (iushr r3 1) l2 fun v5 =>
  some (v5, h4)

theorem dc_Mod_lotOf_0 : ∀ q ∈ ([(0, .iload_n 0, 1), (1, .bipush 29, 2), (3, .invokestatic 498, 3), (6, .iload_n 1, 1), (7, .invokestatic 498, 3), (10, .iconst 1, 1), (11, .iushr, 1), (12, .iload_n 2, 1), (13, .irem, 1), (14, .ireturn, 1)] : List (Nat × Instr × Nat)), decode cX12_lotOf q.1 = .ok (q.2.1, q.2.2) := by decide +kernel
abbrev X_Mod_lotOf : MX := (cX12_lotOf, RX12, "lotOf", 3, (some (.int)), 2, 42)
theorem v_Mod_lotOf (F : Nat) (l0 l1 l2 : Int) (h : Hp) : V X_Mod_lotOf 0 [(0, 0, l0), (1, 0, l1), (2, 0, l2)] [] h (Mod_lotOf F l0 l1 l2 h) := by
  unfold Mod_lotOf
  refine V_iload_n (pc := 0) (DCa dc_Mod_lotOf_0 0 rfl) rfl 0 rfl ?_
  refine V_bipush (pc := 1) (DCa dc_Mod_lotOf_0 1 rfl) (by decide) ?_
  refine Q_calls (st := []) (pc := 3) (DCa dc_Mod_lotOf_0 2 rfl) (sp_Mod_mixed F _ _ _) ce_Mod_mixed ml_12_498 rfl ⟨Nat.le_of_ble_eq_true rfl, Nat.le_of_ble_eq_true rfl⟩ rfl (Nat.le_of_ble_eq_true rfl) (fun r1 h2 => ?_)
  refine V_iload_n (pc := 6) (DCa dc_Mod_lotOf_0 3 rfl) rfl 1 rfl ?_
  refine Q_calls (st := []) (pc := 7) (DCa dc_Mod_lotOf_0 4 rfl) (sp_Mod_mixed F _ _ _) ce_Mod_mixed ml_12_498 rfl ⟨Nat.le_of_ble_eq_true rfl, Nat.le_of_ble_eq_true rfl⟩ rfl (Nat.le_of_ble_eq_true rfl) (fun r3 h4 => ?_)
  refine V_iconst (pc := 10) (DCa dc_Mod_lotOf_0 5 rfl) (by decide) ?_
  refine V_iushr (pc := 11) (DCa dc_Mod_lotOf_0 6 rfl) ?_
  refine V_iload_n (pc := 12) (DCa dc_Mod_lotOf_0 7 rfl) rfl 2 rfl ?_
  refine Q_irem (pc := 13) (DCa dc_Mod_lotOf_0 8 rfl) (fun v5 => ?_)
  exact V_ireturn (pc := 14) (DCa dc_Mod_lotOf_0 9 rfl) rfl
theorem sp_Mod_lotOf (F : Nat) (l0 l1 l2 : Int) (h : Hp) : Sp yX12_lotOf cX12_lotOf 3 (some (.int)) 2 42 [(0, l0), (0, l1), (0, l2)] h (Mod_lotOf F l0 l1 l2 h) := Sp_of (by decide +kernel) rfl rfl (Nat.le_of_ble_eq_true rfl) (v_Mod_lotOf F l0 l1 l2 h)

-- TideRakesModel.isRunOver
def Mod_isRunOver_L38s (F : Nat)  (R38 : Int → Int → Int → Int → Int → Hp → Option (Int × Hp)) (l0 l1 l2 l3 l4 : Int) (h : Hp) : Option (Int × Hp) :=
  if l3 < l4 then
    (rz 0 h)
  else
    (cl (Mod_lotOf F l1 (w32 ((w32 (8 * l4)) + l2)) 100 h) fun r9 h10 =>
    gf h10 l0 112 54 fun v11 =>
    al h10 v11 0 (w32 ((w32 (600 * l2)) + l4)) fun v12 =>
    if r9 < v12 then
      (rz 1 h10)
    else
      (R38 l0 l1 l2 l3 (w32 (l4 + 1)) h10))
def Mod_isRunOver_L38 (F : Nat)  : Nat → Int → Int → Int → Int → Int → Hp → Option (Int × Hp)
  | 0 => fun _ _ _ _ _ _ => none
  | n + 1 => Mod_isRunOver_L38s F  (Mod_isRunOver_L38 F  n)
def Mod_isRunOver (F : Nat) (l0 l1 l2 l3 : Int) (h : Hp) : Option (Int × Hp) :=
  gf h l0 112 63 fun v1 =>
  al h v1 0 l2 fun v2 =>
  gf h l0 112 63 fun v3 =>
  al h v3 0 (w32 (16 + l2)) fun v4 =>
  if v4 < v2 then
    (gf h l0 112 63 fun v5 =>
    al h v5 0 l2 fun v6 =>
    Mod_isRunOver_L38 F F l0 l1 l2 l3 v6 h)
  else
    (gf h l0 112 63 fun v7 =>
    al h v7 0 (w32 (16 + l2)) fun v8 =>
    Mod_isRunOver_L38 F F l0 l1 l2 l3 v8 h)

theorem dc_Mod_isRunOver_0 : ∀ q ∈ ([(0, .aload_n 0, 1), (1, .getfield 155, 3), (4, .iload_n 2, 1), (5, .iaload, 1), (6, .aload_n 0, 1), (7, .getfield 155, 3), (10, .bipush 16, 2), (12, .iload_n 2, 1), (13, .iadd, 1), (14, .iaload, 1), (15, .if_icmp .le 12, 3), (18, .aload_n 0, 1), (19, .getfield 155, 3), (22, .iload_n 2, 1), (23, .iaload, 1), (24, .goto 12, 3), (27, .aload_n 0, 1), (28, .getfield 155, 3), (31, .bipush 16, 2), (33, .iload_n 2, 1), (34, .iadd, 1), (35, .iaload, 1), (36, .istore 4, 2), (38, .iload 4, 2), (40, .iload_n 3, 1), (41, .if_icmp .gt 40, 3), (44, .iload_n 1, 1), (45, .bipush 8, 2), (47, .iload 4, 2), (49, .imul, 1), (50, .iload_n 2, 1), (51, .iadd, 1), (52, .bipush 100, 2), (54, .invokestatic 501, 3), (57, .aload_n 0, 1), (58, .getfield 128, 3), (61, .sipush 600, 3), (64, .iload_n 2, 1), (65, .imul, 1), (66, .iload 4, 2), (68, .iadd, 1), (69, .iaload, 1), (70, .if_icmp .ge 5, 3), (73, .iconst 1, 1), (74, .ireturn, 1), (75, .iinc 4 1, 3), (78, .goto (-40), 3), (81, .iconst 0, 1), (82, .ireturn, 1)] : List (Nat × Instr × Nat)), decode cX12_isRunOver q.1 = .ok (q.2.1, q.2.2) := by decide +kernel
abbrev X_Mod_isRunOver : MX := (cX12_isRunOver, RX12, "isRunOver", 5, (some (.boolean)), 3, 64)
theorem v_Mod_isRunOver_L38s (F : Nat)  (R38 : Int → Int → Int → Int → Int → Hp → Option (Int × Hp)) (hR38 : ∀ (l0 l1 l2 l3 l4 : Int) (h : Hp), V X_Mod_isRunOver 38 [(0, 2, l0), (1, 0, l1), (2, 0, l2), (3, 0, l3), (4, 0, l4)] [] h (R38 l0 l1 l2 l3 l4 h)) (l0 l1 l2 l3 l4 : Int) (h : Hp) : V X_Mod_isRunOver 38 [(0, 2, l0), (1, 0, l1), (2, 0, l2), (3, 0, l3), (4, 0, l4)] [] h (Mod_isRunOver_L38s F  R38 l0 l1 l2 l3 l4 h) := by
  unfold Mod_isRunOver_L38s
  refine V_iload (pc := 38) (DCa dc_Mod_isRunOver_0 23 rfl) 4 rfl ?_
  refine V_iload_n (pc := 40) (DCa dc_Mod_isRunOver_0 24 rfl) rfl 3 rfl ?_
  refine V_icmp_gt (tgt := 81) (pc := 41) (DCa dc_Mod_isRunOver_0 25 rfl) (by decide) (fun _ => ?_) (fun _ => ?_)
  · refine V_iconst (pc := 81) (DCa dc_Mod_isRunOver_0 47 rfl) (by decide) ?_
    exact V_zreturn (pc := 82) (DCa dc_Mod_isRunOver_0 48 rfl) rfl
  · refine V_iload_n (pc := 44) (DCa dc_Mod_isRunOver_0 26 rfl) rfl 1 rfl ?_
    refine V_bipush (pc := 45) (DCa dc_Mod_isRunOver_0 27 rfl) (by decide) ?_
    refine V_iload (pc := 47) (DCa dc_Mod_isRunOver_0 28 rfl) 4 rfl ?_
    refine V_imul (pc := 49) (DCa dc_Mod_isRunOver_0 29 rfl) ?_
    refine V_iload_n (pc := 50) (DCa dc_Mod_isRunOver_0 30 rfl) rfl 2 rfl ?_
    refine V_iadd (pc := 51) (DCa dc_Mod_isRunOver_0 31 rfl) ?_
    refine V_bipush (pc := 52) (DCa dc_Mod_isRunOver_0 32 rfl) (by decide) ?_
    refine Q_calls (st := []) (pc := 54) (DCa dc_Mod_isRunOver_0 33 rfl) (sp_Mod_lotOf F _ _ _ _) ce_Mod_lotOf ml_12_501 rfl ⟨Nat.le_of_ble_eq_true rfl, Nat.le_of_ble_eq_true rfl⟩ rfl (Nat.le_of_ble_eq_true rfl) (fun r9 h10 => ?_)
    refine V_aload_n (pc := 57) (DCa dc_Mod_isRunOver_0 34 rfl) rfl 0 rfl ?_
    refine Q_getf (k := 54) (pc := 58) (DCa dc_Mod_isRunOver_0 35 rfl) cls_12 (Nat.le_of_ble_eq_true rfl) fl_12_128 rfl rfl rfl (fun v11 => ?_)
    refine V_sipush (pc := 61) (DCa dc_Mod_isRunOver_0 36 rfl) (by decide) ?_
    refine V_iload_n (pc := 64) (DCa dc_Mod_isRunOver_0 37 rfl) rfl 2 rfl ?_
    refine V_imul (pc := 65) (DCa dc_Mod_isRunOver_0 38 rfl) ?_
    refine V_iload (pc := 66) (DCa dc_Mod_isRunOver_0 39 rfl) 4 rfl ?_
    refine V_iadd (pc := 68) (DCa dc_Mod_isRunOver_0 40 rfl) ?_
    refine Q_iaload (pc := 69) (DCa dc_Mod_isRunOver_0 41 rfl) (fun v12 => ?_)
    refine V_icmp_ge (tgt := 75) (pc := 70) (DCa dc_Mod_isRunOver_0 42 rfl) (by decide) (fun _ => ?_) (fun _ => ?_)
    · refine V_iconst (pc := 73) (DCa dc_Mod_isRunOver_0 43 rfl) (by decide) ?_
      exact V_zreturn (pc := 74) (DCa dc_Mod_isRunOver_0 44 rfl) rfl
    · refine V_iinc (ls' := [(0, 2, l0), (1, 0, l1), (2, 0, l2), (3, 0, l3), (4, 0, w32 (l4 + 1))]) (pc := 75) (DCa dc_Mod_isRunOver_0 45 rfl) (Nat.le_of_ble_eq_true rfl) (by decide) 4 rfl rfl ?_
      refine V_goto (tgt := 38) (pc := 78) (DCa dc_Mod_isRunOver_0 46 rfl) (by decide) ?_
      exact hR38 _ _ _ _ _ _
theorem v_Mod_isRunOver_L38 (F : Nat)  (n : Nat) : ∀ (l0 l1 l2 l3 l4 : Int) (h : Hp), V X_Mod_isRunOver 38 [(0, 2, l0), (1, 0, l1), (2, 0, l2), (3, 0, l3), (4, 0, l4)] [] h (Mod_isRunOver_L38 F  n l0 l1 l2 l3 l4 h) := by
  induction n with
  | zero => intros; exact V_none
  | succ n ih => exact fun l0 l1 l2 l3 l4 h => v_Mod_isRunOver_L38s F  _ ih l0 l1 l2 l3 l4 h
theorem v_Mod_isRunOver (F : Nat) (l0 l1 l2 l3 : Int) (h : Hp) : V X_Mod_isRunOver 0 [(0, 2, l0), (1, 0, l1), (2, 0, l2), (3, 0, l3)] [] h (Mod_isRunOver F l0 l1 l2 l3 h) := by
  unfold Mod_isRunOver
  refine V_aload_n (pc := 0) (DCa dc_Mod_isRunOver_0 0 rfl) rfl 0 rfl ?_
  refine Q_getf (k := 63) (pc := 1) (DCa dc_Mod_isRunOver_0 1 rfl) cls_12 (Nat.le_of_ble_eq_true rfl) fl_12_155 rfl rfl rfl (fun v1 => ?_)
  refine V_iload_n (pc := 4) (DCa dc_Mod_isRunOver_0 2 rfl) rfl 2 rfl ?_
  refine Q_iaload (pc := 5) (DCa dc_Mod_isRunOver_0 3 rfl) (fun v2 => ?_)
  refine V_aload_n (pc := 6) (DCa dc_Mod_isRunOver_0 4 rfl) rfl 0 rfl ?_
  refine Q_getf (k := 63) (pc := 7) (DCa dc_Mod_isRunOver_0 5 rfl) cls_12 (Nat.le_of_ble_eq_true rfl) fl_12_155 rfl rfl rfl (fun v3 => ?_)
  refine V_bipush (pc := 10) (DCa dc_Mod_isRunOver_0 6 rfl) (by decide) ?_
  refine V_iload_n (pc := 12) (DCa dc_Mod_isRunOver_0 7 rfl) rfl 2 rfl ?_
  refine V_iadd (pc := 13) (DCa dc_Mod_isRunOver_0 8 rfl) ?_
  refine Q_iaload (pc := 14) (DCa dc_Mod_isRunOver_0 9 rfl) (fun v4 => ?_)
  refine V_icmp_le (tgt := 27) (pc := 15) (DCa dc_Mod_isRunOver_0 10 rfl) (by decide) (fun _ => ?_) (fun _ => ?_)
  · refine V_aload_n (pc := 18) (DCa dc_Mod_isRunOver_0 11 rfl) rfl 0 rfl ?_
    refine Q_getf (k := 63) (pc := 19) (DCa dc_Mod_isRunOver_0 12 rfl) cls_12 (Nat.le_of_ble_eq_true rfl) fl_12_155 rfl rfl rfl (fun v5 => ?_)
    refine V_iload_n (pc := 22) (DCa dc_Mod_isRunOver_0 13 rfl) rfl 2 rfl ?_
    refine Q_iaload (pc := 23) (DCa dc_Mod_isRunOver_0 14 rfl) (fun v6 => ?_)
    refine V_goto (tgt := 36) (pc := 24) (DCa dc_Mod_isRunOver_0 15 rfl) (by decide) ?_
    refine V_istore (ls' := [(0, 2, l0), (1, 0, l1), (2, 0, l2), (3, 0, l3), (4, 0, v6)]) (pc := 36) (DCa dc_Mod_isRunOver_0 22 rfl) (Nat.le_of_ble_eq_true rfl) rfl ?_
    exact v_Mod_isRunOver_L38 F F _ _ _ _ _ _
  · refine V_aload_n (pc := 27) (DCa dc_Mod_isRunOver_0 16 rfl) rfl 0 rfl ?_
    refine Q_getf (k := 63) (pc := 28) (DCa dc_Mod_isRunOver_0 17 rfl) cls_12 (Nat.le_of_ble_eq_true rfl) fl_12_155 rfl rfl rfl (fun v7 => ?_)
    refine V_bipush (pc := 31) (DCa dc_Mod_isRunOver_0 18 rfl) (by decide) ?_
    refine V_iload_n (pc := 33) (DCa dc_Mod_isRunOver_0 19 rfl) rfl 2 rfl ?_
    refine V_iadd (pc := 34) (DCa dc_Mod_isRunOver_0 20 rfl) ?_
    refine Q_iaload (pc := 35) (DCa dc_Mod_isRunOver_0 21 rfl) (fun v8 => ?_)
    refine V_istore (ls' := [(0, 2, l0), (1, 0, l1), (2, 0, l2), (3, 0, l3), (4, 0, v8)]) (pc := 36) (DCa dc_Mod_isRunOver_0 22 rfl) (Nat.le_of_ble_eq_true rfl) rfl ?_
    exact v_Mod_isRunOver_L38 F F _ _ _ _ _ _
theorem sp_Mod_isRunOver (F : Nat) (l0 l1 l2 l3 : Int) (h : Hp) : Sp yX12_isRunOver cX12_isRunOver 5 (some (.boolean)) 3 64 [(2, l0), (0, l1), (0, l2), (0, l3)] h (Mod_isRunOver F l0 l1 l2 l3 h) := Sp_of (by decide +kernel) rfl rfl (Nat.le_of_ble_eq_true rfl) (v_Mod_isRunOver F l0 l1 l2 l3 h)

-- TideRakesModel.photoBy
def Mod_photoBy_L5s (F : Nat)  (R5 : Int → Int → Int → Int → Int → Hp → Option (Int × Hp)) (l0 l1 l2 l3 l4 : Int) (h : Hp) : Option (Int × Hp) :=
  gf h l0 112 22 fun v1 =>
  gf h l0 112 18 fun v2 =>
  al h v1 0 v2 fun v3 =>
  if l4 < v3 then
    (iv h l0 112 (Mod_isSeen F l0 l4 l2 h) fun r4 h5 =>
    if r4 = 0 then
      (R5 l0 l1 l2 l3 (w32 (l4 + 1)) h5)
    else
      (iv h5 l0 112 (Mod_isRunOver F l0 l1 l4 l2 h5) fun r6 h7 =>
      if r6 = 0 then
        (gf h7 l0 112 25 fun v8 =>
        gf h7 l0 112 18 fun v9 =>
        al h7 v8 0 (w32 ((w32 (8 * v9)) + l4)) fun v10 =>
        lt (w32 (l3 + v10)) fun x11 =>
        R5 l0 l1 l2 x11 (w32 (l4 + 1)) h7)
      else
        (R5 l0 l1 l2 l3 (w32 (l4 + 1)) h7)))
  else
    (gf h l0 112 53 fun v12 =>
    al h v12 0 l2 fun v13 =>
    some (w32 (l3 * v13), h))
def Mod_photoBy_L5 (F : Nat)  : Nat → Int → Int → Int → Int → Int → Hp → Option (Int × Hp)
  | 0 => fun _ _ _ _ _ _ => none
  | n + 1 => Mod_photoBy_L5s F  (Mod_photoBy_L5 F  n)
def Mod_photoBy (F : Nat) (l0 l1 l2 : Int) (h : Hp) : Option (Int × Hp) :=
  Mod_photoBy_L5 F F l0 l1 l2 0 0 h

theorem dc_Mod_photoBy_0 : ∀ q ∈ ([(0, .iconst 0, 1), (1, .istore_n 3, 1), (2, .iconst 0, 1), (3, .istore 4, 2), (5, .iload 4, 2), (7, .aload_n 0, 1), (8, .getfield 43, 3), (11, .aload_n 0, 1), (12, .getfield 281, 3), (15, .iaload, 1), (16, .if_icmp .ge 48, 3), (19, .aload_n 0, 1), (20, .iload 4, 2), (22, .iload_n 2, 1), (23, .invokevirtual 397, 3), (26, .ifCond .eq 32, 3), (29, .aload_n 0, 1), (30, .iload_n 1, 1), (31, .iload 4, 2), (33, .iload_n 2, 1), (34, .invokevirtual 504, 3), (37, .ifCond .ne 21, 3), (40, .iload_n 3, 1), (41, .aload_n 0, 1), (42, .getfield 52, 3), (45, .bipush 8, 2), (47, .aload_n 0, 1), (48, .getfield 281, 3), (51, .imul, 1), (52, .iload 4, 2), (54, .iadd, 1), (55, .iaload, 1), (56, .iadd, 1), (57, .istore_n 3, 1), (58, .iinc 4 1, 3), (61, .goto (-56), 3), (64, .iload_n 3, 1), (65, .aload_n 0, 1), (66, .getfield 125, 3), (69, .iload_n 2, 1), (70, .iaload, 1), (71, .imul, 1), (72, .ireturn, 1)] : List (Nat × Instr × Nat)), decode cX12_photoBy q.1 = .ok (q.2.1, q.2.2) := by decide +kernel
abbrev X_Mod_photoBy : MX := (cX12_photoBy, RX12, "photoBy", 5, (some (.int)), 4, 88)
theorem v_Mod_photoBy_L5s (F : Nat)  (R5 : Int → Int → Int → Int → Int → Hp → Option (Int × Hp)) (hR5 : ∀ (l0 l1 l2 l3 l4 : Int) (h : Hp), V X_Mod_photoBy 5 [(0, 2, l0), (1, 0, l1), (2, 0, l2), (3, 0, l3), (4, 0, l4)] [] h (R5 l0 l1 l2 l3 l4 h)) (l0 l1 l2 l3 l4 : Int) (h : Hp) : V X_Mod_photoBy 5 [(0, 2, l0), (1, 0, l1), (2, 0, l2), (3, 0, l3), (4, 0, l4)] [] h (Mod_photoBy_L5s F  R5 l0 l1 l2 l3 l4 h) := by
  unfold Mod_photoBy_L5s
  refine V_iload (pc := 5) (DCa dc_Mod_photoBy_0 4 rfl) 4 rfl ?_
  refine V_aload_n (pc := 7) (DCa dc_Mod_photoBy_0 5 rfl) rfl 0 rfl ?_
  refine Q_getf (k := 22) (pc := 8) (DCa dc_Mod_photoBy_0 6 rfl) cls_12 (Nat.le_of_ble_eq_true rfl) fl_12_43 rfl rfl rfl (fun v1 => ?_)
  refine V_aload_n (pc := 11) (DCa dc_Mod_photoBy_0 7 rfl) rfl 0 rfl ?_
  refine Q_getf (k := 18) (pc := 12) (DCa dc_Mod_photoBy_0 8 rfl) cls_12 (Nat.le_of_ble_eq_true rfl) fl_12_281 rfl rfl rfl (fun v2 => ?_)
  refine Q_iaload (pc := 15) (DCa dc_Mod_photoBy_0 9 rfl) (fun v3 => ?_)
  refine V_icmp_ge (tgt := 64) (pc := 16) (DCa dc_Mod_photoBy_0 10 rfl) (by decide) (fun _ => ?_) (fun _ => ?_)
  · refine V_aload_n (pc := 19) (DCa dc_Mod_photoBy_0 11 rfl) rfl 0 rfl ?_
    refine V_iload (pc := 20) (DCa dc_Mod_photoBy_0 12 rfl) 4 rfl ?_
    refine V_iload_n (pc := 22) (DCa dc_Mod_photoBy_0 13 rfl) rfl 2 rfl ?_
    refine Q_callv (ci := 12) (st := []) (pc := 23) (DCa dc_Mod_photoBy_0 14 rfl) (sp_Mod_isSeen F _ _ _ _) ce_Mod_isSeen ml_12_397 rfl rfl ⟨Nat.le_of_ble_eq_true rfl, Nat.le_of_ble_eq_true rfl⟩ rfl (Nat.le_of_ble_eq_true rfl) (fun r4 h5 => ?_)
    refine V_if_eq (tgt := 58) (pc := 26) (DCa dc_Mod_photoBy_0 15 rfl) (by decide) (fun _ => ?_) (fun _ => ?_)
    · refine V_iinc (ls' := [(0, 2, l0), (1, 0, l1), (2, 0, l2), (3, 0, l3), (4, 0, w32 (l4 + 1))]) (pc := 58) (DCa dc_Mod_photoBy_0 34 rfl) (Nat.le_of_ble_eq_true rfl) (by decide) 4 rfl rfl ?_
      refine V_goto (tgt := 5) (pc := 61) (DCa dc_Mod_photoBy_0 35 rfl) (by decide) ?_
      exact hR5 _ _ _ _ _ _
    · refine V_aload_n (pc := 29) (DCa dc_Mod_photoBy_0 16 rfl) rfl 0 rfl ?_
      refine V_iload_n (pc := 30) (DCa dc_Mod_photoBy_0 17 rfl) rfl 1 rfl ?_
      refine V_iload (pc := 31) (DCa dc_Mod_photoBy_0 18 rfl) 4 rfl ?_
      refine V_iload_n (pc := 33) (DCa dc_Mod_photoBy_0 19 rfl) rfl 2 rfl ?_
      refine Q_callv (ci := 12) (st := []) (pc := 34) (DCa dc_Mod_photoBy_0 20 rfl) (sp_Mod_isRunOver F _ _ _ _ _) ce_Mod_isRunOver ml_12_504 rfl rfl ⟨Nat.le_of_ble_eq_true rfl, Nat.le_of_ble_eq_true rfl⟩ rfl (Nat.le_of_ble_eq_true rfl) (fun r6 h7 => ?_)
      refine V_if_ne (tgt := 58) (pc := 37) (DCa dc_Mod_photoBy_0 21 rfl) (by decide) (fun _ => ?_) (fun _ => ?_)
      · refine V_iload_n (pc := 40) (DCa dc_Mod_photoBy_0 22 rfl) rfl 3 rfl ?_
        refine V_aload_n (pc := 41) (DCa dc_Mod_photoBy_0 23 rfl) rfl 0 rfl ?_
        refine Q_getf (k := 25) (pc := 42) (DCa dc_Mod_photoBy_0 24 rfl) cls_12 (Nat.le_of_ble_eq_true rfl) fl_12_52 rfl rfl rfl (fun v8 => ?_)
        refine V_bipush (pc := 45) (DCa dc_Mod_photoBy_0 25 rfl) (by decide) ?_
        refine V_aload_n (pc := 47) (DCa dc_Mod_photoBy_0 26 rfl) rfl 0 rfl ?_
        refine Q_getf (k := 18) (pc := 48) (DCa dc_Mod_photoBy_0 27 rfl) cls_12 (Nat.le_of_ble_eq_true rfl) fl_12_281 rfl rfl rfl (fun v9 => ?_)
        refine V_imul (pc := 51) (DCa dc_Mod_photoBy_0 28 rfl) ?_
        refine V_iload (pc := 52) (DCa dc_Mod_photoBy_0 29 rfl) 4 rfl ?_
        refine V_iadd (pc := 54) (DCa dc_Mod_photoBy_0 30 rfl) ?_
        refine Q_iaload (pc := 55) (DCa dc_Mod_photoBy_0 31 rfl) (fun v10 => ?_)
        refine V_iadd (pc := 56) (DCa dc_Mod_photoBy_0 32 rfl) ?_
        refine Q_lt (fun x11 => ?_)
        refine V_istore_n (ls' := [(0, 2, l0), (1, 0, l1), (2, 0, l2), (3, 0, x11), (4, 0, l4)]) (pc := 57) (DCa dc_Mod_photoBy_0 33 rfl) rfl (Nat.le_of_ble_eq_true rfl) rfl ?_
        refine V_iinc (ls' := [(0, 2, l0), (1, 0, l1), (2, 0, l2), (3, 0, x11), (4, 0, w32 (l4 + 1))]) (pc := 58) (DCa dc_Mod_photoBy_0 34 rfl) (Nat.le_of_ble_eq_true rfl) (by decide) 4 rfl rfl ?_
        refine V_goto (tgt := 5) (pc := 61) (DCa dc_Mod_photoBy_0 35 rfl) (by decide) ?_
        exact hR5 _ _ _ _ _ _
      · refine V_iinc (ls' := [(0, 2, l0), (1, 0, l1), (2, 0, l2), (3, 0, l3), (4, 0, w32 (l4 + 1))]) (pc := 58) (DCa dc_Mod_photoBy_0 34 rfl) (Nat.le_of_ble_eq_true rfl) (by decide) 4 rfl rfl ?_
        refine V_goto (tgt := 5) (pc := 61) (DCa dc_Mod_photoBy_0 35 rfl) (by decide) ?_
        exact hR5 _ _ _ _ _ _
  · refine V_iload_n (pc := 64) (DCa dc_Mod_photoBy_0 36 rfl) rfl 3 rfl ?_
    refine V_aload_n (pc := 65) (DCa dc_Mod_photoBy_0 37 rfl) rfl 0 rfl ?_
    refine Q_getf (k := 53) (pc := 66) (DCa dc_Mod_photoBy_0 38 rfl) cls_12 (Nat.le_of_ble_eq_true rfl) fl_12_125 rfl rfl rfl (fun v12 => ?_)
    refine V_iload_n (pc := 69) (DCa dc_Mod_photoBy_0 39 rfl) rfl 2 rfl ?_
    refine Q_iaload (pc := 70) (DCa dc_Mod_photoBy_0 40 rfl) (fun v13 => ?_)
    refine V_imul (pc := 71) (DCa dc_Mod_photoBy_0 41 rfl) ?_
    exact V_ireturn (pc := 72) (DCa dc_Mod_photoBy_0 42 rfl) rfl
theorem v_Mod_photoBy_L5 (F : Nat)  (n : Nat) : ∀ (l0 l1 l2 l3 l4 : Int) (h : Hp), V X_Mod_photoBy 5 [(0, 2, l0), (1, 0, l1), (2, 0, l2), (3, 0, l3), (4, 0, l4)] [] h (Mod_photoBy_L5 F  n l0 l1 l2 l3 l4 h) := by
  induction n with
  | zero => intros; exact V_none
  | succ n ih => exact fun l0 l1 l2 l3 l4 h => v_Mod_photoBy_L5s F  _ ih l0 l1 l2 l3 l4 h
theorem v_Mod_photoBy (F : Nat) (l0 l1 l2 : Int) (h : Hp) : V X_Mod_photoBy 0 [(0, 2, l0), (1, 0, l1), (2, 0, l2)] [] h (Mod_photoBy F l0 l1 l2 h) := by
  unfold Mod_photoBy
  refine V_iconst (pc := 0) (DCa dc_Mod_photoBy_0 0 rfl) (by decide) ?_
  refine V_istore_n (ls' := [(0, 2, l0), (1, 0, l1), (2, 0, l2), (3, 0, 0)]) (pc := 1) (DCa dc_Mod_photoBy_0 1 rfl) rfl (Nat.le_of_ble_eq_true rfl) rfl ?_
  refine V_iconst (pc := 2) (DCa dc_Mod_photoBy_0 2 rfl) (by decide) ?_
  refine V_istore (ls' := [(0, 2, l0), (1, 0, l1), (2, 0, l2), (3, 0, 0), (4, 0, 0)]) (pc := 3) (DCa dc_Mod_photoBy_0 3 rfl) (Nat.le_of_ble_eq_true rfl) rfl ?_
  exact v_Mod_photoBy_L5 F F _ _ _ _ _ _
theorem sp_Mod_photoBy (F : Nat) (l0 l1 l2 : Int) (h : Hp) : Sp yX12_photoBy cX12_photoBy 5 (some (.int)) 4 88 [(2, l0), (0, l1), (0, l2)] h (Mod_photoBy F l0 l1 l2 h) := Sp_of (by decide +kernel) rfl rfl (Nat.le_of_ble_eq_true rfl) (v_Mod_photoBy F l0 l1 l2 h)

-- TideRakesModel.hopes
def Mod_hopes_L33s (F : Nat)  (R33 : Int → Int → Int → Int → Int → Int → Hp → Option (Int × Hp)) (l0 l1 l2 l3 l4 l5 : Int) (h : Hp) : Option (Int × Hp) :=
  if l5 < l3 then
    (gf h l0 112 35 fun v7 =>
    gf h l0 112 18 fun v8 =>
    al h v7 0 v8 fun v9 =>
    iv h l0 112 (Mod_photoBy F l0 (w32 (v9 + l5)) l1 h) fun r10 h11 =>
    if r10 < l2 then
      (R33 l0 l1 l2 l3 l4 (w32 (l5 + 1)) h11)
    else
      (R33 l0 l1 l2 l3 (w32 (l4 + 1)) (w32 (l5 + 1)) h11))
  else
    (some (l4, h))
def Mod_hopes_L33 (F : Nat)  : Nat → Int → Int → Int → Int → Int → Int → Hp → Option (Int × Hp)
  | 0 => fun _ _ _ _ _ _ _ => none
  | n + 1 => Mod_hopes_L33s F  (Mod_hopes_L33 F  n)
def Mod_hopes (F : Nat) (l0 l1 l2 l3 : Int) (h : Hp) : Option (Int × Hp) :=
  cl (Mod_isMinute F l1 h) fun r1 h2 =>
  if r1 = 0 then
    (some ((-1), h2))
  else
    (if l2 < 0 then
      (some ((-1), h2))
    else
      (cl (Mod_in F l3 1 50 h2) fun r3 h4 =>
      if r3 = 0 then
        (some ((-1), h4))
      else
        (iv h4 l0 112 (Mod_copies F l0 h4) fun r5 h6 =>
        Mod_hopes_L33 F F l0 l1 l2 l3 0 0 h6)))

theorem dc_Mod_hopes_0 : ∀ q ∈ ([(0, .iload_n 1, 1), (1, .invokestatic 406, 3), (4, .ifCond .eq 17, 3), (7, .iload_n 2, 1), (8, .ifCond .lt 13, 3), (11, .iload_n 3, 1), (12, .iconst 1, 1), (13, .bipush 50, 2), (15, .invokestatic 355, 3), (18, .ifCond .ne 5, 3), (21, .iconst (-1), 1), (22, .ireturn, 1), (23, .aload_n 0, 1), (24, .invokevirtual 409, 3), (27, .iconst 0, 1), (28, .istore 4, 2), (30, .iconst 0, 1), (31, .istore 5, 2), (33, .iload 5, 2), (35, .iload_n 3, 1), (36, .if_icmp .ge 33, 3), (39, .aload_n 0, 1), (40, .aload_n 0, 1), (41, .getfield 82, 3), (44, .aload_n 0, 1), (45, .getfield 281, 3), (48, .iaload, 1), (49, .iload 5, 2), (51, .iadd, 1), (52, .iload_n 1, 1), (53, .invokevirtual 507, 3), (56, .iload_n 2, 1), (57, .if_icmp .lt 6, 3), (60, .iinc 4 1, 3), (63, .iinc 5 1, 3), (66, .goto (-33), 3), (69, .iload 4, 2), (71, .ireturn, 1)] : List (Nat × Instr × Nat)), decode cX12_hopes q.1 = .ok (q.2.1, q.2.2) := by decide +kernel
abbrev X_Mod_hopes : MX := (cX12_hopes, RX12, "hopes", 6, (some (.int)), 5, 112)
theorem v_Mod_hopes_L33s (F : Nat)  (R33 : Int → Int → Int → Int → Int → Int → Hp → Option (Int × Hp)) (hR33 : ∀ (l0 l1 l2 l3 l4 l5 : Int) (h : Hp), V X_Mod_hopes 33 [(0, 2, l0), (1, 0, l1), (2, 0, l2), (3, 0, l3), (4, 0, l4), (5, 0, l5)] [] h (R33 l0 l1 l2 l3 l4 l5 h)) (l0 l1 l2 l3 l4 l5 : Int) (h : Hp) : V X_Mod_hopes 33 [(0, 2, l0), (1, 0, l1), (2, 0, l2), (3, 0, l3), (4, 0, l4), (5, 0, l5)] [] h (Mod_hopes_L33s F  R33 l0 l1 l2 l3 l4 l5 h) := by
  unfold Mod_hopes_L33s
  refine V_iload (pc := 33) (DCa dc_Mod_hopes_0 18 rfl) 5 rfl ?_
  refine V_iload_n (pc := 35) (DCa dc_Mod_hopes_0 19 rfl) rfl 3 rfl ?_
  refine V_icmp_ge (tgt := 69) (pc := 36) (DCa dc_Mod_hopes_0 20 rfl) (by decide) (fun _ => ?_) (fun _ => ?_)
  · refine V_aload_n (pc := 39) (DCa dc_Mod_hopes_0 21 rfl) rfl 0 rfl ?_
    refine V_aload_n (pc := 40) (DCa dc_Mod_hopes_0 22 rfl) rfl 0 rfl ?_
    refine Q_getf (k := 35) (pc := 41) (DCa dc_Mod_hopes_0 23 rfl) cls_12 (Nat.le_of_ble_eq_true rfl) fl_12_82 rfl rfl rfl (fun v7 => ?_)
    refine V_aload_n (pc := 44) (DCa dc_Mod_hopes_0 24 rfl) rfl 0 rfl ?_
    refine Q_getf (k := 18) (pc := 45) (DCa dc_Mod_hopes_0 25 rfl) cls_12 (Nat.le_of_ble_eq_true rfl) fl_12_281 rfl rfl rfl (fun v8 => ?_)
    refine Q_iaload (pc := 48) (DCa dc_Mod_hopes_0 26 rfl) (fun v9 => ?_)
    refine V_iload (pc := 49) (DCa dc_Mod_hopes_0 27 rfl) 5 rfl ?_
    refine V_iadd (pc := 51) (DCa dc_Mod_hopes_0 28 rfl) ?_
    refine V_iload_n (pc := 52) (DCa dc_Mod_hopes_0 29 rfl) rfl 1 rfl ?_
    refine Q_callv (ci := 12) (st := []) (pc := 53) (DCa dc_Mod_hopes_0 30 rfl) (sp_Mod_photoBy F _ _ _ _) ce_Mod_photoBy ml_12_507 rfl rfl ⟨Nat.le_of_ble_eq_true rfl, Nat.le_of_ble_eq_true rfl⟩ rfl (Nat.le_of_ble_eq_true rfl) (fun r10 h11 => ?_)
    refine V_iload_n (pc := 56) (DCa dc_Mod_hopes_0 31 rfl) rfl 2 rfl ?_
    refine V_icmp_lt (tgt := 63) (pc := 57) (DCa dc_Mod_hopes_0 32 rfl) (by decide) (fun _ => ?_) (fun _ => ?_)
    · refine V_iinc (ls' := [(0, 2, l0), (1, 0, l1), (2, 0, l2), (3, 0, l3), (4, 0, l4), (5, 0, w32 (l5 + 1))]) (pc := 63) (DCa dc_Mod_hopes_0 34 rfl) (Nat.le_of_ble_eq_true rfl) (by decide) 5 rfl rfl ?_
      refine V_goto (tgt := 33) (pc := 66) (DCa dc_Mod_hopes_0 35 rfl) (by decide) ?_
      exact hR33 _ _ _ _ _ _ _
    · refine V_iinc (ls' := [(0, 2, l0), (1, 0, l1), (2, 0, l2), (3, 0, l3), (4, 0, w32 (l4 + 1)), (5, 0, l5)]) (pc := 60) (DCa dc_Mod_hopes_0 33 rfl) (Nat.le_of_ble_eq_true rfl) (by decide) 4 rfl rfl ?_
      refine V_iinc (ls' := [(0, 2, l0), (1, 0, l1), (2, 0, l2), (3, 0, l3), (4, 0, w32 (l4 + 1)), (5, 0, w32 (l5 + 1))]) (pc := 63) (DCa dc_Mod_hopes_0 34 rfl) (Nat.le_of_ble_eq_true rfl) (by decide) 5 rfl rfl ?_
      refine V_goto (tgt := 33) (pc := 66) (DCa dc_Mod_hopes_0 35 rfl) (by decide) ?_
      exact hR33 _ _ _ _ _ _ _
  · refine V_iload (pc := 69) (DCa dc_Mod_hopes_0 36 rfl) 4 rfl ?_
    exact V_ireturn (pc := 71) (DCa dc_Mod_hopes_0 37 rfl) rfl
theorem v_Mod_hopes_L33 (F : Nat)  (n : Nat) : ∀ (l0 l1 l2 l3 l4 l5 : Int) (h : Hp), V X_Mod_hopes 33 [(0, 2, l0), (1, 0, l1), (2, 0, l2), (3, 0, l3), (4, 0, l4), (5, 0, l5)] [] h (Mod_hopes_L33 F  n l0 l1 l2 l3 l4 l5 h) := by
  induction n with
  | zero => intros; exact V_none
  | succ n ih => exact fun l0 l1 l2 l3 l4 l5 h => v_Mod_hopes_L33s F  _ ih l0 l1 l2 l3 l4 l5 h
theorem v_Mod_hopes (F : Nat) (l0 l1 l2 l3 : Int) (h : Hp) : V X_Mod_hopes 0 [(0, 2, l0), (1, 0, l1), (2, 0, l2), (3, 0, l3)] [] h (Mod_hopes F l0 l1 l2 l3 h) := by
  unfold Mod_hopes
  refine V_iload_n (pc := 0) (DCa dc_Mod_hopes_0 0 rfl) rfl 1 rfl ?_
  refine Q_calls (st := []) (pc := 1) (DCa dc_Mod_hopes_0 1 rfl) (sp_Mod_isMinute F _ _) ce_Mod_isMinute ml_12_406 rfl ⟨Nat.le_of_ble_eq_true rfl, Nat.le_of_ble_eq_true rfl⟩ rfl (Nat.le_of_ble_eq_true rfl) (fun r1 h2 => ?_)
  refine V_if_eq (tgt := 21) (pc := 4) (DCa dc_Mod_hopes_0 2 rfl) (by decide) (fun _ => ?_) (fun _ => ?_)
  · refine V_iconst (pc := 21) (DCa dc_Mod_hopes_0 10 rfl) (by decide) ?_
    exact V_ireturn (pc := 22) (DCa dc_Mod_hopes_0 11 rfl) rfl
  · refine V_iload_n (pc := 7) (DCa dc_Mod_hopes_0 3 rfl) rfl 2 rfl ?_
    refine V_if_lt (tgt := 21) (pc := 8) (DCa dc_Mod_hopes_0 4 rfl) (by decide) (fun _ => ?_) (fun _ => ?_)
    · refine V_iconst (pc := 21) (DCa dc_Mod_hopes_0 10 rfl) (by decide) ?_
      exact V_ireturn (pc := 22) (DCa dc_Mod_hopes_0 11 rfl) rfl
    · refine V_iload_n (pc := 11) (DCa dc_Mod_hopes_0 5 rfl) rfl 3 rfl ?_
      refine V_iconst (pc := 12) (DCa dc_Mod_hopes_0 6 rfl) (by decide) ?_
      refine V_bipush (pc := 13) (DCa dc_Mod_hopes_0 7 rfl) (by decide) ?_
      refine Q_calls (st := []) (pc := 15) (DCa dc_Mod_hopes_0 8 rfl) (sp_Mod_in F _ _ _ _) ce_Mod_in ml_12_355 rfl ⟨Nat.le_of_ble_eq_true rfl, Nat.le_of_ble_eq_true rfl⟩ rfl (Nat.le_of_ble_eq_true rfl) (fun r3 h4 => ?_)
      refine V_if_ne (tgt := 23) (pc := 18) (DCa dc_Mod_hopes_0 9 rfl) (by decide) (fun _ => ?_) (fun _ => ?_)
      · refine V_iconst (pc := 21) (DCa dc_Mod_hopes_0 10 rfl) (by decide) ?_
        exact V_ireturn (pc := 22) (DCa dc_Mod_hopes_0 11 rfl) rfl
      · refine V_aload_n (pc := 23) (DCa dc_Mod_hopes_0 12 rfl) rfl 0 rfl ?_
        refine Q_callv (ci := 12) (st := []) (pc := 24) (DCa dc_Mod_hopes_0 13 rfl) (sp_Mod_copies F _ _) ce_Mod_copies ml_12_409 rfl rfl ⟨Nat.le_of_ble_eq_true rfl, Nat.le_of_ble_eq_true rfl⟩ rfl (Nat.le_of_ble_eq_true rfl) (fun r5 h6 => ?_)
        refine V_iconst (pc := 27) (DCa dc_Mod_hopes_0 14 rfl) (by decide) ?_
        refine V_istore (ls' := [(0, 2, l0), (1, 0, l1), (2, 0, l2), (3, 0, l3), (4, 0, 0)]) (pc := 28) (DCa dc_Mod_hopes_0 15 rfl) (Nat.le_of_ble_eq_true rfl) rfl ?_
        refine V_iconst (pc := 30) (DCa dc_Mod_hopes_0 16 rfl) (by decide) ?_
        refine V_istore (ls' := [(0, 2, l0), (1, 0, l1), (2, 0, l2), (3, 0, l3), (4, 0, 0), (5, 0, 0)]) (pc := 31) (DCa dc_Mod_hopes_0 17 rfl) (Nat.le_of_ble_eq_true rfl) rfl ?_
        exact v_Mod_hopes_L33 F F _ _ _ _ _ _ _
theorem sp_Mod_hopes (F : Nat) (l0 l1 l2 l3 : Int) (h : Hp) : Sp yX12_hopes cX12_hopes 6 (some (.int)) 5 112 [(2, l0), (0, l1), (0, l2), (0, l3)] h (Mod_hopes F l0 l1 l2 l3 h) := Sp_of (by decide +kernel) rfl rfl (Nat.le_of_ble_eq_true rfl) (v_Mod_hopes F l0 l1 l2 l3 h)

-- TideRakesModel.hope
def Mod_hope_L28s (F : Nat)  (R28 : Int → Int → Int → Int → Int → Hp → Option (Int × Hp)) (l0 l1 l2 l3 l4 : Int) (h : Hp) : Option (Int × Hp) :=
  if l4 < l2 then
    (gf h l0 112 35 fun v7 =>
    gf h l0 112 18 fun v8 =>
    al h v7 0 v8 fun v9 =>
    iv h l0 112 (Mod_photoBy F l0 (w32 (v9 + l4)) l1 h) fun r10 h11 =>
    lt (w32 (l3 + r10)) fun x12 =>
    R28 l0 l1 l2 x12 (w32 (l4 + 1)) h11)
  else
    (some (l3, h))
def Mod_hope_L28 (F : Nat)  : Nat → Int → Int → Int → Int → Int → Hp → Option (Int × Hp)
  | 0 => fun _ _ _ _ _ _ => none
  | n + 1 => Mod_hope_L28s F  (Mod_hope_L28 F  n)
def Mod_hope (F : Nat) (l0 l1 l2 : Int) (h : Hp) : Option (Int × Hp) :=
  cl (Mod_isMinute F l1 h) fun r1 h2 =>
  if r1 = 0 then
    (some ((-1), h2))
  else
    (cl (Mod_in F l2 1 50 h2) fun r3 h4 =>
    if r3 = 0 then
      (some ((-1), h4))
    else
      (iv h4 l0 112 (Mod_copies F l0 h4) fun r5 h6 =>
      Mod_hope_L28 F F l0 l1 l2 0 0 h6))

theorem dc_Mod_hope_0 : ∀ q ∈ ([(0, .iload_n 1, 1), (1, .invokestatic 406, 3), (4, .ifCond .eq 13, 3), (7, .iload_n 2, 1), (8, .iconst 1, 1), (9, .bipush 50, 2), (11, .invokestatic 355, 3), (14, .ifCond .ne 5, 3), (17, .iconst (-1), 1), (18, .ireturn, 1), (19, .aload_n 0, 1), (20, .invokevirtual 409, 3), (23, .iconst 0, 1), (24, .istore_n 3, 1), (25, .iconst 0, 1), (26, .istore 4, 2), (28, .iload 4, 2), (30, .iload_n 2, 1), (31, .if_icmp .ge 29, 3), (34, .iload_n 3, 1), (35, .aload_n 0, 1), (36, .aload_n 0, 1), (37, .getfield 82, 3), (40, .aload_n 0, 1), (41, .getfield 281, 3), (44, .iaload, 1), (45, .iload 4, 2), (47, .iadd, 1), (48, .iload_n 1, 1), (49, .invokevirtual 507, 3), (52, .iadd, 1), (53, .istore_n 3, 1), (54, .iinc 4 1, 3), (57, .goto (-29), 3), (60, .iload_n 3, 1), (61, .ireturn, 1)] : List (Nat × Instr × Nat)), decode cX12_hope q.1 = .ok (q.2.1, q.2.2) := by decide +kernel
abbrev X_Mod_hope : MX := (cX12_hope, RX12, "hope", 5, (some (.int)), 5, 112)
theorem v_Mod_hope_L28s (F : Nat)  (R28 : Int → Int → Int → Int → Int → Hp → Option (Int × Hp)) (hR28 : ∀ (l0 l1 l2 l3 l4 : Int) (h : Hp), V X_Mod_hope 28 [(0, 2, l0), (1, 0, l1), (2, 0, l2), (3, 0, l3), (4, 0, l4)] [] h (R28 l0 l1 l2 l3 l4 h)) (l0 l1 l2 l3 l4 : Int) (h : Hp) : V X_Mod_hope 28 [(0, 2, l0), (1, 0, l1), (2, 0, l2), (3, 0, l3), (4, 0, l4)] [] h (Mod_hope_L28s F  R28 l0 l1 l2 l3 l4 h) := by
  unfold Mod_hope_L28s
  refine V_iload (pc := 28) (DCa dc_Mod_hope_0 16 rfl) 4 rfl ?_
  refine V_iload_n (pc := 30) (DCa dc_Mod_hope_0 17 rfl) rfl 2 rfl ?_
  refine V_icmp_ge (tgt := 60) (pc := 31) (DCa dc_Mod_hope_0 18 rfl) (by decide) (fun _ => ?_) (fun _ => ?_)
  · refine V_iload_n (pc := 34) (DCa dc_Mod_hope_0 19 rfl) rfl 3 rfl ?_
    refine V_aload_n (pc := 35) (DCa dc_Mod_hope_0 20 rfl) rfl 0 rfl ?_
    refine V_aload_n (pc := 36) (DCa dc_Mod_hope_0 21 rfl) rfl 0 rfl ?_
    refine Q_getf (k := 35) (pc := 37) (DCa dc_Mod_hope_0 22 rfl) cls_12 (Nat.le_of_ble_eq_true rfl) fl_12_82 rfl rfl rfl (fun v7 => ?_)
    refine V_aload_n (pc := 40) (DCa dc_Mod_hope_0 23 rfl) rfl 0 rfl ?_
    refine Q_getf (k := 18) (pc := 41) (DCa dc_Mod_hope_0 24 rfl) cls_12 (Nat.le_of_ble_eq_true rfl) fl_12_281 rfl rfl rfl (fun v8 => ?_)
    refine Q_iaload (pc := 44) (DCa dc_Mod_hope_0 25 rfl) (fun v9 => ?_)
    refine V_iload (pc := 45) (DCa dc_Mod_hope_0 26 rfl) 4 rfl ?_
    refine V_iadd (pc := 47) (DCa dc_Mod_hope_0 27 rfl) ?_
    refine V_iload_n (pc := 48) (DCa dc_Mod_hope_0 28 rfl) rfl 1 rfl ?_
    refine Q_callv (ci := 12) (st := [(0, l3)]) (pc := 49) (DCa dc_Mod_hope_0 29 rfl) (sp_Mod_photoBy F _ _ _ _) ce_Mod_photoBy ml_12_507 rfl rfl ⟨Nat.le_of_ble_eq_true rfl, Nat.le_of_ble_eq_true rfl⟩ rfl (Nat.le_of_ble_eq_true rfl) (fun r10 h11 => ?_)
    refine V_iadd (pc := 52) (DCa dc_Mod_hope_0 30 rfl) ?_
    refine Q_lt (fun x12 => ?_)
    refine V_istore_n (ls' := [(0, 2, l0), (1, 0, l1), (2, 0, l2), (3, 0, x12), (4, 0, l4)]) (pc := 53) (DCa dc_Mod_hope_0 31 rfl) rfl (Nat.le_of_ble_eq_true rfl) rfl ?_
    refine V_iinc (ls' := [(0, 2, l0), (1, 0, l1), (2, 0, l2), (3, 0, x12), (4, 0, w32 (l4 + 1))]) (pc := 54) (DCa dc_Mod_hope_0 32 rfl) (Nat.le_of_ble_eq_true rfl) (by decide) 4 rfl rfl ?_
    refine V_goto (tgt := 28) (pc := 57) (DCa dc_Mod_hope_0 33 rfl) (by decide) ?_
    exact hR28 _ _ _ _ _ _
  · refine V_iload_n (pc := 60) (DCa dc_Mod_hope_0 34 rfl) rfl 3 rfl ?_
    exact V_ireturn (pc := 61) (DCa dc_Mod_hope_0 35 rfl) rfl
theorem v_Mod_hope_L28 (F : Nat)  (n : Nat) : ∀ (l0 l1 l2 l3 l4 : Int) (h : Hp), V X_Mod_hope 28 [(0, 2, l0), (1, 0, l1), (2, 0, l2), (3, 0, l3), (4, 0, l4)] [] h (Mod_hope_L28 F  n l0 l1 l2 l3 l4 h) := by
  induction n with
  | zero => intros; exact V_none
  | succ n ih => exact fun l0 l1 l2 l3 l4 h => v_Mod_hope_L28s F  _ ih l0 l1 l2 l3 l4 h
theorem v_Mod_hope (F : Nat) (l0 l1 l2 : Int) (h : Hp) : V X_Mod_hope 0 [(0, 2, l0), (1, 0, l1), (2, 0, l2)] [] h (Mod_hope F l0 l1 l2 h) := by
  unfold Mod_hope
  refine V_iload_n (pc := 0) (DCa dc_Mod_hope_0 0 rfl) rfl 1 rfl ?_
  refine Q_calls (st := []) (pc := 1) (DCa dc_Mod_hope_0 1 rfl) (sp_Mod_isMinute F _ _) ce_Mod_isMinute ml_12_406 rfl ⟨Nat.le_of_ble_eq_true rfl, Nat.le_of_ble_eq_true rfl⟩ rfl (Nat.le_of_ble_eq_true rfl) (fun r1 h2 => ?_)
  refine V_if_eq (tgt := 17) (pc := 4) (DCa dc_Mod_hope_0 2 rfl) (by decide) (fun _ => ?_) (fun _ => ?_)
  · refine V_iconst (pc := 17) (DCa dc_Mod_hope_0 8 rfl) (by decide) ?_
    exact V_ireturn (pc := 18) (DCa dc_Mod_hope_0 9 rfl) rfl
  · refine V_iload_n (pc := 7) (DCa dc_Mod_hope_0 3 rfl) rfl 2 rfl ?_
    refine V_iconst (pc := 8) (DCa dc_Mod_hope_0 4 rfl) (by decide) ?_
    refine V_bipush (pc := 9) (DCa dc_Mod_hope_0 5 rfl) (by decide) ?_
    refine Q_calls (st := []) (pc := 11) (DCa dc_Mod_hope_0 6 rfl) (sp_Mod_in F _ _ _ _) ce_Mod_in ml_12_355 rfl ⟨Nat.le_of_ble_eq_true rfl, Nat.le_of_ble_eq_true rfl⟩ rfl (Nat.le_of_ble_eq_true rfl) (fun r3 h4 => ?_)
    refine V_if_ne (tgt := 19) (pc := 14) (DCa dc_Mod_hope_0 7 rfl) (by decide) (fun _ => ?_) (fun _ => ?_)
    · refine V_iconst (pc := 17) (DCa dc_Mod_hope_0 8 rfl) (by decide) ?_
      exact V_ireturn (pc := 18) (DCa dc_Mod_hope_0 9 rfl) rfl
    · refine V_aload_n (pc := 19) (DCa dc_Mod_hope_0 10 rfl) rfl 0 rfl ?_
      refine Q_callv (ci := 12) (st := []) (pc := 20) (DCa dc_Mod_hope_0 11 rfl) (sp_Mod_copies F _ _) ce_Mod_copies ml_12_409 rfl rfl ⟨Nat.le_of_ble_eq_true rfl, Nat.le_of_ble_eq_true rfl⟩ rfl (Nat.le_of_ble_eq_true rfl) (fun r5 h6 => ?_)
      refine V_iconst (pc := 23) (DCa dc_Mod_hope_0 12 rfl) (by decide) ?_
      refine V_istore_n (ls' := [(0, 2, l0), (1, 0, l1), (2, 0, l2), (3, 0, 0)]) (pc := 24) (DCa dc_Mod_hope_0 13 rfl) rfl (Nat.le_of_ble_eq_true rfl) rfl ?_
      refine V_iconst (pc := 25) (DCa dc_Mod_hope_0 14 rfl) (by decide) ?_
      refine V_istore (ls' := [(0, 2, l0), (1, 0, l1), (2, 0, l2), (3, 0, 0), (4, 0, 0)]) (pc := 26) (DCa dc_Mod_hope_0 15 rfl) (Nat.le_of_ble_eq_true rfl) rfl ?_
      exact v_Mod_hope_L28 F F _ _ _ _ _ _
theorem sp_Mod_hope (F : Nat) (l0 l1 l2 : Int) (h : Hp) : Sp yX12_hope cX12_hope 5 (some (.int)) 5 112 [(2, l0), (0, l1), (0, l2)] h (Mod_hope F l0 l1 l2 h) := Sp_of (by decide +kernel) rfl rfl (Nat.le_of_ble_eq_true rfl) (v_Mod_hope F l0 l1 l2 h)

-- TideRakesModel.errorFrom
def Mod_errorFrom_B61 (F : Nat)  (l0 l1 l3 l4 s0 : Int) (h : Hp) : Option (Int × Hp) :=
  gf h l0 112 55 fun v13 =>
  al h v13 0 l1 fun v14 =>
  cl (Mod_apart F l3 v14 h) fun r15 h16 =>
  gf h16 l0 112 56 fun v17 =>
  al h16 v17 0 l1 fun v18 =>
  cl (Mod_apart F l4 v18 h16) fun r19 h20 =>
  iv h20 l0 112 (Mod_setsOf F l0 0 0 0 (w32 (r15 + r19)) s0 h20) fun r21 h22 =>
  gf h22 l0 112 49 fun v23 =>
  al h22 v23 0 3 fun v24 =>
  iv h22 l0 112 (Mod_tells F l0 3 v24 0 9999 h22) fun r25 h26 =>
  some (w32 (s0 + r25), h26)
def Mod_errorFrom_B45 (F : Nat)  (l0 l1 l2 l3 s0 : Int) (h : Hp) : Option (Int × Hp) :=
  if l2 < 0 then
    (Mod_errorFrom_B61 F l0 l1 l3 s0 0 h)
  else
    (gf h l0 112 77 fun v11 =>
    al h v11 0 l2 fun v12 =>
    Mod_errorFrom_B61 F l0 l1 l3 s0 v12 h)
def Mod_errorFrom_B22 (F : Nat)  (l0 l1 l2 s0 : Int) (h : Hp) : Option (Int × Hp) :=
  if l2 < 0 then
    (gf h l0 112 34 fun v6 =>
    gf h l0 112 18 fun v7 =>
    al h v6 0 v7 fun v8 =>
    Mod_errorFrom_B45 F l0 l1 l2 s0 v8 h)
  else
    (gf h l0 112 56 fun v9 =>
    al h v9 0 l2 fun v10 =>
    Mod_errorFrom_B45 F l0 l1 l2 s0 v10 h)
def Mod_errorFrom (F : Nat) (l0 l1 l2 : Int) (h : Hp) : Option (Int × Hp) :=
  if l2 < 0 then
    (gf h l0 112 33 fun v1 =>
    gf h l0 112 18 fun v2 =>
    al h v1 0 v2 fun v3 =>
    Mod_errorFrom_B22 F l0 l1 l2 v3 h)
  else
    (gf h l0 112 55 fun v4 =>
    al h v4 0 l2 fun v5 =>
    Mod_errorFrom_B22 F l0 l1 l2 v5 h)

theorem dc_Mod_errorFrom_0 : ∀ q ∈ ([(0, .iload_n 2, 1), (1, .ifCond .ge 15, 3), (4, .aload_n 0, 1), (5, .getfield 76, 3), (8, .aload_n 0, 1), (9, .getfield 281, 3), (12, .iaload, 1), (13, .goto 9, 3), (16, .aload_n 0, 1), (17, .getfield 131, 3), (20, .iload_n 2, 1), (21, .iaload, 1), (22, .istore_n 3, 1), (23, .iload_n 2, 1), (24, .ifCond .ge 15, 3), (27, .aload_n 0, 1), (28, .getfield 79, 3), (31, .aload_n 0, 1), (32, .getfield 281, 3), (35, .iaload, 1), (36, .goto 9, 3), (39, .aload_n 0, 1), (40, .getfield 134, 3), (43, .iload_n 2, 1), (44, .iaload, 1), (45, .istore 4, 2), (47, .iload_n 2, 1), (48, .ifCond .ge 7, 3), (51, .iconst 0, 1), (52, .goto 9, 3), (55, .aload_n 0, 1), (56, .getfield 176, 3), (59, .iload_n 2, 1), (60, .iaload, 1), (61, .istore 5, 2), (63, .aload_n 0, 1), (64, .iconst 0, 1), (65, .iconst 0, 1), (66, .iconst 0, 1), (67, .iload_n 3, 1), (68, .aload_n 0, 1), (69, .getfield 131, 3), (72, .iload_n 1, 1), (73, .iaload, 1), (74, .invokestatic 377, 3), (77, .iload 4, 2), (79, .aload_n 0, 1), (80, .getfield 134, 3), (83, .iload_n 1, 1), (84, .iaload, 1)] : List (Nat × Instr × Nat)), decode cX12_errorFrom q.1 = .ok (q.2.1, q.2.2) := by decide +kernel
theorem dc_Mod_errorFrom_1 : ∀ q ∈ ([(85, .invokestatic 377, 3), (88, .iadd, 1), (89, .iload 5, 2), (91, .invokevirtual 362, 3), (94, .aload_n 0, 1), (95, .getfield 116, 3), (98, .iconst 3, 1), (99, .iaload, 1), (100, .istore 6, 2), (102, .iload 5, 2), (104, .aload_n 0, 1), (105, .iconst 3, 1), (106, .iload 6, 2), (108, .iconst 0, 1), (109, .sipush 9999, 3), (112, .invokevirtual 366, 3), (115, .iadd, 1), (116, .ireturn, 1)] : List (Nat × Instr × Nat)), decode cX12_errorFrom q.1 = .ok (q.2.1, q.2.2) := by decide +kernel
abbrev X_Mod_errorFrom : MX := (cX12_errorFrom, RX12, "errorFrom", 7, (some (.int)), 3, 75)
theorem v_Mod_errorFrom_B61 (F : Nat)  (l0 l1 l3 l4 s0 : Int) (h : Hp) : V X_Mod_errorFrom 61 [(0, 2, l0), (1, 0, l1), (3, 0, l3), (4, 0, l4)] [(0, s0)] h (Mod_errorFrom_B61 F  l0 l1 l3 l4 s0 h) := by
  unfold Mod_errorFrom_B61
  refine V_istore (ls' := [(0, 2, l0), (1, 0, l1), (3, 0, l3), (4, 0, l4), (5, 0, s0)]) (pc := 61) (DCa dc_Mod_errorFrom_0 34 rfl) (Nat.le_of_ble_eq_true rfl) rfl ?_
  refine V_aload_n (pc := 63) (DCa dc_Mod_errorFrom_0 35 rfl) rfl 0 rfl ?_
  refine V_iconst (pc := 64) (DCa dc_Mod_errorFrom_0 36 rfl) (by decide) ?_
  refine V_iconst (pc := 65) (DCa dc_Mod_errorFrom_0 37 rfl) (by decide) ?_
  refine V_iconst (pc := 66) (DCa dc_Mod_errorFrom_0 38 rfl) (by decide) ?_
  refine V_iload_n (pc := 67) (DCa dc_Mod_errorFrom_0 39 rfl) rfl 2 rfl ?_
  refine V_aload_n (pc := 68) (DCa dc_Mod_errorFrom_0 40 rfl) rfl 0 rfl ?_
  refine Q_getf (k := 55) (pc := 69) (DCa dc_Mod_errorFrom_0 41 rfl) cls_12 (Nat.le_of_ble_eq_true rfl) fl_12_131 rfl rfl rfl (fun v13 => ?_)
  refine V_iload_n (pc := 72) (DCa dc_Mod_errorFrom_0 42 rfl) rfl 1 rfl ?_
  refine Q_iaload (pc := 73) (DCa dc_Mod_errorFrom_0 43 rfl) (fun v14 => ?_)
  refine Q_calls (st := [(0, 0), (0, 0), (0, 0), (2, l0)]) (pc := 74) (DCa dc_Mod_errorFrom_0 44 rfl) (sp_Mod_apart F _ _ _) ce_Mod_apart ml_12_377 rfl ⟨Nat.le_of_ble_eq_true rfl, Nat.le_of_ble_eq_true rfl⟩ rfl (Nat.le_of_ble_eq_true rfl) (fun r15 h16 => ?_)
  refine V_iload (pc := 77) (DCa dc_Mod_errorFrom_0 45 rfl) 3 rfl ?_
  refine V_aload_n (pc := 79) (DCa dc_Mod_errorFrom_0 46 rfl) rfl 0 rfl ?_
  refine Q_getf (k := 56) (pc := 80) (DCa dc_Mod_errorFrom_0 47 rfl) cls_12 (Nat.le_of_ble_eq_true rfl) fl_12_134 rfl rfl rfl (fun v17 => ?_)
  refine V_iload_n (pc := 83) (DCa dc_Mod_errorFrom_0 48 rfl) rfl 1 rfl ?_
  refine Q_iaload (pc := 84) (DCa dc_Mod_errorFrom_0 49 rfl) (fun v18 => ?_)
  refine Q_calls (st := [(0, r15), (0, 0), (0, 0), (0, 0), (2, l0)]) (pc := 85) (DCa dc_Mod_errorFrom_1 0 rfl) (sp_Mod_apart F _ _ _) ce_Mod_apart ml_12_377 rfl ⟨Nat.le_of_ble_eq_true rfl, Nat.le_of_ble_eq_true rfl⟩ rfl (Nat.le_of_ble_eq_true rfl) (fun r19 h20 => ?_)
  refine V_iadd (pc := 88) (DCa dc_Mod_errorFrom_1 1 rfl) ?_
  refine V_iload (pc := 89) (DCa dc_Mod_errorFrom_1 2 rfl) 4 rfl ?_
  refine Q_callv (ci := 12) (st := []) (pc := 91) (DCa dc_Mod_errorFrom_1 3 rfl) (sp_Mod_setsOf F _ _ _ _ _ _ _) ce_Mod_setsOf ml_12_362 rfl rfl ⟨Nat.le_of_ble_eq_true rfl, Nat.le_of_ble_eq_true rfl⟩ rfl (Nat.le_of_ble_eq_true rfl) (fun r21 h22 => ?_)
  refine V_aload_n (pc := 94) (DCa dc_Mod_errorFrom_1 4 rfl) rfl 0 rfl ?_
  refine Q_getf (k := 49) (pc := 95) (DCa dc_Mod_errorFrom_1 5 rfl) cls_12 (Nat.le_of_ble_eq_true rfl) fl_12_116 rfl rfl rfl (fun v23 => ?_)
  refine V_iconst (pc := 98) (DCa dc_Mod_errorFrom_1 6 rfl) (by decide) ?_
  refine Q_iaload (pc := 99) (DCa dc_Mod_errorFrom_1 7 rfl) (fun v24 => ?_)
  refine V_istore (ls' := [(0, 2, l0), (1, 0, l1), (3, 0, l3), (4, 0, l4), (5, 0, s0), (6, 0, v24)]) (pc := 100) (DCa dc_Mod_errorFrom_1 8 rfl) (Nat.le_of_ble_eq_true rfl) rfl ?_
  refine V_iload (pc := 102) (DCa dc_Mod_errorFrom_1 9 rfl) 4 rfl ?_
  refine V_aload_n (pc := 104) (DCa dc_Mod_errorFrom_1 10 rfl) rfl 0 rfl ?_
  refine V_iconst (pc := 105) (DCa dc_Mod_errorFrom_1 11 rfl) (by decide) ?_
  refine V_iload (pc := 106) (DCa dc_Mod_errorFrom_1 12 rfl) 5 rfl ?_
  refine V_iconst (pc := 108) (DCa dc_Mod_errorFrom_1 13 rfl) (by decide) ?_
  refine V_sipush (pc := 109) (DCa dc_Mod_errorFrom_1 14 rfl) (by decide) ?_
  refine Q_callv (ci := 12) (st := [(0, s0)]) (pc := 112) (DCa dc_Mod_errorFrom_1 15 rfl) (sp_Mod_tells F _ _ _ _ _ _) ce_Mod_tells ml_12_366 rfl rfl ⟨Nat.le_of_ble_eq_true rfl, Nat.le_of_ble_eq_true rfl⟩ rfl (Nat.le_of_ble_eq_true rfl) (fun r25 h26 => ?_)
  refine V_iadd (pc := 115) (DCa dc_Mod_errorFrom_1 16 rfl) ?_
  exact V_ireturn (pc := 116) (DCa dc_Mod_errorFrom_1 17 rfl) rfl
theorem v_Mod_errorFrom_B45 (F : Nat)  (l0 l1 l2 l3 s0 : Int) (h : Hp) : V X_Mod_errorFrom 45 [(0, 2, l0), (1, 0, l1), (2, 0, l2), (3, 0, l3)] [(0, s0)] h (Mod_errorFrom_B45 F  l0 l1 l2 l3 s0 h) := by
  unfold Mod_errorFrom_B45
  refine V_istore (ls' := [(0, 2, l0), (1, 0, l1), (2, 0, l2), (3, 0, l3), (4, 0, s0)]) (pc := 45) (DCa dc_Mod_errorFrom_0 25 rfl) (Nat.le_of_ble_eq_true rfl) rfl ?_
  refine V_iload_n (pc := 47) (DCa dc_Mod_errorFrom_0 26 rfl) rfl 2 rfl ?_
  refine V_if_ge (tgt := 55) (pc := 48) (DCa dc_Mod_errorFrom_0 27 rfl) (by decide) (fun _ => ?_) (fun _ => ?_)
  · refine V_iconst (pc := 51) (DCa dc_Mod_errorFrom_0 28 rfl) (by decide) ?_
    refine V_goto (tgt := 61) (pc := 52) (DCa dc_Mod_errorFrom_0 29 rfl) (by decide) ?_
    refine V_pick [0, 1, 3, 4] rfl ?_
    exact v_Mod_errorFrom_B61 F _ _ _ _ _ _
  · refine V_aload_n (pc := 55) (DCa dc_Mod_errorFrom_0 30 rfl) rfl 0 rfl ?_
    refine Q_getf (k := 77) (pc := 56) (DCa dc_Mod_errorFrom_0 31 rfl) cls_12 (Nat.le_of_ble_eq_true rfl) fl_12_176 rfl rfl rfl (fun v11 => ?_)
    refine V_iload_n (pc := 59) (DCa dc_Mod_errorFrom_0 32 rfl) rfl 2 rfl ?_
    refine Q_iaload (pc := 60) (DCa dc_Mod_errorFrom_0 33 rfl) (fun v12 => ?_)
    refine V_pick [0, 1, 3, 4] rfl ?_
    exact v_Mod_errorFrom_B61 F _ _ _ _ _ _
theorem v_Mod_errorFrom_B22 (F : Nat)  (l0 l1 l2 s0 : Int) (h : Hp) : V X_Mod_errorFrom 22 [(0, 2, l0), (1, 0, l1), (2, 0, l2)] [(0, s0)] h (Mod_errorFrom_B22 F  l0 l1 l2 s0 h) := by
  unfold Mod_errorFrom_B22
  refine V_istore_n (ls' := [(0, 2, l0), (1, 0, l1), (2, 0, l2), (3, 0, s0)]) (pc := 22) (DCa dc_Mod_errorFrom_0 12 rfl) rfl (Nat.le_of_ble_eq_true rfl) rfl ?_
  refine V_iload_n (pc := 23) (DCa dc_Mod_errorFrom_0 13 rfl) rfl 2 rfl ?_
  refine V_if_ge (tgt := 39) (pc := 24) (DCa dc_Mod_errorFrom_0 14 rfl) (by decide) (fun _ => ?_) (fun _ => ?_)
  · refine V_aload_n (pc := 27) (DCa dc_Mod_errorFrom_0 15 rfl) rfl 0 rfl ?_
    refine Q_getf (k := 34) (pc := 28) (DCa dc_Mod_errorFrom_0 16 rfl) cls_12 (Nat.le_of_ble_eq_true rfl) fl_12_79 rfl rfl rfl (fun v6 => ?_)
    refine V_aload_n (pc := 31) (DCa dc_Mod_errorFrom_0 17 rfl) rfl 0 rfl ?_
    refine Q_getf (k := 18) (pc := 32) (DCa dc_Mod_errorFrom_0 18 rfl) cls_12 (Nat.le_of_ble_eq_true rfl) fl_12_281 rfl rfl rfl (fun v7 => ?_)
    refine Q_iaload (pc := 35) (DCa dc_Mod_errorFrom_0 19 rfl) (fun v8 => ?_)
    refine V_goto (tgt := 45) (pc := 36) (DCa dc_Mod_errorFrom_0 20 rfl) (by decide) ?_
    exact v_Mod_errorFrom_B45 F _ _ _ _ _ _
  · refine V_aload_n (pc := 39) (DCa dc_Mod_errorFrom_0 21 rfl) rfl 0 rfl ?_
    refine Q_getf (k := 56) (pc := 40) (DCa dc_Mod_errorFrom_0 22 rfl) cls_12 (Nat.le_of_ble_eq_true rfl) fl_12_134 rfl rfl rfl (fun v9 => ?_)
    refine V_iload_n (pc := 43) (DCa dc_Mod_errorFrom_0 23 rfl) rfl 2 rfl ?_
    refine Q_iaload (pc := 44) (DCa dc_Mod_errorFrom_0 24 rfl) (fun v10 => ?_)
    exact v_Mod_errorFrom_B45 F _ _ _ _ _ _
theorem v_Mod_errorFrom (F : Nat) (l0 l1 l2 : Int) (h : Hp) : V X_Mod_errorFrom 0 [(0, 2, l0), (1, 0, l1), (2, 0, l2)] [] h (Mod_errorFrom F l0 l1 l2 h) := by
  unfold Mod_errorFrom
  refine V_iload_n (pc := 0) (DCa dc_Mod_errorFrom_0 0 rfl) rfl 2 rfl ?_
  refine V_if_ge (tgt := 16) (pc := 1) (DCa dc_Mod_errorFrom_0 1 rfl) (by decide) (fun _ => ?_) (fun _ => ?_)
  · refine V_aload_n (pc := 4) (DCa dc_Mod_errorFrom_0 2 rfl) rfl 0 rfl ?_
    refine Q_getf (k := 33) (pc := 5) (DCa dc_Mod_errorFrom_0 3 rfl) cls_12 (Nat.le_of_ble_eq_true rfl) fl_12_76 rfl rfl rfl (fun v1 => ?_)
    refine V_aload_n (pc := 8) (DCa dc_Mod_errorFrom_0 4 rfl) rfl 0 rfl ?_
    refine Q_getf (k := 18) (pc := 9) (DCa dc_Mod_errorFrom_0 5 rfl) cls_12 (Nat.le_of_ble_eq_true rfl) fl_12_281 rfl rfl rfl (fun v2 => ?_)
    refine Q_iaload (pc := 12) (DCa dc_Mod_errorFrom_0 6 rfl) (fun v3 => ?_)
    refine V_goto (tgt := 22) (pc := 13) (DCa dc_Mod_errorFrom_0 7 rfl) (by decide) ?_
    exact v_Mod_errorFrom_B22 F _ _ _ _ _
  · refine V_aload_n (pc := 16) (DCa dc_Mod_errorFrom_0 8 rfl) rfl 0 rfl ?_
    refine Q_getf (k := 55) (pc := 17) (DCa dc_Mod_errorFrom_0 9 rfl) cls_12 (Nat.le_of_ble_eq_true rfl) fl_12_131 rfl rfl rfl (fun v4 => ?_)
    refine V_iload_n (pc := 20) (DCa dc_Mod_errorFrom_0 10 rfl) rfl 2 rfl ?_
    refine Q_iaload (pc := 21) (DCa dc_Mod_errorFrom_0 11 rfl) (fun v5 => ?_)
    exact v_Mod_errorFrom_B22 F _ _ _ _ _
theorem sp_Mod_errorFrom (F : Nat) (l0 l1 l2 : Int) (h : Hp) : Sp yX12_errorFrom cX12_errorFrom 7 (some (.int)) 3 75 [(2, l0), (0, l1), (0, l2)] h (Mod_errorFrom F l0 l1 l2 h) := Sp_of (by decide +kernel) rfl rfl (Nat.le_of_ble_eq_true rfl) (v_Mod_errorFrom F l0 l1 l2 h)

-- TideRakesModel.settles
def Mod_settles_B150 (F : Nat) (R7 : Int → Int → Hp → Option (Int × Hp)) (l0 l1 l2 l3 l4 : Int) (h : Hp) : Option (Int × Hp) :=
  gf h l0 112 77 fun v13 =>
  as h v13 0 l2 l3 fun h14 =>
  gf h14 l0 112 78 fun v15 =>
  as h14 v15 0 l2 l4 fun h16 =>
  gf h16 l0 112 79 fun v17 =>
  pf h16 l0 112 79 (ior v17 (ishl 1 l2)) fun h18 =>
  R7 l0 (w32 (l1 + 1)) h18
def Mod_settles_B105 (F : Nat) (R7 : Int → Int → Hp → Option (Int × Hp)) (R31 : Int → Int → Int → Int → Int → Int → Hp → Option (Int × Hp)) (R65 : Int → Int → Int → Int → Int → Int → Int → Hp → Option (Int × Hp)) (l0 l1 l2 l3 l4 l5 l6 : Int) (h : Hp) : Option (Int × Hp) :=
  iv h l0 112 (Mod_errorFrom F l0 l5 l6 h) fun r19 h20 =>
  if l2 < 0 then
    (R65 l0 l1 l5 r19 l6 l5 (w32 (l6 + 1)) h20)
  else
    (if r19 < l3 then
      (R65 l0 l1 l5 r19 l6 l5 (w32 (l6 + 1)) h20)
    else
      (R65 l0 l1 l2 l3 l4 l5 (w32 (l6 + 1)) h20))
def Mod_settles_L65s (F : Nat) (R7 : Int → Int → Hp → Option (Int × Hp)) (R31 : Int → Int → Int → Int → Int → Int → Hp → Option (Int × Hp)) (R65 : Int → Int → Int → Int → Int → Int → Int → Hp → Option (Int × Hp)) (l0 l1 l2 l3 l4 l5 l6 : Int) (h : Hp) : Option (Int × Hp) :=
  gf h l0 112 22 fun v9 =>
  gf h l0 112 18 fun v10 =>
  al h v9 0 v10 fun v11 =>
  if l6 < v11 then
    (if l6 = (-1) then
      (R65 l0 l1 l2 l3 l4 l5 (w32 (l6 + 1)) h)
    else
      (if l6 < 0 then
        (Mod_settles_B105 F R7 R31 R65 l0 l1 l2 l3 l4 l5 l6 h)
      else
        (gf h l0 112 79 fun v12 =>
        if (iand (ishr v12 l6) 1) = 0 then
          (R65 l0 l1 l2 l3 l4 l5 (w32 (l6 + 1)) h)
        else
          (Mod_settles_B105 F R7 R31 R65 l0 l1 l2 l3 l4 l5 l6 h))))
  else
    (R31 l0 l1 l2 l3 l4 (w32 (l5 + 1)) h)
def Mod_settles_L65 (F : Nat) (R7 : Int → Int → Hp → Option (Int × Hp)) (R31 : Int → Int → Int → Int → Int → Int → Hp → Option (Int × Hp)) : Nat → Int → Int → Int → Int → Int → Int → Int → Hp → Option (Int × Hp)
  | 0 => fun _ _ _ _ _ _ _ _ => none
  | n + 1 => Mod_settles_L65s F R7 R31 (Mod_settles_L65 F R7 R31 n)
def Mod_settles_L31s (F : Nat) (R7 : Int → Int → Hp → Option (Int × Hp)) (R31 : Int → Int → Int → Int → Int → Int → Hp → Option (Int × Hp)) (l0 l1 l2 l3 l4 l5 : Int) (h : Hp) : Option (Int × Hp) :=
  gf h l0 112 22 fun v5 =>
  gf h l0 112 18 fun v6 =>
  al h v5 0 v6 fun v7 =>
  if l5 < v7 then
    (gf h l0 112 79 fun v8 =>
    if (iand (ishr v8 l5) 1) = 1 then
      (R31 l0 l1 l2 l3 l4 (w32 (l5 + 1)) h)
    else
      (Mod_settles_L65 F R7 R31 F l0 l1 l2 l3 l4 l5 (-2) h))
  else
    (Mod_settles_B150 F R7 l0 l1 l2 l3 l4 h)
def Mod_settles_L31 (F : Nat) (R7 : Int → Int → Hp → Option (Int × Hp)) : Nat → Int → Int → Int → Int → Int → Int → Hp → Option (Int × Hp)
  | 0 => fun _ _ _ _ _ _ _ => none
  | n + 1 => Mod_settles_L31s F R7 (Mod_settles_L31 F R7 n)
def Mod_settles_L7s (F : Nat)  (R7 : Int → Int → Hp → Option (Int × Hp)) (l0 l1 : Int) (h : Hp) : Option (Int × Hp) :=
  gf h l0 112 22 fun v2 =>
  gf h l0 112 18 fun v3 =>
  al h v2 0 v3 fun v4 =>
  if l1 < v4 then
    (Mod_settles_L31 F R7 F l0 l1 (-1) 0 (-2) 0 h)
  else
    (some (0, h))
def Mod_settles_L7 (F : Nat)  : Nat → Int → Int → Hp → Option (Int × Hp)
  | 0 => fun _ _ _ => none
  | n + 1 => Mod_settles_L7s F  (Mod_settles_L7 F  n)
def Mod_settles (F : Nat) (l0 : Int) (h : Hp) : Option (Int × Hp) :=
  pf h l0 112 79 0 fun h1 =>
  Mod_settles_L7 F F l0 0 h1

theorem dc_Mod_settles_0 : ∀ q ∈ ([(0, .aload_n 0, 1), (1, .iconst 0, 1), (2, .putfield 510, 3), (5, .iconst 0, 1), (6, .istore_n 1, 1), (7, .iload_n 1, 1), (8, .aload_n 0, 1), (9, .getfield 43, 3), (12, .aload_n 0, 1), (13, .getfield 281, 3), (16, .iaload, 1), (17, .if_icmp .ge 166, 3), (20, .iconst (-1), 1), (21, .istore_n 2, 1), (22, .iconst 0, 1), (23, .istore_n 3, 1), (24, .bipush (-2), 2), (26, .istore 4, 2), (28, .iconst 0, 1), (29, .istore 5, 2), (31, .iload 5, 2), (33, .aload_n 0, 1), (34, .getfield 43, 3), (37, .aload_n 0, 1), (38, .getfield 281, 3), (41, .iaload, 1), (42, .if_icmp .ge 108, 3), (45, .aload_n 0, 1), (46, .getfield 510, 3), (49, .iload 5, 2), (51, .ishr, 1), (52, .iconst 1, 1), (53, .iand, 1), (54, .iconst 1, 1), (55, .if_icmp .ne 6, 3), (58, .goto 86, 3), (61, .bipush (-2), 2), (63, .istore 6, 2), (65, .iload 6, 2), (67, .aload_n 0, 1), (68, .getfield 43, 3), (71, .aload_n 0, 1), (72, .getfield 281, 3), (75, .iaload, 1), (76, .if_icmp .ge 68, 3), (79, .iload 6, 2), (81, .iconst (-1), 1), (82, .if_icmp .eq 56, 3), (85, .iload 6, 2), (87, .ifCond .lt 18, 3)] : List (Nat × Instr × Nat)), decode cX12_settles q.1 = .ok (q.2.1, q.2.2) := by decide +kernel
theorem dc_Mod_settles_1 : ∀ q ∈ ([(90, .aload_n 0, 1), (91, .getfield 510, 3), (94, .iload 6, 2), (96, .ishr, 1), (97, .iconst 1, 1), (98, .iand, 1), (99, .ifCond .ne 6, 3), (102, .goto 36, 3), (105, .aload_n 0, 1), (106, .iload 5, 2), (108, .iload 6, 2), (110, .invokevirtual 513, 3), (113, .istore 7, 2), (115, .iload_n 2, 1), (116, .ifCond .lt 12, 3), (119, .iload 7, 2), (121, .iload_n 3, 1), (122, .if_icmp .lt 6, 3), (125, .goto 13, 3), (128, .iload 5, 2), (130, .istore_n 2, 1), (131, .iload 7, 2), (133, .istore_n 3, 1), (134, .iload 6, 2), (136, .istore 4, 2), (138, .iinc 6 1, 3), (141, .goto (-76), 3), (144, .iinc 5 1, 3), (147, .goto (-116), 3), (150, .aload_n 0, 1), (151, .getfield 176, 3), (154, .iload_n 2, 1), (155, .iload_n 3, 1), (156, .iastore, 1), (157, .aload_n 0, 1), (158, .getfield 179, 3), (161, .iload_n 2, 1), (162, .iload 4, 2), (164, .iastore, 1), (165, .aload_n 0, 1), (166, .dup, 1), (167, .getfield 510, 3), (170, .iconst 1, 1), (171, .iload_n 2, 1), (172, .ishl, 1), (173, .ior, 1), (174, .putfield 510, 3), (177, .iinc 1 1, 3), (180, .goto (-173), 3), (183, .return_, 1)] : List (Nat × Instr × Nat)), decode cX12_settles q.1 = .ok (q.2.1, q.2.2) := by decide +kernel
abbrev X_Mod_settles : MX := (cX12_settles, RX12, "settles", 8, none, 4, 101)
theorem v_Mod_settles_B150 (F : Nat) (R7 : Int → Int → Hp → Option (Int × Hp)) (hR7 : ∀ (l0 l1 : Int) (h : Hp), V X_Mod_settles 7 [(0, 2, l0), (1, 0, l1)] [] h (R7 l0 l1 h)) (l0 l1 l2 l3 l4 : Int) (h : Hp) : V X_Mod_settles 150 [(0, 2, l0), (1, 0, l1), (2, 0, l2), (3, 0, l3), (4, 0, l4)] [] h (Mod_settles_B150 F R7 l0 l1 l2 l3 l4 h) := by
  unfold Mod_settles_B150
  refine V_aload_n (pc := 150) (DCa dc_Mod_settles_1 29 rfl) rfl 0 rfl ?_
  refine Q_getf (k := 77) (pc := 151) (DCa dc_Mod_settles_1 30 rfl) cls_12 (Nat.le_of_ble_eq_true rfl) fl_12_176 rfl rfl rfl (fun v13 => ?_)
  refine V_iload_n (pc := 154) (DCa dc_Mod_settles_1 31 rfl) rfl 2 rfl ?_
  refine V_iload_n (pc := 155) (DCa dc_Mod_settles_1 32 rfl) rfl 3 rfl ?_
  refine Q_iastore (pc := 156) (DCa dc_Mod_settles_1 33 rfl) (fun h14 => ?_)
  refine V_aload_n (pc := 157) (DCa dc_Mod_settles_1 34 rfl) rfl 0 rfl ?_
  refine Q_getf (k := 78) (pc := 158) (DCa dc_Mod_settles_1 35 rfl) cls_12 (Nat.le_of_ble_eq_true rfl) fl_12_179 rfl rfl rfl (fun v15 => ?_)
  refine V_iload_n (pc := 161) (DCa dc_Mod_settles_1 36 rfl) rfl 2 rfl ?_
  refine V_iload (pc := 162) (DCa dc_Mod_settles_1 37 rfl) 4 rfl ?_
  refine Q_iastore (pc := 164) (DCa dc_Mod_settles_1 38 rfl) (fun h16 => ?_)
  refine V_aload_n (pc := 165) (DCa dc_Mod_settles_1 39 rfl) rfl 0 rfl ?_
  refine V_dup (pc := 166) (DCa dc_Mod_settles_1 40 rfl) rfl ?_
  refine Q_getf (k := 79) (pc := 167) (DCa dc_Mod_settles_1 41 rfl) cls_12 (Nat.le_of_ble_eq_true rfl) fl_12_510 rfl rfl rfl (fun v17 => ?_)
  refine V_iconst (pc := 170) (DCa dc_Mod_settles_1 42 rfl) (by decide) ?_
  refine V_iload_n (pc := 171) (DCa dc_Mod_settles_1 43 rfl) rfl 2 rfl ?_
  refine V_ishl (pc := 172) (DCa dc_Mod_settles_1 44 rfl) ?_
  refine V_ior (pc := 173) (DCa dc_Mod_settles_1 45 rfl) ?_
  refine Q_putf (k := 79) (pc := 174) (DCa dc_Mod_settles_1 46 rfl) cls_12 (Nat.le_of_ble_eq_true rfl) fl_12_510 rfl rfl rfl (Or.inl rfl) (Or.inl ⟨rfl, rfl⟩) (fun h18 => ?_)
  refine V_iinc (ls' := [(0, 2, l0), (1, 0, w32 (l1 + 1)), (2, 0, l2), (3, 0, l3), (4, 0, l4)]) (pc := 177) (DCa dc_Mod_settles_1 47 rfl) (Nat.le_of_ble_eq_true rfl) (by decide) 1 rfl rfl ?_
  refine V_goto (tgt := 7) (pc := 180) (DCa dc_Mod_settles_1 48 rfl) (by decide) ?_
  refine V_pick [0, 1] rfl ?_
  exact hR7 _ _ _
theorem v_Mod_settles_B105 (F : Nat) (R7 : Int → Int → Hp → Option (Int × Hp)) (hR7 : ∀ (l0 l1 : Int) (h : Hp), V X_Mod_settles 7 [(0, 2, l0), (1, 0, l1)] [] h (R7 l0 l1 h)) (R31 : Int → Int → Int → Int → Int → Int → Hp → Option (Int × Hp)) (hR31 : ∀ (l0 l1 l2 l3 l4 l5 : Int) (h : Hp), V X_Mod_settles 31 [(0, 2, l0), (1, 0, l1), (2, 0, l2), (3, 0, l3), (4, 0, l4), (5, 0, l5)] [] h (R31 l0 l1 l2 l3 l4 l5 h)) (R65 : Int → Int → Int → Int → Int → Int → Int → Hp → Option (Int × Hp)) (hR65 : ∀ (l0 l1 l2 l3 l4 l5 l6 : Int) (h : Hp), V X_Mod_settles 65 [(0, 2, l0), (1, 0, l1), (2, 0, l2), (3, 0, l3), (4, 0, l4), (5, 0, l5), (6, 0, l6)] [] h (R65 l0 l1 l2 l3 l4 l5 l6 h)) (l0 l1 l2 l3 l4 l5 l6 : Int) (h : Hp) : V X_Mod_settles 105 [(0, 2, l0), (1, 0, l1), (2, 0, l2), (3, 0, l3), (4, 0, l4), (5, 0, l5), (6, 0, l6)] [] h (Mod_settles_B105 F R7 R31 R65 l0 l1 l2 l3 l4 l5 l6 h) := by
  unfold Mod_settles_B105
  refine V_aload_n (pc := 105) (DCa dc_Mod_settles_1 8 rfl) rfl 0 rfl ?_
  refine V_iload (pc := 106) (DCa dc_Mod_settles_1 9 rfl) 5 rfl ?_
  refine V_iload (pc := 108) (DCa dc_Mod_settles_1 10 rfl) 6 rfl ?_
  refine Q_callv (ci := 12) (st := []) (pc := 110) (DCa dc_Mod_settles_1 11 rfl) (sp_Mod_errorFrom F _ _ _ _) ce_Mod_errorFrom ml_12_513 rfl rfl ⟨Nat.le_of_ble_eq_true rfl, Nat.le_of_ble_eq_true rfl⟩ rfl (Nat.le_of_ble_eq_true rfl) (fun r19 h20 => ?_)
  refine V_istore (ls' := [(0, 2, l0), (1, 0, l1), (2, 0, l2), (3, 0, l3), (4, 0, l4), (5, 0, l5), (6, 0, l6), (7, 0, r19)]) (pc := 113) (DCa dc_Mod_settles_1 12 rfl) (Nat.le_of_ble_eq_true rfl) rfl ?_
  refine V_iload_n (pc := 115) (DCa dc_Mod_settles_1 13 rfl) rfl 2 rfl ?_
  refine V_if_lt (tgt := 128) (pc := 116) (DCa dc_Mod_settles_1 14 rfl) (by decide) (fun _ => ?_) (fun _ => ?_)
  · refine V_iload (pc := 128) (DCa dc_Mod_settles_1 19 rfl) 5 rfl ?_
    refine V_istore_n (ls' := [(0, 2, l0), (1, 0, l1), (2, 0, l5), (3, 0, l3), (4, 0, l4), (5, 0, l5), (6, 0, l6), (7, 0, r19)]) (pc := 130) (DCa dc_Mod_settles_1 20 rfl) rfl (Nat.le_of_ble_eq_true rfl) rfl ?_
    refine V_iload (pc := 131) (DCa dc_Mod_settles_1 21 rfl) 7 rfl ?_
    refine V_istore_n (ls' := [(0, 2, l0), (1, 0, l1), (2, 0, l5), (3, 0, r19), (4, 0, l4), (5, 0, l5), (6, 0, l6), (7, 0, r19)]) (pc := 133) (DCa dc_Mod_settles_1 22 rfl) rfl (Nat.le_of_ble_eq_true rfl) rfl ?_
    refine V_iload (pc := 134) (DCa dc_Mod_settles_1 23 rfl) 6 rfl ?_
    refine V_istore (ls' := [(0, 2, l0), (1, 0, l1), (2, 0, l5), (3, 0, r19), (4, 0, l6), (5, 0, l5), (6, 0, l6), (7, 0, r19)]) (pc := 136) (DCa dc_Mod_settles_1 24 rfl) (Nat.le_of_ble_eq_true rfl) rfl ?_
    refine V_iinc (ls' := [(0, 2, l0), (1, 0, l1), (2, 0, l5), (3, 0, r19), (4, 0, l6), (5, 0, l5), (6, 0, w32 (l6 + 1)), (7, 0, r19)]) (pc := 138) (DCa dc_Mod_settles_1 25 rfl) (Nat.le_of_ble_eq_true rfl) (by decide) 6 rfl rfl ?_
    refine V_goto (tgt := 65) (pc := 141) (DCa dc_Mod_settles_1 26 rfl) (by decide) ?_
    refine V_pick [0, 1, 2, 3, 4, 5, 6] rfl ?_
    exact hR65 _ _ _ _ _ _ _ _
  · refine V_iload (pc := 119) (DCa dc_Mod_settles_1 15 rfl) 7 rfl ?_
    refine V_iload_n (pc := 121) (DCa dc_Mod_settles_1 16 rfl) rfl 3 rfl ?_
    refine V_icmp_lt (tgt := 128) (pc := 122) (DCa dc_Mod_settles_1 17 rfl) (by decide) (fun _ => ?_) (fun _ => ?_)
    · refine V_iload (pc := 128) (DCa dc_Mod_settles_1 19 rfl) 5 rfl ?_
      refine V_istore_n (ls' := [(0, 2, l0), (1, 0, l1), (2, 0, l5), (3, 0, l3), (4, 0, l4), (5, 0, l5), (6, 0, l6), (7, 0, r19)]) (pc := 130) (DCa dc_Mod_settles_1 20 rfl) rfl (Nat.le_of_ble_eq_true rfl) rfl ?_
      refine V_iload (pc := 131) (DCa dc_Mod_settles_1 21 rfl) 7 rfl ?_
      refine V_istore_n (ls' := [(0, 2, l0), (1, 0, l1), (2, 0, l5), (3, 0, r19), (4, 0, l4), (5, 0, l5), (6, 0, l6), (7, 0, r19)]) (pc := 133) (DCa dc_Mod_settles_1 22 rfl) rfl (Nat.le_of_ble_eq_true rfl) rfl ?_
      refine V_iload (pc := 134) (DCa dc_Mod_settles_1 23 rfl) 6 rfl ?_
      refine V_istore (ls' := [(0, 2, l0), (1, 0, l1), (2, 0, l5), (3, 0, r19), (4, 0, l6), (5, 0, l5), (6, 0, l6), (7, 0, r19)]) (pc := 136) (DCa dc_Mod_settles_1 24 rfl) (Nat.le_of_ble_eq_true rfl) rfl ?_
      refine V_iinc (ls' := [(0, 2, l0), (1, 0, l1), (2, 0, l5), (3, 0, r19), (4, 0, l6), (5, 0, l5), (6, 0, w32 (l6 + 1)), (7, 0, r19)]) (pc := 138) (DCa dc_Mod_settles_1 25 rfl) (Nat.le_of_ble_eq_true rfl) (by decide) 6 rfl rfl ?_
      refine V_goto (tgt := 65) (pc := 141) (DCa dc_Mod_settles_1 26 rfl) (by decide) ?_
      refine V_pick [0, 1, 2, 3, 4, 5, 6] rfl ?_
      exact hR65 _ _ _ _ _ _ _ _
    · refine V_goto (tgt := 138) (pc := 125) (DCa dc_Mod_settles_1 18 rfl) (by decide) ?_
      refine V_iinc (ls' := [(0, 2, l0), (1, 0, l1), (2, 0, l2), (3, 0, l3), (4, 0, l4), (5, 0, l5), (6, 0, w32 (l6 + 1)), (7, 0, r19)]) (pc := 138) (DCa dc_Mod_settles_1 25 rfl) (Nat.le_of_ble_eq_true rfl) (by decide) 6 rfl rfl ?_
      refine V_goto (tgt := 65) (pc := 141) (DCa dc_Mod_settles_1 26 rfl) (by decide) ?_
      refine V_pick [0, 1, 2, 3, 4, 5, 6] rfl ?_
      exact hR65 _ _ _ _ _ _ _ _
theorem v_Mod_settles_L65s (F : Nat) (R7 : Int → Int → Hp → Option (Int × Hp)) (hR7 : ∀ (l0 l1 : Int) (h : Hp), V X_Mod_settles 7 [(0, 2, l0), (1, 0, l1)] [] h (R7 l0 l1 h)) (R31 : Int → Int → Int → Int → Int → Int → Hp → Option (Int × Hp)) (hR31 : ∀ (l0 l1 l2 l3 l4 l5 : Int) (h : Hp), V X_Mod_settles 31 [(0, 2, l0), (1, 0, l1), (2, 0, l2), (3, 0, l3), (4, 0, l4), (5, 0, l5)] [] h (R31 l0 l1 l2 l3 l4 l5 h)) (R65 : Int → Int → Int → Int → Int → Int → Int → Hp → Option (Int × Hp)) (hR65 : ∀ (l0 l1 l2 l3 l4 l5 l6 : Int) (h : Hp), V X_Mod_settles 65 [(0, 2, l0), (1, 0, l1), (2, 0, l2), (3, 0, l3), (4, 0, l4), (5, 0, l5), (6, 0, l6)] [] h (R65 l0 l1 l2 l3 l4 l5 l6 h)) (l0 l1 l2 l3 l4 l5 l6 : Int) (h : Hp) : V X_Mod_settles 65 [(0, 2, l0), (1, 0, l1), (2, 0, l2), (3, 0, l3), (4, 0, l4), (5, 0, l5), (6, 0, l6)] [] h (Mod_settles_L65s F R7 R31 R65 l0 l1 l2 l3 l4 l5 l6 h) := by
  unfold Mod_settles_L65s
  refine V_iload (pc := 65) (DCa dc_Mod_settles_0 38 rfl) 6 rfl ?_
  refine V_aload_n (pc := 67) (DCa dc_Mod_settles_0 39 rfl) rfl 0 rfl ?_
  refine Q_getf (k := 22) (pc := 68) (DCa dc_Mod_settles_0 40 rfl) cls_12 (Nat.le_of_ble_eq_true rfl) fl_12_43 rfl rfl rfl (fun v9 => ?_)
  refine V_aload_n (pc := 71) (DCa dc_Mod_settles_0 41 rfl) rfl 0 rfl ?_
  refine Q_getf (k := 18) (pc := 72) (DCa dc_Mod_settles_0 42 rfl) cls_12 (Nat.le_of_ble_eq_true rfl) fl_12_281 rfl rfl rfl (fun v10 => ?_)
  refine Q_iaload (pc := 75) (DCa dc_Mod_settles_0 43 rfl) (fun v11 => ?_)
  refine V_icmp_ge (tgt := 144) (pc := 76) (DCa dc_Mod_settles_0 44 rfl) (by decide) (fun _ => ?_) (fun _ => ?_)
  · refine V_iload (pc := 79) (DCa dc_Mod_settles_0 45 rfl) 6 rfl ?_
    refine V_iconst (pc := 81) (DCa dc_Mod_settles_0 46 rfl) (by decide) ?_
    refine V_icmp_eq (tgt := 138) (pc := 82) (DCa dc_Mod_settles_0 47 rfl) (by decide) (fun _ => ?_) (fun _ => ?_)
    · refine V_iinc (ls' := [(0, 2, l0), (1, 0, l1), (2, 0, l2), (3, 0, l3), (4, 0, l4), (5, 0, l5), (6, 0, w32 (l6 + 1))]) (pc := 138) (DCa dc_Mod_settles_1 25 rfl) (Nat.le_of_ble_eq_true rfl) (by decide) 6 rfl rfl ?_
      refine V_goto (tgt := 65) (pc := 141) (DCa dc_Mod_settles_1 26 rfl) (by decide) ?_
      exact hR65 _ _ _ _ _ _ _ _
    · refine V_iload (pc := 85) (DCa dc_Mod_settles_0 48 rfl) 6 rfl ?_
      refine V_if_lt (tgt := 105) (pc := 87) (DCa dc_Mod_settles_0 49 rfl) (by decide) (fun _ => ?_) (fun _ => ?_)
      · exact v_Mod_settles_B105 F R7 hR7 R31 hR31 R65 hR65 _ _ _ _ _ _ _ _
      · refine V_aload_n (pc := 90) (DCa dc_Mod_settles_1 0 rfl) rfl 0 rfl ?_
        refine Q_getf (k := 79) (pc := 91) (DCa dc_Mod_settles_1 1 rfl) cls_12 (Nat.le_of_ble_eq_true rfl) fl_12_510 rfl rfl rfl (fun v12 => ?_)
        refine V_iload (pc := 94) (DCa dc_Mod_settles_1 2 rfl) 6 rfl ?_
        refine V_ishr (pc := 96) (DCa dc_Mod_settles_1 3 rfl) ?_
        refine V_iconst (pc := 97) (DCa dc_Mod_settles_1 4 rfl) (by decide) ?_
        refine V_iand (pc := 98) (DCa dc_Mod_settles_1 5 rfl) ?_
        refine V_if_ne (tgt := 105) (pc := 99) (DCa dc_Mod_settles_1 6 rfl) (by decide) (fun _ => ?_) (fun _ => ?_)
        · refine V_goto (tgt := 138) (pc := 102) (DCa dc_Mod_settles_1 7 rfl) (by decide) ?_
          refine V_iinc (ls' := [(0, 2, l0), (1, 0, l1), (2, 0, l2), (3, 0, l3), (4, 0, l4), (5, 0, l5), (6, 0, w32 (l6 + 1))]) (pc := 138) (DCa dc_Mod_settles_1 25 rfl) (Nat.le_of_ble_eq_true rfl) (by decide) 6 rfl rfl ?_
          refine V_goto (tgt := 65) (pc := 141) (DCa dc_Mod_settles_1 26 rfl) (by decide) ?_
          exact hR65 _ _ _ _ _ _ _ _
        · exact v_Mod_settles_B105 F R7 hR7 R31 hR31 R65 hR65 _ _ _ _ _ _ _ _
  · refine V_iinc (ls' := [(0, 2, l0), (1, 0, l1), (2, 0, l2), (3, 0, l3), (4, 0, l4), (5, 0, w32 (l5 + 1)), (6, 0, l6)]) (pc := 144) (DCa dc_Mod_settles_1 27 rfl) (Nat.le_of_ble_eq_true rfl) (by decide) 5 rfl rfl ?_
    refine V_goto (tgt := 31) (pc := 147) (DCa dc_Mod_settles_1 28 rfl) (by decide) ?_
    refine V_pick [0, 1, 2, 3, 4, 5] rfl ?_
    exact hR31 _ _ _ _ _ _ _
theorem v_Mod_settles_L65 (F : Nat) (R7 : Int → Int → Hp → Option (Int × Hp)) (hR7 : ∀ (l0 l1 : Int) (h : Hp), V X_Mod_settles 7 [(0, 2, l0), (1, 0, l1)] [] h (R7 l0 l1 h)) (R31 : Int → Int → Int → Int → Int → Int → Hp → Option (Int × Hp)) (hR31 : ∀ (l0 l1 l2 l3 l4 l5 : Int) (h : Hp), V X_Mod_settles 31 [(0, 2, l0), (1, 0, l1), (2, 0, l2), (3, 0, l3), (4, 0, l4), (5, 0, l5)] [] h (R31 l0 l1 l2 l3 l4 l5 h)) (n : Nat) : ∀ (l0 l1 l2 l3 l4 l5 l6 : Int) (h : Hp), V X_Mod_settles 65 [(0, 2, l0), (1, 0, l1), (2, 0, l2), (3, 0, l3), (4, 0, l4), (5, 0, l5), (6, 0, l6)] [] h (Mod_settles_L65 F R7 R31 n l0 l1 l2 l3 l4 l5 l6 h) := by
  induction n with
  | zero => intros; exact V_none
  | succ n ih => exact fun l0 l1 l2 l3 l4 l5 l6 h => v_Mod_settles_L65s F R7 hR7 R31 hR31 _ ih l0 l1 l2 l3 l4 l5 l6 h
theorem v_Mod_settles_L31s (F : Nat) (R7 : Int → Int → Hp → Option (Int × Hp)) (hR7 : ∀ (l0 l1 : Int) (h : Hp), V X_Mod_settles 7 [(0, 2, l0), (1, 0, l1)] [] h (R7 l0 l1 h)) (R31 : Int → Int → Int → Int → Int → Int → Hp → Option (Int × Hp)) (hR31 : ∀ (l0 l1 l2 l3 l4 l5 : Int) (h : Hp), V X_Mod_settles 31 [(0, 2, l0), (1, 0, l1), (2, 0, l2), (3, 0, l3), (4, 0, l4), (5, 0, l5)] [] h (R31 l0 l1 l2 l3 l4 l5 h)) (l0 l1 l2 l3 l4 l5 : Int) (h : Hp) : V X_Mod_settles 31 [(0, 2, l0), (1, 0, l1), (2, 0, l2), (3, 0, l3), (4, 0, l4), (5, 0, l5)] [] h (Mod_settles_L31s F R7 R31 l0 l1 l2 l3 l4 l5 h) := by
  unfold Mod_settles_L31s
  refine V_iload (pc := 31) (DCa dc_Mod_settles_0 20 rfl) 5 rfl ?_
  refine V_aload_n (pc := 33) (DCa dc_Mod_settles_0 21 rfl) rfl 0 rfl ?_
  refine Q_getf (k := 22) (pc := 34) (DCa dc_Mod_settles_0 22 rfl) cls_12 (Nat.le_of_ble_eq_true rfl) fl_12_43 rfl rfl rfl (fun v5 => ?_)
  refine V_aload_n (pc := 37) (DCa dc_Mod_settles_0 23 rfl) rfl 0 rfl ?_
  refine Q_getf (k := 18) (pc := 38) (DCa dc_Mod_settles_0 24 rfl) cls_12 (Nat.le_of_ble_eq_true rfl) fl_12_281 rfl rfl rfl (fun v6 => ?_)
  refine Q_iaload (pc := 41) (DCa dc_Mod_settles_0 25 rfl) (fun v7 => ?_)
  refine V_icmp_ge (tgt := 150) (pc := 42) (DCa dc_Mod_settles_0 26 rfl) (by decide) (fun _ => ?_) (fun _ => ?_)
  · refine V_aload_n (pc := 45) (DCa dc_Mod_settles_0 27 rfl) rfl 0 rfl ?_
    refine Q_getf (k := 79) (pc := 46) (DCa dc_Mod_settles_0 28 rfl) cls_12 (Nat.le_of_ble_eq_true rfl) fl_12_510 rfl rfl rfl (fun v8 => ?_)
    refine V_iload (pc := 49) (DCa dc_Mod_settles_0 29 rfl) 5 rfl ?_
    refine V_ishr (pc := 51) (DCa dc_Mod_settles_0 30 rfl) ?_
    refine V_iconst (pc := 52) (DCa dc_Mod_settles_0 31 rfl) (by decide) ?_
    refine V_iand (pc := 53) (DCa dc_Mod_settles_0 32 rfl) ?_
    refine V_iconst (pc := 54) (DCa dc_Mod_settles_0 33 rfl) (by decide) ?_
    refine V_icmp_ne (tgt := 61) (pc := 55) (DCa dc_Mod_settles_0 34 rfl) (by decide) (fun _ => ?_) (fun _ => ?_)
    · refine V_goto (tgt := 144) (pc := 58) (DCa dc_Mod_settles_0 35 rfl) (by decide) ?_
      refine V_iinc (ls' := [(0, 2, l0), (1, 0, l1), (2, 0, l2), (3, 0, l3), (4, 0, l4), (5, 0, w32 (l5 + 1))]) (pc := 144) (DCa dc_Mod_settles_1 27 rfl) (Nat.le_of_ble_eq_true rfl) (by decide) 5 rfl rfl ?_
      refine V_goto (tgt := 31) (pc := 147) (DCa dc_Mod_settles_1 28 rfl) (by decide) ?_
      exact hR31 _ _ _ _ _ _ _
    · refine V_bipush (pc := 61) (DCa dc_Mod_settles_0 36 rfl) (by decide) ?_
      refine V_istore (ls' := [(0, 2, l0), (1, 0, l1), (2, 0, l2), (3, 0, l3), (4, 0, l4), (5, 0, l5), (6, 0, (-2))]) (pc := 63) (DCa dc_Mod_settles_0 37 rfl) (Nat.le_of_ble_eq_true rfl) rfl ?_
      exact v_Mod_settles_L65 F R7 hR7 R31 hR31 F _ _ _ _ _ _ _ _
  · refine V_pick [0, 1, 2, 3, 4] rfl ?_
    exact v_Mod_settles_B150 F R7 hR7 _ _ _ _ _ _
theorem v_Mod_settles_L31 (F : Nat) (R7 : Int → Int → Hp → Option (Int × Hp)) (hR7 : ∀ (l0 l1 : Int) (h : Hp), V X_Mod_settles 7 [(0, 2, l0), (1, 0, l1)] [] h (R7 l0 l1 h)) (n : Nat) : ∀ (l0 l1 l2 l3 l4 l5 : Int) (h : Hp), V X_Mod_settles 31 [(0, 2, l0), (1, 0, l1), (2, 0, l2), (3, 0, l3), (4, 0, l4), (5, 0, l5)] [] h (Mod_settles_L31 F R7 n l0 l1 l2 l3 l4 l5 h) := by
  induction n with
  | zero => intros; exact V_none
  | succ n ih => exact fun l0 l1 l2 l3 l4 l5 h => v_Mod_settles_L31s F R7 hR7 _ ih l0 l1 l2 l3 l4 l5 h
theorem v_Mod_settles_L7s (F : Nat)  (R7 : Int → Int → Hp → Option (Int × Hp)) (hR7 : ∀ (l0 l1 : Int) (h : Hp), V X_Mod_settles 7 [(0, 2, l0), (1, 0, l1)] [] h (R7 l0 l1 h)) (l0 l1 : Int) (h : Hp) : V X_Mod_settles 7 [(0, 2, l0), (1, 0, l1)] [] h (Mod_settles_L7s F  R7 l0 l1 h) := by
  unfold Mod_settles_L7s
  refine V_iload_n (pc := 7) (DCa dc_Mod_settles_0 5 rfl) rfl 1 rfl ?_
  refine V_aload_n (pc := 8) (DCa dc_Mod_settles_0 6 rfl) rfl 0 rfl ?_
  refine Q_getf (k := 22) (pc := 9) (DCa dc_Mod_settles_0 7 rfl) cls_12 (Nat.le_of_ble_eq_true rfl) fl_12_43 rfl rfl rfl (fun v2 => ?_)
  refine V_aload_n (pc := 12) (DCa dc_Mod_settles_0 8 rfl) rfl 0 rfl ?_
  refine Q_getf (k := 18) (pc := 13) (DCa dc_Mod_settles_0 9 rfl) cls_12 (Nat.le_of_ble_eq_true rfl) fl_12_281 rfl rfl rfl (fun v3 => ?_)
  refine Q_iaload (pc := 16) (DCa dc_Mod_settles_0 10 rfl) (fun v4 => ?_)
  refine V_icmp_ge (tgt := 183) (pc := 17) (DCa dc_Mod_settles_0 11 rfl) (by decide) (fun _ => ?_) (fun _ => ?_)
  · refine V_iconst (pc := 20) (DCa dc_Mod_settles_0 12 rfl) (by decide) ?_
    refine V_istore_n (ls' := [(0, 2, l0), (1, 0, l1), (2, 0, (-1))]) (pc := 21) (DCa dc_Mod_settles_0 13 rfl) rfl (Nat.le_of_ble_eq_true rfl) rfl ?_
    refine V_iconst (pc := 22) (DCa dc_Mod_settles_0 14 rfl) (by decide) ?_
    refine V_istore_n (ls' := [(0, 2, l0), (1, 0, l1), (2, 0, (-1)), (3, 0, 0)]) (pc := 23) (DCa dc_Mod_settles_0 15 rfl) rfl (Nat.le_of_ble_eq_true rfl) rfl ?_
    refine V_bipush (pc := 24) (DCa dc_Mod_settles_0 16 rfl) (by decide) ?_
    refine V_istore (ls' := [(0, 2, l0), (1, 0, l1), (2, 0, (-1)), (3, 0, 0), (4, 0, (-2))]) (pc := 26) (DCa dc_Mod_settles_0 17 rfl) (Nat.le_of_ble_eq_true rfl) rfl ?_
    refine V_iconst (pc := 28) (DCa dc_Mod_settles_0 18 rfl) (by decide) ?_
    refine V_istore (ls' := [(0, 2, l0), (1, 0, l1), (2, 0, (-1)), (3, 0, 0), (4, 0, (-2)), (5, 0, 0)]) (pc := 29) (DCa dc_Mod_settles_0 19 rfl) (Nat.le_of_ble_eq_true rfl) rfl ?_
    exact v_Mod_settles_L31 F R7 hR7 F _ _ _ _ _ _ _
  · exact V_return (pc := 183) (DCa dc_Mod_settles_1 49 rfl) rfl
theorem v_Mod_settles_L7 (F : Nat)  (n : Nat) : ∀ (l0 l1 : Int) (h : Hp), V X_Mod_settles 7 [(0, 2, l0), (1, 0, l1)] [] h (Mod_settles_L7 F  n l0 l1 h) := by
  induction n with
  | zero => intros; exact V_none
  | succ n ih => exact fun l0 l1 h => v_Mod_settles_L7s F  _ ih l0 l1 h
theorem v_Mod_settles (F : Nat) (l0 : Int) (h : Hp) : V X_Mod_settles 0 [(0, 2, l0)] [] h (Mod_settles F l0 h) := by
  unfold Mod_settles
  refine V_aload_n (pc := 0) (DCa dc_Mod_settles_0 0 rfl) rfl 0 rfl ?_
  refine V_iconst (pc := 1) (DCa dc_Mod_settles_0 1 rfl) (by decide) ?_
  refine Q_putf (k := 79) (pc := 2) (DCa dc_Mod_settles_0 2 rfl) cls_12 (Nat.le_of_ble_eq_true rfl) fl_12_510 rfl rfl rfl (Or.inl rfl) (Or.inl ⟨rfl, rfl⟩) (fun h1 => ?_)
  refine V_iconst (pc := 5) (DCa dc_Mod_settles_0 3 rfl) (by decide) ?_
  refine V_istore_n (ls' := [(0, 2, l0), (1, 0, 0)]) (pc := 6) (DCa dc_Mod_settles_0 4 rfl) rfl (Nat.le_of_ble_eq_true rfl) rfl ?_
  exact v_Mod_settles_L7 F F _ _ _
theorem sp_Mod_settles (F : Nat) (l0 : Int) (h : Hp) : Sp yX12_settles cX12_settles 8 none 4 101 [(2, l0)] h (Mod_settles F l0 h) := Sp_of (by decide +kernel) rfl rfl (Nat.le_of_ble_eq_true rfl) (v_Mod_settles F l0 h)

-- TideRakesModel.error
def Mod_error (F : Nat) (l0 l1 l2 : Int) (h : Hp) : Option (Int × Hp) :=
  iv h l0 112 (Mod_isPart F l0 l1 h) fun r1 h2 =>
  if r1 = 0 then
    (some ((-1), h2))
  else
    (iv h2 l0 112 (Mod_settles F l0 h2) fun r3 h4 =>
    if l2 = 0 then
      (gf h4 l0 112 77 fun v5 =>
      al h4 v5 0 l1 fun v6 =>
      some (v6, h4))
    else
      (gf h4 l0 112 78 fun v7 =>
      al h4 v7 0 l1 fun v8 =>
      some (v8, h4)))

theorem dc_Mod_error_0 : ∀ q ∈ ([(0, .aload_n 0, 1), (1, .iload_n 1, 1), (2, .invokevirtual 400, 3), (5, .ifCond .ne 5, 3), (8, .iconst (-1), 1), (9, .ireturn, 1), (10, .aload_n 0, 1), (11, .invokevirtual 516, 3), (14, .iload_n 2, 1), (15, .ifCond .eq 12, 3), (18, .aload_n 0, 1), (19, .getfield 179, 3), (22, .iload_n 1, 1), (23, .iaload, 1), (24, .goto 9, 3), (27, .aload_n 0, 1), (28, .getfield 176, 3), (31, .iload_n 1, 1), (32, .iaload, 1), (33, .ireturn, 1)] : List (Nat × Instr × Nat)), decode cX12_error q.1 = .ok (q.2.1, q.2.2) := by decide +kernel
abbrev X_Mod_error : MX := (cX12_error, RX12, "error", 3, (some (.int)), 5, 128)
theorem v_Mod_error (F : Nat) (l0 l1 l2 : Int) (h : Hp) : V X_Mod_error 0 [(0, 2, l0), (1, 0, l1), (2, 0, l2)] [] h (Mod_error F l0 l1 l2 h) := by
  unfold Mod_error
  refine V_aload_n (pc := 0) (DCa dc_Mod_error_0 0 rfl) rfl 0 rfl ?_
  refine V_iload_n (pc := 1) (DCa dc_Mod_error_0 1 rfl) rfl 1 rfl ?_
  refine Q_callv (ci := 12) (st := []) (pc := 2) (DCa dc_Mod_error_0 2 rfl) (sp_Mod_isPart F _ _ _) ce_Mod_isPart ml_12_400 rfl rfl ⟨Nat.le_of_ble_eq_true rfl, Nat.le_of_ble_eq_true rfl⟩ rfl (Nat.le_of_ble_eq_true rfl) (fun r1 h2 => ?_)
  refine V_if_ne (tgt := 10) (pc := 5) (DCa dc_Mod_error_0 3 rfl) (by decide) (fun _ => ?_) (fun _ => ?_)
  · refine V_iconst (pc := 8) (DCa dc_Mod_error_0 4 rfl) (by decide) ?_
    exact V_ireturn (pc := 9) (DCa dc_Mod_error_0 5 rfl) rfl
  · refine V_aload_n (pc := 10) (DCa dc_Mod_error_0 6 rfl) rfl 0 rfl ?_
    refine Q_callv (ci := 12) (st := []) (pc := 11) (DCa dc_Mod_error_0 7 rfl) (sp_Mod_settles F _ _) ce_Mod_settles ml_12_516 rfl rfl ⟨Nat.le_of_ble_eq_true rfl, Nat.le_of_ble_eq_true rfl⟩ rfl (Nat.le_of_ble_eq_true rfl) (fun r3 h4 => ?_)
    refine V_iload_n (pc := 14) (DCa dc_Mod_error_0 8 rfl) rfl 2 rfl ?_
    refine V_if_eq (tgt := 27) (pc := 15) (DCa dc_Mod_error_0 9 rfl) (by decide) (fun _ => ?_) (fun _ => ?_)
    · refine V_aload_n (pc := 27) (DCa dc_Mod_error_0 15 rfl) rfl 0 rfl ?_
      refine Q_getf (k := 77) (pc := 28) (DCa dc_Mod_error_0 16 rfl) cls_12 (Nat.le_of_ble_eq_true rfl) fl_12_176 rfl rfl rfl (fun v5 => ?_)
      refine V_iload_n (pc := 31) (DCa dc_Mod_error_0 17 rfl) rfl 1 rfl ?_
      refine Q_iaload (pc := 32) (DCa dc_Mod_error_0 18 rfl) (fun v6 => ?_)
      exact V_ireturn (pc := 33) (DCa dc_Mod_error_0 19 rfl) rfl
    · refine V_aload_n (pc := 18) (DCa dc_Mod_error_0 10 rfl) rfl 0 rfl ?_
      refine Q_getf (k := 78) (pc := 19) (DCa dc_Mod_error_0 11 rfl) cls_12 (Nat.le_of_ble_eq_true rfl) fl_12_179 rfl rfl rfl (fun v7 => ?_)
      refine V_iload_n (pc := 22) (DCa dc_Mod_error_0 12 rfl) rfl 1 rfl ?_
      refine Q_iaload (pc := 23) (DCa dc_Mod_error_0 13 rfl) (fun v8 => ?_)
      refine V_goto (tgt := 33) (pc := 24) (DCa dc_Mod_error_0 14 rfl) (by decide) ?_
      exact V_ireturn (pc := 33) (DCa dc_Mod_error_0 19 rfl) rfl
theorem sp_Mod_error (F : Nat) (l0 l1 l2 : Int) (h : Hp) : Sp yX12_error cX12_error 3 (some (.int)) 5 128 [(2, l0), (0, l1), (0, l2)] h (Mod_error F l0 l1 l2 h) := Sp_of (by decide +kernel) rfl rfl (Nat.le_of_ble_eq_true rfl) (v_Mod_error F l0 l1 l2 h)

-- TideRakesModel.fails
def Mod_fails_L14s (F : Nat)  (R14 : Int → Int → Int → Int → Hp → Option (Int × Hp)) (l0 l1 l2 l3 : Int) (h : Hp) : Option (Int × Hp) :=
  gf h l0 112 22 fun v3 =>
  gf h l0 112 18 fun v4 =>
  al h v3 0 v4 fun v5 =>
  if l3 < v5 then
    (gf h l0 112 77 fun v6 =>
    al h v6 0 l3 fun v7 =>
    if l1 < v7 then
      (lt (ior l2 (ishl 1 l3)) fun x8 =>
      R14 l0 l1 x8 (w32 (l3 + 1)) h)
    else
      (R14 l0 l1 l2 (w32 (l3 + 1)) h))
  else
    (some (l2, h))
def Mod_fails_L14 (F : Nat)  : Nat → Int → Int → Int → Int → Hp → Option (Int × Hp)
  | 0 => fun _ _ _ _ _ => none
  | n + 1 => Mod_fails_L14s F  (Mod_fails_L14 F  n)
def Mod_fails (F : Nat) (l0 l1 : Int) (h : Hp) : Option (Int × Hp) :=
  if l1 < 0 then
    (some ((-1), h))
  else
    (iv h l0 112 (Mod_settles F l0 h) fun r1 h2 =>
    Mod_fails_L14 F F l0 l1 0 0 h2)

theorem dc_Mod_fails_0 : ∀ q ∈ ([(0, .iload_n 1, 1), (1, .ifCond .ge 5, 3), (4, .iconst (-1), 1), (5, .ireturn, 1), (6, .aload_n 0, 1), (7, .invokevirtual 516, 3), (10, .iconst 0, 1), (11, .istore_n 2, 1), (12, .iconst 0, 1), (13, .istore_n 3, 1), (14, .iload_n 3, 1), (15, .aload_n 0, 1), (16, .getfield 43, 3), (19, .aload_n 0, 1), (20, .getfield 281, 3), (23, .iaload, 1), (24, .if_icmp .ge 25, 3), (27, .aload_n 0, 1), (28, .getfield 176, 3), (31, .iload_n 3, 1), (32, .iaload, 1), (33, .iload_n 1, 1), (34, .if_icmp .le 9, 3), (37, .iload_n 2, 1), (38, .iconst 1, 1), (39, .iload_n 3, 1), (40, .ishl, 1), (41, .ior, 1), (42, .istore_n 2, 1), (43, .iinc 3 1, 3), (46, .goto (-32), 3), (49, .iload_n 2, 1), (50, .ireturn, 1)] : List (Nat × Instr × Nat)), decode cX12_fails q.1 = .ok (q.2.1, q.2.2) := by decide +kernel
abbrev X_Mod_fails : MX := (cX12_fails, RX12, "fails", 4, (some (.int)), 5, 128)
theorem v_Mod_fails_L14s (F : Nat)  (R14 : Int → Int → Int → Int → Hp → Option (Int × Hp)) (hR14 : ∀ (l0 l1 l2 l3 : Int) (h : Hp), V X_Mod_fails 14 [(0, 2, l0), (1, 0, l1), (2, 0, l2), (3, 0, l3)] [] h (R14 l0 l1 l2 l3 h)) (l0 l1 l2 l3 : Int) (h : Hp) : V X_Mod_fails 14 [(0, 2, l0), (1, 0, l1), (2, 0, l2), (3, 0, l3)] [] h (Mod_fails_L14s F  R14 l0 l1 l2 l3 h) := by
  unfold Mod_fails_L14s
  refine V_iload_n (pc := 14) (DCa dc_Mod_fails_0 10 rfl) rfl 3 rfl ?_
  refine V_aload_n (pc := 15) (DCa dc_Mod_fails_0 11 rfl) rfl 0 rfl ?_
  refine Q_getf (k := 22) (pc := 16) (DCa dc_Mod_fails_0 12 rfl) cls_12 (Nat.le_of_ble_eq_true rfl) fl_12_43 rfl rfl rfl (fun v3 => ?_)
  refine V_aload_n (pc := 19) (DCa dc_Mod_fails_0 13 rfl) rfl 0 rfl ?_
  refine Q_getf (k := 18) (pc := 20) (DCa dc_Mod_fails_0 14 rfl) cls_12 (Nat.le_of_ble_eq_true rfl) fl_12_281 rfl rfl rfl (fun v4 => ?_)
  refine Q_iaload (pc := 23) (DCa dc_Mod_fails_0 15 rfl) (fun v5 => ?_)
  refine V_icmp_ge (tgt := 49) (pc := 24) (DCa dc_Mod_fails_0 16 rfl) (by decide) (fun _ => ?_) (fun _ => ?_)
  · refine V_aload_n (pc := 27) (DCa dc_Mod_fails_0 17 rfl) rfl 0 rfl ?_
    refine Q_getf (k := 77) (pc := 28) (DCa dc_Mod_fails_0 18 rfl) cls_12 (Nat.le_of_ble_eq_true rfl) fl_12_176 rfl rfl rfl (fun v6 => ?_)
    refine V_iload_n (pc := 31) (DCa dc_Mod_fails_0 19 rfl) rfl 3 rfl ?_
    refine Q_iaload (pc := 32) (DCa dc_Mod_fails_0 20 rfl) (fun v7 => ?_)
    refine V_iload_n (pc := 33) (DCa dc_Mod_fails_0 21 rfl) rfl 1 rfl ?_
    refine V_icmp_le (tgt := 43) (pc := 34) (DCa dc_Mod_fails_0 22 rfl) (by decide) (fun _ => ?_) (fun _ => ?_)
    · refine V_iload_n (pc := 37) (DCa dc_Mod_fails_0 23 rfl) rfl 2 rfl ?_
      refine V_iconst (pc := 38) (DCa dc_Mod_fails_0 24 rfl) (by decide) ?_
      refine V_iload_n (pc := 39) (DCa dc_Mod_fails_0 25 rfl) rfl 3 rfl ?_
      refine V_ishl (pc := 40) (DCa dc_Mod_fails_0 26 rfl) ?_
      refine V_ior (pc := 41) (DCa dc_Mod_fails_0 27 rfl) ?_
      refine Q_lt (fun x8 => ?_)
      refine V_istore_n (ls' := [(0, 2, l0), (1, 0, l1), (2, 0, x8), (3, 0, l3)]) (pc := 42) (DCa dc_Mod_fails_0 28 rfl) rfl (Nat.le_of_ble_eq_true rfl) rfl ?_
      refine V_iinc (ls' := [(0, 2, l0), (1, 0, l1), (2, 0, x8), (3, 0, w32 (l3 + 1))]) (pc := 43) (DCa dc_Mod_fails_0 29 rfl) (Nat.le_of_ble_eq_true rfl) (by decide) 3 rfl rfl ?_
      refine V_goto (tgt := 14) (pc := 46) (DCa dc_Mod_fails_0 30 rfl) (by decide) ?_
      exact hR14 _ _ _ _ _
    · refine V_iinc (ls' := [(0, 2, l0), (1, 0, l1), (2, 0, l2), (3, 0, w32 (l3 + 1))]) (pc := 43) (DCa dc_Mod_fails_0 29 rfl) (Nat.le_of_ble_eq_true rfl) (by decide) 3 rfl rfl ?_
      refine V_goto (tgt := 14) (pc := 46) (DCa dc_Mod_fails_0 30 rfl) (by decide) ?_
      exact hR14 _ _ _ _ _
  · refine V_iload_n (pc := 49) (DCa dc_Mod_fails_0 31 rfl) rfl 2 rfl ?_
    exact V_ireturn (pc := 50) (DCa dc_Mod_fails_0 32 rfl) rfl
theorem v_Mod_fails_L14 (F : Nat)  (n : Nat) : ∀ (l0 l1 l2 l3 : Int) (h : Hp), V X_Mod_fails 14 [(0, 2, l0), (1, 0, l1), (2, 0, l2), (3, 0, l3)] [] h (Mod_fails_L14 F  n l0 l1 l2 l3 h) := by
  induction n with
  | zero => intros; exact V_none
  | succ n ih => exact fun l0 l1 l2 l3 h => v_Mod_fails_L14s F  _ ih l0 l1 l2 l3 h
theorem v_Mod_fails (F : Nat) (l0 l1 : Int) (h : Hp) : V X_Mod_fails 0 [(0, 2, l0), (1, 0, l1)] [] h (Mod_fails F l0 l1 h) := by
  unfold Mod_fails
  refine V_iload_n (pc := 0) (DCa dc_Mod_fails_0 0 rfl) rfl 1 rfl ?_
  refine V_if_ge (tgt := 6) (pc := 1) (DCa dc_Mod_fails_0 1 rfl) (by decide) (fun _ => ?_) (fun _ => ?_)
  · refine V_iconst (pc := 4) (DCa dc_Mod_fails_0 2 rfl) (by decide) ?_
    exact V_ireturn (pc := 5) (DCa dc_Mod_fails_0 3 rfl) rfl
  · refine V_aload_n (pc := 6) (DCa dc_Mod_fails_0 4 rfl) rfl 0 rfl ?_
    refine Q_callv (ci := 12) (st := []) (pc := 7) (DCa dc_Mod_fails_0 5 rfl) (sp_Mod_settles F _ _) ce_Mod_settles ml_12_516 rfl rfl ⟨Nat.le_of_ble_eq_true rfl, Nat.le_of_ble_eq_true rfl⟩ rfl (Nat.le_of_ble_eq_true rfl) (fun r1 h2 => ?_)
    refine V_iconst (pc := 10) (DCa dc_Mod_fails_0 6 rfl) (by decide) ?_
    refine V_istore_n (ls' := [(0, 2, l0), (1, 0, l1), (2, 0, 0)]) (pc := 11) (DCa dc_Mod_fails_0 7 rfl) rfl (Nat.le_of_ble_eq_true rfl) rfl ?_
    refine V_iconst (pc := 12) (DCa dc_Mod_fails_0 8 rfl) (by decide) ?_
    refine V_istore_n (ls' := [(0, 2, l0), (1, 0, l1), (2, 0, 0), (3, 0, 0)]) (pc := 13) (DCa dc_Mod_fails_0 9 rfl) rfl (Nat.le_of_ble_eq_true rfl) rfl ?_
    exact v_Mod_fails_L14 F F _ _ _ _ _
theorem sp_Mod_fails (F : Nat) (l0 l1 : Int) (h : Hp) : Sp yX12_fails cX12_fails 4 (some (.int)) 5 128 [(2, l0), (0, l1)] h (Mod_fails F l0 l1 h) := Sp_of (by decide +kernel) rfl rfl (Nat.le_of_ble_eq_true rfl) (v_Mod_fails F l0 l1 h)

-- TideRakesModel.tell
def Mod_tell (F : Nat) (l0 l1 l2 l3 : Int) (h : Hp) : Option (Int × Hp) :=
  gf h l0 112 80 fun v1 =>
  if v1 = 20 then
    (some ((-1), h))
  else
    (iv h l0 112 (Mod_isPart F l0 l1 h) fun r2 h3 =>
    if r2 = 0 then
      (some ((-1), h3))
    else
      (cl (Mod_isMinute F l2 h3) fun r4 h5 =>
      if r4 = 0 then
        (some ((-1), h5))
      else
        (gf h5 l0 112 81 fun v6 =>
        gf h5 l0 112 80 fun v7 =>
        as h5 v6 0 v7 l1 fun h8 =>
        gf h8 l0 112 82 fun v9 =>
        gf h8 l0 112 80 fun v10 =>
        as h8 v9 0 v10 l2 fun h11 =>
        gf h11 l0 112 83 fun v12 =>
        gf h11 l0 112 80 fun v13 =>
        az h11 v12 v13 l3 fun h14 =>
        gf h14 l0 112 80 fun v15 =>
        pf h14 l0 112 80 (w32 (v15 + 1)) fun h16 =>
        gf h16 l0 112 80 fun v17 =>
        some (w32 (v17 - 1), h16))))

theorem dc_Mod_tell_0 : ∀ q ∈ ([(0, .aload_n 0, 1), (1, .getfield 302, 3), (4, .bipush 20, 2), (6, .if_icmp .eq 18, 3), (9, .aload_n 0, 1), (10, .iload_n 1, 1), (11, .invokevirtual 400, 3), (14, .ifCond .eq 10, 3), (17, .iload_n 2, 1), (18, .invokestatic 406, 3), (21, .ifCond .ne 5, 3), (24, .iconst (-1), 1), (25, .ireturn, 1), (26, .aload_n 0, 1), (27, .getfield 182, 3), (30, .aload_n 0, 1), (31, .getfield 302, 3), (34, .iload_n 1, 1), (35, .iastore, 1), (36, .aload_n 0, 1), (37, .getfield 185, 3), (40, .aload_n 0, 1), (41, .getfield 302, 3), (44, .iload_n 2, 1), (45, .iastore, 1), (46, .aload_n 0, 1), (47, .getfield 188, 3), (50, .aload_n 0, 1), (51, .getfield 302, 3), (54, .iload_n 3, 1), (55, .bastore, 1), (56, .aload_n 0, 1), (57, .dup, 1), (58, .getfield 302, 3), (61, .iconst 1, 1), (62, .iadd, 1), (63, .putfield 302, 3), (66, .aload_n 0, 1), (67, .getfield 302, 3), (70, .iconst 1, 1), (71, .isub, 1), (72, .ireturn, 1)] : List (Nat × Instr × Nat)), decode cX12_tell q.1 = .ok (q.2.1, q.2.2) := by decide +kernel
abbrev X_Mod_tell : MX := (cX12_tell, RX12, "tell", 4, (some (.int)), 3, 63)
theorem v_Mod_tell (F : Nat) (l0 l1 l2 l3 : Int) (h : Hp) : V X_Mod_tell 0 [(0, 2, l0), (1, 0, l1), (2, 0, l2), (3, 0, l3)] [] h (Mod_tell F l0 l1 l2 l3 h) := by
  unfold Mod_tell
  refine V_aload_n (pc := 0) (DCa dc_Mod_tell_0 0 rfl) rfl 0 rfl ?_
  refine Q_getf (k := 80) (pc := 1) (DCa dc_Mod_tell_0 1 rfl) cls_12 (Nat.le_of_ble_eq_true rfl) fl_12_302 rfl rfl rfl (fun v1 => ?_)
  refine V_bipush (pc := 4) (DCa dc_Mod_tell_0 2 rfl) (by decide) ?_
  refine V_icmp_eq (tgt := 24) (pc := 6) (DCa dc_Mod_tell_0 3 rfl) (by decide) (fun _ => ?_) (fun _ => ?_)
  · refine V_iconst (pc := 24) (DCa dc_Mod_tell_0 11 rfl) (by decide) ?_
    exact V_ireturn (pc := 25) (DCa dc_Mod_tell_0 12 rfl) rfl
  · refine V_aload_n (pc := 9) (DCa dc_Mod_tell_0 4 rfl) rfl 0 rfl ?_
    refine V_iload_n (pc := 10) (DCa dc_Mod_tell_0 5 rfl) rfl 1 rfl ?_
    refine Q_callv (ci := 12) (st := []) (pc := 11) (DCa dc_Mod_tell_0 6 rfl) (sp_Mod_isPart F _ _ _) ce_Mod_isPart ml_12_400 rfl rfl ⟨Nat.le_of_ble_eq_true rfl, Nat.le_of_ble_eq_true rfl⟩ rfl (Nat.le_of_ble_eq_true rfl) (fun r2 h3 => ?_)
    refine V_if_eq (tgt := 24) (pc := 14) (DCa dc_Mod_tell_0 7 rfl) (by decide) (fun _ => ?_) (fun _ => ?_)
    · refine V_iconst (pc := 24) (DCa dc_Mod_tell_0 11 rfl) (by decide) ?_
      exact V_ireturn (pc := 25) (DCa dc_Mod_tell_0 12 rfl) rfl
    · refine V_iload_n (pc := 17) (DCa dc_Mod_tell_0 8 rfl) rfl 2 rfl ?_
      refine Q_calls (st := []) (pc := 18) (DCa dc_Mod_tell_0 9 rfl) (sp_Mod_isMinute F _ _) ce_Mod_isMinute ml_12_406 rfl ⟨Nat.le_of_ble_eq_true rfl, Nat.le_of_ble_eq_true rfl⟩ rfl (Nat.le_of_ble_eq_true rfl) (fun r4 h5 => ?_)
      refine V_if_ne (tgt := 26) (pc := 21) (DCa dc_Mod_tell_0 10 rfl) (by decide) (fun _ => ?_) (fun _ => ?_)
      · refine V_iconst (pc := 24) (DCa dc_Mod_tell_0 11 rfl) (by decide) ?_
        exact V_ireturn (pc := 25) (DCa dc_Mod_tell_0 12 rfl) rfl
      · refine V_aload_n (pc := 26) (DCa dc_Mod_tell_0 13 rfl) rfl 0 rfl ?_
        refine Q_getf (k := 81) (pc := 27) (DCa dc_Mod_tell_0 14 rfl) cls_12 (Nat.le_of_ble_eq_true rfl) fl_12_182 rfl rfl rfl (fun v6 => ?_)
        refine V_aload_n (pc := 30) (DCa dc_Mod_tell_0 15 rfl) rfl 0 rfl ?_
        refine Q_getf (k := 80) (pc := 31) (DCa dc_Mod_tell_0 16 rfl) cls_12 (Nat.le_of_ble_eq_true rfl) fl_12_302 rfl rfl rfl (fun v7 => ?_)
        refine V_iload_n (pc := 34) (DCa dc_Mod_tell_0 17 rfl) rfl 1 rfl ?_
        refine Q_iastore (pc := 35) (DCa dc_Mod_tell_0 18 rfl) (fun h8 => ?_)
        refine V_aload_n (pc := 36) (DCa dc_Mod_tell_0 19 rfl) rfl 0 rfl ?_
        refine Q_getf (k := 82) (pc := 37) (DCa dc_Mod_tell_0 20 rfl) cls_12 (Nat.le_of_ble_eq_true rfl) fl_12_185 rfl rfl rfl (fun v9 => ?_)
        refine V_aload_n (pc := 40) (DCa dc_Mod_tell_0 21 rfl) rfl 0 rfl ?_
        refine Q_getf (k := 80) (pc := 41) (DCa dc_Mod_tell_0 22 rfl) cls_12 (Nat.le_of_ble_eq_true rfl) fl_12_302 rfl rfl rfl (fun v10 => ?_)
        refine V_iload_n (pc := 44) (DCa dc_Mod_tell_0 23 rfl) rfl 2 rfl ?_
        refine Q_iastore (pc := 45) (DCa dc_Mod_tell_0 24 rfl) (fun h11 => ?_)
        refine V_aload_n (pc := 46) (DCa dc_Mod_tell_0 25 rfl) rfl 0 rfl ?_
        refine Q_getf (k := 83) (pc := 47) (DCa dc_Mod_tell_0 26 rfl) cls_12 (Nat.le_of_ble_eq_true rfl) fl_12_188 rfl rfl rfl (fun v12 => ?_)
        refine V_aload_n (pc := 50) (DCa dc_Mod_tell_0 27 rfl) rfl 0 rfl ?_
        refine Q_getf (k := 80) (pc := 51) (DCa dc_Mod_tell_0 28 rfl) cls_12 (Nat.le_of_ble_eq_true rfl) fl_12_302 rfl rfl rfl (fun v13 => ?_)
        refine V_iload_n (pc := 54) (DCa dc_Mod_tell_0 29 rfl) rfl 3 rfl ?_
        refine Q_zastore (pc := 55) (DCa dc_Mod_tell_0 30 rfl) (fun h14 => ?_)
        refine V_aload_n (pc := 56) (DCa dc_Mod_tell_0 31 rfl) rfl 0 rfl ?_
        refine V_dup (pc := 57) (DCa dc_Mod_tell_0 32 rfl) rfl ?_
        refine Q_getf (k := 80) (pc := 58) (DCa dc_Mod_tell_0 33 rfl) cls_12 (Nat.le_of_ble_eq_true rfl) fl_12_302 rfl rfl rfl (fun v15 => ?_)
        refine V_iconst (pc := 61) (DCa dc_Mod_tell_0 34 rfl) (by decide) ?_
        refine V_iadd (pc := 62) (DCa dc_Mod_tell_0 35 rfl) ?_
        refine Q_putf (k := 80) (pc := 63) (DCa dc_Mod_tell_0 36 rfl) cls_12 (Nat.le_of_ble_eq_true rfl) fl_12_302 rfl rfl rfl (Or.inl rfl) (Or.inl ⟨rfl, rfl⟩) (fun h16 => ?_)
        refine V_aload_n (pc := 66) (DCa dc_Mod_tell_0 37 rfl) rfl 0 rfl ?_
        refine Q_getf (k := 80) (pc := 67) (DCa dc_Mod_tell_0 38 rfl) cls_12 (Nat.le_of_ble_eq_true rfl) fl_12_302 rfl rfl rfl (fun v17 => ?_)
        refine V_iconst (pc := 70) (DCa dc_Mod_tell_0 39 rfl) (by decide) ?_
        refine V_isub (pc := 71) (DCa dc_Mod_tell_0 40 rfl) ?_
        exact V_ireturn (pc := 72) (DCa dc_Mod_tell_0 41 rfl) rfl
theorem sp_Mod_tell (F : Nat) (l0 l1 l2 l3 : Int) (h : Hp) : Sp yX12_tell cX12_tell 4 (some (.int)) 3 63 [(2, l0), (0, l1), (0, l2), (0, l3)] h (Mod_tell F l0 l1 l2 l3 h) := Sp_of (by decide +kernel) rfl rfl (Nat.le_of_ble_eq_true rfl) (v_Mod_tell F l0 l1 l2 l3 h)

-- TideRakesModel.forget
def Mod_forget (F : Nat) (l0 : Int) (h : Hp) : Option (Int × Hp) :=
  gf h l0 112 80 fun v1 =>
  pf h l0 112 80 0 fun h2 =>
  some (v1, h2)

theorem dc_Mod_forget_0 : ∀ q ∈ ([(0, .aload_n 0, 1), (1, .getfield 302, 3), (4, .istore_n 1, 1), (5, .aload_n 0, 1), (6, .iconst 0, 1), (7, .putfield 302, 3), (10, .iload_n 1, 1), (11, .ireturn, 1)] : List (Nat × Instr × Nat)), decode cX12_forget q.1 = .ok (q.2.1, q.2.2) := by decide +kernel
abbrev X_Mod_forget : MX := (cX12_forget, RX12, "forget", 2, (some (.int)), 1, 20)
theorem v_Mod_forget (F : Nat) (l0 : Int) (h : Hp) : V X_Mod_forget 0 [(0, 2, l0)] [] h (Mod_forget F l0 h) := by
  unfold Mod_forget
  refine V_aload_n (pc := 0) (DCa dc_Mod_forget_0 0 rfl) rfl 0 rfl ?_
  refine Q_getf (k := 80) (pc := 1) (DCa dc_Mod_forget_0 1 rfl) cls_12 (Nat.le_of_ble_eq_true rfl) fl_12_302 rfl rfl rfl (fun v1 => ?_)
  refine V_istore_n (ls' := [(0, 2, l0), (1, 0, v1)]) (pc := 4) (DCa dc_Mod_forget_0 2 rfl) rfl (Nat.le_of_ble_eq_true rfl) rfl ?_
  refine V_aload_n (pc := 5) (DCa dc_Mod_forget_0 3 rfl) rfl 0 rfl ?_
  refine V_iconst (pc := 6) (DCa dc_Mod_forget_0 4 rfl) (by decide) ?_
  refine Q_putf (k := 80) (pc := 7) (DCa dc_Mod_forget_0 5 rfl) cls_12 (Nat.le_of_ble_eq_true rfl) fl_12_302 rfl rfl rfl (Or.inl rfl) (Or.inl ⟨rfl, rfl⟩) (fun h2 => ?_)
  refine V_iload_n (pc := 10) (DCa dc_Mod_forget_0 6 rfl) rfl 1 rfl ?_
  exact V_ireturn (pc := 11) (DCa dc_Mod_forget_0 7 rfl) rfl
theorem sp_Mod_forget (F : Nat) (l0 : Int) (h : Hp) : Sp yX12_forget cX12_forget 2 (some (.int)) 1 20 [(2, l0)] h (Mod_forget F l0 h) := Sp_of (by decide +kernel) rfl rfl (Nat.le_of_ble_eq_true rfl) (v_Mod_forget F l0 h)

-- TideRakesModel.isSo
def Mod_isSo_L125s (F : Nat)  (R125 : Int → Int → Int → Hp → Option (Int × Hp)) (l0 l3 l4 : Int) (h : Hp) : Option (Int × Hp) :=
  if l4 < l3 then
    (gf h l0 112 81 fun v18 =>
    al h v18 0 l4 fun v19 =>
    gf h l0 112 82 fun v20 =>
    al h v20 0 l4 fun v21 =>
    iv h l0 112 (Mod_isSeen F l0 v19 v21 h) fun r22 h23 =>
    gf h23 l0 112 83 fun v24 =>
    al h23 v24 2 l4 fun v25 =>
    if r22 = v25 then
      (R125 l0 l3 (w32 (l4 + 1)) h23)
    else
      (rz 0 h23))
  else
    (rz 1 h)
def Mod_isSo_L125 (F : Nat)  : Nat → Int → Int → Int → Hp → Option (Int × Hp)
  | 0 => fun _ _ _ _ => none
  | n + 1 => Mod_isSo_L125s F  (Mod_isSo_L125 F  n)
def Mod_isSo_B101 (F : Nat) (R20 : Int → Int → Int → Hp → Option (Int × Hp)) (l0 l3 l4 l5 l6 l7 : Int) (h : Hp) : Option (Int × Hp) :=
  if l5 = 2 then
    (iv h l0 112 (Mod_mendsOne F l0 l6 l7 h) fun r26 h27 =>
    R20 l0 l3 (w32 (l4 + 1)) h27)
  else
    (R20 l0 l3 (w32 (l4 + 1)) h)
def Mod_isSo_B88 (F : Nat) (R20 : Int → Int → Int → Hp → Option (Int × Hp)) (l0 l3 l4 l5 l6 l7 : Int) (h : Hp) : Option (Int × Hp) :=
  if l5 = 1 then
    (iv h l0 112 (Mod_crosses F l0 l7 h) fun r16 h17 =>
    Mod_isSo_B101 F R20 l0 l3 l4 l5 l6 l7 h17)
  else
    (Mod_isSo_B101 F R20 l0 l3 l4 l5 l6 l7 h)
def Mod_isSo_L20s (F : Nat)  (R20 : Int → Int → Int → Hp → Option (Int × Hp)) (l0 l3 l4 : Int) (h : Hp) : Option (Int × Hp) :=
  gf h l0 112 62 fun v6 =>
  al h v6 0 44 fun v7 =>
  if l4 < v7 then
    (gf h l0 112 62 fun v8 =>
    al h v8 0 (w32 (45 + (w32 (3 * l4)))) fun v9 =>
    gf h l0 112 62 fun v10 =>
    al h v10 0 (w32 (46 + (w32 (3 * l4)))) fun v11 =>
    gf h l0 112 62 fun v12 =>
    al h v12 0 (w32 (47 + (w32 (3 * l4)))) fun v13 =>
    if v9 = 0 then
      (iv h l0 112 (Mod_sends F l0 v11 v13 h) fun r14 h15 =>
      Mod_isSo_B88 F R20 l0 l3 l4 v9 v11 v13 h15)
    else
      (Mod_isSo_B88 F R20 l0 l3 l4 v9 v11 v13 h))
  else
    (Mod_isSo_L125 F F l0 l3 0 h)
def Mod_isSo_L20 (F : Nat)  : Nat → Int → Int → Int → Hp → Option (Int × Hp)
  | 0 => fun _ _ _ _ => none
  | n + 1 => Mod_isSo_L20s F  (Mod_isSo_L20 F  n)
def Mod_isSo (F : Nat) (l0 l1 l2 l3 : Int) (h : Hp) : Option (Int × Hp) :=
  iv h l0 112 (Mod_begins F l0 h) fun r1 h2 =>
  gf h2 l0 112 63 fun v3 =>
  al h2 v3 0 (w32 (38 + l1)) fun v4 =>
  as h2 v3 0 (w32 (38 + l1)) (w32 (v4 + l2)) fun h5 =>
  Mod_isSo_L20 F F l0 l3 0 h5

theorem dc_Mod_isSo_0 : ∀ q ∈ ([(0, .aload_n 0, 1), (1, .invokevirtual 208, 3), (4, .aload_n 0, 1), (5, .getfield 155, 3), (8, .bipush 38, 2), (10, .iload_n 1, 1), (11, .iadd, 1), (12, .dup2, 1), (13, .iaload, 1), (14, .iload_n 2, 1), (15, .iadd, 1), (16, .iastore, 1), (17, .iconst 0, 1), (18, .istore 4, 2), (20, .iload 4, 2), (22, .aload_n 0, 1), (23, .getfield 152, 3), (26, .bipush 44, 2), (28, .iaload, 1), (29, .if_icmp .ge 93, 3), (32, .aload_n 0, 1), (33, .getfield 152, 3), (36, .bipush 45, 2), (38, .iconst 3, 1), (39, .iload 4, 2), (41, .imul, 1), (42, .iadd, 1), (43, .iaload, 1), (44, .istore 5, 2), (46, .aload_n 0, 1), (47, .getfield 152, 3), (50, .bipush 46, 2), (52, .iconst 3, 1), (53, .iload 4, 2), (55, .imul, 1), (56, .iadd, 1), (57, .iaload, 1), (58, .istore 6, 2), (60, .aload_n 0, 1), (61, .getfield 152, 3), (64, .bipush 47, 2), (66, .iconst 3, 1), (67, .iload 4, 2), (69, .imul, 1), (70, .iadd, 1), (71, .iaload, 1), (72, .istore 7, 2), (74, .iload 5, 2), (76, .ifCond .ne 12, 3), (79, .aload_n 0, 1)] : List (Nat × Instr × Nat)), decode cX12_isSo q.1 = .ok (q.2.1, q.2.2) := by decide +kernel
theorem dc_Mod_isSo_1 : ∀ q ∈ ([(80, .iload 6, 2), (82, .iload 7, 2), (84, .invokevirtual 412, 3), (87, .pop, 1), (88, .iload 5, 2), (90, .iconst 1, 1), (91, .if_icmp .ne 10, 3), (94, .aload_n 0, 1), (95, .iload 7, 2), (97, .invokevirtual 418, 3), (100, .pop, 1), (101, .iload 5, 2), (103, .iconst 2, 1), (104, .if_icmp .ne 12, 3), (107, .aload_n 0, 1), (108, .iload 6, 2), (110, .iload 7, 2), (112, .invokevirtual 421, 3), (115, .pop, 1), (116, .iinc 4 1, 3), (119, .goto (-99), 3), (122, .iconst 0, 1), (123, .istore 4, 2), (125, .iload 4, 2), (127, .iload_n 3, 1), (128, .if_icmp .ge 39, 3), (131, .aload_n 0, 1), (132, .aload_n 0, 1), (133, .getfield 182, 3), (136, .iload 4, 2), (138, .iaload, 1), (139, .aload_n 0, 1), (140, .getfield 185, 3), (143, .iload 4, 2), (145, .iaload, 1), (146, .invokevirtual 397, 3), (149, .aload_n 0, 1), (150, .getfield 188, 3), (153, .iload 4, 2), (155, .baload, 1), (156, .if_icmp .eq 5, 3), (159, .iconst 0, 1), (160, .ireturn, 1), (161, .iinc 4 1, 3), (164, .goto (-39), 3), (167, .iconst 1, 1), (168, .ireturn, 1)] : List (Nat × Instr × Nat)), decode cX12_isSo q.1 = .ok (q.2.1, q.2.2) := by decide +kernel
abbrev X_Mod_isSo : MX := (cX12_isSo, RX12, "isSo", 8, (some (.boolean)), 5, 114)
theorem v_Mod_isSo_L125s (F : Nat)  (R125 : Int → Int → Int → Hp → Option (Int × Hp)) (hR125 : ∀ (l0 l3 l4 : Int) (h : Hp), V X_Mod_isSo 125 [(0, 2, l0), (3, 0, l3), (4, 0, l4)] [] h (R125 l0 l3 l4 h)) (l0 l3 l4 : Int) (h : Hp) : V X_Mod_isSo 125 [(0, 2, l0), (3, 0, l3), (4, 0, l4)] [] h (Mod_isSo_L125s F  R125 l0 l3 l4 h) := by
  unfold Mod_isSo_L125s
  refine V_iload (pc := 125) (DCa dc_Mod_isSo_1 23 rfl) 2 rfl ?_
  refine V_iload_n (pc := 127) (DCa dc_Mod_isSo_1 24 rfl) rfl 1 rfl ?_
  refine V_icmp_ge (tgt := 167) (pc := 128) (DCa dc_Mod_isSo_1 25 rfl) (by decide) (fun _ => ?_) (fun _ => ?_)
  · refine V_aload_n (pc := 131) (DCa dc_Mod_isSo_1 26 rfl) rfl 0 rfl ?_
    refine V_aload_n (pc := 132) (DCa dc_Mod_isSo_1 27 rfl) rfl 0 rfl ?_
    refine Q_getf (k := 81) (pc := 133) (DCa dc_Mod_isSo_1 28 rfl) cls_12 (Nat.le_of_ble_eq_true rfl) fl_12_182 rfl rfl rfl (fun v18 => ?_)
    refine V_iload (pc := 136) (DCa dc_Mod_isSo_1 29 rfl) 2 rfl ?_
    refine Q_iaload (pc := 138) (DCa dc_Mod_isSo_1 30 rfl) (fun v19 => ?_)
    refine V_aload_n (pc := 139) (DCa dc_Mod_isSo_1 31 rfl) rfl 0 rfl ?_
    refine Q_getf (k := 82) (pc := 140) (DCa dc_Mod_isSo_1 32 rfl) cls_12 (Nat.le_of_ble_eq_true rfl) fl_12_185 rfl rfl rfl (fun v20 => ?_)
    refine V_iload (pc := 143) (DCa dc_Mod_isSo_1 33 rfl) 2 rfl ?_
    refine Q_iaload (pc := 145) (DCa dc_Mod_isSo_1 34 rfl) (fun v21 => ?_)
    refine Q_callv (ci := 12) (st := []) (pc := 146) (DCa dc_Mod_isSo_1 35 rfl) (sp_Mod_isSeen F _ _ _ _) ce_Mod_isSeen ml_12_397 rfl rfl ⟨Nat.le_of_ble_eq_true rfl, Nat.le_of_ble_eq_true rfl⟩ rfl (Nat.le_of_ble_eq_true rfl) (fun r22 h23 => ?_)
    refine V_aload_n (pc := 149) (DCa dc_Mod_isSo_1 36 rfl) rfl 0 rfl ?_
    refine Q_getf (k := 83) (pc := 150) (DCa dc_Mod_isSo_1 37 rfl) cls_12 (Nat.le_of_ble_eq_true rfl) fl_12_188 rfl rfl rfl (fun v24 => ?_)
    refine V_iload (pc := 153) (DCa dc_Mod_isSo_1 38 rfl) 2 rfl ?_
    refine Q_zaload (pc := 155) (DCa dc_Mod_isSo_1 39 rfl) (fun v25 => ?_)
    refine V_icmp_eq (tgt := 161) (pc := 156) (DCa dc_Mod_isSo_1 40 rfl) (by decide) (fun _ => ?_) (fun _ => ?_)
    · refine V_iinc (ls' := [(0, 2, l0), (3, 0, l3), (4, 0, w32 (l4 + 1))]) (pc := 161) (DCa dc_Mod_isSo_1 43 rfl) (Nat.le_of_ble_eq_true rfl) (by decide) 2 rfl rfl ?_
      refine V_goto (tgt := 125) (pc := 164) (DCa dc_Mod_isSo_1 44 rfl) (by decide) ?_
      exact hR125 _ _ _ _
    · refine V_iconst (pc := 159) (DCa dc_Mod_isSo_1 41 rfl) (by decide) ?_
      exact V_zreturn (pc := 160) (DCa dc_Mod_isSo_1 42 rfl) rfl
  · refine V_iconst (pc := 167) (DCa dc_Mod_isSo_1 45 rfl) (by decide) ?_
    exact V_zreturn (pc := 168) (DCa dc_Mod_isSo_1 46 rfl) rfl
theorem v_Mod_isSo_L125 (F : Nat)  (n : Nat) : ∀ (l0 l3 l4 : Int) (h : Hp), V X_Mod_isSo 125 [(0, 2, l0), (3, 0, l3), (4, 0, l4)] [] h (Mod_isSo_L125 F  n l0 l3 l4 h) := by
  induction n with
  | zero => intros; exact V_none
  | succ n ih => exact fun l0 l3 l4 h => v_Mod_isSo_L125s F  _ ih l0 l3 l4 h
theorem v_Mod_isSo_B101 (F : Nat) (R20 : Int → Int → Int → Hp → Option (Int × Hp)) (hR20 : ∀ (l0 l3 l4 : Int) (h : Hp), V X_Mod_isSo 20 [(0, 2, l0), (3, 0, l3), (4, 0, l4)] [] h (R20 l0 l3 l4 h)) (l0 l3 l4 l5 l6 l7 : Int) (h : Hp) : V X_Mod_isSo 101 [(0, 2, l0), (3, 0, l3), (4, 0, l4), (5, 0, l5), (6, 0, l6), (7, 0, l7)] [] h (Mod_isSo_B101 F R20 l0 l3 l4 l5 l6 l7 h) := by
  unfold Mod_isSo_B101
  refine V_iload (pc := 101) (DCa dc_Mod_isSo_1 11 rfl) 3 rfl ?_
  refine V_iconst (pc := 103) (DCa dc_Mod_isSo_1 12 rfl) (by decide) ?_
  refine V_icmp_ne (tgt := 116) (pc := 104) (DCa dc_Mod_isSo_1 13 rfl) (by decide) (fun _ => ?_) (fun _ => ?_)
  · refine V_aload_n (pc := 107) (DCa dc_Mod_isSo_1 14 rfl) rfl 0 rfl ?_
    refine V_iload (pc := 108) (DCa dc_Mod_isSo_1 15 rfl) 4 rfl ?_
    refine V_iload (pc := 110) (DCa dc_Mod_isSo_1 16 rfl) 5 rfl ?_
    refine Q_callv (ci := 12) (st := []) (pc := 112) (DCa dc_Mod_isSo_1 17 rfl) (sp_Mod_mendsOne F _ _ _ _) ce_Mod_mendsOne ml_12_421 rfl rfl ⟨Nat.le_of_ble_eq_true rfl, Nat.le_of_ble_eq_true rfl⟩ rfl (Nat.le_of_ble_eq_true rfl) (fun r26 h27 => ?_)
    refine V_pop (pc := 115) (DCa dc_Mod_isSo_1 18 rfl) rfl ?_
    refine V_iinc (ls' := [(0, 2, l0), (3, 0, l3), (4, 0, w32 (l4 + 1)), (5, 0, l5), (6, 0, l6), (7, 0, l7)]) (pc := 116) (DCa dc_Mod_isSo_1 19 rfl) (Nat.le_of_ble_eq_true rfl) (by decide) 2 rfl rfl ?_
    refine V_goto (tgt := 20) (pc := 119) (DCa dc_Mod_isSo_1 20 rfl) (by decide) ?_
    refine V_pick [0, 1, 2] rfl ?_
    exact hR20 _ _ _ _
  · refine V_iinc (ls' := [(0, 2, l0), (3, 0, l3), (4, 0, w32 (l4 + 1)), (5, 0, l5), (6, 0, l6), (7, 0, l7)]) (pc := 116) (DCa dc_Mod_isSo_1 19 rfl) (Nat.le_of_ble_eq_true rfl) (by decide) 2 rfl rfl ?_
    refine V_goto (tgt := 20) (pc := 119) (DCa dc_Mod_isSo_1 20 rfl) (by decide) ?_
    refine V_pick [0, 1, 2] rfl ?_
    exact hR20 _ _ _ _
theorem v_Mod_isSo_B88 (F : Nat) (R20 : Int → Int → Int → Hp → Option (Int × Hp)) (hR20 : ∀ (l0 l3 l4 : Int) (h : Hp), V X_Mod_isSo 20 [(0, 2, l0), (3, 0, l3), (4, 0, l4)] [] h (R20 l0 l3 l4 h)) (l0 l3 l4 l5 l6 l7 : Int) (h : Hp) : V X_Mod_isSo 88 [(0, 2, l0), (3, 0, l3), (4, 0, l4), (5, 0, l5), (6, 0, l6), (7, 0, l7)] [] h (Mod_isSo_B88 F R20 l0 l3 l4 l5 l6 l7 h) := by
  unfold Mod_isSo_B88
  refine V_iload (pc := 88) (DCa dc_Mod_isSo_1 4 rfl) 3 rfl ?_
  refine V_iconst (pc := 90) (DCa dc_Mod_isSo_1 5 rfl) (by decide) ?_
  refine V_icmp_ne (tgt := 101) (pc := 91) (DCa dc_Mod_isSo_1 6 rfl) (by decide) (fun _ => ?_) (fun _ => ?_)
  · refine V_aload_n (pc := 94) (DCa dc_Mod_isSo_1 7 rfl) rfl 0 rfl ?_
    refine V_iload (pc := 95) (DCa dc_Mod_isSo_1 8 rfl) 5 rfl ?_
    refine Q_callv (ci := 12) (st := []) (pc := 97) (DCa dc_Mod_isSo_1 9 rfl) (sp_Mod_crosses F _ _ _) ce_Mod_crosses ml_12_418 rfl rfl ⟨Nat.le_of_ble_eq_true rfl, Nat.le_of_ble_eq_true rfl⟩ rfl (Nat.le_of_ble_eq_true rfl) (fun r16 h17 => ?_)
    refine V_pop (pc := 100) (DCa dc_Mod_isSo_1 10 rfl) rfl ?_
    exact v_Mod_isSo_B101 F R20 hR20 _ _ _ _ _ _ _
  · exact v_Mod_isSo_B101 F R20 hR20 _ _ _ _ _ _ _
theorem v_Mod_isSo_L20s (F : Nat)  (R20 : Int → Int → Int → Hp → Option (Int × Hp)) (hR20 : ∀ (l0 l3 l4 : Int) (h : Hp), V X_Mod_isSo 20 [(0, 2, l0), (3, 0, l3), (4, 0, l4)] [] h (R20 l0 l3 l4 h)) (l0 l3 l4 : Int) (h : Hp) : V X_Mod_isSo 20 [(0, 2, l0), (3, 0, l3), (4, 0, l4)] [] h (Mod_isSo_L20s F  R20 l0 l3 l4 h) := by
  unfold Mod_isSo_L20s
  refine V_iload (pc := 20) (DCa dc_Mod_isSo_0 14 rfl) 2 rfl ?_
  refine V_aload_n (pc := 22) (DCa dc_Mod_isSo_0 15 rfl) rfl 0 rfl ?_
  refine Q_getf (k := 62) (pc := 23) (DCa dc_Mod_isSo_0 16 rfl) cls_12 (Nat.le_of_ble_eq_true rfl) fl_12_152 rfl rfl rfl (fun v6 => ?_)
  refine V_bipush (pc := 26) (DCa dc_Mod_isSo_0 17 rfl) (by decide) ?_
  refine Q_iaload (pc := 28) (DCa dc_Mod_isSo_0 18 rfl) (fun v7 => ?_)
  refine V_icmp_ge (tgt := 122) (pc := 29) (DCa dc_Mod_isSo_0 19 rfl) (by decide) (fun _ => ?_) (fun _ => ?_)
  · refine V_aload_n (pc := 32) (DCa dc_Mod_isSo_0 20 rfl) rfl 0 rfl ?_
    refine Q_getf (k := 62) (pc := 33) (DCa dc_Mod_isSo_0 21 rfl) cls_12 (Nat.le_of_ble_eq_true rfl) fl_12_152 rfl rfl rfl (fun v8 => ?_)
    refine V_bipush (pc := 36) (DCa dc_Mod_isSo_0 22 rfl) (by decide) ?_
    refine V_iconst (pc := 38) (DCa dc_Mod_isSo_0 23 rfl) (by decide) ?_
    refine V_iload (pc := 39) (DCa dc_Mod_isSo_0 24 rfl) 2 rfl ?_
    refine V_imul (pc := 41) (DCa dc_Mod_isSo_0 25 rfl) ?_
    refine V_iadd (pc := 42) (DCa dc_Mod_isSo_0 26 rfl) ?_
    refine Q_iaload (pc := 43) (DCa dc_Mod_isSo_0 27 rfl) (fun v9 => ?_)
    refine V_istore (ls' := [(0, 2, l0), (3, 0, l3), (4, 0, l4), (5, 0, v9)]) (pc := 44) (DCa dc_Mod_isSo_0 28 rfl) (Nat.le_of_ble_eq_true rfl) rfl ?_
    refine V_aload_n (pc := 46) (DCa dc_Mod_isSo_0 29 rfl) rfl 0 rfl ?_
    refine Q_getf (k := 62) (pc := 47) (DCa dc_Mod_isSo_0 30 rfl) cls_12 (Nat.le_of_ble_eq_true rfl) fl_12_152 rfl rfl rfl (fun v10 => ?_)
    refine V_bipush (pc := 50) (DCa dc_Mod_isSo_0 31 rfl) (by decide) ?_
    refine V_iconst (pc := 52) (DCa dc_Mod_isSo_0 32 rfl) (by decide) ?_
    refine V_iload (pc := 53) (DCa dc_Mod_isSo_0 33 rfl) 2 rfl ?_
    refine V_imul (pc := 55) (DCa dc_Mod_isSo_0 34 rfl) ?_
    refine V_iadd (pc := 56) (DCa dc_Mod_isSo_0 35 rfl) ?_
    refine Q_iaload (pc := 57) (DCa dc_Mod_isSo_0 36 rfl) (fun v11 => ?_)
    refine V_istore (ls' := [(0, 2, l0), (3, 0, l3), (4, 0, l4), (5, 0, v9), (6, 0, v11)]) (pc := 58) (DCa dc_Mod_isSo_0 37 rfl) (Nat.le_of_ble_eq_true rfl) rfl ?_
    refine V_aload_n (pc := 60) (DCa dc_Mod_isSo_0 38 rfl) rfl 0 rfl ?_
    refine Q_getf (k := 62) (pc := 61) (DCa dc_Mod_isSo_0 39 rfl) cls_12 (Nat.le_of_ble_eq_true rfl) fl_12_152 rfl rfl rfl (fun v12 => ?_)
    refine V_bipush (pc := 64) (DCa dc_Mod_isSo_0 40 rfl) (by decide) ?_
    refine V_iconst (pc := 66) (DCa dc_Mod_isSo_0 41 rfl) (by decide) ?_
    refine V_iload (pc := 67) (DCa dc_Mod_isSo_0 42 rfl) 2 rfl ?_
    refine V_imul (pc := 69) (DCa dc_Mod_isSo_0 43 rfl) ?_
    refine V_iadd (pc := 70) (DCa dc_Mod_isSo_0 44 rfl) ?_
    refine Q_iaload (pc := 71) (DCa dc_Mod_isSo_0 45 rfl) (fun v13 => ?_)
    refine V_istore (ls' := [(0, 2, l0), (3, 0, l3), (4, 0, l4), (5, 0, v9), (6, 0, v11), (7, 0, v13)]) (pc := 72) (DCa dc_Mod_isSo_0 46 rfl) (Nat.le_of_ble_eq_true rfl) rfl ?_
    refine V_iload (pc := 74) (DCa dc_Mod_isSo_0 47 rfl) 3 rfl ?_
    refine V_if_ne (tgt := 88) (pc := 76) (DCa dc_Mod_isSo_0 48 rfl) (by decide) (fun _ => ?_) (fun _ => ?_)
    · refine V_aload_n (pc := 79) (DCa dc_Mod_isSo_0 49 rfl) rfl 0 rfl ?_
      refine V_iload (pc := 80) (DCa dc_Mod_isSo_1 0 rfl) 4 rfl ?_
      refine V_iload (pc := 82) (DCa dc_Mod_isSo_1 1 rfl) 5 rfl ?_
      refine Q_callv (ci := 12) (st := []) (pc := 84) (DCa dc_Mod_isSo_1 2 rfl) (sp_Mod_sends F _ _ _ _) ce_Mod_sends ml_12_412 rfl rfl ⟨Nat.le_of_ble_eq_true rfl, Nat.le_of_ble_eq_true rfl⟩ rfl (Nat.le_of_ble_eq_true rfl) (fun r14 h15 => ?_)
      refine V_pop (pc := 87) (DCa dc_Mod_isSo_1 3 rfl) rfl ?_
      exact v_Mod_isSo_B88 F R20 hR20 _ _ _ _ _ _ _
    · exact v_Mod_isSo_B88 F R20 hR20 _ _ _ _ _ _ _
  · refine V_iconst (pc := 122) (DCa dc_Mod_isSo_1 21 rfl) (by decide) ?_
    refine V_istore (ls' := [(0, 2, l0), (3, 0, l3), (4, 0, 0)]) (pc := 123) (DCa dc_Mod_isSo_1 22 rfl) (Nat.le_of_ble_eq_true rfl) rfl ?_
    exact v_Mod_isSo_L125 F F _ _ _ _
theorem v_Mod_isSo_L20 (F : Nat)  (n : Nat) : ∀ (l0 l3 l4 : Int) (h : Hp), V X_Mod_isSo 20 [(0, 2, l0), (3, 0, l3), (4, 0, l4)] [] h (Mod_isSo_L20 F  n l0 l3 l4 h) := by
  induction n with
  | zero => intros; exact V_none
  | succ n ih => exact fun l0 l3 l4 h => v_Mod_isSo_L20s F  _ ih l0 l3 l4 h
theorem v_Mod_isSo (F : Nat) (l0 l1 l2 l3 : Int) (h : Hp) : V X_Mod_isSo 0 [(0, 2, l0), (1, 0, l1), (2, 0, l2), (3, 0, l3)] [] h (Mod_isSo F l0 l1 l2 l3 h) := by
  unfold Mod_isSo
  refine V_aload_n (pc := 0) (DCa dc_Mod_isSo_0 0 rfl) rfl 0 rfl ?_
  refine Q_callv (ci := 12) (st := []) (pc := 1) (DCa dc_Mod_isSo_0 1 rfl) (sp_Mod_begins F _ _) ce_Mod_begins ml_12_208 rfl rfl ⟨Nat.le_of_ble_eq_true rfl, Nat.le_of_ble_eq_true rfl⟩ rfl (Nat.le_of_ble_eq_true rfl) (fun r1 h2 => ?_)
  refine V_aload_n (pc := 4) (DCa dc_Mod_isSo_0 2 rfl) rfl 0 rfl ?_
  refine Q_getf (k := 63) (pc := 5) (DCa dc_Mod_isSo_0 3 rfl) cls_12 (Nat.le_of_ble_eq_true rfl) fl_12_155 rfl rfl rfl (fun v3 => ?_)
  refine V_bipush (pc := 8) (DCa dc_Mod_isSo_0 4 rfl) (by decide) ?_
  refine V_iload_n (pc := 10) (DCa dc_Mod_isSo_0 5 rfl) rfl 1 rfl ?_
  refine V_iadd (pc := 11) (DCa dc_Mod_isSo_0 6 rfl) ?_
  refine V_dup2 (pc := 12) (DCa dc_Mod_isSo_0 7 rfl) rfl rfl ?_
  refine Q_iaload (pc := 13) (DCa dc_Mod_isSo_0 8 rfl) (fun v4 => ?_)
  refine V_iload_n (pc := 14) (DCa dc_Mod_isSo_0 9 rfl) rfl 2 rfl ?_
  refine V_iadd (pc := 15) (DCa dc_Mod_isSo_0 10 rfl) ?_
  refine Q_iastore (pc := 16) (DCa dc_Mod_isSo_0 11 rfl) (fun h5 => ?_)
  refine V_iconst (pc := 17) (DCa dc_Mod_isSo_0 12 rfl) (by decide) ?_
  refine V_istore (ls' := [(0, 2, l0), (1, 0, l1), (2, 0, l2), (3, 0, l3), (4, 0, 0)]) (pc := 18) (DCa dc_Mod_isSo_0 13 rfl) (Nat.le_of_ble_eq_true rfl) rfl ?_
  refine V_pick [0, 3, 4] rfl ?_
  exact v_Mod_isSo_L20 F F _ _ _ _
theorem sp_Mod_isSo (F : Nat) (l0 l1 l2 l3 : Int) (h : Hp) : Sp yX12_isSo cX12_isSo 8 (some (.boolean)) 5 114 [(2, l0), (0, l1), (0, l2), (0, l3)] h (Mod_isSo F l0 l1 l2 l3 h) := Sp_of (by decide +kernel) rfl rfl (Nat.le_of_ble_eq_true rfl) (v_Mod_isSo F l0 l1 l2 l3 h)
