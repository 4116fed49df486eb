-- TideRakesModel.photo
def Mod_photo (F : Nat) (l0 l1 : Int) (h : Hp) : Option (Int × Hp) :=
  cl (Mod_isMinute F l1 h) fun r1 h2 =>
  if r1 = 0 then
    (some ((-1), h2))
  else
    (iv h2 l0 112 (Mod_copies F l0 h2) fun r3 h4 =>
    iv h4 l0 112 (Mod_photoOf F l0 l1 h4) fun r5 h6 =>
    some (r5, h6))

theorem dc_Mod_photo_0 : ∀ q ∈ ([(0, .iload_n 1, 1), (1, .invokestatic 406, 3), (4, .ifCond .ne 5, 3), (7, .iconst (-1), 1), (8, .ireturn, 1), (9, .aload_n 0, 1), (10, .invokevirtual 409, 3), (13, .aload_n 0, 1), (14, .iload_n 1, 1), (15, .invokevirtual 424, 3), (18, .ireturn, 1)] : List (Nat × Instr × Nat)), decode cX12_photo q.1 = .ok (q.2.1, q.2.2) := by decide +kernel
abbrev X_Mod_photo : MX := (cX12_photo, RX12, "photo", 2, (some (.int)), 4, 89)
theorem v_Mod_photo (F : Nat) (l0 l1 : Int) (h : Hp) : V X_Mod_photo 0 [(0, 2, l0), (1, 0, l1)] [] h (Mod_photo F l0 l1 h) := by
  unfold Mod_photo
  refine V_iload_n (pc := 0) (DCa dc_Mod_photo_0 0 rfl) rfl 1 rfl ?_
  refine Q_calls (st := []) (pc := 1) (DCa dc_Mod_photo_0 1 rfl) (sp_Mod_isMinute F _ _) ce_Mod_isMinute ml_12_406 rfl ⟨Nat.le_of_ble_eq_true rfl, Nat.le_of_ble_eq_true rfl⟩ rfl (Nat.le_of_ble_eq_true rfl) (fun r1 h2 => ?_)
  refine V_if_ne (tgt := 9) (pc := 4) (DCa dc_Mod_photo_0 2 rfl) (by decide) (fun _ => ?_) (fun _ => ?_)
  · refine V_iconst (pc := 7) (DCa dc_Mod_photo_0 3 rfl) (by decide) ?_
    exact V_ireturn (pc := 8) (DCa dc_Mod_photo_0 4 rfl) rfl
  · refine V_aload_n (pc := 9) (DCa dc_Mod_photo_0 5 rfl) rfl 0 rfl ?_
    refine Q_callv (ci := 12) (st := []) (pc := 10) (DCa dc_Mod_photo_0 6 rfl) (sp_Mod_copies F _ _) ce_Mod_copies ml_12_409 rfl rfl ⟨Nat.le_of_ble_eq_true rfl, Nat.le_of_ble_eq_true rfl⟩ rfl (Nat.le_of_ble_eq_true rfl) (fun r3 h4 => ?_)
    refine V_aload_n (pc := 13) (DCa dc_Mod_photo_0 7 rfl) rfl 0 rfl ?_
    refine V_iload_n (pc := 14) (DCa dc_Mod_photo_0 8 rfl) rfl 1 rfl ?_
    refine Q_callv (ci := 12) (st := []) (pc := 15) (DCa dc_Mod_photo_0 9 rfl) (sp_Mod_photoOf F _ _ _) ce_Mod_photoOf ml_12_424 rfl rfl ⟨Nat.le_of_ble_eq_true rfl, Nat.le_of_ble_eq_true rfl⟩ rfl (Nat.le_of_ble_eq_true rfl) (fun r5 h6 => ?_)
    exact V_ireturn (pc := 18) (DCa dc_Mod_photo_0 10 rfl) rfl
theorem sp_Mod_photo (F : Nat) (l0 l1 : Int) (h : Hp) : Sp yX12_photo cX12_photo 2 (some (.int)) 4 89 [(2, l0), (0, l1)] h (Mod_photo F l0 l1 h) := Sp_of (by decide +kernel) rfl rfl (Nat.le_of_ble_eq_true rfl) (v_Mod_photo F l0 l1 h)

-- TideRakesModel.bestMinute
def Mod_bestMinute_L8s (F : Nat)  (R8 : Int → Int → Int → Hp → Option (Int × Hp)) (l0 l1 l2 : Int) (h : Hp) : Option (Int × Hp) :=
  if l2 < 600 then
    (iv h l0 112 (Mod_photoOf F l0 l2 h) fun r3 h4 =>
    iv h4 l0 112 (Mod_photoOf F l0 l1 h4) fun r5 h6 =>
    if r5 < r3 then
      (R8 l0 l2 (w32 (l2 + 1)) h6)
    else
      (R8 l0 l1 (w32 (l2 + 1)) h6))
  else
    (some (l1, h))
def Mod_bestMinute_L8 (F : Nat)  : Nat → Int → Int → Int → Hp → Option (Int × Hp)
  | 0 => fun _ _ _ _ => none
  | n + 1 => Mod_bestMinute_L8s F  (Mod_bestMinute_L8 F  n)
def Mod_bestMinute (F : Nat) (l0 : Int) (h : Hp) : Option (Int × Hp) :=
  iv h l0 112 (Mod_copies F l0 h) fun r1 h2 =>
  Mod_bestMinute_L8 F F l0 0 1 h2

theorem dc_Mod_bestMinute_0 : ∀ q ∈ ([(0, .aload_n 0, 1), (1, .invokevirtual 409, 3), (4, .iconst 0, 1), (5, .istore_n 1, 1), (6, .iconst 1, 1), (7, .istore_n 2, 1), (8, .iload_n 2, 1), (9, .sipush 600, 3), (12, .if_icmp .ge 24, 3), (15, .aload_n 0, 1), (16, .iload_n 2, 1), (17, .invokevirtual 424, 3), (20, .aload_n 0, 1), (21, .iload_n 1, 1), (22, .invokevirtual 424, 3), (25, .if_icmp .le 5, 3), (28, .iload_n 2, 1), (29, .istore_n 1, 1), (30, .iinc 2 1, 3), (33, .goto (-25), 3), (36, .iload_n 1, 1), (37, .ireturn, 1)] : List (Nat × Instr × Nat)), decode cX12_bestMinute q.1 = .ok (q.2.1, q.2.2) := by decide +kernel
abbrev X_Mod_bestMinute : MX := (cX12_bestMinute, RX12, "bestMinute", 3, (some (.int)), 4, 89)
theorem v_Mod_bestMinute_L8s (F : Nat)  (R8 : Int → Int → Int → Hp → Option (Int × Hp)) (hR8 : ∀ (l0 l1 l2 : Int) (h : Hp), V X_Mod_bestMinute 8 [(0, 2, l0), (1, 0, l1), (2, 0, l2)] [] h (R8 l0 l1 l2 h)) (l0 l1 l2 : Int) (h : Hp) : V X_Mod_bestMinute 8 [(0, 2, l0), (1, 0, l1), (2, 0, l2)] [] h (Mod_bestMinute_L8s F  R8 l0 l1 l2 h) := by
  unfold Mod_bestMinute_L8s
  refine V_iload_n (pc := 8) (DCa dc_Mod_bestMinute_0 6 rfl) rfl 2 rfl ?_
  refine V_sipush (pc := 9) (DCa dc_Mod_bestMinute_0 7 rfl) (by decide) ?_
  refine V_icmp_ge (tgt := 36) (pc := 12) (DCa dc_Mod_bestMinute_0 8 rfl) (by decide) (fun _ => ?_) (fun _ => ?_)
  · refine V_aload_n (pc := 15) (DCa dc_Mod_bestMinute_0 9 rfl) rfl 0 rfl ?_
    refine V_iload_n (pc := 16) (DCa dc_Mod_bestMinute_0 10 rfl) rfl 2 rfl ?_
    refine Q_callv (ci := 12) (st := []) (pc := 17) (DCa dc_Mod_bestMinute_0 11 rfl) (sp_Mod_photoOf F _ _ _) ce_Mod_photoOf ml_12_424 rfl rfl ⟨Nat.le_of_ble_eq_true rfl, Nat.le_of_ble_eq_true rfl⟩ rfl (Nat.le_of_ble_eq_true rfl) (fun r3 h4 => ?_)
    refine V_aload_n (pc := 20) (DCa dc_Mod_bestMinute_0 12 rfl) rfl 0 rfl ?_
    refine V_iload_n (pc := 21) (DCa dc_Mod_bestMinute_0 13 rfl) rfl 1 rfl ?_
    refine Q_callv (ci := 12) (st := [(0, r3)]) (pc := 22) (DCa dc_Mod_bestMinute_0 14 rfl) (sp_Mod_photoOf F _ _ _) ce_Mod_photoOf ml_12_424 rfl rfl ⟨Nat.le_of_ble_eq_true rfl, Nat.le_of_ble_eq_true rfl⟩ rfl (Nat.le_of_ble_eq_true rfl) (fun r5 h6 => ?_)
    refine V_icmp_le (tgt := 30) (pc := 25) (DCa dc_Mod_bestMinute_0 15 rfl) (by decide) (fun _ => ?_) (fun _ => ?_)
    · refine V_iload_n (pc := 28) (DCa dc_Mod_bestMinute_0 16 rfl) rfl 2 rfl ?_
      refine V_istore_n (ls' := [(0, 2, l0), (1, 0, l2), (2, 0, l2)]) (pc := 29) (DCa dc_Mod_bestMinute_0 17 rfl) rfl (Nat.le_of_ble_eq_true rfl) rfl ?_
      refine V_iinc (ls' := [(0, 2, l0), (1, 0, l2), (2, 0, w32 (l2 + 1))]) (pc := 30) (DCa dc_Mod_bestMinute_0 18 rfl) (Nat.le_of_ble_eq_true rfl) (by decide) 2 rfl rfl ?_
      refine V_goto (tgt := 8) (pc := 33) (DCa dc_Mod_bestMinute_0 19 rfl) (by decide) ?_
      exact hR8 _ _ _ _
    · refine V_iinc (ls' := [(0, 2, l0), (1, 0, l1), (2, 0, w32 (l2 + 1))]) (pc := 30) (DCa dc_Mod_bestMinute_0 18 rfl) (Nat.le_of_ble_eq_true rfl) (by decide) 2 rfl rfl ?_
      refine V_goto (tgt := 8) (pc := 33) (DCa dc_Mod_bestMinute_0 19 rfl) (by decide) ?_
      exact hR8 _ _ _ _
  · refine V_iload_n (pc := 36) (DCa dc_Mod_bestMinute_0 20 rfl) rfl 1 rfl ?_
    exact V_ireturn (pc := 37) (DCa dc_Mod_bestMinute_0 21 rfl) rfl
theorem v_Mod_bestMinute_L8 (F : Nat)  (n : Nat) : ∀ (l0 l1 l2 : Int) (h : Hp), V X_Mod_bestMinute 8 [(0, 2, l0), (1, 0, l1), (2, 0, l2)] [] h (Mod_bestMinute_L8 F  n l0 l1 l2 h) := by
  induction n with
  | zero => intros; exact V_none
  | succ n ih => exact fun l0 l1 l2 h => v_Mod_bestMinute_L8s F  _ ih l0 l1 l2 h
theorem v_Mod_bestMinute (F : Nat) (l0 : Int) (h : Hp) : V X_Mod_bestMinute 0 [(0, 2, l0)] [] h (Mod_bestMinute F l0 h) := by
  unfold Mod_bestMinute
  refine V_aload_n (pc := 0) (DCa dc_Mod_bestMinute_0 0 rfl) rfl 0 rfl ?_
  refine Q_callv (ci := 12) (st := []) (pc := 1) (DCa dc_Mod_bestMinute_0 1 rfl) (sp_Mod_copies F _ _) ce_Mod_copies ml_12_409 rfl rfl ⟨Nat.le_of_ble_eq_true rfl, Nat.le_of_ble_eq_true rfl⟩ rfl (Nat.le_of_ble_eq_true rfl) (fun r1 h2 => ?_)
  refine V_iconst (pc := 4) (DCa dc_Mod_bestMinute_0 2 rfl) (by decide) ?_
  refine V_istore_n (ls' := [(0, 2, l0), (1, 0, 0)]) (pc := 5) (DCa dc_Mod_bestMinute_0 3 rfl) rfl (Nat.le_of_ble_eq_true rfl) rfl ?_
  refine V_iconst (pc := 6) (DCa dc_Mod_bestMinute_0 4 rfl) (by decide) ?_
  refine V_istore_n (ls' := [(0, 2, l0), (1, 0, 0), (2, 0, 1)]) (pc := 7) (DCa dc_Mod_bestMinute_0 5 rfl) rfl (Nat.le_of_ble_eq_true rfl) rfl ?_
  exact v_Mod_bestMinute_L8 F F _ _ _ _
theorem sp_Mod_bestMinute (F : Nat) (l0 : Int) (h : Hp) : Sp yX12_bestMinute cX12_bestMinute 3 (some (.int)) 4 89 [(2, l0)] h (Mod_bestMinute F l0 h) := Sp_of (by decide +kernel) rfl rfl (Nat.le_of_ble_eq_true rfl) (v_Mod_bestMinute F l0 h)

-- TideRakesModel.stepTo
def Mod_stepTo (F : Nat) (l0 l1 l2 l3 l4 l5 : Int) (h : Hp) : Option (Int × Hp) :=
  gf h l0 112 70 fun v1 =>
  lt (w32 (v1 + l5)) fun x2 =>
  gf h l0 112 55 fun v3 =>
  al h v3 0 x2 fun v4 =>
  gf h l0 112 56 fun v5 =>
  al h v5 0 x2 fun v6 =>
  iv h l0 112 (Mod_wayOf F l0 l1 l2 l3 v4 v6 h) fun r7 h8 =>
  lt (w32 (l4 + r7)) fun x9 =>
  gf h8 l0 112 71 fun v10 =>
  if v10 = 0 then
    (iv h8 l0 112 (Mod_firstFrom F l0 x2 x9 h8) fun r11 h12 =>
    if r11 < 0 then
      (some (100000, h12))
    else
      (gf h12 l0 112 57 fun v13 =>
      al h12 v13 0 x2 fun v14 =>
      some (w32 (r11 + v14), h12)))
  else
    (gf h8 l0 112 57 fun v15 =>
    al h8 v15 0 x2 fun v16 =>
    dv (w32 (v16 + 2)) 3 fun v17 =>
    if 600 < (w32 (x9 + v17)) then
      (some (100000, h8))
    else
      (gf h8 l0 112 57 fun v18 =>
      al h8 v18 0 x2 fun v19 =>
      dv (w32 (v19 + 2)) 3 fun v20 =>
      some (w32 (x9 + v20), h8)))

theorem dc_Mod_stepTo_0 : ∀ q ∈ ([(0, .aload_n 0, 1), (1, .getfield 427, 3), (4, .iload 5, 2), (6, .iadd, 1), (7, .istore 6, 2), (9, .iload 4, 2), (11, .aload_n 0, 1), (12, .iload_n 1, 1), (13, .iload_n 2, 1), (14, .iload_n 3, 1), (15, .aload_n 0, 1), (16, .getfield 131, 3), (19, .iload 6, 2), (21, .iaload, 1), (22, .aload_n 0, 1), (23, .getfield 134, 3), (26, .iload 6, 2), (28, .iaload, 1), (29, .invokevirtual 380, 3), (32, .iadd, 1), (33, .istore 7, 2), (35, .aload_n 0, 1), (36, .getfield 430, 3), (39, .ifCond .eq 44, 3), (42, .iload 7, 2), (44, .aload_n 0, 1), (45, .getfield 137, 3), (48, .iload 6, 2), (50, .iaload, 1), (51, .iconst 2, 1), (52, .iadd, 1), (53, .iconst 3, 1), (54, .idiv, 1), (55, .iadd, 1), (56, .sipush 600, 3), (59, .if_icmp .le 9, 3), (62, .ldc_w 433, 3), (65, .goto 17, 3), (68, .iload 7, 2), (70, .aload_n 0, 1), (71, .getfield 137, 3), (74, .iload 6, 2), (76, .iaload, 1), (77, .iconst 2, 1), (78, .iadd, 1), (79, .iconst 3, 1), (80, .idiv, 1), (81, .iadd, 1), (82, .ireturn, 1), (83, .aload_n 0, 1)] : List (Nat × Instr × Nat)), decode cX12_stepTo q.1 = .ok (q.2.1, q.2.2) := by decide +kernel
theorem dc_Mod_stepTo_1 : ∀ q ∈ ([(84, .iload 6, 2), (86, .iload 7, 2), (88, .invokevirtual 390, 3), (91, .istore 8, 2), (93, .iload 8, 2), (95, .ifCond .ge 9, 3), (98, .ldc_w 433, 3), (101, .goto 13, 3), (104, .iload 8, 2), (106, .aload_n 0, 1), (107, .getfield 137, 3), (110, .iload 6, 2), (112, .iaload, 1), (113, .iadd, 1), (114, .ireturn, 1)] : List (Nat × Instr × Nat)), decode cX12_stepTo q.1 = .ok (q.2.1, q.2.2) := by decide +kernel
abbrev X_Mod_stepTo : MX := (cX12_stepTo, RX12, "stepTo", 9, (some (.int)), 3, 67)
theorem v_Mod_stepTo (F : Nat) (l0 l1 l2 l3 l4 l5 : Int) (h : Hp) : V X_Mod_stepTo 0 [(0, 2, l0), (1, 0, l1), (2, 0, l2), (3, 0, l3), (4, 0, l4), (5, 0, l5)] [] h (Mod_stepTo F l0 l1 l2 l3 l4 l5 h) := by
  unfold Mod_stepTo
  refine V_aload_n (pc := 0) (DCa dc_Mod_stepTo_0 0 rfl) rfl 0 rfl ?_
  refine Q_getf (k := 70) (pc := 1) (DCa dc_Mod_stepTo_0 1 rfl) cls_12 (Nat.le_of_ble_eq_true rfl) fl_12_427 rfl rfl rfl (fun v1 => ?_)
  refine V_iload (pc := 4) (DCa dc_Mod_stepTo_0 2 rfl) 5 rfl ?_
  refine V_iadd (pc := 6) (DCa dc_Mod_stepTo_0 3 rfl) ?_
  refine Q_lt (fun x2 => ?_)
  refine V_istore (ls' := [(0, 2, l0), (1, 0, l1), (2, 0, l2), (3, 0, l3), (4, 0, l4), (5, 0, l5), (6, 0, x2)]) (pc := 7) (DCa dc_Mod_stepTo_0 4 rfl) (Nat.le_of_ble_eq_true rfl) rfl ?_
  refine V_iload (pc := 9) (DCa dc_Mod_stepTo_0 5 rfl) 4 rfl ?_
  refine V_aload_n (pc := 11) (DCa dc_Mod_stepTo_0 6 rfl) rfl 0 rfl ?_
  refine V_iload_n (pc := 12) (DCa dc_Mod_stepTo_0 7 rfl) rfl 1 rfl ?_
  refine V_iload_n (pc := 13) (DCa dc_Mod_stepTo_0 8 rfl) rfl 2 rfl ?_
  refine V_iload_n (pc := 14) (DCa dc_Mod_stepTo_0 9 rfl) rfl 3 rfl ?_
  refine V_aload_n (pc := 15) (DCa dc_Mod_stepTo_0 10 rfl) rfl 0 rfl ?_
  refine Q_getf (k := 55) (pc := 16) (DCa dc_Mod_stepTo_0 11 rfl) cls_12 (Nat.le_of_ble_eq_true rfl) fl_12_131 rfl rfl rfl (fun v3 => ?_)
  refine V_iload (pc := 19) (DCa dc_Mod_stepTo_0 12 rfl) 6 rfl ?_
  refine Q_iaload (pc := 21) (DCa dc_Mod_stepTo_0 13 rfl) (fun v4 => ?_)
  refine V_aload_n (pc := 22) (DCa dc_Mod_stepTo_0 14 rfl) rfl 0 rfl ?_
  refine Q_getf (k := 56) (pc := 23) (DCa dc_Mod_stepTo_0 15 rfl) cls_12 (Nat.le_of_ble_eq_true rfl) fl_12_134 rfl rfl rfl (fun v5 => ?_)
  refine V_iload (pc := 26) (DCa dc_Mod_stepTo_0 16 rfl) 6 rfl ?_
  refine Q_iaload (pc := 28) (DCa dc_Mod_stepTo_0 17 rfl) (fun v6 => ?_)
  refine Q_callv (ci := 12) (st := [(0, l4)]) (pc := 29) (DCa dc_Mod_stepTo_0 18 rfl) (sp_Mod_wayOf F _ _ _ _ _ _ _) ce_Mod_wayOf ml_12_380 rfl rfl ⟨Nat.le_of_ble_eq_true rfl, Nat.le_of_ble_eq_true rfl⟩ rfl (Nat.le_of_ble_eq_true rfl) (fun r7 h8 => ?_)
  refine V_iadd (pc := 32) (DCa dc_Mod_stepTo_0 19 rfl) ?_
  refine Q_lt (fun x9 => ?_)
  refine V_istore (ls' := [(0, 2, l0), (1, 0, l1), (2, 0, l2), (3, 0, l3), (4, 0, l4), (5, 0, l5), (6, 0, x2), (7, 0, x9)]) (pc := 33) (DCa dc_Mod_stepTo_0 20 rfl) (Nat.le_of_ble_eq_true rfl) rfl ?_
  refine V_aload_n (pc := 35) (DCa dc_Mod_stepTo_0 21 rfl) rfl 0 rfl ?_
  refine Q_getf (k := 71) (pc := 36) (DCa dc_Mod_stepTo_0 22 rfl) cls_12 (Nat.le_of_ble_eq_true rfl) fl_12_430 rfl rfl rfl (fun v10 => ?_)
  refine V_if_eq (tgt := 83) (pc := 39) (DCa dc_Mod_stepTo_0 23 rfl) (by decide) (fun _ => ?_) (fun _ => ?_)
  · refine V_aload_n (pc := 83) (DCa dc_Mod_stepTo_0 49 rfl) rfl 0 rfl ?_
    refine V_iload (pc := 84) (DCa dc_Mod_stepTo_1 0 rfl) 6 rfl ?_
    refine V_iload (pc := 86) (DCa dc_Mod_stepTo_1 1 rfl) 7 rfl ?_
    refine Q_callv (ci := 12) (st := []) (pc := 88) (DCa dc_Mod_stepTo_1 2 rfl) (sp_Mod_firstFrom F _ _ _ _) ce_Mod_firstFrom ml_12_390 rfl rfl ⟨Nat.le_of_ble_eq_true rfl, Nat.le_of_ble_eq_true rfl⟩ rfl (Nat.le_of_ble_eq_true rfl) (fun r11 h12 => ?_)
    refine V_istore (ls' := [(0, 2, l0), (1, 0, l1), (2, 0, l2), (3, 0, l3), (4, 0, l4), (5, 0, l5), (6, 0, x2), (7, 0, x9), (8, 0, r11)]) (pc := 91) (DCa dc_Mod_stepTo_1 3 rfl) (Nat.le_of_ble_eq_true rfl) rfl ?_
    refine V_iload (pc := 93) (DCa dc_Mod_stepTo_1 4 rfl) 8 rfl ?_
    refine V_if_ge (tgt := 104) (pc := 95) (DCa dc_Mod_stepTo_1 5 rfl) (by decide) (fun _ => ?_) (fun _ => ?_)
    · refine V_ldcw (v := 100000) (x := 100000) (pc := 98) (DCa dc_Mod_stepTo_1 6 rfl) (tb8 177 rfl rfl) rfl ?_
      refine V_goto (tgt := 114) (pc := 101) (DCa dc_Mod_stepTo_1 7 rfl) (by decide) ?_
      exact V_ireturn (pc := 114) (DCa dc_Mod_stepTo_1 14 rfl) rfl
    · refine V_iload (pc := 104) (DCa dc_Mod_stepTo_1 8 rfl) 8 rfl ?_
      refine V_aload_n (pc := 106) (DCa dc_Mod_stepTo_1 9 rfl) rfl 0 rfl ?_
      refine Q_getf (k := 57) (pc := 107) (DCa dc_Mod_stepTo_1 10 rfl) cls_12 (Nat.le_of_ble_eq_true rfl) fl_12_137 rfl rfl rfl (fun v13 => ?_)
      refine V_iload (pc := 110) (DCa dc_Mod_stepTo_1 11 rfl) 6 rfl ?_
      refine Q_iaload (pc := 112) (DCa dc_Mod_stepTo_1 12 rfl) (fun v14 => ?_)
      refine V_iadd (pc := 113) (DCa dc_Mod_stepTo_1 13 rfl) ?_
      exact V_ireturn (pc := 114) (DCa dc_Mod_stepTo_1 14 rfl) rfl
  · refine V_iload (pc := 42) (DCa dc_Mod_stepTo_0 24 rfl) 7 rfl ?_
    refine V_aload_n (pc := 44) (DCa dc_Mod_stepTo_0 25 rfl) rfl 0 rfl ?_
    refine Q_getf (k := 57) (pc := 45) (DCa dc_Mod_stepTo_0 26 rfl) cls_12 (Nat.le_of_ble_eq_true rfl) fl_12_137 rfl rfl rfl (fun v15 => ?_)
    refine V_iload (pc := 48) (DCa dc_Mod_stepTo_0 27 rfl) 6 rfl ?_
    refine Q_iaload (pc := 50) (DCa dc_Mod_stepTo_0 28 rfl) (fun v16 => ?_)
    refine V_iconst (pc := 51) (DCa dc_Mod_stepTo_0 29 rfl) (by decide) ?_
    refine V_iadd (pc := 52) (DCa dc_Mod_stepTo_0 30 rfl) ?_
    refine V_iconst (pc := 53) (DCa dc_Mod_stepTo_0 31 rfl) (by decide) ?_
    refine Q_idiv (pc := 54) (DCa dc_Mod_stepTo_0 32 rfl) (fun v17 => ?_)
    refine V_iadd (pc := 55) (DCa dc_Mod_stepTo_0 33 rfl) ?_
    refine V_sipush (pc := 56) (DCa dc_Mod_stepTo_0 34 rfl) (by decide) ?_
    refine V_icmp_le (tgt := 68) (pc := 59) (DCa dc_Mod_stepTo_0 35 rfl) (by decide) (fun _ => ?_) (fun _ => ?_)
    · refine V_ldcw (v := 100000) (x := 100000) (pc := 62) (DCa dc_Mod_stepTo_0 36 rfl) (tb8 177 rfl rfl) rfl ?_
      refine V_goto (tgt := 82) (pc := 65) (DCa dc_Mod_stepTo_0 37 rfl) (by decide) ?_
      exact V_ireturn (pc := 82) (DCa dc_Mod_stepTo_0 48 rfl) rfl
    · refine V_iload (pc := 68) (DCa dc_Mod_stepTo_0 38 rfl) 7 rfl ?_
      refine V_aload_n (pc := 70) (DCa dc_Mod_stepTo_0 39 rfl) rfl 0 rfl ?_
      refine Q_getf (k := 57) (pc := 71) (DCa dc_Mod_stepTo_0 40 rfl) cls_12 (Nat.le_of_ble_eq_true rfl) fl_12_137 rfl rfl rfl (fun v18 => ?_)
      refine V_iload (pc := 74) (DCa dc_Mod_stepTo_0 41 rfl) 6 rfl ?_
      refine Q_iaload (pc := 76) (DCa dc_Mod_stepTo_0 42 rfl) (fun v19 => ?_)
      refine V_iconst (pc := 77) (DCa dc_Mod_stepTo_0 43 rfl) (by decide) ?_
      refine V_iadd (pc := 78) (DCa dc_Mod_stepTo_0 44 rfl) ?_
      refine V_iconst (pc := 79) (DCa dc_Mod_stepTo_0 45 rfl) (by decide) ?_
      refine Q_idiv (pc := 80) (DCa dc_Mod_stepTo_0 46 rfl) (fun v20 => ?_)
      refine V_iadd (pc := 81) (DCa dc_Mod_stepTo_0 47 rfl) ?_
      exact V_ireturn (pc := 82) (DCa dc_Mod_stepTo_0 48 rfl) rfl
theorem sp_Mod_stepTo (F : Nat) (l0 l1 l2 l3 l4 l5 : Int) (h : Hp) : Sp yX12_stepTo cX12_stepTo 9 (some (.int)) 3 67 [(2, l0), (0, l1), (0, l2), (0, l3), (0, l4), (0, l5)] h (Mod_stepTo F l0 l1 l2 l3 l4 l5 h) := Sp_of (by decide +kernel) rfl rfl (Nat.le_of_ble_eq_true rfl) (v_Mod_stepTo F l0 l1 l2 l3 l4 l5 h)

-- TideRakesModel.readyBehind
def Mod_readyBehind (F : Nat) (l0 l1 l2 l3 l4 : Int) (h : Hp) : Option (Int × Hp) :=
  if l3 < 0 then
    (gf h l0 112 67 fun v1 =>
    gf h l0 112 68 fun v2 =>
    gf h l0 112 69 fun v3 =>
    iv h l0 112 (Mod_stepTo F l0 l1 v1 v2 v3 l4 h) fun r4 h5 =>
    some (r4, h5))
  else
    (gf h l0 112 66 fun v6 =>
    al h v6 0 (w32 ((w32 (8 * l2)) + l3)) fun v7 =>
    if v7 = 100000 then
      (some (100000, h))
    else
      (gf h l0 112 55 fun v8 =>
      gf h l0 112 70 fun v9 =>
      al h v8 0 (w32 (v9 + l3)) fun v10 =>
      gf h l0 112 56 fun v11 =>
      gf h l0 112 70 fun v12 =>
      al h v11 0 (w32 (v12 + l3)) fun v13 =>
      iv h l0 112 (Mod_stepTo F l0 l1 v10 v13 v7 l4 h) fun r14 h15 =>
      some (r14, h15)))

theorem dc_Mod_readyBehind_0 : ∀ q ∈ ([(0, .iload_n 3, 1), (1, .ifCond .ge 23, 3), (4, .aload_n 0, 1), (5, .iload_n 1, 1), (6, .aload_n 0, 1), (7, .getfield 434, 3), (10, .aload_n 0, 1), (11, .getfield 437, 3), (14, .aload_n 0, 1), (15, .getfield 440, 3), (18, .iload 4, 2), (20, .invokevirtual 443, 3), (23, .ireturn, 1), (24, .aload_n 0, 1), (25, .getfield 161, 3), (28, .bipush 8, 2), (30, .iload_n 2, 1), (31, .imul, 1), (32, .iload_n 3, 1), (33, .iadd, 1), (34, .iaload, 1), (35, .istore 5, 2), (37, .iload 5, 2), (39, .ldc_w 433, 3), (42, .if_icmp .ne 9, 3), (45, .ldc_w 433, 3), (48, .goto 34, 3), (51, .aload_n 0, 1), (52, .iload_n 1, 1), (53, .aload_n 0, 1), (54, .getfield 131, 3), (57, .aload_n 0, 1), (58, .getfield 427, 3), (61, .iload_n 3, 1), (62, .iadd, 1), (63, .iaload, 1), (64, .aload_n 0, 1), (65, .getfield 134, 3), (68, .aload_n 0, 1), (69, .getfield 427, 3), (72, .iload_n 3, 1), (73, .iadd, 1), (74, .iaload, 1), (75, .iload 5, 2), (77, .iload 4, 2), (79, .invokevirtual 443, 3), (82, .ireturn, 1)] : List (Nat × Instr × Nat)), decode cX12_readyBehind q.1 = .ok (q.2.1, q.2.2) := by decide +kernel
abbrev X_Mod_readyBehind : MX := (cX12_readyBehind, RX12, "readyBehind", 6, (some (.int)), 4, 95)
theorem v_Mod_readyBehind (F : Nat) (l0 l1 l2 l3 l4 : Int) (h : Hp) : V X_Mod_readyBehind 0 [(0, 2, l0), (1, 0, l1), (2, 0, l2), (3, 0, l3), (4, 0, l4)] [] h (Mod_readyBehind F l0 l1 l2 l3 l4 h) := by
  unfold Mod_readyBehind
  refine V_iload_n (pc := 0) (DCa dc_Mod_readyBehind_0 0 rfl) rfl 3 rfl ?_
  refine V_if_ge (tgt := 24) (pc := 1) (DCa dc_Mod_readyBehind_0 1 rfl) (by decide) (fun _ => ?_) (fun _ => ?_)
  · refine V_aload_n (pc := 4) (DCa dc_Mod_readyBehind_0 2 rfl) rfl 0 rfl ?_
    refine V_iload_n (pc := 5) (DCa dc_Mod_readyBehind_0 3 rfl) rfl 1 rfl ?_
    refine V_aload_n (pc := 6) (DCa dc_Mod_readyBehind_0 4 rfl) rfl 0 rfl ?_
    refine Q_getf (k := 67) (pc := 7) (DCa dc_Mod_readyBehind_0 5 rfl) cls_12 (Nat.le_of_ble_eq_true rfl) fl_12_434 rfl rfl rfl (fun v1 => ?_)
    refine V_aload_n (pc := 10) (DCa dc_Mod_readyBehind_0 6 rfl) rfl 0 rfl ?_
    refine Q_getf (k := 68) (pc := 11) (DCa dc_Mod_readyBehind_0 7 rfl) cls_12 (Nat.le_of_ble_eq_true rfl) fl_12_437 rfl rfl rfl (fun v2 => ?_)
    refine V_aload_n (pc := 14) (DCa dc_Mod_readyBehind_0 8 rfl) rfl 0 rfl ?_
    refine Q_getf (k := 69) (pc := 15) (DCa dc_Mod_readyBehind_0 9 rfl) cls_12 (Nat.le_of_ble_eq_true rfl) fl_12_440 rfl rfl rfl (fun v3 => ?_)
    refine V_iload (pc := 18) (DCa dc_Mod_readyBehind_0 10 rfl) 4 rfl ?_
    refine Q_callv (ci := 12) (st := []) (pc := 20) (DCa dc_Mod_readyBehind_0 11 rfl) (sp_Mod_stepTo F _ _ _ _ _ _ _) ce_Mod_stepTo ml_12_443 rfl rfl ⟨Nat.le_of_ble_eq_true rfl, Nat.le_of_ble_eq_true rfl⟩ rfl (Nat.le_of_ble_eq_true rfl) (fun r4 h5 => ?_)
    exact V_ireturn (pc := 23) (DCa dc_Mod_readyBehind_0 12 rfl) rfl
  · refine V_aload_n (pc := 24) (DCa dc_Mod_readyBehind_0 13 rfl) rfl 0 rfl ?_
    refine Q_getf (k := 66) (pc := 25) (DCa dc_Mod_readyBehind_0 14 rfl) cls_12 (Nat.le_of_ble_eq_true rfl) fl_12_161 rfl rfl rfl (fun v6 => ?_)
    refine V_bipush (pc := 28) (DCa dc_Mod_readyBehind_0 15 rfl) (by decide) ?_
    refine V_iload_n (pc := 30) (DCa dc_Mod_readyBehind_0 16 rfl) rfl 2 rfl ?_
    refine V_imul (pc := 31) (DCa dc_Mod_readyBehind_0 17 rfl) ?_
    refine V_iload_n (pc := 32) (DCa dc_Mod_readyBehind_0 18 rfl) rfl 3 rfl ?_
    refine V_iadd (pc := 33) (DCa dc_Mod_readyBehind_0 19 rfl) ?_
    refine Q_iaload (pc := 34) (DCa dc_Mod_readyBehind_0 20 rfl) (fun v7 => ?_)
    refine V_istore (ls' := [(0, 2, l0), (1, 0, l1), (2, 0, l2), (3, 0, l3), (4, 0, l4), (5, 0, v7)]) (pc := 35) (DCa dc_Mod_readyBehind_0 21 rfl) (Nat.le_of_ble_eq_true rfl) rfl ?_
    refine V_iload (pc := 37) (DCa dc_Mod_readyBehind_0 22 rfl) 5 rfl ?_
    refine V_ldcw (v := 100000) (x := 100000) (pc := 39) (DCa dc_Mod_readyBehind_0 23 rfl) (tb8 177 rfl rfl) rfl ?_
    refine V_icmp_ne (tgt := 51) (pc := 42) (DCa dc_Mod_readyBehind_0 24 rfl) (by decide) (fun _ => ?_) (fun _ => ?_)
    · refine V_ldcw (v := 100000) (x := 100000) (pc := 45) (DCa dc_Mod_readyBehind_0 25 rfl) (tb8 177 rfl rfl) rfl ?_
      refine V_goto (tgt := 82) (pc := 48) (DCa dc_Mod_readyBehind_0 26 rfl) (by decide) ?_
      exact V_ireturn (pc := 82) (DCa dc_Mod_readyBehind_0 46 rfl) rfl
    · refine V_aload_n (pc := 51) (DCa dc_Mod_readyBehind_0 27 rfl) rfl 0 rfl ?_
      refine V_iload_n (pc := 52) (DCa dc_Mod_readyBehind_0 28 rfl) rfl 1 rfl ?_
      refine V_aload_n (pc := 53) (DCa dc_Mod_readyBehind_0 29 rfl) rfl 0 rfl ?_
      refine Q_getf (k := 55) (pc := 54) (DCa dc_Mod_readyBehind_0 30 rfl) cls_12 (Nat.le_of_ble_eq_true rfl) fl_12_131 rfl rfl rfl (fun v8 => ?_)
      refine V_aload_n (pc := 57) (DCa dc_Mod_readyBehind_0 31 rfl) rfl 0 rfl ?_
      refine Q_getf (k := 70) (pc := 58) (DCa dc_Mod_readyBehind_0 32 rfl) cls_12 (Nat.le_of_ble_eq_true rfl) fl_12_427 rfl rfl rfl (fun v9 => ?_)
      refine V_iload_n (pc := 61) (DCa dc_Mod_readyBehind_0 33 rfl) rfl 3 rfl ?_
      refine V_iadd (pc := 62) (DCa dc_Mod_readyBehind_0 34 rfl) ?_
      refine Q_iaload (pc := 63) (DCa dc_Mod_readyBehind_0 35 rfl) (fun v10 => ?_)
      refine V_aload_n (pc := 64) (DCa dc_Mod_readyBehind_0 36 rfl) rfl 0 rfl ?_
      refine Q_getf (k := 56) (pc := 65) (DCa dc_Mod_readyBehind_0 37 rfl) cls_12 (Nat.le_of_ble_eq_true rfl) fl_12_134 rfl rfl rfl (fun v11 => ?_)
      refine V_aload_n (pc := 68) (DCa dc_Mod_readyBehind_0 38 rfl) rfl 0 rfl ?_
      refine Q_getf (k := 70) (pc := 69) (DCa dc_Mod_readyBehind_0 39 rfl) cls_12 (Nat.le_of_ble_eq_true rfl) fl_12_427 rfl rfl rfl (fun v12 => ?_)
      refine V_iload_n (pc := 72) (DCa dc_Mod_readyBehind_0 40 rfl) rfl 3 rfl ?_
      refine V_iadd (pc := 73) (DCa dc_Mod_readyBehind_0 41 rfl) ?_
      refine Q_iaload (pc := 74) (DCa dc_Mod_readyBehind_0 42 rfl) (fun v13 => ?_)
      refine V_iload (pc := 75) (DCa dc_Mod_readyBehind_0 43 rfl) 5 rfl ?_
      refine V_iload (pc := 77) (DCa dc_Mod_readyBehind_0 44 rfl) 4 rfl ?_
      refine Q_callv (ci := 12) (st := []) (pc := 79) (DCa dc_Mod_readyBehind_0 45 rfl) (sp_Mod_stepTo F _ _ _ _ _ _ _) ce_Mod_stepTo ml_12_443 rfl rfl ⟨Nat.le_of_ble_eq_true rfl, Nat.le_of_ble_eq_true rfl⟩ rfl (Nat.le_of_ble_eq_true rfl) (fun r14 h15 => ?_)
      exact V_ireturn (pc := 82) (DCa dc_Mod_readyBehind_0 46 rfl) rfl
theorem sp_Mod_readyBehind (F : Nat) (l0 l1 l2 l3 l4 : Int) (h : Hp) : Sp yX12_readyBehind cX12_readyBehind 6 (some (.int)) 4 95 [(2, l0), (0, l1), (0, l2), (0, l3), (0, l4)] h (Mod_readyBehind F l0 l1 l2 l3 l4 h) := Sp_of (by decide +kernel) rfl rfl (Nat.le_of_ble_eq_true rfl) (v_Mod_readyBehind F l0 l1 l2 l3 l4 h)

-- TideRakesModel.fillsRows
def Mod_fillsRows_B135 (F : Nat) (R2 : Int → Int → Int → Int → Hp → Option (Int × Hp)) (R31 : Int → Int → Int → Int → Int → Hp → Option (Int × Hp)) (l0 l1 l2 l3 l4 l6 : Int) (h : Hp) : Option (Int × Hp) :=
  gf h l0 112 66 fun v9 =>
  as h v9 0 (w32 ((w32 (8 * l3)) + l4)) l6 fun h10 =>
  R31 l0 l1 l2 l3 (w32 (l4 + 1)) h10
def Mod_fillsRows_L85s (F : Nat) (R2 : Int → Int → Int → Int → Hp → Option (Int × Hp)) (R31 : Int → Int → Int → Int → Int → Hp → Option (Int × Hp)) (R85 : Int → Int → Int → Int → Int → Int → Int → Int → Hp → Option (Int × Hp)) (l0 l1 l2 l3 l4 l5 l6 l7 : Int) (h : Hp) : Option (Int × Hp) :=
  if l7 < 8 then
    (if (iand (ishr l5 l7) 1) = 0 then
      (R85 l0 l1 l2 l3 l4 l5 l6 (w32 (l7 + 1)) h)
    else
      (iv h l0 112 (Mod_readyBehind F l0 l1 l5 l7 l4 h) fun r7 h8 =>
      if r7 < l6 then
        (R85 l0 l1 l2 l3 l4 l5 r7 (w32 (l7 + 1)) h8)
      else
        (R85 l0 l1 l2 l3 l4 l5 l6 (w32 (l7 + 1)) h8)))
  else
    (Mod_fillsRows_B135 F R2 R31 l0 l1 l2 l3 l4 l6 h)
def Mod_fillsRows_L85 (F : Nat) (R2 : Int → Int → Int → Int → Hp → Option (Int × Hp)) (R31 : Int → Int → Int → Int → Int → Hp → Option (Int × Hp)) : Nat → Int → Int → Int → Int → Int → Int → Int → Int → Hp → Option (Int × Hp)
  | 0 => fun _ _ _ _ _ _ _ _ _ => none
  | n + 1 => Mod_fillsRows_L85s F R2 R31 (Mod_fillsRows_L85 F R2 R31 n)
def Mod_fillsRows_L31s (F : Nat) (R2 : Int → Int → Int → Int → Hp → Option (Int × Hp)) (R31 : Int → Int → Int → Int → Int → Hp → Option (Int × Hp)) (l0 l1 l2 l3 l4 : Int) (h : Hp) : Option (Int × Hp) :=
  if l4 < 8 then
    (if (iand (ishr l3 l4) 1) = 0 then
      (R31 l0 l1 l2 l3 (w32 (l4 + 1)) h)
    else
      (lt (iand l3 (ixor (ishl 1 l4) (-1))) fun x4 =>
      if x4 = 0 then
        (iv h l0 112 (Mod_readyBehind F l0 l1 0 (-1) l4 h) fun r5 h6 =>
        Mod_fillsRows_L85 F R2 R31 F l0 l1 l2 l3 l4 x4 r5 0 h6)
      else
        (Mod_fillsRows_L85 F R2 R31 F l0 l1 l2 l3 l4 x4 100000 0 h)))
  else
    (R2 l0 l1 l2 (w32 (l3 + 1)) h)
def Mod_fillsRows_L31 (F : Nat) (R2 : Int → Int → Int → Int → Hp → Option (Int × Hp)) : Nat → Int → Int → Int → Int → Int → Hp → Option (Int × Hp)
  | 0 => fun _ _ _ _ _ _ => none
  | n + 1 => Mod_fillsRows_L31s F R2 (Mod_fillsRows_L31 F R2 n)
def Mod_fillsRows_L2s (F : Nat)  (R2 : Int → Int → Int → Int → Hp → Option (Int × Hp)) (l0 l1 l2 l3 : Int) (h : Hp) : Option (Int × Hp) :=
  gf h l0 112 22 fun v1 =>
  gf h l0 112 18 fun v2 =>
  al h v1 0 v2 fun v3 =>
  if l3 < (ishl 1 v3) then
    (if (iand l3 (ixor l2 (-1))) = 0 then
      (Mod_fillsRows_L31 F R2 F l0 l1 l2 l3 0 h)
    else
      (R2 l0 l1 l2 (w32 (l3 + 1)) h))
  else
    (some (0, h))
def Mod_fillsRows_L2 (F : Nat)  : Nat → Int → Int → Int → Int → Hp → Option (Int × Hp)
  | 0 => fun _ _ _ _ _ => none
  | n + 1 => Mod_fillsRows_L2s F  (Mod_fillsRows_L2 F  n)
def Mod_fillsRows (F : Nat) (l0 l1 l2 : Int) (h : Hp) : Option (Int × Hp) :=
  Mod_fillsRows_L2 F F l0 l1 l2 1 h

theorem dc_Mod_fillsRows_0 : ∀ q ∈ ([(0, .iconst 1, 1), (1, .istore_n 3, 1), (2, .iload_n 3, 1), (3, .iconst 1, 1), (4, .aload_n 0, 1), (5, .getfield 43, 3), (8, .aload_n 0, 1), (9, .getfield 281, 3), (12, .iaload, 1), (13, .ishl, 1), (14, .if_icmp .ge 147, 3), (17, .iload_n 3, 1), (18, .iload_n 2, 1), (19, .iconst (-1), 1), (20, .ixor, 1), (21, .iand, 1), (22, .ifCond .eq 6, 3), (25, .goto 130, 3), (28, .iconst 0, 1), (29, .istore 4, 2), (31, .iload 4, 2), (33, .bipush 8, 2), (35, .if_icmp .ge 120, 3), (38, .iload_n 3, 1), (39, .iload 4, 2), (41, .ishr, 1), (42, .iconst 1, 1), (43, .iand, 1), (44, .ifCond .ne 6, 3), (47, .goto 102, 3), (50, .iload_n 3, 1), (51, .iconst 1, 1), (52, .iload 4, 2), (54, .ishl, 1), (55, .iconst (-1), 1), (56, .ixor, 1), (57, .iand, 1), (58, .istore 5, 2), (60, .iload 5, 2), (62, .ifCond .ne 15, 3), (65, .aload_n 0, 1), (66, .iload_n 1, 1), (67, .iconst 0, 1), (68, .iconst (-1), 1), (69, .iload 4, 2), (71, .invokevirtual 446, 3), (74, .goto 6, 3), (77, .ldc_w 433, 3), (80, .istore 6, 2), (82, .iconst 0, 1)] : List (Nat × Instr × Nat)), decode cX12_fillsRows q.1 = .ok (q.2.1, q.2.2) := by decide +kernel
theorem dc_Mod_fillsRows_1 : ∀ q ∈ ([(83, .istore 7, 2), (85, .iload 7, 2), (87, .bipush 8, 2), (89, .if_icmp .ge 46, 3), (92, .iload 5, 2), (94, .iload 7, 2), (96, .ishr, 1), (97, .iconst 1, 1), (98, .iand, 1), (99, .ifCond .ne 6, 3), (102, .goto 27, 3), (105, .aload_n 0, 1), (106, .iload_n 1, 1), (107, .iload 5, 2), (109, .iload 7, 2), (111, .iload 4, 2), (113, .invokevirtual 446, 3), (116, .istore 8, 2), (118, .iload 8, 2), (120, .iload 6, 2), (122, .if_icmp .ge 7, 3), (125, .iload 8, 2), (127, .istore 6, 2), (129, .iinc 7 1, 3), (132, .goto (-47), 3), (135, .aload_n 0, 1), (136, .getfield 161, 3), (139, .bipush 8, 2), (141, .iload_n 3, 1), (142, .imul, 1), (143, .iload 4, 2), (145, .iadd, 1), (146, .iload 6, 2), (148, .iastore, 1), (149, .iinc 4 1, 3), (152, .goto (-121), 3), (155, .iinc 3 1, 3), (158, .goto (-156), 3), (161, .return_, 1)] : List (Nat × Instr × Nat)), decode cX12_fillsRows q.1 = .ok (q.2.1, q.2.2) := by decide +kernel
abbrev X_Mod_fillsRows : MX := (cX12_fillsRows, RX12, "fillsRows", 9, none, 5, 120)
theorem v_Mod_fillsRows_B135 (F : Nat) (R2 : Int → Int → Int → Int → Hp → Option (Int × Hp)) (hR2 : ∀ (l0 l1 l2 l3 : Int) (h : Hp), V X_Mod_fillsRows 2 [(0, 2, l0), (1, 0, l1), (2, 0, l2), (3, 0, l3)] [] h (R2 l0 l1 l2 l3 h)) (R31 : Int → Int → Int → Int → Int → Hp → Option (Int × Hp)) (hR31 : ∀ (l0 l1 l2 l3 l4 : Int) (h : Hp), V X_Mod_fillsRows 31 [(0, 2, l0), (1, 0, l1), (2, 0, l2), (3, 0, l3), (4, 0, l4)] [] h (R31 l0 l1 l2 l3 l4 h)) (l0 l1 l2 l3 l4 l6 : Int) (h : Hp) : V X_Mod_fillsRows 135 [(0, 2, l0), (1, 0, l1), (2, 0, l2), (3, 0, l3), (4, 0, l4), (6, 0, l6)] [] h (Mod_fillsRows_B135 F R2 R31 l0 l1 l2 l3 l4 l6 h) := by
  unfold Mod_fillsRows_B135
  refine V_aload_n (pc := 135) (DCa dc_Mod_fillsRows_1 25 rfl) rfl 0 rfl ?_
  refine Q_getf (k := 66) (pc := 136) (DCa dc_Mod_fillsRows_1 26 rfl) cls_12 (Nat.le_of_ble_eq_true rfl) fl_12_161 rfl rfl rfl (fun v9 => ?_)
  refine V_bipush (pc := 139) (DCa dc_Mod_fillsRows_1 27 rfl) (by decide) ?_
  refine V_iload_n (pc := 141) (DCa dc_Mod_fillsRows_1 28 rfl) rfl 3 rfl ?_
  refine V_imul (pc := 142) (DCa dc_Mod_fillsRows_1 29 rfl) ?_
  refine V_iload (pc := 143) (DCa dc_Mod_fillsRows_1 30 rfl) 4 rfl ?_
  refine V_iadd (pc := 145) (DCa dc_Mod_fillsRows_1 31 rfl) ?_
  refine V_iload (pc := 146) (DCa dc_Mod_fillsRows_1 32 rfl) 5 rfl ?_
  refine Q_iastore (pc := 148) (DCa dc_Mod_fillsRows_1 33 rfl) (fun h10 => ?_)
  refine V_iinc (ls' := [(0, 2, l0), (1, 0, l1), (2, 0, l2), (3, 0, l3), (4, 0, w32 (l4 + 1)), (6, 0, l6)]) (pc := 149) (DCa dc_Mod_fillsRows_1 34 rfl) (Nat.le_of_ble_eq_true rfl) (by decide) 4 rfl rfl ?_
  refine V_goto (tgt := 31) (pc := 152) (DCa dc_Mod_fillsRows_1 35 rfl) (by decide) ?_
  refine V_pick [0, 1, 2, 3, 4] rfl ?_
  exact hR31 _ _ _ _ _ _
theorem v_Mod_fillsRows_L85s (F : Nat) (R2 : Int → Int → Int → Int → Hp → Option (Int × Hp)) (hR2 : ∀ (l0 l1 l2 l3 : Int) (h : Hp), V X_Mod_fillsRows 2 [(0, 2, l0), (1, 0, l1), (2, 0, l2), (3, 0, l3)] [] h (R2 l0 l1 l2 l3 h)) (R31 : Int → Int → Int → Int → Int → Hp → Option (Int × Hp)) (hR31 : ∀ (l0 l1 l2 l3 l4 : Int) (h : Hp), V X_Mod_fillsRows 31 [(0, 2, l0), (1, 0, l1), (2, 0, l2), (3, 0, l3), (4, 0, l4)] [] h (R31 l0 l1 l2 l3 l4 h)) (R85 : Int → Int → Int → Int → Int → Int → Int → Int → Hp → Option (Int × Hp)) (hR85 : ∀ (l0 l1 l2 l3 l4 l5 l6 l7 : Int) (h : Hp), V X_Mod_fillsRows 85 [(0, 2, l0), (1, 0, l1), (2, 0, l2), (3, 0, l3), (4, 0, l4), (5, 0, l5), (6, 0, l6), (7, 0, l7)] [] h (R85 l0 l1 l2 l3 l4 l5 l6 l7 h)) (l0 l1 l2 l3 l4 l5 l6 l7 : Int) (h : Hp) : V X_Mod_fillsRows 85 [(0, 2, l0), (1, 0, l1), (2, 0, l2), (3, 0, l3), (4, 0, l4), (5, 0, l5), (6, 0, l6), (7, 0, l7)] [] h (Mod_fillsRows_L85s F R2 R31 R85 l0 l1 l2 l3 l4 l5 l6 l7 h) := by
  unfold Mod_fillsRows_L85s
  refine V_iload (pc := 85) (DCa dc_Mod_fillsRows_1 1 rfl) 7 rfl ?_
  refine V_bipush (pc := 87) (DCa dc_Mod_fillsRows_1 2 rfl) (by decide) ?_
  refine V_icmp_ge (tgt := 135) (pc := 89) (DCa dc_Mod_fillsRows_1 3 rfl) (by decide) (fun _ => ?_) (fun _ => ?_)
  · refine V_iload (pc := 92) (DCa dc_Mod_fillsRows_1 4 rfl) 5 rfl ?_
    refine V_iload (pc := 94) (DCa dc_Mod_fillsRows_1 5 rfl) 7 rfl ?_
    refine V_ishr (pc := 96) (DCa dc_Mod_fillsRows_1 6 rfl) ?_
    refine V_iconst (pc := 97) (DCa dc_Mod_fillsRows_1 7 rfl) (by decide) ?_
    refine V_iand (pc := 98) (DCa dc_Mod_fillsRows_1 8 rfl) ?_
    refine V_if_ne (tgt := 105) (pc := 99) (DCa dc_Mod_fillsRows_1 9 rfl) (by decide) (fun _ => ?_) (fun _ => ?_)
    · refine V_goto (tgt := 129) (pc := 102) (DCa dc_Mod_fillsRows_1 10 rfl) (by decide) ?_
      refine V_iinc (ls' := [(0, 2, l0), (1, 0, l1), (2, 0, l2), (3, 0, l3), (4, 0, l4), (5, 0, l5), (6, 0, l6), (7, 0, w32 (l7 + 1))]) (pc := 129) (DCa dc_Mod_fillsRows_1 23 rfl) (Nat.le_of_ble_eq_true rfl) (by decide) 7 rfl rfl ?_
      refine V_goto (tgt := 85) (pc := 132) (DCa dc_Mod_fillsRows_1 24 rfl) (by decide) ?_
      exact hR85 _ _ _ _ _ _ _ _ _
    · refine V_aload_n (pc := 105) (DCa dc_Mod_fillsRows_1 11 rfl) rfl 0 rfl ?_
      refine V_iload_n (pc := 106) (DCa dc_Mod_fillsRows_1 12 rfl) rfl 1 rfl ?_
      refine V_iload (pc := 107) (DCa dc_Mod_fillsRows_1 13 rfl) 5 rfl ?_
      refine V_iload (pc := 109) (DCa dc_Mod_fillsRows_1 14 rfl) 7 rfl ?_
      refine V_iload (pc := 111) (DCa dc_Mod_fillsRows_1 15 rfl) 4 rfl ?_
      refine Q_callv (ci := 12) (st := []) (pc := 113) (DCa dc_Mod_fillsRows_1 16 rfl) (sp_Mod_readyBehind F _ _ _ _ _ _) ce_Mod_readyBehind ml_12_446 rfl rfl ⟨Nat.le_of_ble_eq_true rfl, Nat.le_of_ble_eq_true rfl⟩ rfl (Nat.le_of_ble_eq_true rfl) (fun r7 h8 => ?_)
      refine V_istore (ls' := [(0, 2, l0), (1, 0, l1), (2, 0, l2), (3, 0, l3), (4, 0, l4), (5, 0, l5), (6, 0, l6), (7, 0, l7), (8, 0, r7)]) (pc := 116) (DCa dc_Mod_fillsRows_1 17 rfl) (Nat.le_of_ble_eq_true rfl) rfl ?_
      refine V_iload (pc := 118) (DCa dc_Mod_fillsRows_1 18 rfl) 8 rfl ?_
      refine V_iload (pc := 120) (DCa dc_Mod_fillsRows_1 19 rfl) 6 rfl ?_
      refine V_icmp_ge (tgt := 129) (pc := 122) (DCa dc_Mod_fillsRows_1 20 rfl) (by decide) (fun _ => ?_) (fun _ => ?_)
      · refine V_iload (pc := 125) (DCa dc_Mod_fillsRows_1 21 rfl) 8 rfl ?_
        refine V_istore (ls' := [(0, 2, l0), (1, 0, l1), (2, 0, l2), (3, 0, l3), (4, 0, l4), (5, 0, l5), (6, 0, r7), (7, 0, l7), (8, 0, r7)]) (pc := 127) (DCa dc_Mod_fillsRows_1 22 rfl) (Nat.le_of_ble_eq_true rfl) rfl ?_
        refine V_iinc (ls' := [(0, 2, l0), (1, 0, l1), (2, 0, l2), (3, 0, l3), (4, 0, l4), (5, 0, l5), (6, 0, r7), (7, 0, w32 (l7 + 1)), (8, 0, r7)]) (pc := 129) (DCa dc_Mod_fillsRows_1 23 rfl) (Nat.le_of_ble_eq_true rfl) (by decide) 7 rfl rfl ?_
        refine V_goto (tgt := 85) (pc := 132) (DCa dc_Mod_fillsRows_1 24 rfl) (by decide) ?_
        refine V_pick [0, 1, 2, 3, 4, 5, 6, 7] rfl ?_
        exact hR85 _ _ _ _ _ _ _ _ _
      · refine V_iinc (ls' := [(0, 2, l0), (1, 0, l1), (2, 0, l2), (3, 0, l3), (4, 0, l4), (5, 0, l5), (6, 0, l6), (7, 0, w32 (l7 + 1)), (8, 0, r7)]) (pc := 129) (DCa dc_Mod_fillsRows_1 23 rfl) (Nat.le_of_ble_eq_true rfl) (by decide) 7 rfl rfl ?_
        refine V_goto (tgt := 85) (pc := 132) (DCa dc_Mod_fillsRows_1 24 rfl) (by decide) ?_
        refine V_pick [0, 1, 2, 3, 4, 5, 6, 7] rfl ?_
        exact hR85 _ _ _ _ _ _ _ _ _
  · refine V_pick [0, 1, 2, 3, 4, 6] rfl ?_
    exact v_Mod_fillsRows_B135 F R2 hR2 R31 hR31 _ _ _ _ _ _ _
theorem v_Mod_fillsRows_L85 (F : Nat) (R2 : Int → Int → Int → Int → Hp → Option (Int × Hp)) (hR2 : ∀ (l0 l1 l2 l3 : Int) (h : Hp), V X_Mod_fillsRows 2 [(0, 2, l0), (1, 0, l1), (2, 0, l2), (3, 0, l3)] [] h (R2 l0 l1 l2 l3 h)) (R31 : Int → Int → Int → Int → Int → Hp → Option (Int × Hp)) (hR31 : ∀ (l0 l1 l2 l3 l4 : Int) (h : Hp), V X_Mod_fillsRows 31 [(0, 2, l0), (1, 0, l1), (2, 0, l2), (3, 0, l3), (4, 0, l4)] [] h (R31 l0 l1 l2 l3 l4 h)) (n : Nat) : ∀ (l0 l1 l2 l3 l4 l5 l6 l7 : Int) (h : Hp), V X_Mod_fillsRows 85 [(0, 2, l0), (1, 0, l1), (2, 0, l2), (3, 0, l3), (4, 0, l4), (5, 0, l5), (6, 0, l6), (7, 0, l7)] [] h (Mod_fillsRows_L85 F R2 R31 n l0 l1 l2 l3 l4 l5 l6 l7 h) := by
  induction n with
  | zero => intros; exact V_none
  | succ n ih => exact fun l0 l1 l2 l3 l4 l5 l6 l7 h => v_Mod_fillsRows_L85s F R2 hR2 R31 hR31 _ ih l0 l1 l2 l3 l4 l5 l6 l7 h
theorem v_Mod_fillsRows_L31s (F : Nat) (R2 : Int → Int → Int → Int → Hp → Option (Int × Hp)) (hR2 : ∀ (l0 l1 l2 l3 : Int) (h : Hp), V X_Mod_fillsRows 2 [(0, 2, l0), (1, 0, l1), (2, 0, l2), (3, 0, l3)] [] h (R2 l0 l1 l2 l3 h)) (R31 : Int → Int → Int → Int → Int → Hp → Option (Int × Hp)) (hR31 : ∀ (l0 l1 l2 l3 l4 : Int) (h : Hp), V X_Mod_fillsRows 31 [(0, 2, l0), (1, 0, l1), (2, 0, l2), (3, 0, l3), (4, 0, l4)] [] h (R31 l0 l1 l2 l3 l4 h)) (l0 l1 l2 l3 l4 : Int) (h : Hp) : V X_Mod_fillsRows 31 [(0, 2, l0), (1, 0, l1), (2, 0, l2), (3, 0, l3), (4, 0, l4)] [] h (Mod_fillsRows_L31s F R2 R31 l0 l1 l2 l3 l4 h) := by
  unfold Mod_fillsRows_L31s
  refine V_iload (pc := 31) (DCa dc_Mod_fillsRows_0 20 rfl) 4 rfl ?_
  refine V_bipush (pc := 33) (DCa dc_Mod_fillsRows_0 21 rfl) (by decide) ?_
  refine V_icmp_ge (tgt := 155) (pc := 35) (DCa dc_Mod_fillsRows_0 22 rfl) (by decide) (fun _ => ?_) (fun _ => ?_)
  · refine V_iload_n (pc := 38) (DCa dc_Mod_fillsRows_0 23 rfl) rfl 3 rfl ?_
    refine V_iload (pc := 39) (DCa dc_Mod_fillsRows_0 24 rfl) 4 rfl ?_
    refine V_ishr (pc := 41) (DCa dc_Mod_fillsRows_0 25 rfl) ?_
    refine V_iconst (pc := 42) (DCa dc_Mod_fillsRows_0 26 rfl) (by decide) ?_
    refine V_iand (pc := 43) (DCa dc_Mod_fillsRows_0 27 rfl) ?_
    refine V_if_ne (tgt := 50) (pc := 44) (DCa dc_Mod_fillsRows_0 28 rfl) (by decide) (fun _ => ?_) (fun _ => ?_)
    · refine V_goto (tgt := 149) (pc := 47) (DCa dc_Mod_fillsRows_0 29 rfl) (by decide) ?_
      refine V_iinc (ls' := [(0, 2, l0), (1, 0, l1), (2, 0, l2), (3, 0, l3), (4, 0, w32 (l4 + 1))]) (pc := 149) (DCa dc_Mod_fillsRows_1 34 rfl) (Nat.le_of_ble_eq_true rfl) (by decide) 4 rfl rfl ?_
      refine V_goto (tgt := 31) (pc := 152) (DCa dc_Mod_fillsRows_1 35 rfl) (by decide) ?_
      exact hR31 _ _ _ _ _ _
    · refine V_iload_n (pc := 50) (DCa dc_Mod_fillsRows_0 30 rfl) rfl 3 rfl ?_
      refine V_iconst (pc := 51) (DCa dc_Mod_fillsRows_0 31 rfl) (by decide) ?_
      refine V_iload (pc := 52) (DCa dc_Mod_fillsRows_0 32 rfl) 4 rfl ?_
      refine V_ishl (pc := 54) (DCa dc_Mod_fillsRows_0 33 rfl) ?_
      refine V_iconst (pc := 55) (DCa dc_Mod_fillsRows_0 34 rfl) (by decide) ?_
      refine V_ixor (pc := 56) (DCa dc_Mod_fillsRows_0 35 rfl) ?_
      refine V_iand (pc := 57) (DCa dc_Mod_fillsRows_0 36 rfl) ?_
      refine Q_lt (fun x4 => ?_)
      refine V_istore (ls' := [(0, 2, l0), (1, 0, l1), (2, 0, l2), (3, 0, l3), (4, 0, l4), (5, 0, x4)]) (pc := 58) (DCa dc_Mod_fillsRows_0 37 rfl) (Nat.le_of_ble_eq_true rfl) rfl ?_
      refine V_iload (pc := 60) (DCa dc_Mod_fillsRows_0 38 rfl) 5 rfl ?_
      refine V_if_ne (tgt := 77) (pc := 62) (DCa dc_Mod_fillsRows_0 39 rfl) (by decide) (fun _ => ?_) (fun _ => ?_)
      · refine V_aload_n (pc := 65) (DCa dc_Mod_fillsRows_0 40 rfl) rfl 0 rfl ?_
        refine V_iload_n (pc := 66) (DCa dc_Mod_fillsRows_0 41 rfl) rfl 1 rfl ?_
        refine V_iconst (pc := 67) (DCa dc_Mod_fillsRows_0 42 rfl) (by decide) ?_
        refine V_iconst (pc := 68) (DCa dc_Mod_fillsRows_0 43 rfl) (by decide) ?_
        refine V_iload (pc := 69) (DCa dc_Mod_fillsRows_0 44 rfl) 4 rfl ?_
        refine Q_callv (ci := 12) (st := []) (pc := 71) (DCa dc_Mod_fillsRows_0 45 rfl) (sp_Mod_readyBehind F _ _ _ _ _ _) ce_Mod_readyBehind ml_12_446 rfl rfl ⟨Nat.le_of_ble_eq_true rfl, Nat.le_of_ble_eq_true rfl⟩ rfl (Nat.le_of_ble_eq_true rfl) (fun r5 h6 => ?_)
        refine V_goto (tgt := 80) (pc := 74) (DCa dc_Mod_fillsRows_0 46 rfl) (by decide) ?_
        refine V_istore (ls' := [(0, 2, l0), (1, 0, l1), (2, 0, l2), (3, 0, l3), (4, 0, l4), (5, 0, x4), (6, 0, r5)]) (pc := 80) (DCa dc_Mod_fillsRows_0 48 rfl) (Nat.le_of_ble_eq_true rfl) rfl ?_
        refine V_iconst (pc := 82) (DCa dc_Mod_fillsRows_0 49 rfl) (by decide) ?_
        refine V_istore (ls' := [(0, 2, l0), (1, 0, l1), (2, 0, l2), (3, 0, l3), (4, 0, l4), (5, 0, x4), (6, 0, r5), (7, 0, 0)]) (pc := 83) (DCa dc_Mod_fillsRows_1 0 rfl) (Nat.le_of_ble_eq_true rfl) rfl ?_
        exact v_Mod_fillsRows_L85 F R2 hR2 R31 hR31 F _ _ _ _ _ _ _ _ _
      · refine V_ldcw (v := 100000) (x := 100000) (pc := 77) (DCa dc_Mod_fillsRows_0 47 rfl) (tb8 177 rfl rfl) rfl ?_
        refine V_istore (ls' := [(0, 2, l0), (1, 0, l1), (2, 0, l2), (3, 0, l3), (4, 0, l4), (5, 0, x4), (6, 0, 100000)]) (pc := 80) (DCa dc_Mod_fillsRows_0 48 rfl) (Nat.le_of_ble_eq_true rfl) rfl ?_
        refine V_iconst (pc := 82) (DCa dc_Mod_fillsRows_0 49 rfl) (by decide) ?_
        refine V_istore (ls' := [(0, 2, l0), (1, 0, l1), (2, 0, l2), (3, 0, l3), (4, 0, l4), (5, 0, x4), (6, 0, 100000), (7, 0, 0)]) (pc := 83) (DCa dc_Mod_fillsRows_1 0 rfl) (Nat.le_of_ble_eq_true rfl) rfl ?_
        exact v_Mod_fillsRows_L85 F R2 hR2 R31 hR31 F _ _ _ _ _ _ _ _ _
  · refine V_iinc (ls' := [(0, 2, l0), (1, 0, l1), (2, 0, l2), (3, 0, w32 (l3 + 1)), (4, 0, l4)]) (pc := 155) (DCa dc_Mod_fillsRows_1 36 rfl) (Nat.le_of_ble_eq_true rfl) (by decide) 3 rfl rfl ?_
    refine V_goto (tgt := 2) (pc := 158) (DCa dc_Mod_fillsRows_1 37 rfl) (by decide) ?_
    refine V_pick [0, 1, 2, 3] rfl ?_
    exact hR2 _ _ _ _ _
theorem v_Mod_fillsRows_L31 (F : Nat) (R2 : Int → Int → Int → Int → Hp → Option (Int × Hp)) (hR2 : ∀ (l0 l1 l2 l3 : Int) (h : Hp), V X_Mod_fillsRows 2 [(0, 2, l0), (1, 0, l1), (2, 0, l2), (3, 0, l3)] [] h (R2 l0 l1 l2 l3 h)) (n : Nat) : ∀ (l0 l1 l2 l3 l4 : Int) (h : Hp), V X_Mod_fillsRows 31 [(0, 2, l0), (1, 0, l1), (2, 0, l2), (3, 0, l3), (4, 0, l4)] [] h (Mod_fillsRows_L31 F R2 n l0 l1 l2 l3 l4 h) := by
  induction n with
  | zero => intros; exact V_none
  | succ n ih => exact fun l0 l1 l2 l3 l4 h => v_Mod_fillsRows_L31s F R2 hR2 _ ih l0 l1 l2 l3 l4 h
theorem v_Mod_fillsRows_L2s (F : Nat)  (R2 : Int → Int → Int → Int → Hp → Option (Int × Hp)) (hR2 : ∀ (l0 l1 l2 l3 : Int) (h : Hp), V X_Mod_fillsRows 2 [(0, 2, l0), (1, 0, l1), (2, 0, l2), (3, 0, l3)] [] h (R2 l0 l1 l2 l3 h)) (l0 l1 l2 l3 : Int) (h : Hp) : V X_Mod_fillsRows 2 [(0, 2, l0), (1, 0, l1), (2, 0, l2), (3, 0, l3)] [] h (Mod_fillsRows_L2s F  R2 l0 l1 l2 l3 h) := by
  unfold Mod_fillsRows_L2s
  refine V_iload_n (pc := 2) (DCa dc_Mod_fillsRows_0 2 rfl) rfl 3 rfl ?_
  refine V_iconst (pc := 3) (DCa dc_Mod_fillsRows_0 3 rfl) (by decide) ?_
  refine V_aload_n (pc := 4) (DCa dc_Mod_fillsRows_0 4 rfl) rfl 0 rfl ?_
  refine Q_getf (k := 22) (pc := 5) (DCa dc_Mod_fillsRows_0 5 rfl) cls_12 (Nat.le_of_ble_eq_true rfl) fl_12_43 rfl rfl rfl (fun v1 => ?_)
  refine V_aload_n (pc := 8) (DCa dc_Mod_fillsRows_0 6 rfl) rfl 0 rfl ?_
  refine Q_getf (k := 18) (pc := 9) (DCa dc_Mod_fillsRows_0 7 rfl) cls_12 (Nat.le_of_ble_eq_true rfl) fl_12_281 rfl rfl rfl (fun v2 => ?_)
  refine Q_iaload (pc := 12) (DCa dc_Mod_fillsRows_0 8 rfl) (fun v3 => ?_)
  refine V_ishl (pc := 13) (DCa dc_Mod_fillsRows_0 9 rfl) ?_
  refine V_icmp_ge (tgt := 161) (pc := 14) (DCa dc_Mod_fillsRows_0 10 rfl) (by decide) (fun _ => ?_) (fun _ => ?_)
  · refine V_iload_n (pc := 17) (DCa dc_Mod_fillsRows_0 11 rfl) rfl 3 rfl ?_
    refine V_iload_n (pc := 18) (DCa dc_Mod_fillsRows_0 12 rfl) rfl 2 rfl ?_
    refine V_iconst (pc := 19) (DCa dc_Mod_fillsRows_0 13 rfl) (by decide) ?_
    refine V_ixor (pc := 20) (DCa dc_Mod_fillsRows_0 14 rfl) ?_
    refine V_iand (pc := 21) (DCa dc_Mod_fillsRows_0 15 rfl) ?_
    refine V_if_eq (tgt := 28) (pc := 22) (DCa dc_Mod_fillsRows_0 16 rfl) (by decide) (fun _ => ?_) (fun _ => ?_)
    · refine V_iconst (pc := 28) (DCa dc_Mod_fillsRows_0 18 rfl) (by decide) ?_
      refine V_istore (ls' := [(0, 2, l0), (1, 0, l1), (2, 0, l2), (3, 0, l3), (4, 0, 0)]) (pc := 29) (DCa dc_Mod_fillsRows_0 19 rfl) (Nat.le_of_ble_eq_true rfl) rfl ?_
      exact v_Mod_fillsRows_L31 F R2 hR2 F _ _ _ _ _ _
    · refine V_goto (tgt := 155) (pc := 25) (DCa dc_Mod_fillsRows_0 17 rfl) (by decide) ?_
      refine V_iinc (ls' := [(0, 2, l0), (1, 0, l1), (2, 0, l2), (3, 0, w32 (l3 + 1))]) (pc := 155) (DCa dc_Mod_fillsRows_1 36 rfl) (Nat.le_of_ble_eq_true rfl) (by decide) 3 rfl rfl ?_
      refine V_goto (tgt := 2) (pc := 158) (DCa dc_Mod_fillsRows_1 37 rfl) (by decide) ?_
      exact hR2 _ _ _ _ _
  · exact V_return (pc := 161) (DCa dc_Mod_fillsRows_1 38 rfl) rfl
theorem v_Mod_fillsRows_L2 (F : Nat)  (n : Nat) : ∀ (l0 l1 l2 l3 : Int) (h : Hp), V X_Mod_fillsRows 2 [(0, 2, l0), (1, 0, l1), (2, 0, l2), (3, 0, l3)] [] h (Mod_fillsRows_L2 F  n l0 l1 l2 l3 h) := by
  induction n with
  | zero => intros; exact V_none
  | succ n ih => exact fun l0 l1 l2 l3 h => v_Mod_fillsRows_L2s F  _ ih l0 l1 l2 l3 h
theorem v_Mod_fillsRows (F : Nat) (l0 l1 l2 : Int) (h : Hp) : V X_Mod_fillsRows 0 [(0, 2, l0), (1, 0, l1), (2, 0, l2)] [] h (Mod_fillsRows F l0 l1 l2 h) := by
  unfold Mod_fillsRows
  refine V_iconst (pc := 0) (DCa dc_Mod_fillsRows_0 0 rfl) (by decide) ?_
  refine V_istore_n (ls' := [(0, 2, l0), (1, 0, l1), (2, 0, l2), (3, 0, 1)]) (pc := 1) (DCa dc_Mod_fillsRows_0 1 rfl) rfl (Nat.le_of_ble_eq_true rfl) rfl ?_
  exact v_Mod_fillsRows_L2 F F _ _ _ _ _
theorem sp_Mod_fillsRows (F : Nat) (l0 l1 l2 : Int) (h : Hp) : Sp yX12_fillsRows cX12_fillsRows 9 none 5 120 [(2, l0), (0, l1), (0, l2)] h (Mod_fillsRows F l0 l1 l2 h) := Sp_of (by decide +kernel) rfl rfl (Nat.le_of_ble_eq_true rfl) (v_Mod_fillsRows F l0 l1 l2 h)

-- TideRakesModel.leastReady
def Mod_leastReady_L17s (F : Nat)  (R17 : Int → Int → Int → Int → Hp → Option (Int × Hp)) (l0 l1 l2 l3 : Int) (h : Hp) : Option (Int × Hp) :=
  if l3 < 8 then
    (if (iand (ishr l1 l3) 1) = 1 then
      (gf h l0 112 66 fun v2 =>
      al h v2 0 (w32 ((w32 (8 * l1)) + l3)) fun v3 =>
      if v3 < l2 then
        (gf h l0 112 66 fun v4 =>
        al h v4 0 (w32 ((w32 (8 * l1)) + l3)) fun v5 =>
        R17 l0 l1 v5 (w32 (l3 + 1)) h)
      else
        (R17 l0 l1 l2 (w32 (l3 + 1)) h))
    else
      (R17 l0 l1 l2 (w32 (l3 + 1)) h))
  else
    (some (l2, h))
def Mod_leastReady_L17 (F : Nat)  : Nat → Int → Int → Int → Int → Hp → Option (Int × Hp)
  | 0 => fun _ _ _ _ _ => none
  | n + 1 => Mod_leastReady_L17s F  (Mod_leastReady_L17 F  n)
def Mod_leastReady (F : Nat) (l0 l1 : Int) (h : Hp) : Option (Int × Hp) :=
  if l1 = 0 then
    (gf h l0 112 69 fun v1 =>
    Mod_leastReady_L17 F F l0 l1 v1 0 h)
  else
    (Mod_leastReady_L17 F F l0 l1 100000 0 h)

theorem dc_Mod_leastReady_0 : ∀ q ∈ ([(0, .iload_n 1, 1), (1, .ifCond .ne 10, 3), (4, .aload_n 0, 1), (5, .getfield 440, 3), (8, .goto 6, 3), (11, .ldc_w 433, 3), (14, .istore_n 2, 1), (15, .iconst 0, 1), (16, .istore_n 3, 1), (17, .iload_n 3, 1), (18, .bipush 8, 2), (20, .if_icmp .ge 45, 3), (23, .iload_n 1, 1), (24, .iload_n 3, 1), (25, .ishr, 1), (26, .iconst 1, 1), (27, .iand, 1), (28, .iconst 1, 1), (29, .if_icmp .ne 30, 3), (32, .aload_n 0, 1), (33, .getfield 161, 3), (36, .bipush 8, 2), (38, .iload_n 1, 1), (39, .imul, 1), (40, .iload_n 3, 1), (41, .iadd, 1), (42, .iaload, 1), (43, .iload_n 2, 1), (44, .if_icmp .ge 15, 3), (47, .aload_n 0, 1), (48, .getfield 161, 3), (51, .bipush 8, 2), (53, .iload_n 1, 1), (54, .imul, 1), (55, .iload_n 3, 1), (56, .iadd, 1), (57, .iaload, 1), (58, .istore_n 2, 1), (59, .iinc 3 1, 3), (62, .goto (-45), 3), (65, .iload_n 2, 1), (66, .ireturn, 1)] : List (Nat × Instr × Nat)), decode cX12_leastReady q.1 = .ok (q.2.1, q.2.2) := by decide +kernel
abbrev X_Mod_leastReady : MX := (cX12_leastReady, RX12, "leastReady", 4, (some (.int)), 1, 20)
theorem v_Mod_leastReady_L17s (F : Nat)  (R17 : Int → Int → Int → Int → Hp → Option (Int × Hp)) (hR17 : ∀ (l0 l1 l2 l3 : Int) (h : Hp), V X_Mod_leastReady 17 [(0, 2, l0), (1, 0, l1), (2, 0, l2), (3, 0, l3)] [] h (R17 l0 l1 l2 l3 h)) (l0 l1 l2 l3 : Int) (h : Hp) : V X_Mod_leastReady 17 [(0, 2, l0), (1, 0, l1), (2, 0, l2), (3, 0, l3)] [] h (Mod_leastReady_L17s F  R17 l0 l1 l2 l3 h) := by
  unfold Mod_leastReady_L17s
  refine V_iload_n (pc := 17) (DCa dc_Mod_leastReady_0 9 rfl) rfl 3 rfl ?_
  refine V_bipush (pc := 18) (DCa dc_Mod_leastReady_0 10 rfl) (by decide) ?_
  refine V_icmp_ge (tgt := 65) (pc := 20) (DCa dc_Mod_leastReady_0 11 rfl) (by decide) (fun _ => ?_) (fun _ => ?_)
  · refine V_iload_n (pc := 23) (DCa dc_Mod_leastReady_0 12 rfl) rfl 1 rfl ?_
    refine V_iload_n (pc := 24) (DCa dc_Mod_leastReady_0 13 rfl) rfl 3 rfl ?_
    refine V_ishr (pc := 25) (DCa dc_Mod_leastReady_0 14 rfl) ?_
    refine V_iconst (pc := 26) (DCa dc_Mod_leastReady_0 15 rfl) (by decide) ?_
    refine V_iand (pc := 27) (DCa dc_Mod_leastReady_0 16 rfl) ?_
    refine V_iconst (pc := 28) (DCa dc_Mod_leastReady_0 17 rfl) (by decide) ?_
    refine V_icmp_ne (tgt := 59) (pc := 29) (DCa dc_Mod_leastReady_0 18 rfl) (by decide) (fun _ => ?_) (fun _ => ?_)
    · refine V_aload_n (pc := 32) (DCa dc_Mod_leastReady_0 19 rfl) rfl 0 rfl ?_
      refine Q_getf (k := 66) (pc := 33) (DCa dc_Mod_leastReady_0 20 rfl) cls_12 (Nat.le_of_ble_eq_true rfl) fl_12_161 rfl rfl rfl (fun v2 => ?_)
      refine V_bipush (pc := 36) (DCa dc_Mod_leastReady_0 21 rfl) (by decide) ?_
      refine V_iload_n (pc := 38) (DCa dc_Mod_leastReady_0 22 rfl) rfl 1 rfl ?_
      refine V_imul (pc := 39) (DCa dc_Mod_leastReady_0 23 rfl) ?_
      refine V_iload_n (pc := 40) (DCa dc_Mod_leastReady_0 24 rfl) rfl 3 rfl ?_
      refine V_iadd (pc := 41) (DCa dc_Mod_leastReady_0 25 rfl) ?_
      refine Q_iaload (pc := 42) (DCa dc_Mod_leastReady_0 26 rfl) (fun v3 => ?_)
      refine V_iload_n (pc := 43) (DCa dc_Mod_leastReady_0 27 rfl) rfl 2 rfl ?_
      refine V_icmp_ge (tgt := 59) (pc := 44) (DCa dc_Mod_leastReady_0 28 rfl) (by decide) (fun _ => ?_) (fun _ => ?_)
      · refine V_aload_n (pc := 47) (DCa dc_Mod_leastReady_0 29 rfl) rfl 0 rfl ?_
        refine Q_getf (k := 66) (pc := 48) (DCa dc_Mod_leastReady_0 30 rfl) cls_12 (Nat.le_of_ble_eq_true rfl) fl_12_161 rfl rfl rfl (fun v4 => ?_)
        refine V_bipush (pc := 51) (DCa dc_Mod_leastReady_0 31 rfl) (by decide) ?_
        refine V_iload_n (pc := 53) (DCa dc_Mod_leastReady_0 32 rfl) rfl 1 rfl ?_
        refine V_imul (pc := 54) (DCa dc_Mod_leastReady_0 33 rfl) ?_
        refine V_iload_n (pc := 55) (DCa dc_Mod_leastReady_0 34 rfl) rfl 3 rfl ?_
        refine V_iadd (pc := 56) (DCa dc_Mod_leastReady_0 35 rfl) ?_
        refine Q_iaload (pc := 57) (DCa dc_Mod_leastReady_0 36 rfl) (fun v5 => ?_)
        refine V_istore_n (ls' := [(0, 2, l0), (1, 0, l1), (2, 0, v5), (3, 0, l3)]) (pc := 58) (DCa dc_Mod_leastReady_0 37 rfl) rfl (Nat.le_of_ble_eq_true rfl) rfl ?_
        refine V_iinc (ls' := [(0, 2, l0), (1, 0, l1), (2, 0, v5), (3, 0, w32 (l3 + 1))]) (pc := 59) (DCa dc_Mod_leastReady_0 38 rfl) (Nat.le_of_ble_eq_true rfl) (by decide) 3 rfl rfl ?_
        refine V_goto (tgt := 17) (pc := 62) (DCa dc_Mod_leastReady_0 39 rfl) (by decide) ?_
        exact hR17 _ _ _ _ _
      · refine V_iinc (ls' := [(0, 2, l0), (1, 0, l1), (2, 0, l2), (3, 0, w32 (l3 + 1))]) (pc := 59) (DCa dc_Mod_leastReady_0 38 rfl) (Nat.le_of_ble_eq_true rfl) (by decide) 3 rfl rfl ?_
        refine V_goto (tgt := 17) (pc := 62) (DCa dc_Mod_leastReady_0 39 rfl) (by decide) ?_
        exact hR17 _ _ _ _ _
    · refine V_iinc (ls' := [(0, 2, l0), (1, 0, l1), (2, 0, l2), (3, 0, w32 (l3 + 1))]) (pc := 59) (DCa dc_Mod_leastReady_0 38 rfl) (Nat.le_of_ble_eq_true rfl) (by decide) 3 rfl rfl ?_
      refine V_goto (tgt := 17) (pc := 62) (DCa dc_Mod_leastReady_0 39 rfl) (by decide) ?_
      exact hR17 _ _ _ _ _
  · refine V_iload_n (pc := 65) (DCa dc_Mod_leastReady_0 40 rfl) rfl 2 rfl ?_
    exact V_ireturn (pc := 66) (DCa dc_Mod_leastReady_0 41 rfl) rfl
theorem v_Mod_leastReady_L17 (F : Nat)  (n : Nat) : ∀ (l0 l1 l2 l3 : Int) (h : Hp), V X_Mod_leastReady 17 [(0, 2, l0), (1, 0, l1), (2, 0, l2), (3, 0, l3)] [] h (Mod_leastReady_L17 F  n l0 l1 l2 l3 h) := by
  induction n with
  | zero => intros; exact V_none
  | succ n ih => exact fun l0 l1 l2 l3 h => v_Mod_leastReady_L17s F  _ ih l0 l1 l2 l3 h
theorem v_Mod_leastReady (F : Nat) (l0 l1 : Int) (h : Hp) : V X_Mod_leastReady 0 [(0, 2, l0), (1, 0, l1)] [] h (Mod_leastReady F l0 l1 h) := by
  unfold Mod_leastReady
  refine V_iload_n (pc := 0) (DCa dc_Mod_leastReady_0 0 rfl) rfl 1 rfl ?_
  refine V_if_ne (tgt := 11) (pc := 1) (DCa dc_Mod_leastReady_0 1 rfl) (by decide) (fun _ => ?_) (fun _ => ?_)
  · refine V_aload_n (pc := 4) (DCa dc_Mod_leastReady_0 2 rfl) rfl 0 rfl ?_
    refine Q_getf (k := 69) (pc := 5) (DCa dc_Mod_leastReady_0 3 rfl) cls_12 (Nat.le_of_ble_eq_true rfl) fl_12_440 rfl rfl rfl (fun v1 => ?_)
    refine V_goto (tgt := 14) (pc := 8) (DCa dc_Mod_leastReady_0 4 rfl) (by decide) ?_
    refine V_istore_n (ls' := [(0, 2, l0), (1, 0, l1), (2, 0, v1)]) (pc := 14) (DCa dc_Mod_leastReady_0 6 rfl) rfl (Nat.le_of_ble_eq_true rfl) rfl ?_
    refine V_iconst (pc := 15) (DCa dc_Mod_leastReady_0 7 rfl) (by decide) ?_
    refine V_istore_n (ls' := [(0, 2, l0), (1, 0, l1), (2, 0, v1), (3, 0, 0)]) (pc := 16) (DCa dc_Mod_leastReady_0 8 rfl) rfl (Nat.le_of_ble_eq_true rfl) rfl ?_
    exact v_Mod_leastReady_L17 F F _ _ _ _ _
  · refine V_ldcw (v := 100000) (x := 100000) (pc := 11) (DCa dc_Mod_leastReady_0 5 rfl) (tb8 177 rfl rfl) rfl ?_
    refine V_istore_n (ls' := [(0, 2, l0), (1, 0, l1), (2, 0, 100000)]) (pc := 14) (DCa dc_Mod_leastReady_0 6 rfl) rfl (Nat.le_of_ble_eq_true rfl) rfl ?_
    refine V_iconst (pc := 15) (DCa dc_Mod_leastReady_0 7 rfl) (by decide) ?_
    refine V_istore_n (ls' := [(0, 2, l0), (1, 0, l1), (2, 0, 100000), (3, 0, 0)]) (pc := 16) (DCa dc_Mod_leastReady_0 8 rfl) rfl (Nat.le_of_ble_eq_true rfl) rfl ?_
    exact v_Mod_leastReady_L17 F F _ _ _ _ _
theorem sp_Mod_leastReady (F : Nat) (l0 l1 : Int) (h : Hp) : Sp yX12_leastReady cX12_leastReady 4 (some (.int)) 1 20 [(2, l0), (0, l1)] h (Mod_leastReady F l0 l1 h) := Sp_of (by decide +kernel) rfl rfl (Nat.le_of_ble_eq_true rfl) (v_Mod_leastReady F l0 l1 h)

-- TideRakesModel.canBy
def Mod_canBy (F : Nat) (l0 l1 l2 : Int) (h : Hp) : Option (Int × Hp) :=
  if l1 = 0 then
    (rz 1 h)
  else
    (iv h l0 112 (Mod_leastReady F l0 l1 h) fun r1 h2 =>
    if l2 < r1 then
      (rz 0 h2)
    else
      (rz 1 h2))

theorem dc_Mod_canBy_0 : ∀ q ∈ ([(0, .iload_n 1, 1), (1, .ifCond .eq 12, 3), (4, .aload_n 0, 1), (5, .iload_n 1, 1), (6, .invokevirtual 449, 3), (9, .iload_n 2, 1), (10, .if_icmp .gt 7, 3), (13, .iconst 1, 1), (14, .goto 4, 3), (17, .iconst 0, 1), (18, .ireturn, 1)] : List (Nat × Instr × Nat)), decode cX12_canBy q.1 = .ok (q.2.1, q.2.2) := by decide +kernel
abbrev X_Mod_canBy : MX := (cX12_canBy, RX12, "canBy", 3, (some (.boolean)), 2, 43)
theorem v_Mod_canBy (F : Nat) (l0 l1 l2 : Int) (h : Hp) : V X_Mod_canBy 0 [(0, 2, l0), (1, 0, l1), (2, 0, l2)] [] h (Mod_canBy F l0 l1 l2 h) := by
  unfold Mod_canBy
  refine V_iload_n (pc := 0) (DCa dc_Mod_canBy_0 0 rfl) rfl 1 rfl ?_
  refine V_if_eq (tgt := 13) (pc := 1) (DCa dc_Mod_canBy_0 1 rfl) (by decide) (fun _ => ?_) (fun _ => ?_)
  · refine V_iconst (pc := 13) (DCa dc_Mod_canBy_0 7 rfl) (by decide) ?_
    refine V_goto (tgt := 18) (pc := 14) (DCa dc_Mod_canBy_0 8 rfl) (by decide) ?_
    exact V_zreturn (pc := 18) (DCa dc_Mod_canBy_0 10 rfl) rfl
  · refine V_aload_n (pc := 4) (DCa dc_Mod_canBy_0 2 rfl) rfl 0 rfl ?_
    refine V_iload_n (pc := 5) (DCa dc_Mod_canBy_0 3 rfl) rfl 1 rfl ?_
    refine Q_callv (ci := 12) (st := []) (pc := 6) (DCa dc_Mod_canBy_0 4 rfl) (sp_Mod_leastReady F _ _ _) ce_Mod_leastReady ml_12_449 rfl rfl ⟨Nat.le_of_ble_eq_true rfl, Nat.le_of_ble_eq_true rfl⟩ rfl (Nat.le_of_ble_eq_true rfl) (fun r1 h2 => ?_)
    refine V_iload_n (pc := 9) (DCa dc_Mod_canBy_0 5 rfl) rfl 2 rfl ?_
    refine V_icmp_gt (tgt := 17) (pc := 10) (DCa dc_Mod_canBy_0 6 rfl) (by decide) (fun _ => ?_) (fun _ => ?_)
    · refine V_iconst (pc := 17) (DCa dc_Mod_canBy_0 9 rfl) (by decide) ?_
      exact V_zreturn (pc := 18) (DCa dc_Mod_canBy_0 10 rfl) rfl
    · refine V_iconst (pc := 13) (DCa dc_Mod_canBy_0 7 rfl) (by decide) ?_
      refine V_goto (tgt := 18) (pc := 14) (DCa dc_Mod_canBy_0 8 rfl) (by decide) ?_
      exact V_zreturn (pc := 18) (DCa dc_Mod_canBy_0 10 rfl) rfl
theorem sp_Mod_canBy (F : Nat) (l0 l1 l2 : Int) (h : Hp) : Sp yX12_canBy cX12_canBy 3 (some (.boolean)) 2 43 [(2, l0), (0, l1), (0, l2)] h (Mod_canBy F l0 l1 l2 h) := Sp_of (by decide +kernel) rfl rfl (Nat.le_of_ble_eq_true rfl) (v_Mod_canBy F l0 l1 l2 h)

-- TideRakesModel.worthBy
def Mod_worthBy_L4s (F : Nat)  (R4 : Int → Int → Int → Int → Hp → Option (Int × Hp)) (l0 l1 l2 l3 : Int) (h : Hp) : Option (Int × Hp) :=
  if l3 < 8 then
    (if (iand (ishr l1 l3) 1) = 1 then
      (gf h l0 112 25 fun v1 =>
      gf h l0 112 18 fun v2 =>
      al h v1 0 (w32 ((w32 (8 * v2)) + l3)) fun v3 =>
      lt (w32 (l2 + v3)) fun x4 =>
      R4 l0 l1 x4 (w32 (l3 + 1)) h)
    else
      (R4 l0 l1 l2 (w32 (l3 + 1)) h))
  else
    (some (l2, h))
def Mod_worthBy_L4 (F : Nat)  : Nat → Int → Int → Int → Int → Hp → Option (Int × Hp)
  | 0 => fun _ _ _ _ _ => none
  | n + 1 => Mod_worthBy_L4s F  (Mod_worthBy_L4 F  n)
def Mod_worthBy (F : Nat) (l0 l1 : Int) (h : Hp) : Option (Int × Hp) :=
  Mod_worthBy_L4 F F l0 l1 0 0 h

theorem dc_Mod_worthBy_0 : ∀ q ∈ ([(0, .iconst 0, 1), (1, .istore_n 2, 1), (2, .iconst 0, 1), (3, .istore_n 3, 1), (4, .iload_n 3, 1), (5, .bipush 8, 2), (7, .if_icmp .ge 35, 3), (10, .iload_n 1, 1), (11, .iload_n 3, 1), (12, .ishr, 1), (13, .iconst 1, 1), (14, .iand, 1), (15, .iconst 1, 1), (16, .if_icmp .ne 20, 3), (19, .iload_n 2, 1), (20, .aload_n 0, 1), (21, .getfield 52, 3), (24, .bipush 8, 2), (26, .aload_n 0, 1), (27, .getfield 281, 3), (30, .imul, 1), (31, .iload_n 3, 1), (32, .iadd, 1), (33, .iaload, 1), (34, .iadd, 1), (35, .istore_n 2, 1), (36, .iinc 3 1, 3), (39, .goto (-35), 3), (42, .iload_n 2, 1), (43, .ireturn, 1)] : List (Nat × Instr × Nat)), decode cX12_worthBy q.1 = .ok (q.2.1, q.2.2) := by decide +kernel
abbrev X_Mod_worthBy : MX := (cX12_worthBy, RX12, "worthBy", 4, (some (.int)), 1, 20)
theorem v_Mod_worthBy_L4s (F : Nat)  (R4 : Int → Int → Int → Int → Hp → Option (Int × Hp)) (hR4 : ∀ (l0 l1 l2 l3 : Int) (h : Hp), V X_Mod_worthBy 4 [(0, 2, l0), (1, 0, l1), (2, 0, l2), (3, 0, l3)] [] h (R4 l0 l1 l2 l3 h)) (l0 l1 l2 l3 : Int) (h : Hp) : V X_Mod_worthBy 4 [(0, 2, l0), (1, 0, l1), (2, 0, l2), (3, 0, l3)] [] h (Mod_worthBy_L4s F  R4 l0 l1 l2 l3 h) := by
  unfold Mod_worthBy_L4s
  refine V_iload_n (pc := 4) (DCa dc_Mod_worthBy_0 4 rfl) rfl 3 rfl ?_
  refine V_bipush (pc := 5) (DCa dc_Mod_worthBy_0 5 rfl) (by decide) ?_
  refine V_icmp_ge (tgt := 42) (pc := 7) (DCa dc_Mod_worthBy_0 6 rfl) (by decide) (fun _ => ?_) (fun _ => ?_)
  · refine V_iload_n (pc := 10) (DCa dc_Mod_worthBy_0 7 rfl) rfl 1 rfl ?_
    refine V_iload_n (pc := 11) (DCa dc_Mod_worthBy_0 8 rfl) rfl 3 rfl ?_
    refine V_ishr (pc := 12) (DCa dc_Mod_worthBy_0 9 rfl) ?_
    refine V_iconst (pc := 13) (DCa dc_Mod_worthBy_0 10 rfl) (by decide) ?_
    refine V_iand (pc := 14) (DCa dc_Mod_worthBy_0 11 rfl) ?_
    refine V_iconst (pc := 15) (DCa dc_Mod_worthBy_0 12 rfl) (by decide) ?_
    refine V_icmp_ne (tgt := 36) (pc := 16) (DCa dc_Mod_worthBy_0 13 rfl) (by decide) (fun _ => ?_) (fun _ => ?_)
    · refine V_iload_n (pc := 19) (DCa dc_Mod_worthBy_0 14 rfl) rfl 2 rfl ?_
      refine V_aload_n (pc := 20) (DCa dc_Mod_worthBy_0 15 rfl) rfl 0 rfl ?_
      refine Q_getf (k := 25) (pc := 21) (DCa dc_Mod_worthBy_0 16 rfl) cls_12 (Nat.le_of_ble_eq_true rfl) fl_12_52 rfl rfl rfl (fun v1 => ?_)
      refine V_bipush (pc := 24) (DCa dc_Mod_worthBy_0 17 rfl) (by decide) ?_
      refine V_aload_n (pc := 26) (DCa dc_Mod_worthBy_0 18 rfl) rfl 0 rfl ?_
      refine Q_getf (k := 18) (pc := 27) (DCa dc_Mod_worthBy_0 19 rfl) cls_12 (Nat.le_of_ble_eq_true rfl) fl_12_281 rfl rfl rfl (fun v2 => ?_)
      refine V_imul (pc := 30) (DCa dc_Mod_worthBy_0 20 rfl) ?_
      refine V_iload_n (pc := 31) (DCa dc_Mod_worthBy_0 21 rfl) rfl 3 rfl ?_
      refine V_iadd (pc := 32) (DCa dc_Mod_worthBy_0 22 rfl) ?_
      refine Q_iaload (pc := 33) (DCa dc_Mod_worthBy_0 23 rfl) (fun v3 => ?_)
      refine V_iadd (pc := 34) (DCa dc_Mod_worthBy_0 24 rfl) ?_
      refine Q_lt (fun x4 => ?_)
      refine V_istore_n (ls' := [(0, 2, l0), (1, 0, l1), (2, 0, x4), (3, 0, l3)]) (pc := 35) (DCa dc_Mod_worthBy_0 25 rfl) rfl (Nat.le_of_ble_eq_true rfl) rfl ?_
      refine V_iinc (ls' := [(0, 2, l0), (1, 0, l1), (2, 0, x4), (3, 0, w32 (l3 + 1))]) (pc := 36) (DCa dc_Mod_worthBy_0 26 rfl) (Nat.le_of_ble_eq_true rfl) (by decide) 3 rfl rfl ?_
      refine V_goto (tgt := 4) (pc := 39) (DCa dc_Mod_worthBy_0 27 rfl) (by decide) ?_
      exact hR4 _ _ _ _ _
    · refine V_iinc (ls' := [(0, 2, l0), (1, 0, l1), (2, 0, l2), (3, 0, w32 (l3 + 1))]) (pc := 36) (DCa dc_Mod_worthBy_0 26 rfl) (Nat.le_of_ble_eq_true rfl) (by decide) 3 rfl rfl ?_
      refine V_goto (tgt := 4) (pc := 39) (DCa dc_Mod_worthBy_0 27 rfl) (by decide) ?_
      exact hR4 _ _ _ _ _
  · refine V_iload_n (pc := 42) (DCa dc_Mod_worthBy_0 28 rfl) rfl 2 rfl ?_
    exact V_ireturn (pc := 43) (DCa dc_Mod_worthBy_0 29 rfl) rfl
theorem v_Mod_worthBy_L4 (F : Nat)  (n : Nat) : ∀ (l0 l1 l2 l3 : Int) (h : Hp), V X_Mod_worthBy 4 [(0, 2, l0), (1, 0, l1), (2, 0, l2), (3, 0, l3)] [] h (Mod_worthBy_L4 F  n l0 l1 l2 l3 h) := by
  induction n with
  | zero => intros; exact V_none
  | succ n ih => exact fun l0 l1 l2 l3 h => v_Mod_worthBy_L4s F  _ ih l0 l1 l2 l3 h
theorem v_Mod_worthBy (F : Nat) (l0 l1 : Int) (h : Hp) : V X_Mod_worthBy 0 [(0, 2, l0), (1, 0, l1)] [] h (Mod_worthBy F l0 l1 h) := by
  unfold Mod_worthBy
  refine V_iconst (pc := 0) (DCa dc_Mod_worthBy_0 0 rfl) (by decide) ?_
  refine V_istore_n (ls' := [(0, 2, l0), (1, 0, l1), (2, 0, 0)]) (pc := 1) (DCa dc_Mod_worthBy_0 1 rfl) rfl (Nat.le_of_ble_eq_true rfl) rfl ?_
  refine V_iconst (pc := 2) (DCa dc_Mod_worthBy_0 2 rfl) (by decide) ?_
  refine V_istore_n (ls' := [(0, 2, l0), (1, 0, l1), (2, 0, 0), (3, 0, 0)]) (pc := 3) (DCa dc_Mod_worthBy_0 3 rfl) rfl (Nat.le_of_ble_eq_true rfl) rfl ?_
  exact v_Mod_worthBy_L4 F F _ _ _ _ _
theorem sp_Mod_worthBy (F : Nat) (l0 l1 : Int) (h : Hp) : Sp yX12_worthBy cX12_worthBy 4 (some (.int)) 1 20 [(2, l0), (0, l1)] h (Mod_worthBy F l0 l1 h) := Sp_of (by decide +kernel) rfl rfl (Nat.le_of_ble_eq_true rfl) (v_Mod_worthBy F l0 l1 h)

-- TideRakesModel.startsAs
def Mod_startsAs (F : Nat) (l0 l1 l2 : Int) (h : Hp) : Option (Int × Hp) :=
  gf h l0 112 63 fun v1 =>
  al h v1 0 (w32 (32 + l1)) fun v2 =>
  pf h l0 112 67 v2 fun h3 =>
  gf h3 l0 112 63 fun v4 =>
  al h3 v4 0 (w32 (35 + l1)) fun v5 =>
  pf h3 l0 112 68 v5 fun h6 =>
  gf h6 l0 112 63 fun v7 =>
  al h6 v7 0 (w32 (38 + l1)) fun v8 =>
  pf h6 l0 112 69 (w32 (v8 + l2)) fun h9 =>
  pf h9 l0 112 70 0 fun h10 =>
  pz h10 l0 112 71 0 fun h11 =>
  some (0, h11)

theorem dc_Mod_startsAs_0 : ∀ q ∈ ([(0, .aload_n 0, 1), (1, .aload_n 0, 1), (2, .getfield 155, 3), (5, .bipush 32, 2), (7, .iload_n 1, 1), (8, .iadd, 1), (9, .iaload, 1), (10, .putfield 434, 3), (13, .aload_n 0, 1), (14, .aload_n 0, 1), (15, .getfield 155, 3), (18, .bipush 35, 2), (20, .iload_n 1, 1), (21, .iadd, 1), (22, .iaload, 1), (23, .putfield 437, 3), (26, .aload_n 0, 1), (27, .aload_n 0, 1), (28, .getfield 155, 3), (31, .bipush 38, 2), (33, .iload_n 1, 1), (34, .iadd, 1), (35, .iaload, 1), (36, .iload_n 2, 1), (37, .iadd, 1), (38, .putfield 440, 3), (41, .aload_n 0, 1), (42, .iconst 0, 1), (43, .putfield 427, 3), (46, .aload_n 0, 1), (47, .iconst 0, 1), (48, .putfield 430, 3), (51, .return_, 1)] : List (Nat × Instr × Nat)), decode cX12_startsAs q.1 = .ok (q.2.1, q.2.2) := by decide +kernel
abbrev X_Mod_startsAs : MX := (cX12_startsAs, RX12, "startsAs", 3, none, 1, 20)
theorem v_Mod_startsAs (F : Nat) (l0 l1 l2 : Int) (h : Hp) : V X_Mod_startsAs 0 [(0, 2, l0), (1, 0, l1), (2, 0, l2)] [] h (Mod_startsAs F l0 l1 l2 h) := by
  unfold Mod_startsAs
  refine V_aload_n (pc := 0) (DCa dc_Mod_startsAs_0 0 rfl) rfl 0 rfl ?_
  refine V_aload_n (pc := 1) (DCa dc_Mod_startsAs_0 1 rfl) rfl 0 rfl ?_
  refine Q_getf (k := 63) (pc := 2) (DCa dc_Mod_startsAs_0 2 rfl) cls_12 (Nat.le_of_ble_eq_true rfl) fl_12_155 rfl rfl rfl (fun v1 => ?_)
  refine V_bipush (pc := 5) (DCa dc_Mod_startsAs_0 3 rfl) (by decide) ?_
  refine V_iload_n (pc := 7) (DCa dc_Mod_startsAs_0 4 rfl) rfl 1 rfl ?_
  refine V_iadd (pc := 8) (DCa dc_Mod_startsAs_0 5 rfl) ?_
  refine Q_iaload (pc := 9) (DCa dc_Mod_startsAs_0 6 rfl) (fun v2 => ?_)
  refine Q_putf (k := 67) (pc := 10) (DCa dc_Mod_startsAs_0 7 rfl) cls_12 (Nat.le_of_ble_eq_true rfl) fl_12_434 rfl rfl rfl (Or.inl rfl) (Or.inl ⟨rfl, rfl⟩) (fun h3 => ?_)
  refine V_aload_n (pc := 13) (DCa dc_Mod_startsAs_0 8 rfl) rfl 0 rfl ?_
  refine V_aload_n (pc := 14) (DCa dc_Mod_startsAs_0 9 rfl) rfl 0 rfl ?_
  refine Q_getf (k := 63) (pc := 15) (DCa dc_Mod_startsAs_0 10 rfl) cls_12 (Nat.le_of_ble_eq_true rfl) fl_12_155 rfl rfl rfl (fun v4 => ?_)
  refine V_bipush (pc := 18) (DCa dc_Mod_startsAs_0 11 rfl) (by decide) ?_
  refine V_iload_n (pc := 20) (DCa dc_Mod_startsAs_0 12 rfl) rfl 1 rfl ?_
  refine V_iadd (pc := 21) (DCa dc_Mod_startsAs_0 13 rfl) ?_
  refine Q_iaload (pc := 22) (DCa dc_Mod_startsAs_0 14 rfl) (fun v5 => ?_)
  refine Q_putf (k := 68) (pc := 23) (DCa dc_Mod_startsAs_0 15 rfl) cls_12 (Nat.le_of_ble_eq_true rfl) fl_12_437 rfl rfl rfl (Or.inl rfl) (Or.inl ⟨rfl, rfl⟩) (fun h6 => ?_)
  refine V_aload_n (pc := 26) (DCa dc_Mod_startsAs_0 16 rfl) rfl 0 rfl ?_
  refine V_aload_n (pc := 27) (DCa dc_Mod_startsAs_0 17 rfl) rfl 0 rfl ?_
  refine Q_getf (k := 63) (pc := 28) (DCa dc_Mod_startsAs_0 18 rfl) cls_12 (Nat.le_of_ble_eq_true rfl) fl_12_155 rfl rfl rfl (fun v7 => ?_)
  refine V_bipush (pc := 31) (DCa dc_Mod_startsAs_0 19 rfl) (by decide) ?_
  refine V_iload_n (pc := 33) (DCa dc_Mod_startsAs_0 20 rfl) rfl 1 rfl ?_
  refine V_iadd (pc := 34) (DCa dc_Mod_startsAs_0 21 rfl) ?_
  refine Q_iaload (pc := 35) (DCa dc_Mod_startsAs_0 22 rfl) (fun v8 => ?_)
  refine V_iload_n (pc := 36) (DCa dc_Mod_startsAs_0 23 rfl) rfl 2 rfl ?_
  refine V_iadd (pc := 37) (DCa dc_Mod_startsAs_0 24 rfl) ?_
  refine Q_putf (k := 69) (pc := 38) (DCa dc_Mod_startsAs_0 25 rfl) cls_12 (Nat.le_of_ble_eq_true rfl) fl_12_440 rfl rfl rfl (Or.inl rfl) (Or.inl ⟨rfl, rfl⟩) (fun h9 => ?_)
  refine V_aload_n (pc := 41) (DCa dc_Mod_startsAs_0 26 rfl) rfl 0 rfl ?_
  refine V_iconst (pc := 42) (DCa dc_Mod_startsAs_0 27 rfl) (by decide) ?_
  refine Q_putf (k := 70) (pc := 43) (DCa dc_Mod_startsAs_0 28 rfl) cls_12 (Nat.le_of_ble_eq_true rfl) fl_12_427 rfl rfl rfl (Or.inl rfl) (Or.inl ⟨rfl, rfl⟩) (fun h10 => ?_)
  refine V_aload_n (pc := 46) (DCa dc_Mod_startsAs_0 29 rfl) rfl 0 rfl ?_
  refine V_iconst (pc := 47) (DCa dc_Mod_startsAs_0 30 rfl) (by decide) ?_
  refine Q_putz (k := 71) (pc := 48) (DCa dc_Mod_startsAs_0 31 rfl) cls_12 (Nat.le_of_ble_eq_true rfl) fl_12_430 rfl rfl rfl (Or.inl rfl) rfl (fun h11 => ?_)
  exact V_return (pc := 51) (DCa dc_Mod_startsAs_0 32 rfl) rfl
theorem sp_Mod_startsAs (F : Nat) (l0 l1 l2 : Int) (h : Hp) : Sp yX12_startsAs cX12_startsAs 3 none 1 20 [(2, l0), (0, l1), (0, l2)] h (Mod_startsAs F l0 l1 l2 h) := Sp_of (by decide +kernel) rfl rfl (Nat.le_of_ble_eq_true rfl) (v_Mod_startsAs F l0 l1 l2 h)

-- TideRakesModel.neverDone
def Mod_neverDone_L4s (F : Nat)  (R4 : Int → Int → Int → Hp → Option (Int × Hp)) (l0 l1 l2 : Int) (h : Hp) : Option (Int × Hp) :=
  gf h l0 112 22 fun v1 =>
  gf h l0 112 18 fun v2 =>
  al h v1 0 v2 fun v3 =>
  if l2 < v3 then
    (gf h l0 112 63 fun v4 =>
    al h v4 0 l2 fun v5 =>
    if v5 = (-2) then
      (lt (ior l1 (ishl 1 l2)) fun x6 =>
      R4 l0 x6 (w32 (l2 + 1)) h)
    else
      (R4 l0 l1 (w32 (l2 + 1)) h))
  else
    (some (l1, h))
def Mod_neverDone_L4 (F : Nat)  : Nat → Int → Int → Int → Hp → Option (Int × Hp)
  | 0 => fun _ _ _ _ => none
  | n + 1 => Mod_neverDone_L4s F  (Mod_neverDone_L4 F  n)
def Mod_neverDone (F : Nat) (l0 : Int) (h : Hp) : Option (Int × Hp) :=
  Mod_neverDone_L4 F F l0 0 0 h

theorem dc_Mod_neverDone_0 : ∀ q ∈ ([(0, .iconst 0, 1), (1, .istore_n 1, 1), (2, .iconst 0, 1), (3, .istore_n 2, 1), (4, .iload_n 2, 1), (5, .aload_n 0, 1), (6, .getfield 43, 3), (9, .aload_n 0, 1), (10, .getfield 281, 3), (13, .iaload, 1), (14, .if_icmp .ge 26, 3), (17, .aload_n 0, 1), (18, .getfield 155, 3), (21, .iload_n 2, 1), (22, .iaload, 1), (23, .bipush (-2), 2), (25, .if_icmp .ne 9, 3), (28, .iload_n 1, 1), (29, .iconst 1, 1), (30, .iload_n 2, 1), (31, .ishl, 1), (32, .ior, 1), (33, .istore_n 1, 1), (34, .iinc 2 1, 3), (37, .goto (-33), 3), (40, .iload_n 1, 1), (41, .ireturn, 1)] : List (Nat × Instr × Nat)), decode cX12_neverDone q.1 = .ok (q.2.1, q.2.2) := by decide +kernel
abbrev X_Mod_neverDone : MX := (cX12_neverDone, RX12, "neverDone", 3, (some (.int)), 1, 20)
theorem v_Mod_neverDone_L4s (F : Nat)  (R4 : Int → Int → Int → Hp → Option (Int × Hp)) (hR4 : ∀ (l0 l1 l2 : Int) (h : Hp), V X_Mod_neverDone 4 [(0, 2, l0), (1, 0, l1), (2, 0, l2)] [] h (R4 l0 l1 l2 h)) (l0 l1 l2 : Int) (h : Hp) : V X_Mod_neverDone 4 [(0, 2, l0), (1, 0, l1), (2, 0, l2)] [] h (Mod_neverDone_L4s F  R4 l0 l1 l2 h) := by
  unfold Mod_neverDone_L4s
  refine V_iload_n (pc := 4) (DCa dc_Mod_neverDone_0 4 rfl) rfl 2 rfl ?_
  refine V_aload_n (pc := 5) (DCa dc_Mod_neverDone_0 5 rfl) rfl 0 rfl ?_
  refine Q_getf (k := 22) (pc := 6) (DCa dc_Mod_neverDone_0 6 rfl) cls_12 (Nat.le_of_ble_eq_true rfl) fl_12_43 rfl rfl rfl (fun v1 => ?_)
  refine V_aload_n (pc := 9) (DCa dc_Mod_neverDone_0 7 rfl) rfl 0 rfl ?_
  refine Q_getf (k := 18) (pc := 10) (DCa dc_Mod_neverDone_0 8 rfl) cls_12 (Nat.le_of_ble_eq_true rfl) fl_12_281 rfl rfl rfl (fun v2 => ?_)
  refine Q_iaload (pc := 13) (DCa dc_Mod_neverDone_0 9 rfl) (fun v3 => ?_)
  refine V_icmp_ge (tgt := 40) (pc := 14) (DCa dc_Mod_neverDone_0 10 rfl) (by decide) (fun _ => ?_) (fun _ => ?_)
  · refine V_aload_n (pc := 17) (DCa dc_Mod_neverDone_0 11 rfl) rfl 0 rfl ?_
    refine Q_getf (k := 63) (pc := 18) (DCa dc_Mod_neverDone_0 12 rfl) cls_12 (Nat.le_of_ble_eq_true rfl) fl_12_155 rfl rfl rfl (fun v4 => ?_)
    refine V_iload_n (pc := 21) (DCa dc_Mod_neverDone_0 13 rfl) rfl 2 rfl ?_
    refine Q_iaload (pc := 22) (DCa dc_Mod_neverDone_0 14 rfl) (fun v5 => ?_)
    refine V_bipush (pc := 23) (DCa dc_Mod_neverDone_0 15 rfl) (by decide) ?_
    refine V_icmp_ne (tgt := 34) (pc := 25) (DCa dc_Mod_neverDone_0 16 rfl) (by decide) (fun _ => ?_) (fun _ => ?_)
    · refine V_iload_n (pc := 28) (DCa dc_Mod_neverDone_0 17 rfl) rfl 1 rfl ?_
      refine V_iconst (pc := 29) (DCa dc_Mod_neverDone_0 18 rfl) (by decide) ?_
      refine V_iload_n (pc := 30) (DCa dc_Mod_neverDone_0 19 rfl) rfl 2 rfl ?_
      refine V_ishl (pc := 31) (DCa dc_Mod_neverDone_0 20 rfl) ?_
      refine V_ior (pc := 32) (DCa dc_Mod_neverDone_0 21 rfl) ?_
      refine Q_lt (fun x6 => ?_)
      refine V_istore_n (ls' := [(0, 2, l0), (1, 0, x6), (2, 0, l2)]) (pc := 33) (DCa dc_Mod_neverDone_0 22 rfl) rfl (Nat.le_of_ble_eq_true rfl) rfl ?_
      refine V_iinc (ls' := [(0, 2, l0), (1, 0, x6), (2, 0, w32 (l2 + 1))]) (pc := 34) (DCa dc_Mod_neverDone_0 23 rfl) (Nat.le_of_ble_eq_true rfl) (by decide) 2 rfl rfl ?_
      refine V_goto (tgt := 4) (pc := 37) (DCa dc_Mod_neverDone_0 24 rfl) (by decide) ?_
      exact hR4 _ _ _ _
    · refine V_iinc (ls' := [(0, 2, l0), (1, 0, l1), (2, 0, w32 (l2 + 1))]) (pc := 34) (DCa dc_Mod_neverDone_0 23 rfl) (Nat.le_of_ble_eq_true rfl) (by decide) 2 rfl rfl ?_
      refine V_goto (tgt := 4) (pc := 37) (DCa dc_Mod_neverDone_0 24 rfl) (by decide) ?_
      exact hR4 _ _ _ _
  · refine V_iload_n (pc := 40) (DCa dc_Mod_neverDone_0 25 rfl) rfl 1 rfl ?_
    exact V_ireturn (pc := 41) (DCa dc_Mod_neverDone_0 26 rfl) rfl
theorem v_Mod_neverDone_L4 (F : Nat)  (n : Nat) : ∀ (l0 l1 l2 : Int) (h : Hp), V X_Mod_neverDone 4 [(0, 2, l0), (1, 0, l1), (2, 0, l2)] [] h (Mod_neverDone_L4 F  n l0 l1 l2 h) := by
  induction n with
  | zero => intros; exact V_none
  | succ n ih => exact fun l0 l1 l2 h => v_Mod_neverDone_L4s F  _ ih l0 l1 l2 h
theorem v_Mod_neverDone (F : Nat) (l0 : Int) (h : Hp) : V X_Mod_neverDone 0 [(0, 2, l0)] [] h (Mod_neverDone F l0 h) := by
  unfold Mod_neverDone
  refine V_iconst (pc := 0) (DCa dc_Mod_neverDone_0 0 rfl) (by decide) ?_
  refine V_istore_n (ls' := [(0, 2, l0), (1, 0, 0)]) (pc := 1) (DCa dc_Mod_neverDone_0 1 rfl) rfl (Nat.le_of_ble_eq_true rfl) rfl ?_
  refine V_iconst (pc := 2) (DCa dc_Mod_neverDone_0 2 rfl) (by decide) ?_
  refine V_istore_n (ls' := [(0, 2, l0), (1, 0, 0), (2, 0, 0)]) (pc := 3) (DCa dc_Mod_neverDone_0 3 rfl) rfl (Nat.le_of_ble_eq_true rfl) rfl ?_
  exact v_Mod_neverDone_L4 F F _ _ _ _
theorem sp_Mod_neverDone (F : Nat) (l0 : Int) (h : Hp) : Sp yX12_neverDone cX12_neverDone 3 (some (.int)) 1 20 [(2, l0)] h (Mod_neverDone F l0 h) := Sp_of (by decide +kernel) rfl rfl (Nat.le_of_ble_eq_true rfl) (v_Mod_neverDone F l0 h)

-- TideRakesModel.crossedNow
def Mod_crossedNow_L4s (F : Nat)  (R4 : Int → Int → Int → Hp → Option (Int × Hp)) (l0 l1 l2 : Int) (h : Hp) : Option (Int × Hp) :=
  gf h l0 112 22 fun v1 =>
  gf h l0 112 18 fun v2 =>
  al h v1 0 v2 fun v3 =>
  if l2 < v3 then
    (gf h l0 112 63 fun v4 =>
    al h v4 0 (w32 (8 + l2)) fun v5 =>
    if v5 = 1 then
      (lt (ior l1 (ishl 1 l2)) fun x6 =>
      R4 l0 x6 (w32 (l2 + 1)) h)
    else
      (R4 l0 l1 (w32 (l2 + 1)) h))
  else
    (some (l1, h))
def Mod_crossedNow_L4 (F : Nat)  : Nat → Int → Int → Int → Hp → Option (Int × Hp)
  | 0 => fun _ _ _ _ => none
  | n + 1 => Mod_crossedNow_L4s F  (Mod_crossedNow_L4 F  n)
def Mod_crossedNow (F : Nat) (l0 : Int) (h : Hp) : Option (Int × Hp) :=
  Mod_crossedNow_L4 F F l0 0 0 h

theorem dc_Mod_crossedNow_0 : ∀ q ∈ ([(0, .iconst 0, 1), (1, .istore_n 1, 1), (2, .iconst 0, 1), (3, .istore_n 2, 1), (4, .iload_n 2, 1), (5, .aload_n 0, 1), (6, .getfield 43, 3), (9, .aload_n 0, 1), (10, .getfield 281, 3), (13, .iaload, 1), (14, .if_icmp .ge 28, 3), (17, .aload_n 0, 1), (18, .getfield 155, 3), (21, .bipush 8, 2), (23, .iload_n 2, 1), (24, .iadd, 1), (25, .iaload, 1), (26, .iconst 1, 1), (27, .if_icmp .ne 9, 3), (30, .iload_n 1, 1), (31, .iconst 1, 1), (32, .iload_n 2, 1), (33, .ishl, 1), (34, .ior, 1), (35, .istore_n 1, 1), (36, .iinc 2 1, 3), (39, .goto (-35), 3), (42, .iload_n 1, 1), (43, .ireturn, 1)] : List (Nat × Instr × Nat)), decode cX12_crossedNow q.1 = .ok (q.2.1, q.2.2) := by decide +kernel
abbrev X_Mod_crossedNow : MX := (cX12_crossedNow, RX12, "crossedNow", 3, (some (.int)), 1, 20)
theorem v_Mod_crossedNow_L4s (F : Nat)  (R4 : Int → Int → Int → Hp → Option (Int × Hp)) (hR4 : ∀ (l0 l1 l2 : Int) (h : Hp), V X_Mod_crossedNow 4 [(0, 2, l0), (1, 0, l1), (2, 0, l2)] [] h (R4 l0 l1 l2 h)) (l0 l1 l2 : Int) (h : Hp) : V X_Mod_crossedNow 4 [(0, 2, l0), (1, 0, l1), (2, 0, l2)] [] h (Mod_crossedNow_L4s F  R4 l0 l1 l2 h) := by
  unfold Mod_crossedNow_L4s
  refine V_iload_n (pc := 4) (DCa dc_Mod_crossedNow_0 4 rfl) rfl 2 rfl ?_
  refine V_aload_n (pc := 5) (DCa dc_Mod_crossedNow_0 5 rfl) rfl 0 rfl ?_
  refine Q_getf (k := 22) (pc := 6) (DCa dc_Mod_crossedNow_0 6 rfl) cls_12 (Nat.le_of_ble_eq_true rfl) fl_12_43 rfl rfl rfl (fun v1 => ?_)
  refine V_aload_n (pc := 9) (DCa dc_Mod_crossedNow_0 7 rfl) rfl 0 rfl ?_
  refine Q_getf (k := 18) (pc := 10) (DCa dc_Mod_crossedNow_0 8 rfl) cls_12 (Nat.le_of_ble_eq_true rfl) fl_12_281 rfl rfl rfl (fun v2 => ?_)
  refine Q_iaload (pc := 13) (DCa dc_Mod_crossedNow_0 9 rfl) (fun v3 => ?_)
  refine V_icmp_ge (tgt := 42) (pc := 14) (DCa dc_Mod_crossedNow_0 10 rfl) (by decide) (fun _ => ?_) (fun _ => ?_)
  · refine V_aload_n (pc := 17) (DCa dc_Mod_crossedNow_0 11 rfl) rfl 0 rfl ?_
    refine Q_getf (k := 63) (pc := 18) (DCa dc_Mod_crossedNow_0 12 rfl) cls_12 (Nat.le_of_ble_eq_true rfl) fl_12_155 rfl rfl rfl (fun v4 => ?_)
    refine V_bipush (pc := 21) (DCa dc_Mod_crossedNow_0 13 rfl) (by decide) ?_
    refine V_iload_n (pc := 23) (DCa dc_Mod_crossedNow_0 14 rfl) rfl 2 rfl ?_
    refine V_iadd (pc := 24) (DCa dc_Mod_crossedNow_0 15 rfl) ?_
    refine Q_iaload (pc := 25) (DCa dc_Mod_crossedNow_0 16 rfl) (fun v5 => ?_)
    refine V_iconst (pc := 26) (DCa dc_Mod_crossedNow_0 17 rfl) (by decide) ?_
    refine V_icmp_ne (tgt := 36) (pc := 27) (DCa dc_Mod_crossedNow_0 18 rfl) (by decide) (fun _ => ?_) (fun _ => ?_)
    · refine V_iload_n (pc := 30) (DCa dc_Mod_crossedNow_0 19 rfl) rfl 1 rfl ?_
      refine V_iconst (pc := 31) (DCa dc_Mod_crossedNow_0 20 rfl) (by decide) ?_
      refine V_iload_n (pc := 32) (DCa dc_Mod_crossedNow_0 21 rfl) rfl 2 rfl ?_
      refine V_ishl (pc := 33) (DCa dc_Mod_crossedNow_0 22 rfl) ?_
      refine V_ior (pc := 34) (DCa dc_Mod_crossedNow_0 23 rfl) ?_
      refine Q_lt (fun x6 => ?_)
      refine V_istore_n (ls' := [(0, 2, l0), (1, 0, x6), (2, 0, l2)]) (pc := 35) (DCa dc_Mod_crossedNow_0 24 rfl) rfl (Nat.le_of_ble_eq_true rfl) rfl ?_
      refine V_iinc (ls' := [(0, 2, l0), (1, 0, x6), (2, 0, w32 (l2 + 1))]) (pc := 36) (DCa dc_Mod_crossedNow_0 25 rfl) (Nat.le_of_ble_eq_true rfl) (by decide) 2 rfl rfl ?_
      refine V_goto (tgt := 4) (pc := 39) (DCa dc_Mod_crossedNow_0 26 rfl) (by decide) ?_
      exact hR4 _ _ _ _
    · refine V_iinc (ls' := [(0, 2, l0), (1, 0, l1), (2, 0, w32 (l2 + 1))]) (pc := 36) (DCa dc_Mod_crossedNow_0 25 rfl) (Nat.le_of_ble_eq_true rfl) (by decide) 2 rfl rfl ?_
      refine V_goto (tgt := 4) (pc := 39) (DCa dc_Mod_crossedNow_0 26 rfl) (by decide) ?_
      exact hR4 _ _ _ _
  · refine V_iload_n (pc := 42) (DCa dc_Mod_crossedNow_0 27 rfl) rfl 1 rfl ?_
    exact V_ireturn (pc := 43) (DCa dc_Mod_crossedNow_0 28 rfl) rfl
theorem v_Mod_crossedNow_L4 (F : Nat)  (n : Nat) : ∀ (l0 l1 l2 : Int) (h : Hp), V X_Mod_crossedNow 4 [(0, 2, l0), (1, 0, l1), (2, 0, l2)] [] h (Mod_crossedNow_L4 F  n l0 l1 l2 h) := by
  induction n with
  | zero => intros; exact V_none
  | succ n ih => exact fun l0 l1 l2 h => v_Mod_crossedNow_L4s F  _ ih l0 l1 l2 h
theorem v_Mod_crossedNow (F : Nat) (l0 : Int) (h : Hp) : V X_Mod_crossedNow 0 [(0, 2, l0)] [] h (Mod_crossedNow F l0 h) := by
  unfold Mod_crossedNow
  refine V_iconst (pc := 0) (DCa dc_Mod_crossedNow_0 0 rfl) (by decide) ?_
  refine V_istore_n (ls' := [(0, 2, l0), (1, 0, 0)]) (pc := 1) (DCa dc_Mod_crossedNow_0 1 rfl) rfl (Nat.le_of_ble_eq_true rfl) rfl ?_
  refine V_iconst (pc := 2) (DCa dc_Mod_crossedNow_0 2 rfl) (by decide) ?_
  refine V_istore_n (ls' := [(0, 2, l0), (1, 0, 0), (2, 0, 0)]) (pc := 3) (DCa dc_Mod_crossedNow_0 3 rfl) rfl (Nat.le_of_ble_eq_true rfl) rfl ?_
  exact v_Mod_crossedNow_L4 F F _ _ _ _
theorem sp_Mod_crossedNow (F : Nat) (l0 : Int) (h : Hp) : Sp yX12_crossedNow cX12_crossedNow 3 (some (.int)) 1 20 [(2, l0)] h (Mod_crossedNow F l0 h) := Sp_of (by decide +kernel) rfl rfl (Nat.le_of_ble_eq_true rfl) (v_Mod_crossedNow F l0 h)

-- TideRakesModel.bestRow
def Mod_bestRow_L12s (F : Nat)  (R12 : Int → Int → Int → Int → Int → Hp → Option (Int × Hp)) (l0 l2 l3 l4 l5 : Int) (h : Hp) : Option (Int × Hp) :=
  gf h l0 112 22 fun v3 =>
  gf h l0 112 18 fun v4 =>
  al h v3 0 v4 fun v5 =>
  if l5 < (ishl 1 v5) then
    (if (iand l5 (ixor l2 (-1))) = 0 then
      (iv h l0 112 (Mod_canBy F l0 l5 l3 h) fun r6 h7 =>
      if r6 = 0 then
        (R12 l0 l2 l3 l4 (w32 (l5 + 1)) h7)
      else
        (iv h7 l0 112 (Mod_worthBy F l0 l5 h7) fun r8 h9 =>
        iv h9 l0 112 (Mod_worthBy F l0 l4 h9) fun r10 h11 =>
        lt (w32 (r8 - r10)) fun x12 =>
        if 0 < x12 then
          (R12 l0 l2 l3 l5 (w32 (l5 + 1)) h11)
        else
          (if x12 = 0 then
            (iv h11 l0 112 (Mod_leastReady F l0 l5 h11) fun r13 h14 =>
            iv h14 l0 112 (Mod_leastReady F l0 l4 h14) fun r15 h16 =>
            if r13 < r15 then
              (R12 l0 l2 l3 l5 (w32 (l5 + 1)) h16)
            else
              (R12 l0 l2 l3 l4 (w32 (l5 + 1)) h16))
          else
            (R12 l0 l2 l3 l4 (w32 (l5 + 1)) h11))))
    else
      (R12 l0 l2 l3 l4 (w32 (l5 + 1)) h))
  else
    (some (l4, h))
def Mod_bestRow_L12 (F : Nat)  : Nat → Int → Int → Int → Int → Int → Hp → Option (Int × Hp)
  | 0 => fun _ _ _ _ _ _ => none
  | n + 1 => Mod_bestRow_L12s F  (Mod_bestRow_L12 F  n)
def Mod_bestRow (F : Nat) (l0 l1 l2 l3 : Int) (h : Hp) : Option (Int × Hp) :=
  iv h l0 112 (Mod_fillsRows F l0 l1 l2 h) fun r1 h2 =>
  Mod_bestRow_L12 F F l0 l2 l3 0 1 h2

theorem dc_Mod_bestRow_0 : ∀ q ∈ ([(0, .aload_n 0, 1), (1, .iload_n 1, 1), (2, .iload_n 2, 1), (3, .invokevirtual 452, 3), (6, .iconst 0, 1), (7, .istore 4, 2), (9, .iconst 1, 1), (10, .istore 5, 2), (12, .iload 5, 2), (14, .iconst 1, 1), (15, .aload_n 0, 1), (16, .getfield 43, 3), (19, .aload_n 0, 1), (20, .getfield 281, 3), (23, .iaload, 1), (24, .ishl, 1), (25, .if_icmp .ge 75, 3), (28, .iload 5, 2), (30, .iload_n 2, 1), (31, .iconst (-1), 1), (32, .ixor, 1), (33, .iand, 1), (34, .ifCond .ne 60, 3), (37, .aload_n 0, 1), (38, .iload 5, 2), (40, .iload_n 3, 1), (41, .invokevirtual 455, 3), (44, .ifCond .ne 6, 3), (47, .goto 47, 3), (50, .aload_n 0, 1), (51, .iload 5, 2), (53, .invokevirtual 458, 3), (56, .aload_n 0, 1), (57, .iload 4, 2), (59, .invokevirtual 458, 3), (62, .isub, 1), (63, .istore 6, 2), (65, .iload 6, 2), (67, .ifCond .gt 23, 3), (70, .iload 6, 2), (72, .ifCond .ne 22, 3), (75, .aload_n 0, 1), (76, .iload 5, 2), (78, .invokevirtual 449, 3), (81, .aload_n 0, 1), (82, .iload 4, 2), (84, .invokevirtual 449, 3), (87, .if_icmp .ge 7, 3), (90, .iload 5, 2), (92, .istore 4, 2)] : List (Nat × Instr × Nat)), decode cX12_bestRow q.1 = .ok (q.2.1, q.2.2) := by decide +kernel
theorem dc_Mod_bestRow_1 : ∀ q ∈ ([(94, .iinc 5 1, 3), (97, .goto (-85), 3), (100, .iload 4, 2), (102, .ireturn, 1)] : List (Nat × Instr × Nat)), decode cX12_bestRow q.1 = .ok (q.2.1, q.2.2) := by decide +kernel
abbrev X_Mod_bestRow : MX := (cX12_bestRow, RX12, "bestRow", 7, (some (.int)), 6, 148)
theorem v_Mod_bestRow_L12s (F : Nat)  (R12 : Int → Int → Int → Int → Int → Hp → Option (Int × Hp)) (hR12 : ∀ (l0 l2 l3 l4 l5 : Int) (h : Hp), V X_Mod_bestRow 12 [(0, 2, l0), (2, 0, l2), (3, 0, l3), (4, 0, l4), (5, 0, l5)] [] h (R12 l0 l2 l3 l4 l5 h)) (l0 l2 l3 l4 l5 : Int) (h : Hp) : V X_Mod_bestRow 12 [(0, 2, l0), (2, 0, l2), (3, 0, l3), (4, 0, l4), (5, 0, l5)] [] h (Mod_bestRow_L12s F  R12 l0 l2 l3 l4 l5 h) := by
  unfold Mod_bestRow_L12s
  refine V_iload (pc := 12) (DCa dc_Mod_bestRow_0 8 rfl) 4 rfl ?_
  refine V_iconst (pc := 14) (DCa dc_Mod_bestRow_0 9 rfl) (by decide) ?_
  refine V_aload_n (pc := 15) (DCa dc_Mod_bestRow_0 10 rfl) rfl 0 rfl ?_
  refine Q_getf (k := 22) (pc := 16) (DCa dc_Mod_bestRow_0 11 rfl) cls_12 (Nat.le_of_ble_eq_true rfl) fl_12_43 rfl rfl rfl (fun v3 => ?_)
  refine V_aload_n (pc := 19) (DCa dc_Mod_bestRow_0 12 rfl) rfl 0 rfl ?_
  refine Q_getf (k := 18) (pc := 20) (DCa dc_Mod_bestRow_0 13 rfl) cls_12 (Nat.le_of_ble_eq_true rfl) fl_12_281 rfl rfl rfl (fun v4 => ?_)
  refine Q_iaload (pc := 23) (DCa dc_Mod_bestRow_0 14 rfl) (fun v5 => ?_)
  refine V_ishl (pc := 24) (DCa dc_Mod_bestRow_0 15 rfl) ?_
  refine V_icmp_ge (tgt := 100) (pc := 25) (DCa dc_Mod_bestRow_0 16 rfl) (by decide) (fun _ => ?_) (fun _ => ?_)
  · refine V_iload (pc := 28) (DCa dc_Mod_bestRow_0 17 rfl) 4 rfl ?_
    refine V_iload_n (pc := 30) (DCa dc_Mod_bestRow_0 18 rfl) rfl 1 rfl ?_
    refine V_iconst (pc := 31) (DCa dc_Mod_bestRow_0 19 rfl) (by decide) ?_
    refine V_ixor (pc := 32) (DCa dc_Mod_bestRow_0 20 rfl) ?_
    refine V_iand (pc := 33) (DCa dc_Mod_bestRow_0 21 rfl) ?_
    refine V_if_ne (tgt := 94) (pc := 34) (DCa dc_Mod_bestRow_0 22 rfl) (by decide) (fun _ => ?_) (fun _ => ?_)
    · refine V_aload_n (pc := 37) (DCa dc_Mod_bestRow_0 23 rfl) rfl 0 rfl ?_
      refine V_iload (pc := 38) (DCa dc_Mod_bestRow_0 24 rfl) 4 rfl ?_
      refine V_iload_n (pc := 40) (DCa dc_Mod_bestRow_0 25 rfl) rfl 2 rfl ?_
      refine Q_callv (ci := 12) (st := []) (pc := 41) (DCa dc_Mod_bestRow_0 26 rfl) (sp_Mod_canBy F _ _ _ _) ce_Mod_canBy ml_12_455 rfl rfl ⟨Nat.le_of_ble_eq_true rfl, Nat.le_of_ble_eq_true rfl⟩ rfl (Nat.le_of_ble_eq_true rfl) (fun r6 h7 => ?_)
      refine V_if_ne (tgt := 50) (pc := 44) (DCa dc_Mod_bestRow_0 27 rfl) (by decide) (fun _ => ?_) (fun _ => ?_)
      · refine V_goto (tgt := 94) (pc := 47) (DCa dc_Mod_bestRow_0 28 rfl) (by decide) ?_
        refine V_iinc (ls' := [(0, 2, l0), (2, 0, l2), (3, 0, l3), (4, 0, l4), (5, 0, w32 (l5 + 1))]) (pc := 94) (DCa dc_Mod_bestRow_1 0 rfl) (Nat.le_of_ble_eq_true rfl) (by decide) 4 rfl rfl ?_
        refine V_goto (tgt := 12) (pc := 97) (DCa dc_Mod_bestRow_1 1 rfl) (by decide) ?_
        exact hR12 _ _ _ _ _ _
      · refine V_aload_n (pc := 50) (DCa dc_Mod_bestRow_0 29 rfl) rfl 0 rfl ?_
        refine V_iload (pc := 51) (DCa dc_Mod_bestRow_0 30 rfl) 4 rfl ?_
        refine Q_callv (ci := 12) (st := []) (pc := 53) (DCa dc_Mod_bestRow_0 31 rfl) (sp_Mod_worthBy F _ _ _) ce_Mod_worthBy ml_12_458 rfl rfl ⟨Nat.le_of_ble_eq_true rfl, Nat.le_of_ble_eq_true rfl⟩ rfl (Nat.le_of_ble_eq_true rfl) (fun r8 h9 => ?_)
        refine V_aload_n (pc := 56) (DCa dc_Mod_bestRow_0 32 rfl) rfl 0 rfl ?_
        refine V_iload (pc := 57) (DCa dc_Mod_bestRow_0 33 rfl) 3 rfl ?_
        refine Q_callv (ci := 12) (st := [(0, r8)]) (pc := 59) (DCa dc_Mod_bestRow_0 34 rfl) (sp_Mod_worthBy F _ _ _) ce_Mod_worthBy ml_12_458 rfl rfl ⟨Nat.le_of_ble_eq_true rfl, Nat.le_of_ble_eq_true rfl⟩ rfl (Nat.le_of_ble_eq_true rfl) (fun r10 h11 => ?_)
        refine V_isub (pc := 62) (DCa dc_Mod_bestRow_0 35 rfl) ?_
        refine Q_lt (fun x12 => ?_)
        refine V_istore (ls' := [(0, 2, l0), (2, 0, l2), (3, 0, l3), (4, 0, l4), (5, 0, l5), (6, 0, x12)]) (pc := 63) (DCa dc_Mod_bestRow_0 36 rfl) (Nat.le_of_ble_eq_true rfl) rfl ?_
        refine V_iload (pc := 65) (DCa dc_Mod_bestRow_0 37 rfl) 5 rfl ?_
        refine V_if_gt (tgt := 90) (pc := 67) (DCa dc_Mod_bestRow_0 38 rfl) (by decide) (fun _ => ?_) (fun _ => ?_)
        · refine V_iload (pc := 90) (DCa dc_Mod_bestRow_0 48 rfl) 4 rfl ?_
          refine V_istore (ls' := [(0, 2, l0), (2, 0, l2), (3, 0, l3), (4, 0, l5), (5, 0, l5), (6, 0, x12)]) (pc := 92) (DCa dc_Mod_bestRow_0 49 rfl) (Nat.le_of_ble_eq_true rfl) rfl ?_
          refine V_iinc (ls' := [(0, 2, l0), (2, 0, l2), (3, 0, l3), (4, 0, l5), (5, 0, w32 (l5 + 1)), (6, 0, x12)]) (pc := 94) (DCa dc_Mod_bestRow_1 0 rfl) (Nat.le_of_ble_eq_true rfl) (by decide) 4 rfl rfl ?_
          refine V_goto (tgt := 12) (pc := 97) (DCa dc_Mod_bestRow_1 1 rfl) (by decide) ?_
          refine V_pick [0, 1, 2, 3, 4] rfl ?_
          exact hR12 _ _ _ _ _ _
        · refine V_iload (pc := 70) (DCa dc_Mod_bestRow_0 39 rfl) 5 rfl ?_
          refine V_if_ne (tgt := 94) (pc := 72) (DCa dc_Mod_bestRow_0 40 rfl) (by decide) (fun _ => ?_) (fun _ => ?_)
          · refine V_aload_n (pc := 75) (DCa dc_Mod_bestRow_0 41 rfl) rfl 0 rfl ?_
            refine V_iload (pc := 76) (DCa dc_Mod_bestRow_0 42 rfl) 4 rfl ?_
            refine Q_callv (ci := 12) (st := []) (pc := 78) (DCa dc_Mod_bestRow_0 43 rfl) (sp_Mod_leastReady F _ _ _) ce_Mod_leastReady ml_12_449 rfl rfl ⟨Nat.le_of_ble_eq_true rfl, Nat.le_of_ble_eq_true rfl⟩ rfl (Nat.le_of_ble_eq_true rfl) (fun r13 h14 => ?_)
            refine V_aload_n (pc := 81) (DCa dc_Mod_bestRow_0 44 rfl) rfl 0 rfl ?_
            refine V_iload (pc := 82) (DCa dc_Mod_bestRow_0 45 rfl) 3 rfl ?_
            refine Q_callv (ci := 12) (st := [(0, r13)]) (pc := 84) (DCa dc_Mod_bestRow_0 46 rfl) (sp_Mod_leastReady F _ _ _) ce_Mod_leastReady ml_12_449 rfl rfl ⟨Nat.le_of_ble_eq_true rfl, Nat.le_of_ble_eq_true rfl⟩ rfl (Nat.le_of_ble_eq_true rfl) (fun r15 h16 => ?_)
            refine V_icmp_ge (tgt := 94) (pc := 87) (DCa dc_Mod_bestRow_0 47 rfl) (by decide) (fun _ => ?_) (fun _ => ?_)
            · refine V_iload (pc := 90) (DCa dc_Mod_bestRow_0 48 rfl) 4 rfl ?_
              refine V_istore (ls' := [(0, 2, l0), (2, 0, l2), (3, 0, l3), (4, 0, l5), (5, 0, l5), (6, 0, x12)]) (pc := 92) (DCa dc_Mod_bestRow_0 49 rfl) (Nat.le_of_ble_eq_true rfl) rfl ?_
              refine V_iinc (ls' := [(0, 2, l0), (2, 0, l2), (3, 0, l3), (4, 0, l5), (5, 0, w32 (l5 + 1)), (6, 0, x12)]) (pc := 94) (DCa dc_Mod_bestRow_1 0 rfl) (Nat.le_of_ble_eq_true rfl) (by decide) 4 rfl rfl ?_
              refine V_goto (tgt := 12) (pc := 97) (DCa dc_Mod_bestRow_1 1 rfl) (by decide) ?_
              refine V_pick [0, 1, 2, 3, 4] rfl ?_
              exact hR12 _ _ _ _ _ _
            · refine V_iinc (ls' := [(0, 2, l0), (2, 0, l2), (3, 0, l3), (4, 0, l4), (5, 0, w32 (l5 + 1)), (6, 0, x12)]) (pc := 94) (DCa dc_Mod_bestRow_1 0 rfl) (Nat.le_of_ble_eq_true rfl) (by decide) 4 rfl rfl ?_
              refine V_goto (tgt := 12) (pc := 97) (DCa dc_Mod_bestRow_1 1 rfl) (by decide) ?_
              refine V_pick [0, 1, 2, 3, 4] rfl ?_
              exact hR12 _ _ _ _ _ _
          · refine V_iinc (ls' := [(0, 2, l0), (2, 0, l2), (3, 0, l3), (4, 0, l4), (5, 0, w32 (l5 + 1)), (6, 0, x12)]) (pc := 94) (DCa dc_Mod_bestRow_1 0 rfl) (Nat.le_of_ble_eq_true rfl) (by decide) 4 rfl rfl ?_
            refine V_goto (tgt := 12) (pc := 97) (DCa dc_Mod_bestRow_1 1 rfl) (by decide) ?_
            refine V_pick [0, 1, 2, 3, 4] rfl ?_
            exact hR12 _ _ _ _ _ _
    · refine V_iinc (ls' := [(0, 2, l0), (2, 0, l2), (3, 0, l3), (4, 0, l4), (5, 0, w32 (l5 + 1))]) (pc := 94) (DCa dc_Mod_bestRow_1 0 rfl) (Nat.le_of_ble_eq_true rfl) (by decide) 4 rfl rfl ?_
      refine V_goto (tgt := 12) (pc := 97) (DCa dc_Mod_bestRow_1 1 rfl) (by decide) ?_
      exact hR12 _ _ _ _ _ _
  · refine V_iload (pc := 100) (DCa dc_Mod_bestRow_1 2 rfl) 3 rfl ?_
    exact V_ireturn (pc := 102) (DCa dc_Mod_bestRow_1 3 rfl) rfl
theorem v_Mod_bestRow_L12 (F : Nat)  (n : Nat) : ∀ (l0 l2 l3 l4 l5 : Int) (h : Hp), V X_Mod_bestRow 12 [(0, 2, l0), (2, 0, l2), (3, 0, l3), (4, 0, l4), (5, 0, l5)] [] h (Mod_bestRow_L12 F  n l0 l2 l3 l4 l5 h) := by
  induction n with
  | zero => intros; exact V_none
  | succ n ih => exact fun l0 l2 l3 l4 l5 h => v_Mod_bestRow_L12s F  _ ih l0 l2 l3 l4 l5 h
theorem v_Mod_bestRow (F : Nat) (l0 l1 l2 l3 : Int) (h : Hp) : V X_Mod_bestRow 0 [(0, 2, l0), (1, 0, l1), (2, 0, l2), (3, 0, l3)] [] h (Mod_bestRow F l0 l1 l2 l3 h) := by
  unfold Mod_bestRow
  refine V_aload_n (pc := 0) (DCa dc_Mod_bestRow_0 0 rfl) rfl 0 rfl ?_
  refine V_iload_n (pc := 1) (DCa dc_Mod_bestRow_0 1 rfl) rfl 1 rfl ?_
  refine V_iload_n (pc := 2) (DCa dc_Mod_bestRow_0 2 rfl) rfl 2 rfl ?_
  refine Q_callv (ci := 12) (st := []) (pc := 3) (DCa dc_Mod_bestRow_0 3 rfl) (sp_Mod_fillsRows F _ _ _ _) ce_Mod_fillsRows ml_12_452 rfl rfl ⟨Nat.le_of_ble_eq_true rfl, Nat.le_of_ble_eq_true rfl⟩ rfl (Nat.le_of_ble_eq_true rfl) (fun r1 h2 => ?_)
  refine V_iconst (pc := 6) (DCa dc_Mod_bestRow_0 4 rfl) (by decide) ?_
  refine V_istore (ls' := [(0, 2, l0), (1, 0, l1), (2, 0, l2), (3, 0, l3), (4, 0, 0)]) (pc := 7) (DCa dc_Mod_bestRow_0 5 rfl) (Nat.le_of_ble_eq_true rfl) rfl ?_
  refine V_iconst (pc := 9) (DCa dc_Mod_bestRow_0 6 rfl) (by decide) ?_
  refine V_istore (ls' := [(0, 2, l0), (1, 0, l1), (2, 0, l2), (3, 0, l3), (4, 0, 0), (5, 0, 1)]) (pc := 10) (DCa dc_Mod_bestRow_0 7 rfl) (Nat.le_of_ble_eq_true rfl) rfl ?_
  refine V_pick [0, 2, 3, 4, 5] rfl ?_
  exact v_Mod_bestRow_L12 F F _ _ _ _ _ _
theorem sp_Mod_bestRow (F : Nat) (l0 l1 l2 l3 : Int) (h : Hp) : Sp yX12_bestRow cX12_bestRow 7 (some (.int)) 6 148 [(2, l0), (0, l1), (0, l2), (0, l3)] h (Mod_bestRow F l0 l1 l2 l3 h) := Sp_of (by decide +kernel) rfl rfl (Nat.le_of_ble_eq_true rfl) (v_Mod_bestRow F l0 l1 l2 l3 h)

-- TideRakesModel.planNow
def Mod_planNow (F : Nat) (l0 l1 l2 l3 : Int) (h : Hp) : Option (Int × Hp) :=
  iv h l0 112 (Mod_copies F l0 h) fun r1 h2 =>
  iv h2 l0 112 (Mod_startsAs F l0 l1 l3 h2) fun r3 h4 =>
  iv h4 l0 112 (Mod_neverDone F l0 h4) fun r5 h6 =>
  iv h6 l0 112 (Mod_bestRow F l0 l1 r5 l2 h6) fun r7 h8 =>
  some (r7, h8)

theorem dc_Mod_planNow_0 : ∀ q ∈ ([(0, .aload_n 0, 1), (1, .invokevirtual 409, 3), (4, .aload_n 0, 1), (5, .iload_n 1, 1), (6, .iload_n 3, 1), (7, .invokevirtual 461, 3), (10, .aload_n 0, 1), (11, .iload_n 1, 1), (12, .aload_n 0, 1), (13, .invokevirtual 464, 3), (16, .iload_n 2, 1), (17, .invokevirtual 467, 3), (20, .ireturn, 1)] : List (Nat × Instr × Nat)), decode cX12_planNow q.1 = .ok (q.2.1, q.2.2) := by decide +kernel
abbrev X_Mod_planNow : MX := (cX12_planNow, RX12, "planNow", 4, (some (.int)), 7, 174)
theorem v_Mod_planNow (F : Nat) (l0 l1 l2 l3 : Int) (h : Hp) : V X_Mod_planNow 0 [(0, 2, l0), (1, 0, l1), (2, 0, l2), (3, 0, l3)] [] h (Mod_planNow F l0 l1 l2 l3 h) := by
  unfold Mod_planNow
  refine V_aload_n (pc := 0) (DCa dc_Mod_planNow_0 0 rfl) rfl 0 rfl ?_
  refine Q_callv (ci := 12) (st := []) (pc := 1) (DCa dc_Mod_planNow_0 1 rfl) (sp_Mod_copies F _ _) ce_Mod_copies ml_12_409 rfl rfl ⟨Nat.le_of_ble_eq_true rfl, Nat.le_of_ble_eq_true rfl⟩ rfl (Nat.le_of_ble_eq_true rfl) (fun r1 h2 => ?_)
  refine V_aload_n (pc := 4) (DCa dc_Mod_planNow_0 2 rfl) rfl 0 rfl ?_
  refine V_iload_n (pc := 5) (DCa dc_Mod_planNow_0 3 rfl) rfl 1 rfl ?_
  refine V_iload_n (pc := 6) (DCa dc_Mod_planNow_0 4 rfl) rfl 3 rfl ?_
  refine Q_callv (ci := 12) (st := []) (pc := 7) (DCa dc_Mod_planNow_0 5 rfl) (sp_Mod_startsAs F _ _ _ _) ce_Mod_startsAs ml_12_461 rfl rfl ⟨Nat.le_of_ble_eq_true rfl, Nat.le_of_ble_eq_true rfl⟩ rfl (Nat.le_of_ble_eq_true rfl) (fun r3 h4 => ?_)
  refine V_aload_n (pc := 10) (DCa dc_Mod_planNow_0 6 rfl) rfl 0 rfl ?_
  refine V_iload_n (pc := 11) (DCa dc_Mod_planNow_0 7 rfl) rfl 1 rfl ?_
  refine V_aload_n (pc := 12) (DCa dc_Mod_planNow_0 8 rfl) rfl 0 rfl ?_
  refine Q_callv (ci := 12) (st := [(0, l1), (2, l0)]) (pc := 13) (DCa dc_Mod_planNow_0 9 rfl) (sp_Mod_neverDone F _ _) ce_Mod_neverDone ml_12_464 rfl rfl ⟨Nat.le_of_ble_eq_true rfl, Nat.le_of_ble_eq_true rfl⟩ rfl (Nat.le_of_ble_eq_true rfl) (fun r5 h6 => ?_)
  refine V_iload_n (pc := 16) (DCa dc_Mod_planNow_0 10 rfl) rfl 2 rfl ?_
  refine Q_callv (ci := 12) (st := []) (pc := 17) (DCa dc_Mod_planNow_0 11 rfl) (sp_Mod_bestRow F _ _ _ _ _) ce_Mod_bestRow ml_12_467 rfl rfl ⟨Nat.le_of_ble_eq_true rfl, Nat.le_of_ble_eq_true rfl⟩ rfl (Nat.le_of_ble_eq_true rfl) (fun r7 h8 => ?_)
  exact V_ireturn (pc := 20) (DCa dc_Mod_planNow_0 12 rfl) rfl
theorem sp_Mod_planNow (F : Nat) (l0 l1 l2 l3 : Int) (h : Hp) : Sp yX12_planNow cX12_planNow 4 (some (.int)) 7 174 [(2, l0), (0, l1), (0, l2), (0, l3)] h (Mod_planNow F l0 l1 l2 l3 h) := Sp_of (by decide +kernel) rfl rfl (Nat.le_of_ble_eq_true rfl) (v_Mod_planNow F l0 l1 l2 l3 h)

-- TideRakesModel.isBy
def Mod_isBy (F : Nat) (l0 : Int) (h : Hp) : Option (Int × Hp) :=
  cl (Mod_in F l0 0 600 h) fun r1 h2 =>
  rz r1 h2

theorem dc_Mod_isBy_0 : ∀ q ∈ ([(0, .iload_n 0, 1), (1, .iconst 0, 1), (2, .sipush 600, 3), (5, .invokestatic 355, 3), (8, .ireturn, 1)] : List (Nat × Instr × Nat)), decode cX12_isBy q.1 = .ok (q.2.1, q.2.2) := by decide +kernel
abbrev X_Mod_isBy : MX := (cX12_isBy, RX12, "isBy", 1, (some (.boolean)), 2, 42)
theorem v_Mod_isBy (F : Nat) (l0 : Int) (h : Hp) : V X_Mod_isBy 0 [(0, 0, l0)] [] h (Mod_isBy F l0 h) := by
  unfold Mod_isBy
  refine V_iload_n (pc := 0) (DCa dc_Mod_isBy_0 0 rfl) rfl 0 rfl ?_
  refine V_iconst (pc := 1) (DCa dc_Mod_isBy_0 1 rfl) (by decide) ?_
  refine V_sipush (pc := 2) (DCa dc_Mod_isBy_0 2 rfl) (by decide) ?_
  refine Q_calls (st := []) (pc := 5) (DCa dc_Mod_isBy_0 3 rfl) (sp_Mod_in F _ _ _ _) ce_Mod_in ml_12_355 rfl ⟨Nat.le_of_ble_eq_true rfl, Nat.le_of_ble_eq_true rfl⟩ rfl (Nat.le_of_ble_eq_true rfl) (fun r1 h2 => ?_)
  exact V_zreturn (pc := 8) (DCa dc_Mod_isBy_0 4 rfl) rfl
theorem sp_Mod_isBy (F : Nat) (l0 : Int) (h : Hp) : Sp yX12_isBy cX12_isBy 1 (some (.boolean)) 2 42 [(0, l0)] h (Mod_isBy F l0 h) := Sp_of (by decide +kernel) rfl rfl (Nat.le_of_ble_eq_true rfl) (v_Mod_isBy F l0 h)

-- TideRakesModel.plan
def Mod_plan (F : Nat) (l0 l1 l2 l3 : Int) (h : Hp) : Option (Int × Hp) :=
  iv h l0 112 (Mod_isWorker F l0 l1 h) fun r1 h2 =>
  if r1 = 0 then
    (some ((-1), h2))
  else
    (cl (Mod_isBy F l2 h2) fun r3 h4 =>
    if r3 = 0 then
      (some ((-1), h4))
    else
      (cl (Mod_in F l3 0 2 h4) fun r5 h6 =>
      if r5 = 0 then
        (some ((-1), h6))
      else
        (iv h6 l0 112 (Mod_planNow F l0 l1 l2 0 h6) fun r7 h8 =>
        if l3 = 0 then
          (iv h8 l0 112 (Mod_worthBy F l0 r7 h8) fun r9 h10 =>
          some (r9, h10))
        else
          (if l3 = 1 then
            (iv h8 l0 112 (Mod_leastReady F l0 r7 h8) fun r11 h12 =>
            some (r11, h12))
          else
            (some (r7, h8))))))

theorem dc_Mod_plan_0 : ∀ q ∈ ([(0, .aload_n 0, 1), (1, .iload_n 1, 1), (2, .invokevirtual 403, 3), (5, .ifCond .eq 19, 3), (8, .iload_n 2, 1), (9, .invokestatic 470, 3), (12, .ifCond .eq 12, 3), (15, .iload_n 3, 1), (16, .iconst 0, 1), (17, .iconst 2, 1), (18, .invokestatic 355, 3), (21, .ifCond .ne 5, 3), (24, .iconst (-1), 1), (25, .ireturn, 1), (26, .aload_n 0, 1), (27, .iload_n 1, 1), (28, .iload_n 2, 1), (29, .iconst 0, 1), (30, .invokevirtual 473, 3), (33, .istore 4, 2), (35, .iload_n 3, 1), (36, .ifCond .ne 12, 3), (39, .aload_n 0, 1), (40, .iload 4, 2), (42, .invokevirtual 458, 3), (45, .goto 19, 3), (48, .iload_n 3, 1), (49, .iconst 1, 1), (50, .if_icmp .ne 12, 3), (53, .aload_n 0, 1), (54, .iload 4, 2), (56, .invokevirtual 449, 3), (59, .goto 5, 3), (62, .iload 4, 2), (64, .ireturn, 1)] : List (Nat × Instr × Nat)), decode cX12_plan q.1 = .ok (q.2.1, q.2.2) := by decide +kernel
abbrev X_Mod_plan : MX := (cX12_plan, RX12, "plan", 5, (some (.int)), 8, 197)
theorem v_Mod_plan (F : Nat) (l0 l1 l2 l3 : Int) (h : Hp) : V X_Mod_plan 0 [(0, 2, l0), (1, 0, l1), (2, 0, l2), (3, 0, l3)] [] h (Mod_plan F l0 l1 l2 l3 h) := by
  unfold Mod_plan
  refine V_aload_n (pc := 0) (DCa dc_Mod_plan_0 0 rfl) rfl 0 rfl ?_
  refine V_iload_n (pc := 1) (DCa dc_Mod_plan_0 1 rfl) rfl 1 rfl ?_
  refine Q_callv (ci := 12) (st := []) (pc := 2) (DCa dc_Mod_plan_0 2 rfl) (sp_Mod_isWorker F _ _ _) ce_Mod_isWorker ml_12_403 rfl rfl ⟨Nat.le_of_ble_eq_true rfl, Nat.le_of_ble_eq_true rfl⟩ rfl (Nat.le_of_ble_eq_true rfl) (fun r1 h2 => ?_)
  refine V_if_eq (tgt := 24) (pc := 5) (DCa dc_Mod_plan_0 3 rfl) (by decide) (fun _ => ?_) (fun _ => ?_)
  · refine V_iconst (pc := 24) (DCa dc_Mod_plan_0 12 rfl) (by decide) ?_
    exact V_ireturn (pc := 25) (DCa dc_Mod_plan_0 13 rfl) rfl
  · refine V_iload_n (pc := 8) (DCa dc_Mod_plan_0 4 rfl) rfl 2 rfl ?_
    refine Q_calls (st := []) (pc := 9) (DCa dc_Mod_plan_0 5 rfl) (sp_Mod_isBy F _ _) ce_Mod_isBy ml_12_470 rfl ⟨Nat.le_of_ble_eq_true rfl, Nat.le_of_ble_eq_true rfl⟩ rfl (Nat.le_of_ble_eq_true rfl) (fun r3 h4 => ?_)
    refine V_if_eq (tgt := 24) (pc := 12) (DCa dc_Mod_plan_0 6 rfl) (by decide) (fun _ => ?_) (fun _ => ?_)
    · refine V_iconst (pc := 24) (DCa dc_Mod_plan_0 12 rfl) (by decide) ?_
      exact V_ireturn (pc := 25) (DCa dc_Mod_plan_0 13 rfl) rfl
    · refine V_iload_n (pc := 15) (DCa dc_Mod_plan_0 7 rfl) rfl 3 rfl ?_
      refine V_iconst (pc := 16) (DCa dc_Mod_plan_0 8 rfl) (by decide) ?_
      refine V_iconst (pc := 17) (DCa dc_Mod_plan_0 9 rfl) (by decide) ?_
      refine Q_calls (st := []) (pc := 18) (DCa dc_Mod_plan_0 10 rfl) (sp_Mod_in F _ _ _ _) ce_Mod_in ml_12_355 rfl ⟨Nat.le_of_ble_eq_true rfl, Nat.le_of_ble_eq_true rfl⟩ rfl (Nat.le_of_ble_eq_true rfl) (fun r5 h6 => ?_)
      refine V_if_ne (tgt := 26) (pc := 21) (DCa dc_Mod_plan_0 11 rfl) (by decide) (fun _ => ?_) (fun _ => ?_)
      · refine V_iconst (pc := 24) (DCa dc_Mod_plan_0 12 rfl) (by decide) ?_
        exact V_ireturn (pc := 25) (DCa dc_Mod_plan_0 13 rfl) rfl
      · refine V_aload_n (pc := 26) (DCa dc_Mod_plan_0 14 rfl) rfl 0 rfl ?_
        refine V_iload_n (pc := 27) (DCa dc_Mod_plan_0 15 rfl) rfl 1 rfl ?_
        refine V_iload_n (pc := 28) (DCa dc_Mod_plan_0 16 rfl) rfl 2 rfl ?_
        refine V_iconst (pc := 29) (DCa dc_Mod_plan_0 17 rfl) (by decide) ?_
        refine Q_callv (ci := 12) (st := []) (pc := 30) (DCa dc_Mod_plan_0 18 rfl) (sp_Mod_planNow F _ _ _ _ _) ce_Mod_planNow ml_12_473 rfl rfl ⟨Nat.le_of_ble_eq_true rfl, Nat.le_of_ble_eq_true rfl⟩ rfl (Nat.le_of_ble_eq_true rfl) (fun r7 h8 => ?_)
        refine V_istore (ls' := [(0, 2, l0), (1, 0, l1), (2, 0, l2), (3, 0, l3), (4, 0, r7)]) (pc := 33) (DCa dc_Mod_plan_0 19 rfl) (Nat.le_of_ble_eq_true rfl) rfl ?_
        refine V_iload_n (pc := 35) (DCa dc_Mod_plan_0 20 rfl) rfl 3 rfl ?_
        refine V_if_ne (tgt := 48) (pc := 36) (DCa dc_Mod_plan_0 21 rfl) (by decide) (fun _ => ?_) (fun _ => ?_)
        · refine V_aload_n (pc := 39) (DCa dc_Mod_plan_0 22 rfl) rfl 0 rfl ?_
          refine V_iload (pc := 40) (DCa dc_Mod_plan_0 23 rfl) 4 rfl ?_
          refine Q_callv (ci := 12) (st := []) (pc := 42) (DCa dc_Mod_plan_0 24 rfl) (sp_Mod_worthBy F _ _ _) ce_Mod_worthBy ml_12_458 rfl rfl ⟨Nat.le_of_ble_eq_true rfl, Nat.le_of_ble_eq_true rfl⟩ rfl (Nat.le_of_ble_eq_true rfl) (fun r9 h10 => ?_)
          refine V_goto (tgt := 64) (pc := 45) (DCa dc_Mod_plan_0 25 rfl) (by decide) ?_
          exact V_ireturn (pc := 64) (DCa dc_Mod_plan_0 34 rfl) rfl
        · refine V_iload_n (pc := 48) (DCa dc_Mod_plan_0 26 rfl) rfl 3 rfl ?_
          refine V_iconst (pc := 49) (DCa dc_Mod_plan_0 27 rfl) (by decide) ?_
          refine V_icmp_ne (tgt := 62) (pc := 50) (DCa dc_Mod_plan_0 28 rfl) (by decide) (fun _ => ?_) (fun _ => ?_)
          · refine V_aload_n (pc := 53) (DCa dc_Mod_plan_0 29 rfl) rfl 0 rfl ?_
            refine V_iload (pc := 54) (DCa dc_Mod_plan_0 30 rfl) 4 rfl ?_
            refine Q_callv (ci := 12) (st := []) (pc := 56) (DCa dc_Mod_plan_0 31 rfl) (sp_Mod_leastReady F _ _ _) ce_Mod_leastReady ml_12_449 rfl rfl ⟨Nat.le_of_ble_eq_true rfl, Nat.le_of_ble_eq_true rfl⟩ rfl (Nat.le_of_ble_eq_true rfl) (fun r11 h12 => ?_)
            refine V_goto (tgt := 64) (pc := 59) (DCa dc_Mod_plan_0 32 rfl) (by decide) ?_
            exact V_ireturn (pc := 64) (DCa dc_Mod_plan_0 34 rfl) rfl
          · refine V_iload (pc := 62) (DCa dc_Mod_plan_0 33 rfl) 4 rfl ?_
            exact V_ireturn (pc := 64) (DCa dc_Mod_plan_0 34 rfl) rfl
theorem sp_Mod_plan (F : Nat) (l0 l1 l2 l3 : Int) (h : Hp) : Sp yX12_plan cX12_plan 5 (some (.int)) 8 197 [(2, l0), (0, l1), (0, l2), (0, l3)] h (Mod_plan F l0 l1 l2 l3 h) := Sp_of (by decide +kernel) rfl rfl (Nat.le_of_ble_eq_true rfl) (v_Mod_plan F l0 l1 l2 l3 h)

-- TideRakesModel.bits
def Mod_bits_L4s (F : Nat)  (R4 : Int → Int → Int → Hp → Option (Int × Hp)) (l0 l1 l2 : Int) (h : Hp) : Option (Int × Hp) :=
  if l2 < 8 then
    (lt (w32 (l1 + (iand (ishr l0 l2) 1))) fun x1 =>
    R4 l0 x1 (w32 (l2 + 1)) h)
  else
    (some (l1, h))
def Mod_bits_L4 (F : Nat)  : Nat → Int → Int → Int → Hp → Option (Int × Hp)
  | 0 => fun _ _ _ _ => none
  | n + 1 => Mod_bits_L4s F  (Mod_bits_L4 F  n)
def Mod_bits (F : Nat) (l0 : Int) (h : Hp) : Option (Int × Hp) :=
  Mod_bits_L4 F F l0 0 0 h

theorem dc_Mod_bits_0 : ∀ q ∈ ([(0, .iconst 0, 1), (1, .istore_n 1, 1), (2, .iconst 0, 1), (3, .istore_n 2, 1), (4, .iload_n 2, 1), (5, .bipush 8, 2), (7, .if_icmp .ge 17, 3), (10, .iload_n 1, 1), (11, .iload_n 0, 1), (12, .iload_n 2, 1), (13, .ishr, 1), (14, .iconst 1, 1), (15, .iand, 1), (16, .iadd, 1), (17, .istore_n 1, 1), (18, .iinc 2 1, 3), (21, .goto (-17), 3), (24, .iload_n 1, 1), (25, .ireturn, 1)] : List (Nat × Instr × Nat)), decode cX12_bits q.1 = .ok (q.2.1, q.2.2) := by decide +kernel
abbrev X_Mod_bits : MX := (cX12_bits, RX12, "bits", 3, (some (.int)), 1, 20)
theorem v_Mod_bits_L4s (F : Nat)  (R4 : Int → Int → Int → Hp → Option (Int × Hp)) (hR4 : ∀ (l0 l1 l2 : Int) (h : Hp), V X_Mod_bits 4 [(0, 0, l0), (1, 0, l1), (2, 0, l2)] [] h (R4 l0 l1 l2 h)) (l0 l1 l2 : Int) (h : Hp) : V X_Mod_bits 4 [(0, 0, l0), (1, 0, l1), (2, 0, l2)] [] h (Mod_bits_L4s F  R4 l0 l1 l2 h) := by
  unfold Mod_bits_L4s
  refine V_iload_n (pc := 4) (DCa dc_Mod_bits_0 4 rfl) rfl 2 rfl ?_
  refine V_bipush (pc := 5) (DCa dc_Mod_bits_0 5 rfl) (by decide) ?_
  refine V_icmp_ge (tgt := 24) (pc := 7) (DCa dc_Mod_bits_0 6 rfl) (by decide) (fun _ => ?_) (fun _ => ?_)
  · refine V_iload_n (pc := 10) (DCa dc_Mod_bits_0 7 rfl) rfl 1 rfl ?_
    refine V_iload_n (pc := 11) (DCa dc_Mod_bits_0 8 rfl) rfl 0 rfl ?_
    refine V_iload_n (pc := 12) (DCa dc_Mod_bits_0 9 rfl) rfl 2 rfl ?_
    refine V_ishr (pc := 13) (DCa dc_Mod_bits_0 10 rfl) ?_
    refine V_iconst (pc := 14) (DCa dc_Mod_bits_0 11 rfl) (by decide) ?_
    refine V_iand (pc := 15) (DCa dc_Mod_bits_0 12 rfl) ?_
    refine V_iadd (pc := 16) (DCa dc_Mod_bits_0 13 rfl) ?_
    refine Q_lt (fun x1 => ?_)
    refine V_istore_n (ls' := [(0, 0, l0), (1, 0, x1), (2, 0, l2)]) (pc := 17) (DCa dc_Mod_bits_0 14 rfl) rfl (Nat.le_of_ble_eq_true rfl) rfl ?_
    refine V_iinc (ls' := [(0, 0, l0), (1, 0, x1), (2, 0, w32 (l2 + 1))]) (pc := 18) (DCa dc_Mod_bits_0 15 rfl) (Nat.le_of_ble_eq_true rfl) (by decide) 2 rfl rfl ?_
    refine V_goto (tgt := 4) (pc := 21) (DCa dc_Mod_bits_0 16 rfl) (by decide) ?_
    exact hR4 _ _ _ _
  · refine V_iload_n (pc := 24) (DCa dc_Mod_bits_0 17 rfl) rfl 1 rfl ?_
    exact V_ireturn (pc := 25) (DCa dc_Mod_bits_0 18 rfl) rfl
theorem v_Mod_bits_L4 (F : Nat)  (n : Nat) : ∀ (l0 l1 l2 : Int) (h : Hp), V X_Mod_bits 4 [(0, 0, l0), (1, 0, l1), (2, 0, l2)] [] h (Mod_bits_L4 F  n l0 l1 l2 h) := by
  induction n with
  | zero => intros; exact V_none
  | succ n ih => exact fun l0 l1 l2 h => v_Mod_bits_L4s F  _ ih l0 l1 l2 h
theorem v_Mod_bits (F : Nat) (l0 : Int) (h : Hp) : V X_Mod_bits 0 [(0, 0, l0)] [] h (Mod_bits F l0 h) := by
  unfold Mod_bits
  refine V_iconst (pc := 0) (DCa dc_Mod_bits_0 0 rfl) (by decide) ?_
  refine V_istore_n (ls' := [(0, 0, l0), (1, 0, 0)]) (pc := 1) (DCa dc_Mod_bits_0 1 rfl) rfl (Nat.le_of_ble_eq_true rfl) rfl ?_
  refine V_iconst (pc := 2) (DCa dc_Mod_bits_0 2 rfl) (by decide) ?_
  refine V_istore_n (ls' := [(0, 0, l0), (1, 0, 0), (2, 0, 0)]) (pc := 3) (DCa dc_Mod_bits_0 3 rfl) rfl (Nat.le_of_ble_eq_true rfl) rfl ?_
  exact v_Mod_bits_L4 F F _ _ _ _
theorem sp_Mod_bits (F : Nat) (l0 : Int) (h : Hp) : Sp yX12_bits cX12_bits 3 (some (.int)) 1 20 [(0, l0)] h (Mod_bits F l0 h) := Sp_of (by decide +kernel) rfl rfl (Nat.le_of_ble_eq_true rfl) (v_Mod_bits F l0 h)

-- TideRakesModel.fillsPlan
def Mod_fillsPlan_B111 (F : Nat) (R21 : Int → Int → Int → Int → Int → Int → Hp → Option (Int × Hp)) (l0 l1 l2 l3 l5 l7 : Int) (h : Hp) : Option (Int × Hp) :=
  gf h l0 112 72 fun v14 =>
  as h v14 0 l5 l7 fun h15 =>
  lt (iand l3 (ixor (ishl 1 l7) (-1))) fun x16 =>
  R21 l0 l1 l2 x16 l7 (w32 (l5 + (-1))) h15
def Mod_fillsPlan_B100 (F : Nat) (R21 : Int → Int → Int → Int → Int → Int → Hp → Option (Int × Hp)) (R61 : Int → Int → Int → Int → Int → Int → Int → Int → Hp → Option (Int × Hp)) (l0 l1 l2 l3 l4 l5 l6 l7 s0 : Int) (h : Hp) : Option (Int × Hp) :=
  if s0 = l6 then
    (Mod_fillsPlan_B111 F R21 l0 l1 l2 l3 l5 l7 h)
  else
    (R61 l0 l1 l2 l3 l4 l5 l6 (w32 (l7 + 1)) h)
def Mod_fillsPlan_L61s (F : Nat) (R21 : Int → Int → Int → Int → Int → Int → Hp → Option (Int × Hp)) (R61 : Int → Int → Int → Int → Int → Int → Int → Int → Hp → Option (Int × Hp)) (l0 l1 l2 l3 l4 l5 l6 l7 : Int) (h : Hp) : Option (Int × Hp) :=
  if (iand (ishr l3 l7) 1) = 0 then
    (R61 l0 l1 l2 l3 l4 l5 l6 (w32 (l7 + 1)) h)
  else
    (if l4 < 0 then
      (gf h l0 112 66 fun v10 =>
      al h v10 0 (w32 ((w32 (8 * l3)) + l7)) fun v11 =>
      Mod_fillsPlan_B100 F R21 R61 l0 l1 l2 l3 l4 l5 l6 l7 v11 h)
    else
      (iv h l0 112 (Mod_readyBehind F l0 l1 l3 l7 l4 h) fun r12 h13 =>
      Mod_fillsPlan_B100 F R21 R61 l0 l1 l2 l3 l4 l5 l6 l7 r12 h13))
def Mod_fillsPlan_L61 (F : Nat) (R21 : Int → Int → Int → Int → Int → Int → Hp → Option (Int × Hp)) : Nat → Int → Int → Int → Int → Int → Int → Int → Int → Hp → Option (Int × Hp)
  | 0 => fun _ _ _ _ _ _ _ _ _ => none
  | n + 1 => Mod_fillsPlan_L61s F R21 (Mod_fillsPlan_L61 F R21 n)
def Mod_fillsPlan_L21s (F : Nat)  (R21 : Int → Int → Int → Int → Int → Int → Hp → Option (Int × Hp)) (l0 l1 l2 l3 l4 l5 : Int) (h : Hp) : Option (Int × Hp) :=
  if l5 < 0 then
    (some (0, h))
  else
    (if l4 < 0 then
      (iv h l0 112 (Mod_leastReady F l0 l2 h) fun r6 h7 =>
      Mod_fillsPlan_L61 F R21 F l0 l1 l2 l3 l4 l5 r6 0 h7)
    else
      (gf h l0 112 66 fun v8 =>
      al h v8 0 (w32 ((w32 (8 * (ior l3 (ishl 1 l4)))) + l4)) fun v9 =>
      Mod_fillsPlan_L61 F R21 F l0 l1 l2 l3 l4 l5 v9 0 h))
def Mod_fillsPlan_L21 (F : Nat)  : Nat → Int → Int → Int → Int → Int → Int → Hp → Option (Int × Hp)
  | 0 => fun _ _ _ _ _ _ _ => none
  | n + 1 => Mod_fillsPlan_L21s F  (Mod_fillsPlan_L21 F  n)
def Mod_fillsPlan (F : Nat) (l0 l1 l2 : Int) (h : Hp) : Option (Int × Hp) :=
  cl (Mod_bits F l2 h) fun r1 h2 =>
  pf h2 l0 112 73 r1 fun h3 =>
  gf h3 l0 112 73 fun v4 =>
  lt (w32 (v4 - 1)) fun x5 =>
  Mod_fillsPlan_L21 F F l0 l1 l2 l2 (-1) x5 h3

theorem dc_Mod_fillsPlan_0 : ∀ q ∈ ([(0, .aload_n 0, 1), (1, .iload_n 2, 1), (2, .invokestatic 476, 3), (5, .putfield 479, 3), (8, .iload_n 2, 1), (9, .istore_n 3, 1), (10, .iconst (-1), 1), (11, .istore 4, 2), (13, .aload_n 0, 1), (14, .getfield 479, 3), (17, .iconst 1, 1), (18, .isub, 1), (19, .istore 5, 2), (21, .iload 5, 2), (23, .ifCond .lt 116, 3), (26, .iload 4, 2), (28, .ifCond .ge 11, 3), (31, .aload_n 0, 1), (32, .iload_n 2, 1), (33, .invokevirtual 449, 3), (36, .goto 20, 3), (39, .aload_n 0, 1), (40, .getfield 161, 3), (43, .bipush 8, 2), (45, .iload_n 3, 1), (46, .iconst 1, 1), (47, .iload 4, 2), (49, .ishl, 1), (50, .ior, 1), (51, .imul, 1), (52, .iload 4, 2), (54, .iadd, 1), (55, .iaload, 1), (56, .istore 6, 2), (58, .iconst 0, 1), (59, .istore 7, 2), (61, .iload_n 3, 1), (62, .iload 7, 2), (64, .ishr, 1), (65, .iconst 1, 1), (66, .iand, 1), (67, .ifCond .eq 38, 3), (70, .iload 4, 2), (72, .ifCond .ge 18, 3), (75, .aload_n 0, 1), (76, .getfield 161, 3), (79, .bipush 8, 2), (81, .iload_n 3, 1), (82, .imul, 1), (83, .iload 7, 2)] : List (Nat × Instr × Nat)), decode cX12_fillsPlan q.1 = .ok (q.2.1, q.2.2) := by decide +kernel
theorem dc_Mod_fillsPlan_1 : ∀ q ∈ ([(85, .iadd, 1), (86, .iaload, 1), (87, .goto 13, 3), (90, .aload_n 0, 1), (91, .iload_n 1, 1), (92, .iload_n 3, 1), (93, .iload 7, 2), (95, .iload 4, 2), (97, .invokevirtual 446, 3), (100, .iload 6, 2), (102, .if_icmp .eq 9, 3), (105, .iinc 7 1, 3), (108, .goto (-47), 3), (111, .aload_n 0, 1), (112, .getfield 164, 3), (115, .iload 5, 2), (117, .iload 7, 2), (119, .iastore, 1), (120, .iload 7, 2), (122, .istore 4, 2), (124, .iload_n 3, 1), (125, .iconst 1, 1), (126, .iload 7, 2), (128, .ishl, 1), (129, .iconst (-1), 1), (130, .ixor, 1), (131, .iand, 1), (132, .istore_n 3, 1), (133, .iinc 5 (-1), 3), (136, .goto (-115), 3), (139, .return_, 1)] : List (Nat × Instr × Nat)), decode cX12_fillsPlan q.1 = .ok (q.2.1, q.2.2) := by decide +kernel
abbrev X_Mod_fillsPlan : MX := (cX12_fillsPlan, RX12, "fillsPlan", 8, none, 5, 120)
theorem v_Mod_fillsPlan_B111 (F : Nat) (R21 : Int → Int → Int → Int → Int → Int → Hp → Option (Int × Hp)) (hR21 : ∀ (l0 l1 l2 l3 l4 l5 : Int) (h : Hp), V X_Mod_fillsPlan 21 [(0, 2, l0), (1, 0, l1), (2, 0, l2), (3, 0, l3), (4, 0, l4), (5, 0, l5)] [] h (R21 l0 l1 l2 l3 l4 l5 h)) (l0 l1 l2 l3 l5 l7 : Int) (h : Hp) : V X_Mod_fillsPlan 111 [(0, 2, l0), (1, 0, l1), (2, 0, l2), (3, 0, l3), (5, 0, l5), (7, 0, l7)] [] h (Mod_fillsPlan_B111 F R21 l0 l1 l2 l3 l5 l7 h) := by
  unfold Mod_fillsPlan_B111
  refine V_aload_n (pc := 111) (DCa dc_Mod_fillsPlan_1 13 rfl) rfl 0 rfl ?_
  refine Q_getf (k := 72) (pc := 112) (DCa dc_Mod_fillsPlan_1 14 rfl) cls_12 (Nat.le_of_ble_eq_true rfl) fl_12_164 rfl rfl rfl (fun v14 => ?_)
  refine V_iload (pc := 115) (DCa dc_Mod_fillsPlan_1 15 rfl) 4 rfl ?_
  refine V_iload (pc := 117) (DCa dc_Mod_fillsPlan_1 16 rfl) 5 rfl ?_
  refine Q_iastore (pc := 119) (DCa dc_Mod_fillsPlan_1 17 rfl) (fun h15 => ?_)
  refine V_iload (pc := 120) (DCa dc_Mod_fillsPlan_1 18 rfl) 5 rfl ?_
  refine V_istore (ls' := [(0, 2, l0), (1, 0, l1), (2, 0, l2), (3, 0, l3), (4, 0, l7), (5, 0, l5), (7, 0, l7)]) (pc := 122) (DCa dc_Mod_fillsPlan_1 19 rfl) (Nat.le_of_ble_eq_true rfl) rfl ?_
  refine V_iload_n (pc := 124) (DCa dc_Mod_fillsPlan_1 20 rfl) rfl 3 rfl ?_
  refine V_iconst (pc := 125) (DCa dc_Mod_fillsPlan_1 21 rfl) (by decide) ?_
  refine V_iload (pc := 126) (DCa dc_Mod_fillsPlan_1 22 rfl) 6 rfl ?_
  refine V_ishl (pc := 128) (DCa dc_Mod_fillsPlan_1 23 rfl) ?_
  refine V_iconst (pc := 129) (DCa dc_Mod_fillsPlan_1 24 rfl) (by decide) ?_
  refine V_ixor (pc := 130) (DCa dc_Mod_fillsPlan_1 25 rfl) ?_
  refine V_iand (pc := 131) (DCa dc_Mod_fillsPlan_1 26 rfl) ?_
  refine Q_lt (fun x16 => ?_)
  refine V_istore_n (ls' := [(0, 2, l0), (1, 0, l1), (2, 0, l2), (3, 0, x16), (4, 0, l7), (5, 0, l5), (7, 0, l7)]) (pc := 132) (DCa dc_Mod_fillsPlan_1 27 rfl) rfl (Nat.le_of_ble_eq_true rfl) rfl ?_
  refine V_iinc (ls' := [(0, 2, l0), (1, 0, l1), (2, 0, l2), (3, 0, x16), (4, 0, l7), (5, 0, w32 (l5 + (-1))), (7, 0, l7)]) (pc := 133) (DCa dc_Mod_fillsPlan_1 28 rfl) (Nat.le_of_ble_eq_true rfl) (by decide) 5 rfl rfl ?_
  refine V_goto (tgt := 21) (pc := 136) (DCa dc_Mod_fillsPlan_1 29 rfl) (by decide) ?_
  refine V_pick [0, 1, 2, 3, 4, 5] rfl ?_
  exact hR21 _ _ _ _ _ _ _
theorem v_Mod_fillsPlan_B100 (F : Nat) (R21 : Int → Int → Int → Int → Int → Int → Hp → Option (Int × Hp)) (hR21 : ∀ (l0 l1 l2 l3 l4 l5 : Int) (h : Hp), V X_Mod_fillsPlan 21 [(0, 2, l0), (1, 0, l1), (2, 0, l2), (3, 0, l3), (4, 0, l4), (5, 0, l5)] [] h (R21 l0 l1 l2 l3 l4 l5 h)) (R61 : Int → Int → Int → Int → Int → Int → Int → Int → Hp → Option (Int × Hp)) (hR61 : ∀ (l0 l1 l2 l3 l4 l5 l6 l7 : Int) (h : Hp), V X_Mod_fillsPlan 61 [(0, 2, l0), (1, 0, l1), (2, 0, l2), (3, 0, l3), (4, 0, l4), (5, 0, l5), (6, 0, l6), (7, 0, l7)] [] h (R61 l0 l1 l2 l3 l4 l5 l6 l7 h)) (l0 l1 l2 l3 l4 l5 l6 l7 s0 : Int) (h : Hp) : V X_Mod_fillsPlan 100 [(0, 2, l0), (1, 0, l1), (2, 0, l2), (3, 0, l3), (4, 0, l4), (5, 0, l5), (6, 0, l6), (7, 0, l7)] [(0, s0)] h (Mod_fillsPlan_B100 F R21 R61 l0 l1 l2 l3 l4 l5 l6 l7 s0 h) := by
  unfold Mod_fillsPlan_B100
  refine V_iload (pc := 100) (DCa dc_Mod_fillsPlan_1 9 rfl) 6 rfl ?_
  refine V_icmp_eq (tgt := 111) (pc := 102) (DCa dc_Mod_fillsPlan_1 10 rfl) (by decide) (fun _ => ?_) (fun _ => ?_)
  · refine V_pick [0, 1, 2, 3, 5, 7] rfl ?_
    exact v_Mod_fillsPlan_B111 F R21 hR21 _ _ _ _ _ _ _
  · refine V_iinc (ls' := [(0, 2, l0), (1, 0, l1), (2, 0, l2), (3, 0, l3), (4, 0, l4), (5, 0, l5), (6, 0, l6), (7, 0, w32 (l7 + 1))]) (pc := 105) (DCa dc_Mod_fillsPlan_1 11 rfl) (Nat.le_of_ble_eq_true rfl) (by decide) 7 rfl rfl ?_
    refine V_goto (tgt := 61) (pc := 108) (DCa dc_Mod_fillsPlan_1 12 rfl) (by decide) ?_
    exact hR61 _ _ _ _ _ _ _ _ _
theorem v_Mod_fillsPlan_L61s (F : Nat) (R21 : Int → Int → Int → Int → Int → Int → Hp → Option (Int × Hp)) (hR21 : ∀ (l0 l1 l2 l3 l4 l5 : Int) (h : Hp), V X_Mod_fillsPlan 21 [(0, 2, l0), (1, 0, l1), (2, 0, l2), (3, 0, l3), (4, 0, l4), (5, 0, l5)] [] h (R21 l0 l1 l2 l3 l4 l5 h)) (R61 : Int → Int → Int → Int → Int → Int → Int → Int → Hp → Option (Int × Hp)) (hR61 : ∀ (l0 l1 l2 l3 l4 l5 l6 l7 : Int) (h : Hp), V X_Mod_fillsPlan 61 [(0, 2, l0), (1, 0, l1), (2, 0, l2), (3, 0, l3), (4, 0, l4), (5, 0, l5), (6, 0, l6), (7, 0, l7)] [] h (R61 l0 l1 l2 l3 l4 l5 l6 l7 h)) (l0 l1 l2 l3 l4 l5 l6 l7 : Int) (h : Hp) : V X_Mod_fillsPlan 61 [(0, 2, l0), (1, 0, l1), (2, 0, l2), (3, 0, l3), (4, 0, l4), (5, 0, l5), (6, 0, l6), (7, 0, l7)] [] h (Mod_fillsPlan_L61s F R21 R61 l0 l1 l2 l3 l4 l5 l6 l7 h) := by
  unfold Mod_fillsPlan_L61s
  refine V_iload_n (pc := 61) (DCa dc_Mod_fillsPlan_0 36 rfl) rfl 3 rfl ?_
  refine V_iload (pc := 62) (DCa dc_Mod_fillsPlan_0 37 rfl) 7 rfl ?_
  refine V_ishr (pc := 64) (DCa dc_Mod_fillsPlan_0 38 rfl) ?_
  refine V_iconst (pc := 65) (DCa dc_Mod_fillsPlan_0 39 rfl) (by decide) ?_
  refine V_iand (pc := 66) (DCa dc_Mod_fillsPlan_0 40 rfl) ?_
  refine V_if_eq (tgt := 105) (pc := 67) (DCa dc_Mod_fillsPlan_0 41 rfl) (by decide) (fun _ => ?_) (fun _ => ?_)
  · refine V_iinc (ls' := [(0, 2, l0), (1, 0, l1), (2, 0, l2), (3, 0, l3), (4, 0, l4), (5, 0, l5), (6, 0, l6), (7, 0, w32 (l7 + 1))]) (pc := 105) (DCa dc_Mod_fillsPlan_1 11 rfl) (Nat.le_of_ble_eq_true rfl) (by decide) 7 rfl rfl ?_
    refine V_goto (tgt := 61) (pc := 108) (DCa dc_Mod_fillsPlan_1 12 rfl) (by decide) ?_
    exact hR61 _ _ _ _ _ _ _ _ _
  · refine V_iload (pc := 70) (DCa dc_Mod_fillsPlan_0 42 rfl) 4 rfl ?_
    refine V_if_ge (tgt := 90) (pc := 72) (DCa dc_Mod_fillsPlan_0 43 rfl) (by decide) (fun _ => ?_) (fun _ => ?_)
    · refine V_aload_n (pc := 75) (DCa dc_Mod_fillsPlan_0 44 rfl) rfl 0 rfl ?_
      refine Q_getf (k := 66) (pc := 76) (DCa dc_Mod_fillsPlan_0 45 rfl) cls_12 (Nat.le_of_ble_eq_true rfl) fl_12_161 rfl rfl rfl (fun v10 => ?_)
      refine V_bipush (pc := 79) (DCa dc_Mod_fillsPlan_0 46 rfl) (by decide) ?_
      refine V_iload_n (pc := 81) (DCa dc_Mod_fillsPlan_0 47 rfl) rfl 3 rfl ?_
      refine V_imul (pc := 82) (DCa dc_Mod_fillsPlan_0 48 rfl) ?_
      refine V_iload (pc := 83) (DCa dc_Mod_fillsPlan_0 49 rfl) 7 rfl ?_
      refine V_iadd (pc := 85) (DCa dc_Mod_fillsPlan_1 0 rfl) ?_
      refine Q_iaload (pc := 86) (DCa dc_Mod_fillsPlan_1 1 rfl) (fun v11 => ?_)
      refine V_goto (tgt := 100) (pc := 87) (DCa dc_Mod_fillsPlan_1 2 rfl) (by decide) ?_
      exact v_Mod_fillsPlan_B100 F R21 hR21 R61 hR61 _ _ _ _ _ _ _ _ _ _
    · refine V_aload_n (pc := 90) (DCa dc_Mod_fillsPlan_1 3 rfl) rfl 0 rfl ?_
      refine V_iload_n (pc := 91) (DCa dc_Mod_fillsPlan_1 4 rfl) rfl 1 rfl ?_
      refine V_iload_n (pc := 92) (DCa dc_Mod_fillsPlan_1 5 rfl) rfl 3 rfl ?_
      refine V_iload (pc := 93) (DCa dc_Mod_fillsPlan_1 6 rfl) 7 rfl ?_
      refine V_iload (pc := 95) (DCa dc_Mod_fillsPlan_1 7 rfl) 4 rfl ?_
      refine Q_callv (ci := 12) (st := []) (pc := 97) (DCa dc_Mod_fillsPlan_1 8 rfl) (sp_Mod_readyBehind F _ _ _ _ _ _) ce_Mod_readyBehind ml_12_446 rfl rfl ⟨Nat.le_of_ble_eq_true rfl, Nat.le_of_ble_eq_true rfl⟩ rfl (Nat.le_of_ble_eq_true rfl) (fun r12 h13 => ?_)
      exact v_Mod_fillsPlan_B100 F R21 hR21 R61 hR61 _ _ _ _ _ _ _ _ _ _
theorem v_Mod_fillsPlan_L61 (F : Nat) (R21 : Int → Int → Int → Int → Int → Int → Hp → Option (Int × Hp)) (hR21 : ∀ (l0 l1 l2 l3 l4 l5 : Int) (h : Hp), V X_Mod_fillsPlan 21 [(0, 2, l0), (1, 0, l1), (2, 0, l2), (3, 0, l3), (4, 0, l4), (5, 0, l5)] [] h (R21 l0 l1 l2 l3 l4 l5 h)) (n : Nat) : ∀ (l0 l1 l2 l3 l4 l5 l6 l7 : Int) (h : Hp), V X_Mod_fillsPlan 61 [(0, 2, l0), (1, 0, l1), (2, 0, l2), (3, 0, l3), (4, 0, l4), (5, 0, l5), (6, 0, l6), (7, 0, l7)] [] h (Mod_fillsPlan_L61 F R21 n l0 l1 l2 l3 l4 l5 l6 l7 h) := by
  induction n with
  | zero => intros; exact V_none
  | succ n ih => exact fun l0 l1 l2 l3 l4 l5 l6 l7 h => v_Mod_fillsPlan_L61s F R21 hR21 _ ih l0 l1 l2 l3 l4 l5 l6 l7 h
theorem v_Mod_fillsPlan_L21s (F : Nat)  (R21 : Int → Int → Int → Int → Int → Int → Hp → Option (Int × Hp)) (hR21 : ∀ (l0 l1 l2 l3 l4 l5 : Int) (h : Hp), V X_Mod_fillsPlan 21 [(0, 2, l0), (1, 0, l1), (2, 0, l2), (3, 0, l3), (4, 0, l4), (5, 0, l5)] [] h (R21 l0 l1 l2 l3 l4 l5 h)) (l0 l1 l2 l3 l4 l5 : Int) (h : Hp) : V X_Mod_fillsPlan 21 [(0, 2, l0), (1, 0, l1), (2, 0, l2), (3, 0, l3), (4, 0, l4), (5, 0, l5)] [] h (Mod_fillsPlan_L21s F  R21 l0 l1 l2 l3 l4 l5 h) := by
  unfold Mod_fillsPlan_L21s
  refine V_iload (pc := 21) (DCa dc_Mod_fillsPlan_0 13 rfl) 5 rfl ?_
  refine V_if_lt (tgt := 139) (pc := 23) (DCa dc_Mod_fillsPlan_0 14 rfl) (by decide) (fun _ => ?_) (fun _ => ?_)
  · exact V_return (pc := 139) (DCa dc_Mod_fillsPlan_1 30 rfl) rfl
  · refine V_iload (pc := 26) (DCa dc_Mod_fillsPlan_0 15 rfl) 4 rfl ?_
    refine V_if_ge (tgt := 39) (pc := 28) (DCa dc_Mod_fillsPlan_0 16 rfl) (by decide) (fun _ => ?_) (fun _ => ?_)
    · refine V_aload_n (pc := 31) (DCa dc_Mod_fillsPlan_0 17 rfl) rfl 0 rfl ?_
      refine V_iload_n (pc := 32) (DCa dc_Mod_fillsPlan_0 18 rfl) rfl 2 rfl ?_
      refine Q_callv (ci := 12) (st := []) (pc := 33) (DCa dc_Mod_fillsPlan_0 19 rfl) (sp_Mod_leastReady F _ _ _) ce_Mod_leastReady ml_12_449 rfl rfl ⟨Nat.le_of_ble_eq_true rfl, Nat.le_of_ble_eq_true rfl⟩ rfl (Nat.le_of_ble_eq_true rfl) (fun r6 h7 => ?_)
      refine V_goto (tgt := 56) (pc := 36) (DCa dc_Mod_fillsPlan_0 20 rfl) (by decide) ?_
      refine V_istore (ls' := [(0, 2, l0), (1, 0, l1), (2, 0, l2), (3, 0, l3), (4, 0, l4), (5, 0, l5), (6, 0, r6)]) (pc := 56) (DCa dc_Mod_fillsPlan_0 33 rfl) (Nat.le_of_ble_eq_true rfl) rfl ?_
      refine V_iconst (pc := 58) (DCa dc_Mod_fillsPlan_0 34 rfl) (by decide) ?_
      refine V_istore (ls' := [(0, 2, l0), (1, 0, l1), (2, 0, l2), (3, 0, l3), (4, 0, l4), (5, 0, l5), (6, 0, r6), (7, 0, 0)]) (pc := 59) (DCa dc_Mod_fillsPlan_0 35 rfl) (Nat.le_of_ble_eq_true rfl) rfl ?_
      exact v_Mod_fillsPlan_L61 F R21 hR21 F _ _ _ _ _ _ _ _ _
    · refine V_aload_n (pc := 39) (DCa dc_Mod_fillsPlan_0 21 rfl) rfl 0 rfl ?_
      refine Q_getf (k := 66) (pc := 40) (DCa dc_Mod_fillsPlan_0 22 rfl) cls_12 (Nat.le_of_ble_eq_true rfl) fl_12_161 rfl rfl rfl (fun v8 => ?_)
      refine V_bipush (pc := 43) (DCa dc_Mod_fillsPlan_0 23 rfl) (by decide) ?_
      refine V_iload_n (pc := 45) (DCa dc_Mod_fillsPlan_0 24 rfl) rfl 3 rfl ?_
      refine V_iconst (pc := 46) (DCa dc_Mod_fillsPlan_0 25 rfl) (by decide) ?_
      refine V_iload (pc := 47) (DCa dc_Mod_fillsPlan_0 26 rfl) 4 rfl ?_
      refine V_ishl (pc := 49) (DCa dc_Mod_fillsPlan_0 27 rfl) ?_
      refine V_ior (pc := 50) (DCa dc_Mod_fillsPlan_0 28 rfl) ?_
      refine V_imul (pc := 51) (DCa dc_Mod_fillsPlan_0 29 rfl) ?_
      refine V_iload (pc := 52) (DCa dc_Mod_fillsPlan_0 30 rfl) 4 rfl ?_
      refine V_iadd (pc := 54) (DCa dc_Mod_fillsPlan_0 31 rfl) ?_
      refine Q_iaload (pc := 55) (DCa dc_Mod_fillsPlan_0 32 rfl) (fun v9 => ?_)
      refine V_istore (ls' := [(0, 2, l0), (1, 0, l1), (2, 0, l2), (3, 0, l3), (4, 0, l4), (5, 0, l5), (6, 0, v9)]) (pc := 56) (DCa dc_Mod_fillsPlan_0 33 rfl) (Nat.le_of_ble_eq_true rfl) rfl ?_
      refine V_iconst (pc := 58) (DCa dc_Mod_fillsPlan_0 34 rfl) (by decide) ?_
      refine V_istore (ls' := [(0, 2, l0), (1, 0, l1), (2, 0, l2), (3, 0, l3), (4, 0, l4), (5, 0, l5), (6, 0, v9), (7, 0, 0)]) (pc := 59) (DCa dc_Mod_fillsPlan_0 35 rfl) (Nat.le_of_ble_eq_true rfl) rfl ?_
      exact v_Mod_fillsPlan_L61 F R21 hR21 F _ _ _ _ _ _ _ _ _
theorem v_Mod_fillsPlan_L21 (F : Nat)  (n : Nat) : ∀ (l0 l1 l2 l3 l4 l5 : Int) (h : Hp), V X_Mod_fillsPlan 21 [(0, 2, l0), (1, 0, l1), (2, 0, l2), (3, 0, l3), (4, 0, l4), (5, 0, l5)] [] h (Mod_fillsPlan_L21 F  n l0 l1 l2 l3 l4 l5 h) := by
  induction n with
  | zero => intros; exact V_none
  | succ n ih => exact fun l0 l1 l2 l3 l4 l5 h => v_Mod_fillsPlan_L21s F  _ ih l0 l1 l2 l3 l4 l5 h
theorem v_Mod_fillsPlan (F : Nat) (l0 l1 l2 : Int) (h : Hp) : V X_Mod_fillsPlan 0 [(0, 2, l0), (1, 0, l1), (2, 0, l2)] [] h (Mod_fillsPlan F l0 l1 l2 h) := by
  unfold Mod_fillsPlan
  refine V_aload_n (pc := 0) (DCa dc_Mod_fillsPlan_0 0 rfl) rfl 0 rfl ?_
  refine V_iload_n (pc := 1) (DCa dc_Mod_fillsPlan_0 1 rfl) rfl 2 rfl ?_
  refine Q_calls (st := [(2, l0)]) (pc := 2) (DCa dc_Mod_fillsPlan_0 2 rfl) (sp_Mod_bits F _ _) ce_Mod_bits ml_12_476 rfl ⟨Nat.le_of_ble_eq_true rfl, Nat.le_of_ble_eq_true rfl⟩ rfl (Nat.le_of_ble_eq_true rfl) (fun r1 h2 => ?_)
  refine Q_putf (k := 73) (pc := 5) (DCa dc_Mod_fillsPlan_0 3 rfl) cls_12 (Nat.le_of_ble_eq_true rfl) fl_12_479 rfl rfl rfl (Or.inl rfl) (Or.inl ⟨rfl, rfl⟩) (fun h3 => ?_)
  refine V_iload_n (pc := 8) (DCa dc_Mod_fillsPlan_0 4 rfl) rfl 2 rfl ?_
  refine V_istore_n (ls' := [(0, 2, l0), (1, 0, l1), (2, 0, l2), (3, 0, l2)]) (pc := 9) (DCa dc_Mod_fillsPlan_0 5 rfl) rfl (Nat.le_of_ble_eq_true rfl) rfl ?_
  refine V_iconst (pc := 10) (DCa dc_Mod_fillsPlan_0 6 rfl) (by decide) ?_
  refine V_istore (ls' := [(0, 2, l0), (1, 0, l1), (2, 0, l2), (3, 0, l2), (4, 0, (-1))]) (pc := 11) (DCa dc_Mod_fillsPlan_0 7 rfl) (Nat.le_of_ble_eq_true rfl) rfl ?_
  refine V_aload_n (pc := 13) (DCa dc_Mod_fillsPlan_0 8 rfl) rfl 0 rfl ?_
  refine Q_getf (k := 73) (pc := 14) (DCa dc_Mod_fillsPlan_0 9 rfl) cls_12 (Nat.le_of_ble_eq_true rfl) fl_12_479 rfl rfl rfl (fun v4 => ?_)
  refine V_iconst (pc := 17) (DCa dc_Mod_fillsPlan_0 10 rfl) (by decide) ?_
  refine V_isub (pc := 18) (DCa dc_Mod_fillsPlan_0 11 rfl) ?_
  refine Q_lt (fun x5 => ?_)
  refine V_istore (ls' := [(0, 2, l0), (1, 0, l1), (2, 0, l2), (3, 0, l2), (4, 0, (-1)), (5, 0, x5)]) (pc := 19) (DCa dc_Mod_fillsPlan_0 12 rfl) (Nat.le_of_ble_eq_true rfl) rfl ?_
  exact v_Mod_fillsPlan_L21 F F _ _ _ _ _ _ _
theorem sp_Mod_fillsPlan (F : Nat) (l0 l1 l2 : Int) (h : Hp) : Sp yX12_fillsPlan cX12_fillsPlan 8 none 5 120 [(2, l0), (0, l1), (0, l2)] h (Mod_fillsPlan F l0 l1 l2 h) := Sp_of (by decide +kernel) rfl rfl (Nat.le_of_ble_eq_true rfl) (v_Mod_fillsPlan F l0 l1 l2 h)

-- TideRakesModel.planAt
def Mod_planAt (F : Nat) (l0 l1 l2 l3 : Int) (h : Hp) : Option (Int × Hp) :=
  iv h l0 112 (Mod_isWorker F l0 l1 h) fun r1 h2 =>
  if r1 = 0 then
    (some ((-1), h2))
  else
    (cl (Mod_isBy F l2 h2) fun r3 h4 =>
    if r3 = 0 then
      (some ((-1), h4))
    else
      (if l3 < 0 then
        (some ((-1), h4))
      else
        (iv h4 l0 112 (Mod_planNow F l0 l1 l2 0 h4) fun r5 h6 =>
        iv h6 l0 112 (Mod_fillsPlan F l0 l1 r5 h6) fun r7 h8 =>
        gf h8 l0 112 73 fun v9 =>
        if l3 < v9 then
          (gf h8 l0 112 72 fun v10 =>
          al h8 v10 0 l3 fun v11 =>
          some (v11, h8))
        else
          (some ((-2), h8)))))

theorem dc_Mod_planAt_0 : ∀ q ∈ ([(0, .aload_n 0, 1), (1, .iload_n 1, 1), (2, .invokevirtual 403, 3), (5, .ifCond .eq 14, 3), (8, .iload_n 2, 1), (9, .invokestatic 470, 3), (12, .ifCond .eq 7, 3), (15, .iload_n 3, 1), (16, .ifCond .ge 5, 3), (19, .iconst (-1), 1), (20, .ireturn, 1), (21, .aload_n 0, 1), (22, .iload_n 1, 1), (23, .aload_n 0, 1), (24, .iload_n 1, 1), (25, .iload_n 2, 1), (26, .iconst 0, 1), (27, .invokevirtual 473, 3), (30, .invokevirtual 482, 3), (33, .iload_n 3, 1), (34, .aload_n 0, 1), (35, .getfield 479, 3), (38, .if_icmp .ge 12, 3), (41, .aload_n 0, 1), (42, .getfield 164, 3), (45, .iload_n 3, 1), (46, .iaload, 1), (47, .goto 5, 3), (50, .bipush (-2), 2), (52, .ireturn, 1)] : List (Nat × Instr × Nat)), decode cX12_planAt q.1 = .ok (q.2.1, q.2.2) := by decide +kernel
abbrev X_Mod_planAt : MX := (cX12_planAt, RX12, "planAt", 4, (some (.int)), 8, 197)
theorem v_Mod_planAt (F : Nat) (l0 l1 l2 l3 : Int) (h : Hp) : V X_Mod_planAt 0 [(0, 2, l0), (1, 0, l1), (2, 0, l2), (3, 0, l3)] [] h (Mod_planAt F l0 l1 l2 l3 h) := by
  unfold Mod_planAt
  refine V_aload_n (pc := 0) (DCa dc_Mod_planAt_0 0 rfl) rfl 0 rfl ?_
  refine V_iload_n (pc := 1) (DCa dc_Mod_planAt_0 1 rfl) rfl 1 rfl ?_
  refine Q_callv (ci := 12) (st := []) (pc := 2) (DCa dc_Mod_planAt_0 2 rfl) (sp_Mod_isWorker F _ _ _) ce_Mod_isWorker ml_12_403 rfl rfl ⟨Nat.le_of_ble_eq_true rfl, Nat.le_of_ble_eq_true rfl⟩ rfl (Nat.le_of_ble_eq_true rfl) (fun r1 h2 => ?_)
  refine V_if_eq (tgt := 19) (pc := 5) (DCa dc_Mod_planAt_0 3 rfl) (by decide) (fun _ => ?_) (fun _ => ?_)
  · refine V_iconst (pc := 19) (DCa dc_Mod_planAt_0 9 rfl) (by decide) ?_
    exact V_ireturn (pc := 20) (DCa dc_Mod_planAt_0 10 rfl) rfl
  · refine V_iload_n (pc := 8) (DCa dc_Mod_planAt_0 4 rfl) rfl 2 rfl ?_
    refine Q_calls (st := []) (pc := 9) (DCa dc_Mod_planAt_0 5 rfl) (sp_Mod_isBy F _ _) ce_Mod_isBy ml_12_470 rfl ⟨Nat.le_of_ble_eq_true rfl, Nat.le_of_ble_eq_true rfl⟩ rfl (Nat.le_of_ble_eq_true rfl) (fun r3 h4 => ?_)
    refine V_if_eq (tgt := 19) (pc := 12) (DCa dc_Mod_planAt_0 6 rfl) (by decide) (fun _ => ?_) (fun _ => ?_)
    · refine V_iconst (pc := 19) (DCa dc_Mod_planAt_0 9 rfl) (by decide) ?_
      exact V_ireturn (pc := 20) (DCa dc_Mod_planAt_0 10 rfl) rfl
    · refine V_iload_n (pc := 15) (DCa dc_Mod_planAt_0 7 rfl) rfl 3 rfl ?_
      refine V_if_ge (tgt := 21) (pc := 16) (DCa dc_Mod_planAt_0 8 rfl) (by decide) (fun _ => ?_) (fun _ => ?_)
      · refine V_iconst (pc := 19) (DCa dc_Mod_planAt_0 9 rfl) (by decide) ?_
        exact V_ireturn (pc := 20) (DCa dc_Mod_planAt_0 10 rfl) rfl
      · refine V_aload_n (pc := 21) (DCa dc_Mod_planAt_0 11 rfl) rfl 0 rfl ?_
        refine V_iload_n (pc := 22) (DCa dc_Mod_planAt_0 12 rfl) rfl 1 rfl ?_
        refine V_aload_n (pc := 23) (DCa dc_Mod_planAt_0 13 rfl) rfl 0 rfl ?_
        refine V_iload_n (pc := 24) (DCa dc_Mod_planAt_0 14 rfl) rfl 1 rfl ?_
        refine V_iload_n (pc := 25) (DCa dc_Mod_planAt_0 15 rfl) rfl 2 rfl ?_
        refine V_iconst (pc := 26) (DCa dc_Mod_planAt_0 16 rfl) (by decide) ?_
        refine Q_callv (ci := 12) (st := [(0, l1), (2, l0)]) (pc := 27) (DCa dc_Mod_planAt_0 17 rfl) (sp_Mod_planNow F _ _ _ _ _) ce_Mod_planNow ml_12_473 rfl rfl ⟨Nat.le_of_ble_eq_true rfl, Nat.le_of_ble_eq_true rfl⟩ rfl (Nat.le_of_ble_eq_true rfl) (fun r5 h6 => ?_)
        refine Q_callv (ci := 12) (st := []) (pc := 30) (DCa dc_Mod_planAt_0 18 rfl) (sp_Mod_fillsPlan F _ _ _ _) ce_Mod_fillsPlan ml_12_482 rfl rfl ⟨Nat.le_of_ble_eq_true rfl, Nat.le_of_ble_eq_true rfl⟩ rfl (Nat.le_of_ble_eq_true rfl) (fun r7 h8 => ?_)
        refine V_iload_n (pc := 33) (DCa dc_Mod_planAt_0 19 rfl) rfl 3 rfl ?_
        refine V_aload_n (pc := 34) (DCa dc_Mod_planAt_0 20 rfl) rfl 0 rfl ?_
        refine Q_getf (k := 73) (pc := 35) (DCa dc_Mod_planAt_0 21 rfl) cls_12 (Nat.le_of_ble_eq_true rfl) fl_12_479 rfl rfl rfl (fun v9 => ?_)
        refine V_icmp_ge (tgt := 50) (pc := 38) (DCa dc_Mod_planAt_0 22 rfl) (by decide) (fun _ => ?_) (fun _ => ?_)
        · refine V_aload_n (pc := 41) (DCa dc_Mod_planAt_0 23 rfl) rfl 0 rfl ?_
          refine Q_getf (k := 72) (pc := 42) (DCa dc_Mod_planAt_0 24 rfl) cls_12 (Nat.le_of_ble_eq_true rfl) fl_12_164 rfl rfl rfl (fun v10 => ?_)
          refine V_iload_n (pc := 45) (DCa dc_Mod_planAt_0 25 rfl) rfl 3 rfl ?_
          refine Q_iaload (pc := 46) (DCa dc_Mod_planAt_0 26 rfl) (fun v11 => ?_)
          refine V_goto (tgt := 52) (pc := 47) (DCa dc_Mod_planAt_0 27 rfl) (by decide) ?_
          exact V_ireturn (pc := 52) (DCa dc_Mod_planAt_0 29 rfl) rfl
        · refine V_bipush (pc := 50) (DCa dc_Mod_planAt_0 28 rfl) (by decide) ?_
          exact V_ireturn (pc := 52) (DCa dc_Mod_planAt_0 29 rfl) rfl
theorem sp_Mod_planAt (F : Nat) (l0 l1 l2 l3 : Int) (h : Hp) : Sp yX12_planAt cX12_planAt 4 (some (.int)) 8 197 [(2, l0), (0, l1), (0, l2), (0, l3)] h (Mod_planAt F l0 l1 l2 l3 h) := Sp_of (by decide +kernel) rfl rfl (Nat.le_of_ble_eq_true rfl) (v_Mod_planAt F l0 l1 l2 l3 h)

-- TideRakesModel.mends
def Mod_mends (F : Nat) (l0 l1 l2 l3 : Int) (h : Hp) : Option (Int × Hp) :=
  iv h l0 112 (Mod_isWorker F l0 l1 h) fun r1 h2 =>
  if r1 = 0 then
    (some ((-1), h2))
  else
    (cl (Mod_isBy F l2 h2) fun r3 h4 =>
    if r3 = 0 then
      (some ((-1), h4))
    else
      (cl (Mod_in F l3 0 2 h4) fun r5 h6 =>
      if r5 = 0 then
        (some ((-1), h6))
      else
        (iv h6 l0 112 (Mod_copies F l0 h6) fun r7 h8 =>
        iv h8 l0 112 (Mod_startsAs F l0 l1 0 h8) fun r9 h10 =>
        pz h10 l0 112 71 1 fun h11 =>
        iv h11 l0 112 (Mod_crossedNow F l0 h11) fun r12 h13 =>
        iv h13 l0 112 (Mod_bestRow F l0 l1 r12 l2 h13) fun r14 h15 =>
        if l3 = 0 then
          (iv h15 l0 112 (Mod_worthBy F l0 r14 h15) fun r16 h17 =>
          some (r16, h17))
        else
          (if l3 = 1 then
            (iv h15 l0 112 (Mod_leastReady F l0 r14 h15) fun r18 h19 =>
            some (r18, h19))
          else
            (some (r14, h15))))))

theorem dc_Mod_mends_0 : ∀ q ∈ ([(0, .aload_n 0, 1), (1, .iload_n 1, 1), (2, .invokevirtual 403, 3), (5, .ifCond .eq 19, 3), (8, .iload_n 2, 1), (9, .invokestatic 470, 3), (12, .ifCond .eq 12, 3), (15, .iload_n 3, 1), (16, .iconst 0, 1), (17, .iconst 2, 1), (18, .invokestatic 355, 3), (21, .ifCond .ne 5, 3), (24, .iconst (-1), 1), (25, .ireturn, 1), (26, .aload_n 0, 1), (27, .invokevirtual 409, 3), (30, .aload_n 0, 1), (31, .iload_n 1, 1), (32, .iconst 0, 1), (33, .invokevirtual 461, 3), (36, .aload_n 0, 1), (37, .iconst 1, 1), (38, .putfield 430, 3), (41, .aload_n 0, 1), (42, .iload_n 1, 1), (43, .aload_n 0, 1), (44, .invokevirtual 485, 3), (47, .iload_n 2, 1), (48, .invokevirtual 467, 3), (51, .istore 4, 2), (53, .iload_n 3, 1), (54, .ifCond .ne 12, 3), (57, .aload_n 0, 1), (58, .iload 4, 2), (60, .invokevirtual 458, 3), (63, .goto 19, 3), (66, .iload_n 3, 1), (67, .iconst 1, 1), (68, .if_icmp .ne 12, 3), (71, .aload_n 0, 1), (72, .iload 4, 2), (74, .invokevirtual 449, 3), (77, .goto 5, 3), (80, .iload 4, 2), (82, .ireturn, 1)] : List (Nat × Instr × Nat)), decode cX12_mends q.1 = .ok (q.2.1, q.2.2) := by decide +kernel
abbrev X_Mod_mends : MX := (cX12_mends, RX12, "mends", 5, (some (.int)), 7, 174)
theorem v_Mod_mends (F : Nat) (l0 l1 l2 l3 : Int) (h : Hp) : V X_Mod_mends 0 [(0, 2, l0), (1, 0, l1), (2, 0, l2), (3, 0, l3)] [] h (Mod_mends F l0 l1 l2 l3 h) := by
  unfold Mod_mends
  refine V_aload_n (pc := 0) (DCa dc_Mod_mends_0 0 rfl) rfl 0 rfl ?_
  refine V_iload_n (pc := 1) (DCa dc_Mod_mends_0 1 rfl) rfl 1 rfl ?_
  refine Q_callv (ci := 12) (st := []) (pc := 2) (DCa dc_Mod_mends_0 2 rfl) (sp_Mod_isWorker F _ _ _) ce_Mod_isWorker ml_12_403 rfl rfl ⟨Nat.le_of_ble_eq_true rfl, Nat.le_of_ble_eq_true rfl⟩ rfl (Nat.le_of_ble_eq_true rfl) (fun r1 h2 => ?_)
  refine V_if_eq (tgt := 24) (pc := 5) (DCa dc_Mod_mends_0 3 rfl) (by decide) (fun _ => ?_) (fun _ => ?_)
  · refine V_iconst (pc := 24) (DCa dc_Mod_mends_0 12 rfl) (by decide) ?_
    exact V_ireturn (pc := 25) (DCa dc_Mod_mends_0 13 rfl) rfl
  · refine V_iload_n (pc := 8) (DCa dc_Mod_mends_0 4 rfl) rfl 2 rfl ?_
    refine Q_calls (st := []) (pc := 9) (DCa dc_Mod_mends_0 5 rfl) (sp_Mod_isBy F _ _) ce_Mod_isBy ml_12_470 rfl ⟨Nat.le_of_ble_eq_true rfl, Nat.le_of_ble_eq_true rfl⟩ rfl (Nat.le_of_ble_eq_true rfl) (fun r3 h4 => ?_)
    refine V_if_eq (tgt := 24) (pc := 12) (DCa dc_Mod_mends_0 6 rfl) (by decide) (fun _ => ?_) (fun _ => ?_)
    · refine V_iconst (pc := 24) (DCa dc_Mod_mends_0 12 rfl) (by decide) ?_
      exact V_ireturn (pc := 25) (DCa dc_Mod_mends_0 13 rfl) rfl
    · refine V_iload_n (pc := 15) (DCa dc_Mod_mends_0 7 rfl) rfl 3 rfl ?_
      refine V_iconst (pc := 16) (DCa dc_Mod_mends_0 8 rfl) (by decide) ?_
      refine V_iconst (pc := 17) (DCa dc_Mod_mends_0 9 rfl) (by decide) ?_
      refine Q_calls (st := []) (pc := 18) (DCa dc_Mod_mends_0 10 rfl) (sp_Mod_in F _ _ _ _) ce_Mod_in ml_12_355 rfl ⟨Nat.le_of_ble_eq_true rfl, Nat.le_of_ble_eq_true rfl⟩ rfl (Nat.le_of_ble_eq_true rfl) (fun r5 h6 => ?_)
      refine V_if_ne (tgt := 26) (pc := 21) (DCa dc_Mod_mends_0 11 rfl) (by decide) (fun _ => ?_) (fun _ => ?_)
      · refine V_iconst (pc := 24) (DCa dc_Mod_mends_0 12 rfl) (by decide) ?_
        exact V_ireturn (pc := 25) (DCa dc_Mod_mends_0 13 rfl) rfl
      · refine V_aload_n (pc := 26) (DCa dc_Mod_mends_0 14 rfl) rfl 0 rfl ?_
        refine Q_callv (ci := 12) (st := []) (pc := 27) (DCa dc_Mod_mends_0 15 rfl) (sp_Mod_copies F _ _) ce_Mod_copies ml_12_409 rfl rfl ⟨Nat.le_of_ble_eq_true rfl, Nat.le_of_ble_eq_true rfl⟩ rfl (Nat.le_of_ble_eq_true rfl) (fun r7 h8 => ?_)
        refine V_aload_n (pc := 30) (DCa dc_Mod_mends_0 16 rfl) rfl 0 rfl ?_
        refine V_iload_n (pc := 31) (DCa dc_Mod_mends_0 17 rfl) rfl 1 rfl ?_
        refine V_iconst (pc := 32) (DCa dc_Mod_mends_0 18 rfl) (by decide) ?_
        refine Q_callv (ci := 12) (st := []) (pc := 33) (DCa dc_Mod_mends_0 19 rfl) (sp_Mod_startsAs F _ _ _ _) ce_Mod_startsAs ml_12_461 rfl rfl ⟨Nat.le_of_ble_eq_true rfl, Nat.le_of_ble_eq_true rfl⟩ rfl (Nat.le_of_ble_eq_true rfl) (fun r9 h10 => ?_)
        refine V_aload_n (pc := 36) (DCa dc_Mod_mends_0 20 rfl) rfl 0 rfl ?_
        refine V_iconst (pc := 37) (DCa dc_Mod_mends_0 21 rfl) (by decide) ?_
        refine Q_putz (k := 71) (pc := 38) (DCa dc_Mod_mends_0 22 rfl) cls_12 (Nat.le_of_ble_eq_true rfl) fl_12_430 rfl rfl rfl (Or.inl rfl) rfl (fun h11 => ?_)
        refine V_aload_n (pc := 41) (DCa dc_Mod_mends_0 23 rfl) rfl 0 rfl ?_
        refine V_iload_n (pc := 42) (DCa dc_Mod_mends_0 24 rfl) rfl 1 rfl ?_
        refine V_aload_n (pc := 43) (DCa dc_Mod_mends_0 25 rfl) rfl 0 rfl ?_
        refine Q_callv (ci := 12) (st := [(0, l1), (2, l0)]) (pc := 44) (DCa dc_Mod_mends_0 26 rfl) (sp_Mod_crossedNow F _ _) ce_Mod_crossedNow ml_12_485 rfl rfl ⟨Nat.le_of_ble_eq_true rfl, Nat.le_of_ble_eq_true rfl⟩ rfl (Nat.le_of_ble_eq_true rfl) (fun r12 h13 => ?_)
        refine V_iload_n (pc := 47) (DCa dc_Mod_mends_0 27 rfl) rfl 2 rfl ?_
        refine Q_callv (ci := 12) (st := []) (pc := 48) (DCa dc_Mod_mends_0 28 rfl) (sp_Mod_bestRow F _ _ _ _ _) ce_Mod_bestRow ml_12_467 rfl rfl ⟨Nat.le_of_ble_eq_true rfl, Nat.le_of_ble_eq_true rfl⟩ rfl (Nat.le_of_ble_eq_true rfl) (fun r14 h15 => ?_)
        refine V_istore (ls' := [(0, 2, l0), (1, 0, l1), (2, 0, l2), (3, 0, l3), (4, 0, r14)]) (pc := 51) (DCa dc_Mod_mends_0 29 rfl) (Nat.le_of_ble_eq_true rfl) rfl ?_
        refine V_iload_n (pc := 53) (DCa dc_Mod_mends_0 30 rfl) rfl 3 rfl ?_
        refine V_if_ne (tgt := 66) (pc := 54) (DCa dc_Mod_mends_0 31 rfl) (by decide) (fun _ => ?_) (fun _ => ?_)
        · refine V_aload_n (pc := 57) (DCa dc_Mod_mends_0 32 rfl) rfl 0 rfl ?_
          refine V_iload (pc := 58) (DCa dc_Mod_mends_0 33 rfl) 4 rfl ?_
          refine Q_callv (ci := 12) (st := []) (pc := 60) (DCa dc_Mod_mends_0 34 rfl) (sp_Mod_worthBy F _ _ _) ce_Mod_worthBy ml_12_458 rfl rfl ⟨Nat.le_of_ble_eq_true rfl, Nat.le_of_ble_eq_true rfl⟩ rfl (Nat.le_of_ble_eq_true rfl) (fun r16 h17 => ?_)
          refine V_goto (tgt := 82) (pc := 63) (DCa dc_Mod_mends_0 35 rfl) (by decide) ?_
          exact V_ireturn (pc := 82) (DCa dc_Mod_mends_0 44 rfl) rfl
        · refine V_iload_n (pc := 66) (DCa dc_Mod_mends_0 36 rfl) rfl 3 rfl ?_
          refine V_iconst (pc := 67) (DCa dc_Mod_mends_0 37 rfl) (by decide) ?_
          refine V_icmp_ne (tgt := 80) (pc := 68) (DCa dc_Mod_mends_0 38 rfl) (by decide) (fun _ => ?_) (fun _ => ?_)
          · refine V_aload_n (pc := 71) (DCa dc_Mod_mends_0 39 rfl) rfl 0 rfl ?_
            refine V_iload (pc := 72) (DCa dc_Mod_mends_0 40 rfl) 4 rfl ?_
            refine Q_callv (ci := 12) (st := []) (pc := 74) (DCa dc_Mod_mends_0 41 rfl) (sp_Mod_leastReady F _ _ _) ce_Mod_leastReady ml_12_449 rfl rfl ⟨Nat.le_of_ble_eq_true rfl, Nat.le_of_ble_eq_true rfl⟩ rfl (Nat.le_of_ble_eq_true rfl) (fun r18 h19 => ?_)
            refine V_goto (tgt := 82) (pc := 77) (DCa dc_Mod_mends_0 42 rfl) (by decide) ?_
            exact V_ireturn (pc := 82) (DCa dc_Mod_mends_0 44 rfl) rfl
          · refine V_iload (pc := 80) (DCa dc_Mod_mends_0 43 rfl) 4 rfl ?_
            exact V_ireturn (pc := 82) (DCa dc_Mod_mends_0 44 rfl) rfl
theorem sp_Mod_mends (F : Nat) (l0 l1 l2 l3 : Int) (h : Hp) : Sp yX12_mends cX12_mends 5 (some (.int)) 7 174 [(2, l0), (0, l1), (0, l2), (0, l3)] h (Mod_mends F l0 l1 l2 l3 h) := Sp_of (by decide +kernel) rfl rfl (Nat.le_of_ble_eq_true rfl) (v_Mod_mends F l0 l1 l2 l3 h)

-- TideRakesModel.after
def Mod_after_B67 (F : Nat)  (l0 l3 : Int) (h : Hp) : Option (Int × Hp) :=
  iv h l0 112 (Mod_photoOf F l0 l3 h) fun r16 h17 =>
  some (r16, h17)
def Mod_after_L39s (F : Nat)  (R39 : Int → Int → Int → Int → Hp → Option (Int × Hp)) (l0 l1 l3 l4 : Int) (h : Hp) : Option (Int × Hp) :=
  gf h l0 112 73 fun v11 =>
  if l4 < v11 then
    (gf h l0 112 72 fun v12 =>
    al h v12 0 l4 fun v13 =>
    iv h l0 112 (Mod_sends F l0 l1 v13 h) fun r14 h15 =>
    R39 l0 l1 l3 (w32 (l4 + 1)) h15)
  else
    (Mod_after_B67 F l0 l3 h)
def Mod_after_L39 (F : Nat)  : Nat → Int → Int → Int → Int → Hp → Option (Int × Hp)
  | 0 => fun _ _ _ _ _ => none
  | n + 1 => Mod_after_L39s F  (Mod_after_L39 F  n)
def Mod_after (F : Nat) (l0 l1 l2 l3 : Int) (h : Hp) : Option (Int × Hp) :=
  iv h l0 112 (Mod_isWorker F l0 l1 h) fun r1 h2 =>
  if r1 = 0 then
    (some ((-1), h2))
  else
    (cl (Mod_isBy F l2 h2) fun r3 h4 =>
    if r3 = 0 then
      (some ((-1), h4))
    else
      (cl (Mod_isMinute F l3 h4) fun r5 h6 =>
      if r5 = 0 then
        (some ((-1), h6))
      else
        (iv h6 l0 112 (Mod_planNow F l0 l1 l2 0 h6) fun r7 h8 =>
        iv h8 l0 112 (Mod_fillsPlan F l0 l1 r7 h8) fun r9 h10 =>
        Mod_after_L39 F F l0 l1 l3 0 h10)))

theorem dc_Mod_after_0 : ∀ q ∈ ([(0, .aload_n 0, 1), (1, .iload_n 1, 1), (2, .invokevirtual 403, 3), (5, .ifCond .eq 17, 3), (8, .iload_n 2, 1), (9, .invokestatic 470, 3), (12, .ifCond .eq 10, 3), (15, .iload_n 3, 1), (16, .invokestatic 406, 3), (19, .ifCond .ne 5, 3), (22, .iconst (-1), 1), (23, .ireturn, 1), (24, .aload_n 0, 1), (25, .iload_n 1, 1), (26, .aload_n 0, 1), (27, .iload_n 1, 1), (28, .iload_n 2, 1), (29, .iconst 0, 1), (30, .invokevirtual 473, 3), (33, .invokevirtual 482, 3), (36, .iconst 0, 1), (37, .istore 4, 2), (39, .iload 4, 2), (41, .aload_n 0, 1), (42, .getfield 479, 3), (45, .if_icmp .ge 22, 3), (48, .aload_n 0, 1), (49, .iload_n 1, 1), (50, .aload_n 0, 1), (51, .getfield 164, 3), (54, .iload 4, 2), (56, .iaload, 1), (57, .invokevirtual 412, 3), (60, .pop, 1), (61, .iinc 4 1, 3), (64, .goto (-25), 3), (67, .aload_n 0, 1), (68, .iload_n 3, 1), (69, .invokevirtual 424, 3), (72, .ireturn, 1)] : List (Nat × Instr × Nat)), decode cX12_after q.1 = .ok (q.2.1, q.2.2) := by decide +kernel
abbrev X_Mod_after : MX := (cX12_after, RX12, "after", 5, (some (.int)), 8, 197)
theorem v_Mod_after_B67 (F : Nat)  (l0 l3 : Int) (h : Hp) : V X_Mod_after 67 [(0, 2, l0), (3, 0, l3)] [] h (Mod_after_B67 F  l0 l3 h) := by
  unfold Mod_after_B67
  refine V_aload_n (pc := 67) (DCa dc_Mod_after_0 36 rfl) rfl 0 rfl ?_
  refine V_iload_n (pc := 68) (DCa dc_Mod_after_0 37 rfl) rfl 1 rfl ?_
  refine Q_callv (ci := 12) (st := []) (pc := 69) (DCa dc_Mod_after_0 38 rfl) (sp_Mod_photoOf F _ _ _) ce_Mod_photoOf ml_12_424 rfl rfl ⟨Nat.le_of_ble_eq_true rfl, Nat.le_of_ble_eq_true rfl⟩ rfl (Nat.le_of_ble_eq_true rfl) (fun r16 h17 => ?_)
  exact V_ireturn (pc := 72) (DCa dc_Mod_after_0 39 rfl) rfl
theorem v_Mod_after_L39s (F : Nat)  (R39 : Int → Int → Int → Int → Hp → Option (Int × Hp)) (hR39 : ∀ (l0 l1 l3 l4 : Int) (h : Hp), V X_Mod_after 39 [(0, 2, l0), (1, 0, l1), (3, 0, l3), (4, 0, l4)] [] h (R39 l0 l1 l3 l4 h)) (l0 l1 l3 l4 : Int) (h : Hp) : V X_Mod_after 39 [(0, 2, l0), (1, 0, l1), (3, 0, l3), (4, 0, l4)] [] h (Mod_after_L39s F  R39 l0 l1 l3 l4 h) := by
  unfold Mod_after_L39s
  refine V_iload (pc := 39) (DCa dc_Mod_after_0 22 rfl) 3 rfl ?_
  refine V_aload_n (pc := 41) (DCa dc_Mod_after_0 23 rfl) rfl 0 rfl ?_
  refine Q_getf (k := 73) (pc := 42) (DCa dc_Mod_after_0 24 rfl) cls_12 (Nat.le_of_ble_eq_true rfl) fl_12_479 rfl rfl rfl (fun v11 => ?_)
  refine V_icmp_ge (tgt := 67) (pc := 45) (DCa dc_Mod_after_0 25 rfl) (by decide) (fun _ => ?_) (fun _ => ?_)
  · refine V_aload_n (pc := 48) (DCa dc_Mod_after_0 26 rfl) rfl 0 rfl ?_
    refine V_iload_n (pc := 49) (DCa dc_Mod_after_0 27 rfl) rfl 1 rfl ?_
    refine V_aload_n (pc := 50) (DCa dc_Mod_after_0 28 rfl) rfl 0 rfl ?_
    refine Q_getf (k := 72) (pc := 51) (DCa dc_Mod_after_0 29 rfl) cls_12 (Nat.le_of_ble_eq_true rfl) fl_12_164 rfl rfl rfl (fun v12 => ?_)
    refine V_iload (pc := 54) (DCa dc_Mod_after_0 30 rfl) 3 rfl ?_
    refine Q_iaload (pc := 56) (DCa dc_Mod_after_0 31 rfl) (fun v13 => ?_)
    refine Q_callv (ci := 12) (st := []) (pc := 57) (DCa dc_Mod_after_0 32 rfl) (sp_Mod_sends F _ _ _ _) ce_Mod_sends ml_12_412 rfl rfl ⟨Nat.le_of_ble_eq_true rfl, Nat.le_of_ble_eq_true rfl⟩ rfl (Nat.le_of_ble_eq_true rfl) (fun r14 h15 => ?_)
    refine V_pop (pc := 60) (DCa dc_Mod_after_0 33 rfl) rfl ?_
    refine V_iinc (ls' := [(0, 2, l0), (1, 0, l1), (3, 0, l3), (4, 0, w32 (l4 + 1))]) (pc := 61) (DCa dc_Mod_after_0 34 rfl) (Nat.le_of_ble_eq_true rfl) (by decide) 3 rfl rfl ?_
    refine V_goto (tgt := 39) (pc := 64) (DCa dc_Mod_after_0 35 rfl) (by decide) ?_
    exact hR39 _ _ _ _ _
  · refine V_pick [0, 2] rfl ?_
    exact v_Mod_after_B67 F _ _ _
theorem v_Mod_after_L39 (F : Nat)  (n : Nat) : ∀ (l0 l1 l3 l4 : Int) (h : Hp), V X_Mod_after 39 [(0, 2, l0), (1, 0, l1), (3, 0, l3), (4, 0, l4)] [] h (Mod_after_L39 F  n l0 l1 l3 l4 h) := by
  induction n with
  | zero => intros; exact V_none
  | succ n ih => exact fun l0 l1 l3 l4 h => v_Mod_after_L39s F  _ ih l0 l1 l3 l4 h
theorem v_Mod_after (F : Nat) (l0 l1 l2 l3 : Int) (h : Hp) : V X_Mod_after 0 [(0, 2, l0), (1, 0, l1), (2, 0, l2), (3, 0, l3)] [] h (Mod_after F l0 l1 l2 l3 h) := by
  unfold Mod_after
  refine V_aload_n (pc := 0) (DCa dc_Mod_after_0 0 rfl) rfl 0 rfl ?_
  refine V_iload_n (pc := 1) (DCa dc_Mod_after_0 1 rfl) rfl 1 rfl ?_
  refine Q_callv (ci := 12) (st := []) (pc := 2) (DCa dc_Mod_after_0 2 rfl) (sp_Mod_isWorker F _ _ _) ce_Mod_isWorker ml_12_403 rfl rfl ⟨Nat.le_of_ble_eq_true rfl, Nat.le_of_ble_eq_true rfl⟩ rfl (Nat.le_of_ble_eq_true rfl) (fun r1 h2 => ?_)
  refine V_if_eq (tgt := 22) (pc := 5) (DCa dc_Mod_after_0 3 rfl) (by decide) (fun _ => ?_) (fun _ => ?_)
  · refine V_iconst (pc := 22) (DCa dc_Mod_after_0 10 rfl) (by decide) ?_
    exact V_ireturn (pc := 23) (DCa dc_Mod_after_0 11 rfl) rfl
  · refine V_iload_n (pc := 8) (DCa dc_Mod_after_0 4 rfl) rfl 2 rfl ?_
    refine Q_calls (st := []) (pc := 9) (DCa dc_Mod_after_0 5 rfl) (sp_Mod_isBy F _ _) ce_Mod_isBy ml_12_470 rfl ⟨Nat.le_of_ble_eq_true rfl, Nat.le_of_ble_eq_true rfl⟩ rfl (Nat.le_of_ble_eq_true rfl) (fun r3 h4 => ?_)
    refine V_if_eq (tgt := 22) (pc := 12) (DCa dc_Mod_after_0 6 rfl) (by decide) (fun _ => ?_) (fun _ => ?_)
    · refine V_iconst (pc := 22) (DCa dc_Mod_after_0 10 rfl) (by decide) ?_
      exact V_ireturn (pc := 23) (DCa dc_Mod_after_0 11 rfl) rfl
    · refine V_iload_n (pc := 15) (DCa dc_Mod_after_0 7 rfl) rfl 3 rfl ?_
      refine Q_calls (st := []) (pc := 16) (DCa dc_Mod_after_0 8 rfl) (sp_Mod_isMinute F _ _) ce_Mod_isMinute ml_12_406 rfl ⟨Nat.le_of_ble_eq_true rfl, Nat.le_of_ble_eq_true rfl⟩ rfl (Nat.le_of_ble_eq_true rfl) (fun r5 h6 => ?_)
      refine V_if_ne (tgt := 24) (pc := 19) (DCa dc_Mod_after_0 9 rfl) (by decide) (fun _ => ?_) (fun _ => ?_)
      · refine V_iconst (pc := 22) (DCa dc_Mod_after_0 10 rfl) (by decide) ?_
        exact V_ireturn (pc := 23) (DCa dc_Mod_after_0 11 rfl) rfl
      · refine V_aload_n (pc := 24) (DCa dc_Mod_after_0 12 rfl) rfl 0 rfl ?_
        refine V_iload_n (pc := 25) (DCa dc_Mod_after_0 13 rfl) rfl 1 rfl ?_
        refine V_aload_n (pc := 26) (DCa dc_Mod_after_0 14 rfl) rfl 0 rfl ?_
        refine V_iload_n (pc := 27) (DCa dc_Mod_after_0 15 rfl) rfl 1 rfl ?_
        refine V_iload_n (pc := 28) (DCa dc_Mod_after_0 16 rfl) rfl 2 rfl ?_
        refine V_iconst (pc := 29) (DCa dc_Mod_after_0 17 rfl) (by decide) ?_
        refine Q_callv (ci := 12) (st := [(0, l1), (2, l0)]) (pc := 30) (DCa dc_Mod_after_0 18 rfl) (sp_Mod_planNow F _ _ _ _ _) ce_Mod_planNow ml_12_473 rfl rfl ⟨Nat.le_of_ble_eq_true rfl, Nat.le_of_ble_eq_true rfl⟩ rfl (Nat.le_of_ble_eq_true rfl) (fun r7 h8 => ?_)
        refine Q_callv (ci := 12) (st := []) (pc := 33) (DCa dc_Mod_after_0 19 rfl) (sp_Mod_fillsPlan F _ _ _ _) ce_Mod_fillsPlan ml_12_482 rfl rfl ⟨Nat.le_of_ble_eq_true rfl, Nat.le_of_ble_eq_true rfl⟩ rfl (Nat.le_of_ble_eq_true rfl) (fun r9 h10 => ?_)
        refine V_iconst (pc := 36) (DCa dc_Mod_after_0 20 rfl) (by decide) ?_
        refine V_istore (ls' := [(0, 2, l0), (1, 0, l1), (2, 0, l2), (3, 0, l3), (4, 0, 0)]) (pc := 37) (DCa dc_Mod_after_0 21 rfl) (Nat.le_of_ble_eq_true rfl) rfl ?_
        refine V_pick [0, 1, 3, 4] rfl ?_
        exact v_Mod_after_L39 F F _ _ _ _ _
theorem sp_Mod_after (F : Nat) (l0 l1 l2 l3 : Int) (h : Hp) : Sp yX12_after cX12_after 5 (some (.int)) 8 197 [(2, l0), (0, l1), (0, l2), (0, l3)] h (Mod_after F l0 l1 l2 l3 h) := Sp_of (by decide +kernel) rfl rfl (Nat.le_of_ble_eq_true rfl) (v_Mod_after F l0 l1 l2 l3 h)

-- TideRakesModel.spare
def Mod_spare_L32s (F : Nat)  (R32 : Int → Int → Int → Int → Int → Hp → Option (Int × Hp)) (l0 l1 l2 l3 l4 : Int) (h : Hp) : Option (Int × Hp) :=
  if l4 < 599 then
    (iv h l0 112 (Mod_planNow F l0 l1 l2 (w32 (l4 + 1)) h) fun r9 h10 =>
    iv h10 l0 112 (Mod_worthBy F l0 r9 h10) fun r11 h12 =>
    if r11 = l3 then
      (R32 l0 l1 l2 l3 (w32 (l4 + 1)) h12)
    else
      (some (l4, h12)))
  else
    (some (l4, h))
def Mod_spare_L32 (F : Nat)  : Nat → Int → Int → Int → Int → Int → Hp → Option (Int × Hp)
  | 0 => fun _ _ _ _ _ _ => none
  | n + 1 => Mod_spare_L32s F  (Mod_spare_L32 F  n)
def Mod_spare (F : Nat) (l0 l1 l2 : Int) (h : Hp) : Option (Int × Hp) :=
  iv h l0 112 (Mod_isWorker F l0 l1 h) fun r1 h2 =>
  if r1 = 0 then
    (some ((-1), h2))
  else
    (cl (Mod_isBy F l2 h2) fun r3 h4 =>
    if r3 = 0 then
      (some ((-1), h4))
    else
      (iv h4 l0 112 (Mod_planNow F l0 l1 l2 0 h4) fun r5 h6 =>
      iv h6 l0 112 (Mod_worthBy F l0 r5 h6) fun r7 h8 =>
      Mod_spare_L32 F F l0 l1 l2 r7 0 h8))

theorem dc_Mod_spare_0 : ∀ q ∈ ([(0, .aload_n 0, 1), (1, .iload_n 1, 1), (2, .invokevirtual 403, 3), (5, .ifCond .eq 10, 3), (8, .iload_n 2, 1), (9, .invokestatic 470, 3), (12, .ifCond .ne 5, 3), (15, .iconst (-1), 1), (16, .ireturn, 1), (17, .aload_n 0, 1), (18, .aload_n 0, 1), (19, .iload_n 1, 1), (20, .iload_n 2, 1), (21, .iconst 0, 1), (22, .invokevirtual 473, 3), (25, .invokevirtual 458, 3), (28, .istore_n 3, 1), (29, .iconst 0, 1), (30, .istore 4, 2), (32, .iload 4, 2), (34, .sipush 599, 3), (37, .if_icmp .ge 27, 3), (40, .aload_n 0, 1), (41, .aload_n 0, 1), (42, .iload_n 1, 1), (43, .iload_n 2, 1), (44, .iload 4, 2), (46, .iconst 1, 1), (47, .iadd, 1), (48, .invokevirtual 473, 3), (51, .invokevirtual 458, 3), (54, .iload_n 3, 1), (55, .if_icmp .ne 9, 3), (58, .iinc 4 1, 3), (61, .goto (-29), 3), (64, .iload 4, 2), (66, .ireturn, 1)] : List (Nat × Instr × Nat)), decode cX12_spare q.1 = .ok (q.2.1, q.2.2) := by decide +kernel
abbrev X_Mod_spare : MX := (cX12_spare, RX12, "spare", 5, (some (.int)), 8, 197)
theorem v_Mod_spare_L32s (F : Nat)  (R32 : Int → Int → Int → Int → Int → Hp → Option (Int × Hp)) (hR32 : ∀ (l0 l1 l2 l3 l4 : Int) (h : Hp), V X_Mod_spare 32 [(0, 2, l0), (1, 0, l1), (2, 0, l2), (3, 0, l3), (4, 0, l4)] [] h (R32 l0 l1 l2 l3 l4 h)) (l0 l1 l2 l3 l4 : Int) (h : Hp) : V X_Mod_spare 32 [(0, 2, l0), (1, 0, l1), (2, 0, l2), (3, 0, l3), (4, 0, l4)] [] h (Mod_spare_L32s F  R32 l0 l1 l2 l3 l4 h) := by
  unfold Mod_spare_L32s
  refine V_iload (pc := 32) (DCa dc_Mod_spare_0 19 rfl) 4 rfl ?_
  refine V_sipush (pc := 34) (DCa dc_Mod_spare_0 20 rfl) (by decide) ?_
  refine V_icmp_ge (tgt := 64) (pc := 37) (DCa dc_Mod_spare_0 21 rfl) (by decide) (fun _ => ?_) (fun _ => ?_)
  · refine V_aload_n (pc := 40) (DCa dc_Mod_spare_0 22 rfl) rfl 0 rfl ?_
    refine V_aload_n (pc := 41) (DCa dc_Mod_spare_0 23 rfl) rfl 0 rfl ?_
    refine V_iload_n (pc := 42) (DCa dc_Mod_spare_0 24 rfl) rfl 1 rfl ?_
    refine V_iload_n (pc := 43) (DCa dc_Mod_spare_0 25 rfl) rfl 2 rfl ?_
    refine V_iload (pc := 44) (DCa dc_Mod_spare_0 26 rfl) 4 rfl ?_
    refine V_iconst (pc := 46) (DCa dc_Mod_spare_0 27 rfl) (by decide) ?_
    refine V_iadd (pc := 47) (DCa dc_Mod_spare_0 28 rfl) ?_
    refine Q_callv (ci := 12) (st := [(2, l0)]) (pc := 48) (DCa dc_Mod_spare_0 29 rfl) (sp_Mod_planNow F _ _ _ _ _) ce_Mod_planNow ml_12_473 rfl rfl ⟨Nat.le_of_ble_eq_true rfl, Nat.le_of_ble_eq_true rfl⟩ rfl (Nat.le_of_ble_eq_true rfl) (fun r9 h10 => ?_)
    refine Q_callv (ci := 12) (st := []) (pc := 51) (DCa dc_Mod_spare_0 30 rfl) (sp_Mod_worthBy F _ _ _) ce_Mod_worthBy ml_12_458 rfl rfl ⟨Nat.le_of_ble_eq_true rfl, Nat.le_of_ble_eq_true rfl⟩ rfl (Nat.le_of_ble_eq_true rfl) (fun r11 h12 => ?_)
    refine V_iload_n (pc := 54) (DCa dc_Mod_spare_0 31 rfl) rfl 3 rfl ?_
    refine V_icmp_ne (tgt := 64) (pc := 55) (DCa dc_Mod_spare_0 32 rfl) (by decide) (fun _ => ?_) (fun _ => ?_)
    · refine V_iinc (ls' := [(0, 2, l0), (1, 0, l1), (2, 0, l2), (3, 0, l3), (4, 0, w32 (l4 + 1))]) (pc := 58) (DCa dc_Mod_spare_0 33 rfl) (Nat.le_of_ble_eq_true rfl) (by decide) 4 rfl rfl ?_
      refine V_goto (tgt := 32) (pc := 61) (DCa dc_Mod_spare_0 34 rfl) (by decide) ?_
      exact hR32 _ _ _ _ _ _
    · refine V_iload (pc := 64) (DCa dc_Mod_spare_0 35 rfl) 4 rfl ?_
      exact V_ireturn (pc := 66) (DCa dc_Mod_spare_0 36 rfl) rfl
  · refine V_iload (pc := 64) (DCa dc_Mod_spare_0 35 rfl) 4 rfl ?_
    exact V_ireturn (pc := 66) (DCa dc_Mod_spare_0 36 rfl) rfl
theorem v_Mod_spare_L32 (F : Nat)  (n : Nat) : ∀ (l0 l1 l2 l3 l4 : Int) (h : Hp), V X_Mod_spare 32 [(0, 2, l0), (1, 0, l1), (2, 0, l2), (3, 0, l3), (4, 0, l4)] [] h (Mod_spare_L32 F  n l0 l1 l2 l3 l4 h) := by
  induction n with
  | zero => intros; exact V_none
  | succ n ih => exact fun l0 l1 l2 l3 l4 h => v_Mod_spare_L32s F  _ ih l0 l1 l2 l3 l4 h
theorem v_Mod_spare (F : Nat) (l0 l1 l2 : Int) (h : Hp) : V X_Mod_spare 0 [(0, 2, l0), (1, 0, l1), (2, 0, l2)] [] h (Mod_spare F l0 l1 l2 h) := by
  unfold Mod_spare
  refine V_aload_n (pc := 0) (DCa dc_Mod_spare_0 0 rfl) rfl 0 rfl ?_
  refine V_iload_n (pc := 1) (DCa dc_Mod_spare_0 1 rfl) rfl 1 rfl ?_
  refine Q_callv (ci := 12) (st := []) (pc := 2) (DCa dc_Mod_spare_0 2 rfl) (sp_Mod_isWorker F _ _ _) ce_Mod_isWorker ml_12_403 rfl rfl ⟨Nat.le_of_ble_eq_true rfl, Nat.le_of_ble_eq_true rfl⟩ rfl (Nat.le_of_ble_eq_true rfl) (fun r1 h2 => ?_)
  refine V_if_eq (tgt := 15) (pc := 5) (DCa dc_Mod_spare_0 3 rfl) (by decide) (fun _ => ?_) (fun _ => ?_)
  · refine V_iconst (pc := 15) (DCa dc_Mod_spare_0 7 rfl) (by decide) ?_
    exact V_ireturn (pc := 16) (DCa dc_Mod_spare_0 8 rfl) rfl
  · refine V_iload_n (pc := 8) (DCa dc_Mod_spare_0 4 rfl) rfl 2 rfl ?_
    refine Q_calls (st := []) (pc := 9) (DCa dc_Mod_spare_0 5 rfl) (sp_Mod_isBy F _ _) ce_Mod_isBy ml_12_470 rfl ⟨Nat.le_of_ble_eq_true rfl, Nat.le_of_ble_eq_true rfl⟩ rfl (Nat.le_of_ble_eq_true rfl) (fun r3 h4 => ?_)
    refine V_if_ne (tgt := 17) (pc := 12) (DCa dc_Mod_spare_0 6 rfl) (by decide) (fun _ => ?_) (fun _ => ?_)
    · refine V_iconst (pc := 15) (DCa dc_Mod_spare_0 7 rfl) (by decide) ?_
      exact V_ireturn (pc := 16) (DCa dc_Mod_spare_0 8 rfl) rfl
    · refine V_aload_n (pc := 17) (DCa dc_Mod_spare_0 9 rfl) rfl 0 rfl ?_
      refine V_aload_n (pc := 18) (DCa dc_Mod_spare_0 10 rfl) rfl 0 rfl ?_
      refine V_iload_n (pc := 19) (DCa dc_Mod_spare_0 11 rfl) rfl 1 rfl ?_
      refine V_iload_n (pc := 20) (DCa dc_Mod_spare_0 12 rfl) rfl 2 rfl ?_
      refine V_iconst (pc := 21) (DCa dc_Mod_spare_0 13 rfl) (by decide) ?_
      refine Q_callv (ci := 12) (st := [(2, l0)]) (pc := 22) (DCa dc_Mod_spare_0 14 rfl) (sp_Mod_planNow F _ _ _ _ _) ce_Mod_planNow ml_12_473 rfl rfl ⟨Nat.le_of_ble_eq_true rfl, Nat.le_of_ble_eq_true rfl⟩ rfl (Nat.le_of_ble_eq_true rfl) (fun r5 h6 => ?_)
      refine Q_callv (ci := 12) (st := []) (pc := 25) (DCa dc_Mod_spare_0 15 rfl) (sp_Mod_worthBy F _ _ _) ce_Mod_worthBy ml_12_458 rfl rfl ⟨Nat.le_of_ble_eq_true rfl, Nat.le_of_ble_eq_true rfl⟩ rfl (Nat.le_of_ble_eq_true rfl) (fun r7 h8 => ?_)
      refine V_istore_n (ls' := [(0, 2, l0), (1, 0, l1), (2, 0, l2), (3, 0, r7)]) (pc := 28) (DCa dc_Mod_spare_0 16 rfl) rfl (Nat.le_of_ble_eq_true rfl) rfl ?_
      refine V_iconst (pc := 29) (DCa dc_Mod_spare_0 17 rfl) (by decide) ?_
      refine V_istore (ls' := [(0, 2, l0), (1, 0, l1), (2, 0, l2), (3, 0, r7), (4, 0, 0)]) (pc := 30) (DCa dc_Mod_spare_0 18 rfl) (Nat.le_of_ble_eq_true rfl) rfl ?_
      exact v_Mod_spare_L32 F F _ _ _ _ _ _
theorem sp_Mod_spare (F : Nat) (l0 l1 l2 : Int) (h : Hp) : Sp yX12_spare cX12_spare 5 (some (.int)) 8 197 [(2, l0), (0, l1), (0, l2)] h (Mod_spare F l0 l1 l2 h) := Sp_of (by decide +kernel) rfl rfl (Nat.le_of_ble_eq_true rfl) (v_Mod_spare F l0 l1 l2 h)

-- TideRakesModel.quickest
def Mod_quickest_B88 (F : Nat)  (l2 l3 l4 : Int) (h : Hp) : Option (Int × Hp) :=
  if l2 = 0 then
    (some (l3, h))
  else
    (some (l4, h))
def Mod_quickest_L29s (F : Nat)  (R29 : Int → Int → Int → Int → Int → Int → Hp → Option (Int × Hp)) (l0 l1 l2 l3 l4 l5 : Int) (h : Hp) : Option (Int × Hp) :=
  gf h l0 112 22 fun v5 =>
  gf h l0 112 18 fun v6 =>
  al h v5 0 v6 fun v7 =>
  if l5 < v7 then
    (iv h l0 112 (Mod_copies F l0 h) fun r8 h9 =>
    iv h9 l0 112 (Mod_sends F l0 l1 l5 h9) fun r10 h11 =>
    if r10 < 0 then
      (R29 l0 l1 l2 l3 l4 (w32 (l5 + 1)) h11)
    else
      (if l3 < 0 then
        (R29 l0 l1 l2 l5 r10 (w32 (l5 + 1)) h11)
      else
        (if r10 < l4 then
          (R29 l0 l1 l2 l5 r10 (w32 (l5 + 1)) h11)
        else
          (R29 l0 l1 l2 l3 l4 (w32 (l5 + 1)) h11))))
  else
    (Mod_quickest_B88 F l2 l3 l4 h)
def Mod_quickest_L29 (F : Nat)  : Nat → Int → Int → Int → Int → Int → Int → Hp → Option (Int × Hp)
  | 0 => fun _ _ _ _ _ _ _ => none
  | n + 1 => Mod_quickest_L29s F  (Mod_quickest_L29 F  n)
def Mod_quickest (F : Nat) (l0 l1 l2 : Int) (h : Hp) : Option (Int × Hp) :=
  iv h l0 112 (Mod_isWorker F l0 l1 h) fun r1 h2 =>
  if r1 = 0 then
    (some ((-1), h2))
  else
    (cl (Mod_in F l2 0 1 h2) fun r3 h4 =>
    if r3 = 0 then
      (some ((-1), h4))
    else
      (Mod_quickest_L29 F F l0 l1 l2 (-2) (-2) 0 h4))

theorem dc_Mod_quickest_0 : ∀ q ∈ ([(0, .aload_n 0, 1), (1, .iload_n 1, 1), (2, .invokevirtual 403, 3), (5, .ifCond .eq 12, 3), (8, .iload_n 2, 1), (9, .iconst 0, 1), (10, .iconst 1, 1), (11, .invokestatic 355, 3), (14, .ifCond .ne 5, 3), (17, .iconst (-1), 1), (18, .ireturn, 1), (19, .bipush (-2), 2), (21, .istore_n 3, 1), (22, .bipush (-2), 2), (24, .istore 4, 2), (26, .iconst 0, 1), (27, .istore 5, 2), (29, .iload 5, 2), (31, .aload_n 0, 1), (32, .getfield 43, 3), (35, .aload_n 0, 1), (36, .getfield 281, 3), (39, .iaload, 1), (40, .if_icmp .ge 48, 3), (43, .aload_n 0, 1), (44, .invokevirtual 409, 3), (47, .aload_n 0, 1), (48, .iload_n 1, 1), (49, .iload 5, 2), (51, .invokevirtual 412, 3), (54, .istore 6, 2), (56, .iload 6, 2), (58, .ifCond .lt 24, 3), (61, .iload_n 3, 1), (62, .ifCond .lt 13, 3), (65, .iload 6, 2), (67, .iload 4, 2), (69, .if_icmp .lt 6, 3), (72, .goto 10, 3), (75, .iload 5, 2), (77, .istore_n 3, 1), (78, .iload 6, 2), (80, .istore 4, 2), (82, .iinc 5 1, 3), (85, .goto (-56), 3), (88, .iload_n 2, 1), (89, .ifCond .ne 7, 3), (92, .iload_n 3, 1), (93, .goto 5, 3), (96, .iload 4, 2)] : List (Nat × Instr × Nat)), decode cX12_quickest q.1 = .ok (q.2.1, q.2.2) := by decide +kernel
theorem dc_Mod_quickest_1 : ∀ q ∈ ([(98, .ireturn, 1)] : List (Nat × Instr × Nat)), decode cX12_quickest q.1 = .ok (q.2.1, q.2.2) := by decide +kernel
abbrev X_Mod_quickest : MX := (cX12_quickest, RX12, "quickest", 7, (some (.int)), 5, 114)
theorem v_Mod_quickest_B88 (F : Nat)  (l2 l3 l4 : Int) (h : Hp) : V X_Mod_quickest 88 [(2, 0, l2), (3, 0, l3), (4, 0, l4)] [] h (Mod_quickest_B88 F  l2 l3 l4 h) := by
  unfold Mod_quickest_B88
  refine V_iload_n (pc := 88) (DCa dc_Mod_quickest_0 45 rfl) rfl 0 rfl ?_
  refine V_if_ne (tgt := 96) (pc := 89) (DCa dc_Mod_quickest_0 46 rfl) (by decide) (fun _ => ?_) (fun _ => ?_)
  · refine V_iload_n (pc := 92) (DCa dc_Mod_quickest_0 47 rfl) rfl 1 rfl ?_
    refine V_goto (tgt := 98) (pc := 93) (DCa dc_Mod_quickest_0 48 rfl) (by decide) ?_
    exact V_ireturn (pc := 98) (DCa dc_Mod_quickest_1 0 rfl) rfl
  · refine V_iload (pc := 96) (DCa dc_Mod_quickest_0 49 rfl) 2 rfl ?_
    exact V_ireturn (pc := 98) (DCa dc_Mod_quickest_1 0 rfl) rfl
theorem v_Mod_quickest_L29s (F : Nat)  (R29 : Int → Int → Int → Int → Int → Int → Hp → Option (Int × Hp)) (hR29 : ∀ (l0 l1 l2 l3 l4 l5 : Int) (h : Hp), V X_Mod_quickest 29 [(0, 2, l0), (1, 0, l1), (2, 0, l2), (3, 0, l3), (4, 0, l4), (5, 0, l5)] [] h (R29 l0 l1 l2 l3 l4 l5 h)) (l0 l1 l2 l3 l4 l5 : Int) (h : Hp) : V X_Mod_quickest 29 [(0, 2, l0), (1, 0, l1), (2, 0, l2), (3, 0, l3), (4, 0, l4), (5, 0, l5)] [] h (Mod_quickest_L29s F  R29 l0 l1 l2 l3 l4 l5 h) := by
  unfold Mod_quickest_L29s
  refine V_iload (pc := 29) (DCa dc_Mod_quickest_0 17 rfl) 5 rfl ?_
  refine V_aload_n (pc := 31) (DCa dc_Mod_quickest_0 18 rfl) rfl 0 rfl ?_
  refine Q_getf (k := 22) (pc := 32) (DCa dc_Mod_quickest_0 19 rfl) cls_12 (Nat.le_of_ble_eq_true rfl) fl_12_43 rfl rfl rfl (fun v5 => ?_)
  refine V_aload_n (pc := 35) (DCa dc_Mod_quickest_0 20 rfl) rfl 0 rfl ?_
  refine Q_getf (k := 18) (pc := 36) (DCa dc_Mod_quickest_0 21 rfl) cls_12 (Nat.le_of_ble_eq_true rfl) fl_12_281 rfl rfl rfl (fun v6 => ?_)
  refine Q_iaload (pc := 39) (DCa dc_Mod_quickest_0 22 rfl) (fun v7 => ?_)
  refine V_icmp_ge (tgt := 88) (pc := 40) (DCa dc_Mod_quickest_0 23 rfl) (by decide) (fun _ => ?_) (fun _ => ?_)
  · refine V_aload_n (pc := 43) (DCa dc_Mod_quickest_0 24 rfl) rfl 0 rfl ?_
    refine Q_callv (ci := 12) (st := []) (pc := 44) (DCa dc_Mod_quickest_0 25 rfl) (sp_Mod_copies F _ _) ce_Mod_copies ml_12_409 rfl rfl ⟨Nat.le_of_ble_eq_true rfl, Nat.le_of_ble_eq_true rfl⟩ rfl (Nat.le_of_ble_eq_true rfl) (fun r8 h9 => ?_)
    refine V_aload_n (pc := 47) (DCa dc_Mod_quickest_0 26 rfl) rfl 0 rfl ?_
    refine V_iload_n (pc := 48) (DCa dc_Mod_quickest_0 27 rfl) rfl 1 rfl ?_
    refine V_iload (pc := 49) (DCa dc_Mod_quickest_0 28 rfl) 5 rfl ?_
    refine Q_callv (ci := 12) (st := []) (pc := 51) (DCa dc_Mod_quickest_0 29 rfl) (sp_Mod_sends F _ _ _ _) ce_Mod_sends ml_12_412 rfl rfl ⟨Nat.le_of_ble_eq_true rfl, Nat.le_of_ble_eq_true rfl⟩ rfl (Nat.le_of_ble_eq_true rfl) (fun r10 h11 => ?_)
    refine V_istore (ls' := [(0, 2, l0), (1, 0, l1), (2, 0, l2), (3, 0, l3), (4, 0, l4), (5, 0, l5), (6, 0, r10)]) (pc := 54) (DCa dc_Mod_quickest_0 30 rfl) (Nat.le_of_ble_eq_true rfl) rfl ?_
    refine V_iload (pc := 56) (DCa dc_Mod_quickest_0 31 rfl) 6 rfl ?_
    refine V_if_lt (tgt := 82) (pc := 58) (DCa dc_Mod_quickest_0 32 rfl) (by decide) (fun _ => ?_) (fun _ => ?_)
    · refine V_iinc (ls' := [(0, 2, l0), (1, 0, l1), (2, 0, l2), (3, 0, l3), (4, 0, l4), (5, 0, w32 (l5 + 1)), (6, 0, r10)]) (pc := 82) (DCa dc_Mod_quickest_0 43 rfl) (Nat.le_of_ble_eq_true rfl) (by decide) 5 rfl rfl ?_
      refine V_goto (tgt := 29) (pc := 85) (DCa dc_Mod_quickest_0 44 rfl) (by decide) ?_
      refine V_pick [0, 1, 2, 3, 4, 5] rfl ?_
      exact hR29 _ _ _ _ _ _ _
    · refine V_iload_n (pc := 61) (DCa dc_Mod_quickest_0 33 rfl) rfl 3 rfl ?_
      refine V_if_lt (tgt := 75) (pc := 62) (DCa dc_Mod_quickest_0 34 rfl) (by decide) (fun _ => ?_) (fun _ => ?_)
      · refine V_iload (pc := 75) (DCa dc_Mod_quickest_0 39 rfl) 5 rfl ?_
        refine V_istore_n (ls' := [(0, 2, l0), (1, 0, l1), (2, 0, l2), (3, 0, l5), (4, 0, l4), (5, 0, l5), (6, 0, r10)]) (pc := 77) (DCa dc_Mod_quickest_0 40 rfl) rfl (Nat.le_of_ble_eq_true rfl) rfl ?_
        refine V_iload (pc := 78) (DCa dc_Mod_quickest_0 41 rfl) 6 rfl ?_
        refine V_istore (ls' := [(0, 2, l0), (1, 0, l1), (2, 0, l2), (3, 0, l5), (4, 0, r10), (5, 0, l5), (6, 0, r10)]) (pc := 80) (DCa dc_Mod_quickest_0 42 rfl) (Nat.le_of_ble_eq_true rfl) rfl ?_
        refine V_iinc (ls' := [(0, 2, l0), (1, 0, l1), (2, 0, l2), (3, 0, l5), (4, 0, r10), (5, 0, w32 (l5 + 1)), (6, 0, r10)]) (pc := 82) (DCa dc_Mod_quickest_0 43 rfl) (Nat.le_of_ble_eq_true rfl) (by decide) 5 rfl rfl ?_
        refine V_goto (tgt := 29) (pc := 85) (DCa dc_Mod_quickest_0 44 rfl) (by decide) ?_
        refine V_pick [0, 1, 2, 3, 4, 5] rfl ?_
        exact hR29 _ _ _ _ _ _ _
      · refine V_iload (pc := 65) (DCa dc_Mod_quickest_0 35 rfl) 6 rfl ?_
        refine V_iload (pc := 67) (DCa dc_Mod_quickest_0 36 rfl) 4 rfl ?_
        refine V_icmp_lt (tgt := 75) (pc := 69) (DCa dc_Mod_quickest_0 37 rfl) (by decide) (fun _ => ?_) (fun _ => ?_)
        · refine V_iload (pc := 75) (DCa dc_Mod_quickest_0 39 rfl) 5 rfl ?_
          refine V_istore_n (ls' := [(0, 2, l0), (1, 0, l1), (2, 0, l2), (3, 0, l5), (4, 0, l4), (5, 0, l5), (6, 0, r10)]) (pc := 77) (DCa dc_Mod_quickest_0 40 rfl) rfl (Nat.le_of_ble_eq_true rfl) rfl ?_
          refine V_iload (pc := 78) (DCa dc_Mod_quickest_0 41 rfl) 6 rfl ?_
          refine V_istore (ls' := [(0, 2, l0), (1, 0, l1), (2, 0, l2), (3, 0, l5), (4, 0, r10), (5, 0, l5), (6, 0, r10)]) (pc := 80) (DCa dc_Mod_quickest_0 42 rfl) (Nat.le_of_ble_eq_true rfl) rfl ?_
          refine V_iinc (ls' := [(0, 2, l0), (1, 0, l1), (2, 0, l2), (3, 0, l5), (4, 0, r10), (5, 0, w32 (l5 + 1)), (6, 0, r10)]) (pc := 82) (DCa dc_Mod_quickest_0 43 rfl) (Nat.le_of_ble_eq_true rfl) (by decide) 5 rfl rfl ?_
          refine V_goto (tgt := 29) (pc := 85) (DCa dc_Mod_quickest_0 44 rfl) (by decide) ?_
          refine V_pick [0, 1, 2, 3, 4, 5] rfl ?_
          exact hR29 _ _ _ _ _ _ _
        · refine V_goto (tgt := 82) (pc := 72) (DCa dc_Mod_quickest_0 38 rfl) (by decide) ?_
          refine V_iinc (ls' := [(0, 2, l0), (1, 0, l1), (2, 0, l2), (3, 0, l3), (4, 0, l4), (5, 0, w32 (l5 + 1)), (6, 0, r10)]) (pc := 82) (DCa dc_Mod_quickest_0 43 rfl) (Nat.le_of_ble_eq_true rfl) (by decide) 5 rfl rfl ?_
          refine V_goto (tgt := 29) (pc := 85) (DCa dc_Mod_quickest_0 44 rfl) (by decide) ?_
          refine V_pick [0, 1, 2, 3, 4, 5] rfl ?_
          exact hR29 _ _ _ _ _ _ _
  · refine V_pick [2, 3, 4] rfl ?_
    exact v_Mod_quickest_B88 F _ _ _ _
theorem v_Mod_quickest_L29 (F : Nat)  (n : Nat) : ∀ (l0 l1 l2 l3 l4 l5 : Int) (h : Hp), V X_Mod_quickest 29 [(0, 2, l0), (1, 0, l1), (2, 0, l2), (3, 0, l3), (4, 0, l4), (5, 0, l5)] [] h (Mod_quickest_L29 F  n l0 l1 l2 l3 l4 l5 h) := by
  induction n with
  | zero => intros; exact V_none
  | succ n ih => exact fun l0 l1 l2 l3 l4 l5 h => v_Mod_quickest_L29s F  _ ih l0 l1 l2 l3 l4 l5 h
theorem v_Mod_quickest (F : Nat) (l0 l1 l2 : Int) (h : Hp) : V X_Mod_quickest 0 [(0, 2, l0), (1, 0, l1), (2, 0, l2)] [] h (Mod_quickest F l0 l1 l2 h) := by
  unfold Mod_quickest
  refine V_aload_n (pc := 0) (DCa dc_Mod_quickest_0 0 rfl) rfl 0 rfl ?_
  refine V_iload_n (pc := 1) (DCa dc_Mod_quickest_0 1 rfl) rfl 1 rfl ?_
  refine Q_callv (ci := 12) (st := []) (pc := 2) (DCa dc_Mod_quickest_0 2 rfl) (sp_Mod_isWorker F _ _ _) ce_Mod_isWorker ml_12_403 rfl rfl ⟨Nat.le_of_ble_eq_true rfl, Nat.le_of_ble_eq_true rfl⟩ rfl (Nat.le_of_ble_eq_true rfl) (fun r1 h2 => ?_)
  refine V_if_eq (tgt := 17) (pc := 5) (DCa dc_Mod_quickest_0 3 rfl) (by decide) (fun _ => ?_) (fun _ => ?_)
  · refine V_iconst (pc := 17) (DCa dc_Mod_quickest_0 9 rfl) (by decide) ?_
    exact V_ireturn (pc := 18) (DCa dc_Mod_quickest_0 10 rfl) rfl
  · refine V_iload_n (pc := 8) (DCa dc_Mod_quickest_0 4 rfl) rfl 2 rfl ?_
    refine V_iconst (pc := 9) (DCa dc_Mod_quickest_0 5 rfl) (by decide) ?_
    refine V_iconst (pc := 10) (DCa dc_Mod_quickest_0 6 rfl) (by decide) ?_
    refine Q_calls (st := []) (pc := 11) (DCa dc_Mod_quickest_0 7 rfl) (sp_Mod_in F _ _ _ _) ce_Mod_in ml_12_355 rfl ⟨Nat.le_of_ble_eq_true rfl, Nat.le_of_ble_eq_true rfl⟩ rfl (Nat.le_of_ble_eq_true rfl) (fun r3 h4 => ?_)
    refine V_if_ne (tgt := 19) (pc := 14) (DCa dc_Mod_quickest_0 8 rfl) (by decide) (fun _ => ?_) (fun _ => ?_)
    · refine V_iconst (pc := 17) (DCa dc_Mod_quickest_0 9 rfl) (by decide) ?_
      exact V_ireturn (pc := 18) (DCa dc_Mod_quickest_0 10 rfl) rfl
    · refine V_bipush (pc := 19) (DCa dc_Mod_quickest_0 11 rfl) (by decide) ?_
      refine V_istore_n (ls' := [(0, 2, l0), (1, 0, l1), (2, 0, l2), (3, 0, (-2))]) (pc := 21) (DCa dc_Mod_quickest_0 12 rfl) rfl (Nat.le_of_ble_eq_true rfl) rfl ?_
      refine V_bipush (pc := 22) (DCa dc_Mod_quickest_0 13 rfl) (by decide) ?_
      refine V_istore (ls' := [(0, 2, l0), (1, 0, l1), (2, 0, l2), (3, 0, (-2)), (4, 0, (-2))]) (pc := 24) (DCa dc_Mod_quickest_0 14 rfl) (Nat.le_of_ble_eq_true rfl) rfl ?_
      refine V_iconst (pc := 26) (DCa dc_Mod_quickest_0 15 rfl) (by decide) ?_
      refine V_istore (ls' := [(0, 2, l0), (1, 0, l1), (2, 0, l2), (3, 0, (-2)), (4, 0, (-2)), (5, 0, 0)]) (pc := 27) (DCa dc_Mod_quickest_0 16 rfl) (Nat.le_of_ble_eq_true rfl) rfl ?_
      exact v_Mod_quickest_L29 F F _ _ _ _ _ _ _
theorem sp_Mod_quickest (F : Nat) (l0 l1 l2 : Int) (h : Hp) : Sp yX12_quickest cX12_quickest 7 (some (.int)) 5 114 [(2, l0), (0, l1), (0, l2)] h (Mod_quickest F l0 l1 l2 h) := Sp_of (by decide +kernel) rfl rfl (Nat.le_of_ble_eq_true rfl) (v_Mod_quickest F l0 l1 l2 h)

-- TideRakesModel.fillsCan
def Mod_fillsCan_L9s (F : Nat)  (R9 : Int → Int → Int → Int → Int → Hp → Option (Int × Hp)) (l0 l1 l2 l3 l4 : Int) (h : Hp) : Option (Int × Hp) :=
  if l4 < 256 then
    (gf h l0 112 74 fun v3 =>
    if (iand l4 (ixor l2 (-1))) = 0 then
      (iv h l0 112 (Mod_canBy F l0 l4 l3 h) fun r4 h5 =>
      if r4 = 0 then
        (az h5 v3 (w32 ((w32 (256 * l1)) + l4)) 0 fun h6 =>
        R9 l0 l1 l2 l3 (w32 (l4 + 1)) h6)
      else
        (az h5 v3 (w32 ((w32 (256 * l1)) + l4)) 1 fun h7 =>
        R9 l0 l1 l2 l3 (w32 (l4 + 1)) h7))
    else
      (az h v3 (w32 ((w32 (256 * l1)) + l4)) 0 fun h8 =>
      R9 l0 l1 l2 l3 (w32 (l4 + 1)) h8))
  else
    (some (0, h))
def Mod_fillsCan_L9 (F : Nat)  : Nat → Int → Int → Int → Int → Int → Hp → Option (Int × Hp)
  | 0 => fun _ _ _ _ _ _ => none
  | n + 1 => Mod_fillsCan_L9s F  (Mod_fillsCan_L9 F  n)
def Mod_fillsCan (F : Nat) (l0 l1 l2 l3 : Int) (h : Hp) : Option (Int × Hp) :=
  iv h l0 112 (Mod_fillsRows F l0 l1 l2 h) fun r1 h2 =>
  Mod_fillsCan_L9 F F l0 l1 l2 l3 0 h2

theorem dc_Mod_fillsCan_0 : ∀ q ∈ ([(0, .aload_n 0, 1), (1, .iload_n 1, 1), (2, .iload_n 2, 1), (3, .invokevirtual 452, 3), (6, .iconst 0, 1), (7, .istore 4, 2), (9, .iload 4, 2), (11, .sipush 256, 3), (14, .if_icmp .ge 46, 3), (17, .aload_n 0, 1), (18, .getfield 167, 3), (21, .sipush 256, 3), (24, .iload_n 1, 1), (25, .imul, 1), (26, .iload 4, 2), (28, .iadd, 1), (29, .iload 4, 2), (31, .iload_n 2, 1), (32, .iconst (-1), 1), (33, .ixor, 1), (34, .iand, 1), (35, .ifCond .ne 17, 3), (38, .aload_n 0, 1), (39, .iload 4, 2), (41, .iload_n 3, 1), (42, .invokevirtual 455, 3), (45, .ifCond .eq 7, 3), (48, .iconst 1, 1), (49, .goto 4, 3), (52, .iconst 0, 1), (53, .bastore, 1), (54, .iinc 4 1, 3), (57, .goto (-48), 3), (60, .return_, 1)] : List (Nat × Instr × Nat)), decode cX12_fillsCan q.1 = .ok (q.2.1, q.2.2) := by decide +kernel
abbrev X_Mod_fillsCan : MX := (cX12_fillsCan, RX12, "fillsCan", 5, none, 6, 148)
theorem v_Mod_fillsCan_L9s (F : Nat)  (R9 : Int → Int → Int → Int → Int → Hp → Option (Int × Hp)) (hR9 : ∀ (l0 l1 l2 l3 l4 : Int) (h : Hp), V X_Mod_fillsCan 9 [(0, 2, l0), (1, 0, l1), (2, 0, l2), (3, 0, l3), (4, 0, l4)] [] h (R9 l0 l1 l2 l3 l4 h)) (l0 l1 l2 l3 l4 : Int) (h : Hp) : V X_Mod_fillsCan 9 [(0, 2, l0), (1, 0, l1), (2, 0, l2), (3, 0, l3), (4, 0, l4)] [] h (Mod_fillsCan_L9s F  R9 l0 l1 l2 l3 l4 h) := by
  unfold Mod_fillsCan_L9s
  refine V_iload (pc := 9) (DCa dc_Mod_fillsCan_0 6 rfl) 4 rfl ?_
  refine V_sipush (pc := 11) (DCa dc_Mod_fillsCan_0 7 rfl) (by decide) ?_
  refine V_icmp_ge (tgt := 60) (pc := 14) (DCa dc_Mod_fillsCan_0 8 rfl) (by decide) (fun _ => ?_) (fun _ => ?_)
  · refine V_aload_n (pc := 17) (DCa dc_Mod_fillsCan_0 9 rfl) rfl 0 rfl ?_
    refine Q_getf (k := 74) (pc := 18) (DCa dc_Mod_fillsCan_0 10 rfl) cls_12 (Nat.le_of_ble_eq_true rfl) fl_12_167 rfl rfl rfl (fun v3 => ?_)
    refine V_sipush (pc := 21) (DCa dc_Mod_fillsCan_0 11 rfl) (by decide) ?_
    refine V_iload_n (pc := 24) (DCa dc_Mod_fillsCan_0 12 rfl) rfl 1 rfl ?_
    refine V_imul (pc := 25) (DCa dc_Mod_fillsCan_0 13 rfl) ?_
    refine V_iload (pc := 26) (DCa dc_Mod_fillsCan_0 14 rfl) 4 rfl ?_
    refine V_iadd (pc := 28) (DCa dc_Mod_fillsCan_0 15 rfl) ?_
    refine V_iload (pc := 29) (DCa dc_Mod_fillsCan_0 16 rfl) 4 rfl ?_
    refine V_iload_n (pc := 31) (DCa dc_Mod_fillsCan_0 17 rfl) rfl 2 rfl ?_
    refine V_iconst (pc := 32) (DCa dc_Mod_fillsCan_0 18 rfl) (by decide) ?_
    refine V_ixor (pc := 33) (DCa dc_Mod_fillsCan_0 19 rfl) ?_
    refine V_iand (pc := 34) (DCa dc_Mod_fillsCan_0 20 rfl) ?_
    refine V_if_ne (tgt := 52) (pc := 35) (DCa dc_Mod_fillsCan_0 21 rfl) (by decide) (fun _ => ?_) (fun _ => ?_)
    · refine V_aload_n (pc := 38) (DCa dc_Mod_fillsCan_0 22 rfl) rfl 0 rfl ?_
      refine V_iload (pc := 39) (DCa dc_Mod_fillsCan_0 23 rfl) 4 rfl ?_
      refine V_iload_n (pc := 41) (DCa dc_Mod_fillsCan_0 24 rfl) rfl 3 rfl ?_
      refine Q_callv (ci := 12) (st := [(0, w32 ((w32 (256 * l1)) + l4)), (2, v3)]) (pc := 42) (DCa dc_Mod_fillsCan_0 25 rfl) (sp_Mod_canBy F _ _ _ _) ce_Mod_canBy ml_12_455 rfl rfl ⟨Nat.le_of_ble_eq_true rfl, Nat.le_of_ble_eq_true rfl⟩ rfl (Nat.le_of_ble_eq_true rfl) (fun r4 h5 => ?_)
      refine V_if_eq (tgt := 52) (pc := 45) (DCa dc_Mod_fillsCan_0 26 rfl) (by decide) (fun _ => ?_) (fun _ => ?_)
      · refine V_iconst (pc := 52) (DCa dc_Mod_fillsCan_0 29 rfl) (by decide) ?_
        refine Q_zastore (pc := 53) (DCa dc_Mod_fillsCan_0 30 rfl) (fun h6 => ?_)
        refine V_iinc (ls' := [(0, 2, l0), (1, 0, l1), (2, 0, l2), (3, 0, l3), (4, 0, w32 (l4 + 1))]) (pc := 54) (DCa dc_Mod_fillsCan_0 31 rfl) (Nat.le_of_ble_eq_true rfl) (by decide) 4 rfl rfl ?_
        refine V_goto (tgt := 9) (pc := 57) (DCa dc_Mod_fillsCan_0 32 rfl) (by decide) ?_
        exact hR9 _ _ _ _ _ _
      · refine V_iconst (pc := 48) (DCa dc_Mod_fillsCan_0 27 rfl) (by decide) ?_
        refine V_goto (tgt := 53) (pc := 49) (DCa dc_Mod_fillsCan_0 28 rfl) (by decide) ?_
        refine Q_zastore (pc := 53) (DCa dc_Mod_fillsCan_0 30 rfl) (fun h7 => ?_)
        refine V_iinc (ls' := [(0, 2, l0), (1, 0, l1), (2, 0, l2), (3, 0, l3), (4, 0, w32 (l4 + 1))]) (pc := 54) (DCa dc_Mod_fillsCan_0 31 rfl) (Nat.le_of_ble_eq_true rfl) (by decide) 4 rfl rfl ?_
        refine V_goto (tgt := 9) (pc := 57) (DCa dc_Mod_fillsCan_0 32 rfl) (by decide) ?_
        exact hR9 _ _ _ _ _ _
    · refine V_iconst (pc := 52) (DCa dc_Mod_fillsCan_0 29 rfl) (by decide) ?_
      refine Q_zastore (pc := 53) (DCa dc_Mod_fillsCan_0 30 rfl) (fun h8 => ?_)
      refine V_iinc (ls' := [(0, 2, l0), (1, 0, l1), (2, 0, l2), (3, 0, l3), (4, 0, w32 (l4 + 1))]) (pc := 54) (DCa dc_Mod_fillsCan_0 31 rfl) (Nat.le_of_ble_eq_true rfl) (by decide) 4 rfl rfl ?_
      refine V_goto (tgt := 9) (pc := 57) (DCa dc_Mod_fillsCan_0 32 rfl) (by decide) ?_
      exact hR9 _ _ _ _ _ _
  · exact V_return (pc := 60) (DCa dc_Mod_fillsCan_0 33 rfl) rfl
theorem v_Mod_fillsCan_L9 (F : Nat)  (n : Nat) : ∀ (l0 l1 l2 l3 l4 : Int) (h : Hp), V X_Mod_fillsCan 9 [(0, 2, l0), (1, 0, l1), (2, 0, l2), (3, 0, l3), (4, 0, l4)] [] h (Mod_fillsCan_L9 F  n l0 l1 l2 l3 l4 h) := by
  induction n with
  | zero => intros; exact V_none
  | succ n ih => exact fun l0 l1 l2 l3 l4 h => v_Mod_fillsCan_L9s F  _ ih l0 l1 l2 l3 l4 h
theorem v_Mod_fillsCan (F : Nat) (l0 l1 l2 l3 : Int) (h : Hp) : V X_Mod_fillsCan 0 [(0, 2, l0), (1, 0, l1), (2, 0, l2), (3, 0, l3)] [] h (Mod_fillsCan F l0 l1 l2 l3 h) := by
  unfold Mod_fillsCan
  refine V_aload_n (pc := 0) (DCa dc_Mod_fillsCan_0 0 rfl) rfl 0 rfl ?_
  refine V_iload_n (pc := 1) (DCa dc_Mod_fillsCan_0 1 rfl) rfl 1 rfl ?_
  refine V_iload_n (pc := 2) (DCa dc_Mod_fillsCan_0 2 rfl) rfl 2 rfl ?_
  refine Q_callv (ci := 12) (st := []) (pc := 3) (DCa dc_Mod_fillsCan_0 3 rfl) (sp_Mod_fillsRows F _ _ _ _) ce_Mod_fillsRows ml_12_452 rfl rfl ⟨Nat.le_of_ble_eq_true rfl, Nat.le_of_ble_eq_true rfl⟩ rfl (Nat.le_of_ble_eq_true rfl) (fun r1 h2 => ?_)
  refine V_iconst (pc := 6) (DCa dc_Mod_fillsCan_0 4 rfl) (by decide) ?_
  refine V_istore (ls' := [(0, 2, l0), (1, 0, l1), (2, 0, l2), (3, 0, l3), (4, 0, 0)]) (pc := 7) (DCa dc_Mod_fillsCan_0 5 rfl) (Nat.le_of_ble_eq_true rfl) rfl ?_
  exact v_Mod_fillsCan_L9 F F _ _ _ _ _ _
theorem sp_Mod_fillsCan (F : Nat) (l0 l1 l2 l3 : Int) (h : Hp) : Sp yX12_fillsCan cX12_fillsCan 5 none 6 148 [(2, l0), (0, l1), (0, l2), (0, l3)] h (Mod_fillsCan F l0 l1 l2 l3 h) := Sp_of (by decide +kernel) rfl rfl (Nat.le_of_ble_eq_true rfl) (v_Mod_fillsCan F l0 l1 l2 l3 h)

-- TideRakesModel.two
def Mod_two_L117s (F : Nat) (R87 : Int → Int → Int → Int → Int → Int → Int → Hp → Option (Int × Hp)) (R117 : Int → Int → Int → Int → Int → Int → Int → Int → Hp → Option (Int × Hp)) (l0 l1 l2 l4 l6 l7 l8 l9 : Int) (h : Hp) : Option (Int × Hp) :=
  if l9 < 256 then
    (if (iand l8 l9) = 0 then
      (gf h l0 112 74 fun v23 =>
      al h v23 2 (w32 ((w32 (256 * l2)) + l9)) fun v24 =>
      if v24 = 0 then
        (R117 l0 l1 l2 l4 l6 l7 l8 (w32 (l9 + 1)) h)
      else
        (iv h l0 112 (Mod_worthBy F l0 (ior l8 l9) h) fun r25 h26 =>
        iv h26 l0 112 (Mod_worthBy F l0 (ior l6 l7) h26) fun r27 h28 =>
        if r27 < r25 then
          (R117 l0 l1 l2 l4 l8 l9 l8 (w32 (l9 + 1)) h28)
        else
          (R117 l0 l1 l2 l4 l6 l7 l8 (w32 (l9 + 1)) h28)))
    else
      (R117 l0 l1 l2 l4 l6 l7 l8 (w32 (l9 + 1)) h))
  else
    (R87 l0 l1 l2 l4 l6 l7 (w32 (l8 + 1)) h)
def Mod_two_L117 (F : Nat) (R87 : Int → Int → Int → Int → Int → Int → Int → Hp → Option (Int × Hp)) : Nat → Int → Int → Int → Int → Int → Int → Int → Int → Hp → Option (Int × Hp)
  | 0 => fun _ _ _ _ _ _ _ _ _ => none
  | n + 1 => Mod_two_L117s F R87 (Mod_two_L117 F R87 n)
def Mod_two_B193 (F : Nat)  (l0 l4 l6 l7 : Int) (h : Hp) : Option (Int × Hp) :=
  if l4 = 0 then
    (iv h l0 112 (Mod_worthBy F l0 (ior l6 l7) h) fun r29 h30 =>
    some (r29, h30))
  else
    (if l4 = 1 then
      (some (l6, h))
    else
      (some (l7, h)))
def Mod_two_L87s (F : Nat)  (R87 : Int → Int → Int → Int → Int → Int → Int → Hp → Option (Int × Hp)) (l0 l1 l2 l4 l6 l7 l8 : Int) (h : Hp) : Option (Int × Hp) :=
  if l8 < 256 then
    (gf h l0 112 74 fun v21 =>
    al h v21 2 (w32 ((w32 (256 * l1)) + l8)) fun v22 =>
    if v22 = 0 then
      (R87 l0 l1 l2 l4 l6 l7 (w32 (l8 + 1)) h)
    else
      (Mod_two_L117 F R87 F l0 l1 l2 l4 l6 l7 l8 0 h))
  else
    (Mod_two_B193 F l0 l4 l6 l7 h)
def Mod_two_L87 (F : Nat)  : Nat → Int → Int → Int → Int → Int → Int → Int → Hp → Option (Int × Hp)
  | 0 => fun _ _ _ _ _ _ _ _ => none
  | n + 1 => Mod_two_L87s F  (Mod_two_L87 F  n)
def Mod_two (F : Nat) (l0 l1 l2 l3 l4 : Int) (h : Hp) : Option (Int × Hp) :=
  iv h l0 112 (Mod_isWorker F l0 l1 h) fun r1 h2 =>
  if r1 = 0 then
    (some ((-1), h2))
  else
    (iv h2 l0 112 (Mod_isWorker F l0 l2 h2) fun r3 h4 =>
    if r3 = 0 then
      (some ((-1), h4))
    else
      (if l1 = l2 then
        (some ((-1), h4))
      else
        (cl (Mod_isBy F l3 h4) fun r5 h6 =>
        if r5 = 0 then
          (some ((-1), h6))
        else
          (cl (Mod_in F l4 0 2 h6) fun r7 h8 =>
          if r7 = 0 then
            (some ((-1), h8))
          else
            (iv h8 l0 112 (Mod_copies F l0 h8) fun r9 h10 =>
            iv h10 l0 112 (Mod_neverDone F l0 h10) fun r11 h12 =>
            iv h12 l0 112 (Mod_startsAs F l0 l1 0 h12) fun r13 h14 =>
            iv h14 l0 112 (Mod_fillsCan F l0 l1 r11 l3 h14) fun r15 h16 =>
            iv h16 l0 112 (Mod_startsAs F l0 l2 0 h16) fun r17 h18 =>
            iv h18 l0 112 (Mod_fillsCan F l0 l2 r11 l3 h18) fun r19 h20 =>
            Mod_two_L87 F F l0 l1 l2 l4 0 0 0 h20)))))

theorem dc_Mod_two_0 : ∀ q ∈ ([(0, .aload_n 0, 1), (1, .iload_n 1, 1), (2, .invokevirtual 403, 3), (5, .ifCond .eq 33, 3), (8, .aload_n 0, 1), (9, .iload_n 2, 1), (10, .invokevirtual 403, 3), (13, .ifCond .eq 25, 3), (16, .iload_n 1, 1), (17, .iload_n 2, 1), (18, .if_icmp .eq 20, 3), (21, .iload_n 3, 1), (22, .invokestatic 470, 3), (25, .ifCond .eq 13, 3), (28, .iload 4, 2), (30, .iconst 0, 1), (31, .iconst 2, 1), (32, .invokestatic 355, 3), (35, .ifCond .ne 5, 3), (38, .iconst (-1), 1), (39, .ireturn, 1), (40, .aload_n 0, 1), (41, .invokevirtual 409, 3), (44, .aload_n 0, 1), (45, .invokevirtual 464, 3), (48, .istore 5, 2), (50, .aload_n 0, 1), (51, .iload_n 1, 1), (52, .iconst 0, 1), (53, .invokevirtual 461, 3), (56, .aload_n 0, 1), (57, .iload_n 1, 1), (58, .iload 5, 2), (60, .iload_n 3, 1), (61, .invokevirtual 488, 3), (64, .aload_n 0, 1), (65, .iload_n 2, 1), (66, .iconst 0, 1), (67, .invokevirtual 461, 3), (70, .aload_n 0, 1), (71, .iload_n 2, 1), (72, .iload 5, 2), (74, .iload_n 3, 1), (75, .invokevirtual 488, 3), (78, .iconst 0, 1), (79, .istore 6, 2), (81, .iconst 0, 1), (82, .istore 7, 2), (84, .iconst 0, 1), (85, .istore 8, 2)] : List (Nat × Instr × Nat)), decode cX12_two q.1 = .ok (q.2.1, q.2.2) := by decide +kernel
theorem dc_Mod_two_1 : ∀ q ∈ ([(87, .iload 8, 2), (89, .sipush 256, 3), (92, .if_icmp .ge 101, 3), (95, .aload_n 0, 1), (96, .getfield 167, 3), (99, .sipush 256, 3), (102, .iload_n 1, 1), (103, .imul, 1), (104, .iload 8, 2), (106, .iadd, 1), (107, .baload, 1), (108, .ifCond .ne 6, 3), (111, .goto 76, 3), (114, .iconst 0, 1), (115, .istore 9, 2), (117, .iload 9, 2), (119, .sipush 256, 3), (122, .if_icmp .ge 65, 3), (125, .iload 8, 2), (127, .iload 9, 2), (129, .iand, 1), (130, .ifCond .ne 51, 3), (133, .aload_n 0, 1), (134, .getfield 167, 3), (137, .sipush 256, 3), (140, .iload_n 2, 1), (141, .imul, 1), (142, .iload 9, 2), (144, .iadd, 1), (145, .baload, 1), (146, .ifCond .eq 35, 3), (149, .aload_n 0, 1), (150, .iload 8, 2), (152, .iload 9, 2), (154, .ior, 1), (155, .invokevirtual 458, 3), (158, .aload_n 0, 1), (159, .iload 6, 2), (161, .iload 7, 2), (163, .ior, 1), (164, .invokevirtual 458, 3), (167, .if_icmp .gt 6, 3), (170, .goto 11, 3), (173, .iload 8, 2), (175, .istore 6, 2), (177, .iload 9, 2), (179, .istore 7, 2), (181, .iinc 9 1, 3), (184, .goto (-67), 3), (187, .iinc 8 1, 3)] : List (Nat × Instr × Nat)), decode cX12_two q.1 = .ok (q.2.1, q.2.2) := by decide +kernel
theorem dc_Mod_two_2 : ∀ q ∈ ([(190, .goto (-103), 3), (193, .iload 4, 2), (195, .ifCond .ne 15, 3), (198, .aload_n 0, 1), (199, .iload 6, 2), (201, .iload 7, 2), (203, .ior, 1), (204, .invokevirtual 458, 3), (207, .goto 16, 3), (210, .iload 4, 2), (212, .iconst 1, 1), (213, .if_icmp .ne 8, 3), (216, .iload 6, 2), (218, .goto 5, 3), (221, .iload 7, 2), (223, .ireturn, 1)] : List (Nat × Instr × Nat)), decode cX12_two q.1 = .ok (q.2.1, q.2.2) := by decide +kernel
abbrev X_Mod_two : MX := (cX12_two, RX12, "two", 10, (some (.int)), 7, 172)
theorem v_Mod_two_L117s (F : Nat) (R87 : Int → Int → Int → Int → Int → Int → Int → Hp → Option (Int × Hp)) (hR87 : ∀ (l0 l1 l2 l4 l6 l7 l8 : Int) (h : Hp), V X_Mod_two 87 [(0, 2, l0), (1, 0, l1), (2, 0, l2), (4, 0, l4), (6, 0, l6), (7, 0, l7), (8, 0, l8)] [] h (R87 l0 l1 l2 l4 l6 l7 l8 h)) (R117 : Int → Int → Int → Int → Int → Int → Int → Int → Hp → Option (Int × Hp)) (hR117 : ∀ (l0 l1 l2 l4 l6 l7 l8 l9 : Int) (h : Hp), V X_Mod_two 117 [(0, 2, l0), (1, 0, l1), (2, 0, l2), (4, 0, l4), (6, 0, l6), (7, 0, l7), (8, 0, l8), (9, 0, l9)] [] h (R117 l0 l1 l2 l4 l6 l7 l8 l9 h)) (l0 l1 l2 l4 l6 l7 l8 l9 : Int) (h : Hp) : V X_Mod_two 117 [(0, 2, l0), (1, 0, l1), (2, 0, l2), (4, 0, l4), (6, 0, l6), (7, 0, l7), (8, 0, l8), (9, 0, l9)] [] h (Mod_two_L117s F R87 R117 l0 l1 l2 l4 l6 l7 l8 l9 h) := by
  unfold Mod_two_L117s
  refine V_iload (pc := 117) (DCa dc_Mod_two_1 15 rfl) 7 rfl ?_
  refine V_sipush (pc := 119) (DCa dc_Mod_two_1 16 rfl) (by decide) ?_
  refine V_icmp_ge (tgt := 187) (pc := 122) (DCa dc_Mod_two_1 17 rfl) (by decide) (fun _ => ?_) (fun _ => ?_)
  · refine V_iload (pc := 125) (DCa dc_Mod_two_1 18 rfl) 6 rfl ?_
    refine V_iload (pc := 127) (DCa dc_Mod_two_1 19 rfl) 7 rfl ?_
    refine V_iand (pc := 129) (DCa dc_Mod_two_1 20 rfl) ?_
    refine V_if_ne (tgt := 181) (pc := 130) (DCa dc_Mod_two_1 21 rfl) (by decide) (fun _ => ?_) (fun _ => ?_)
    · refine V_aload_n (pc := 133) (DCa dc_Mod_two_1 22 rfl) rfl 0 rfl ?_
      refine Q_getf (k := 74) (pc := 134) (DCa dc_Mod_two_1 23 rfl) cls_12 (Nat.le_of_ble_eq_true rfl) fl_12_167 rfl rfl rfl (fun v23 => ?_)
      refine V_sipush (pc := 137) (DCa dc_Mod_two_1 24 rfl) (by decide) ?_
      refine V_iload_n (pc := 140) (DCa dc_Mod_two_1 25 rfl) rfl 2 rfl ?_
      refine V_imul (pc := 141) (DCa dc_Mod_two_1 26 rfl) ?_
      refine V_iload (pc := 142) (DCa dc_Mod_two_1 27 rfl) 7 rfl ?_
      refine V_iadd (pc := 144) (DCa dc_Mod_two_1 28 rfl) ?_
      refine Q_zaload (pc := 145) (DCa dc_Mod_two_1 29 rfl) (fun v24 => ?_)
      refine V_if_eq (tgt := 181) (pc := 146) (DCa dc_Mod_two_1 30 rfl) (by decide) (fun _ => ?_) (fun _ => ?_)
      · refine V_iinc (ls' := [(0, 2, l0), (1, 0, l1), (2, 0, l2), (4, 0, l4), (6, 0, l6), (7, 0, l7), (8, 0, l8), (9, 0, w32 (l9 + 1))]) (pc := 181) (DCa dc_Mod_two_1 47 rfl) (Nat.le_of_ble_eq_true rfl) (by decide) 7 rfl rfl ?_
        refine V_goto (tgt := 117) (pc := 184) (DCa dc_Mod_two_1 48 rfl) (by decide) ?_
        exact hR117 _ _ _ _ _ _ _ _ _
      · refine V_aload_n (pc := 149) (DCa dc_Mod_two_1 31 rfl) rfl 0 rfl ?_
        refine V_iload (pc := 150) (DCa dc_Mod_two_1 32 rfl) 6 rfl ?_
        refine V_iload (pc := 152) (DCa dc_Mod_two_1 33 rfl) 7 rfl ?_
        refine V_ior (pc := 154) (DCa dc_Mod_two_1 34 rfl) ?_
        refine Q_callv (ci := 12) (st := []) (pc := 155) (DCa dc_Mod_two_1 35 rfl) (sp_Mod_worthBy F _ _ _) ce_Mod_worthBy ml_12_458 rfl rfl ⟨Nat.le_of_ble_eq_true rfl, Nat.le_of_ble_eq_true rfl⟩ rfl (Nat.le_of_ble_eq_true rfl) (fun r25 h26 => ?_)
        refine V_aload_n (pc := 158) (DCa dc_Mod_two_1 36 rfl) rfl 0 rfl ?_
        refine V_iload (pc := 159) (DCa dc_Mod_two_1 37 rfl) 4 rfl ?_
        refine V_iload (pc := 161) (DCa dc_Mod_two_1 38 rfl) 5 rfl ?_
        refine V_ior (pc := 163) (DCa dc_Mod_two_1 39 rfl) ?_
        refine Q_callv (ci := 12) (st := [(0, r25)]) (pc := 164) (DCa dc_Mod_two_1 40 rfl) (sp_Mod_worthBy F _ _ _) ce_Mod_worthBy ml_12_458 rfl rfl ⟨Nat.le_of_ble_eq_true rfl, Nat.le_of_ble_eq_true rfl⟩ rfl (Nat.le_of_ble_eq_true rfl) (fun r27 h28 => ?_)
        refine V_icmp_gt (tgt := 173) (pc := 167) (DCa dc_Mod_two_1 41 rfl) (by decide) (fun _ => ?_) (fun _ => ?_)
        · refine V_iload (pc := 173) (DCa dc_Mod_two_1 43 rfl) 6 rfl ?_
          refine V_istore (ls' := [(0, 2, l0), (1, 0, l1), (2, 0, l2), (4, 0, l4), (6, 0, l8), (7, 0, l7), (8, 0, l8), (9, 0, l9)]) (pc := 175) (DCa dc_Mod_two_1 44 rfl) (Nat.le_of_ble_eq_true rfl) rfl ?_
          refine V_iload (pc := 177) (DCa dc_Mod_two_1 45 rfl) 7 rfl ?_
          refine V_istore (ls' := [(0, 2, l0), (1, 0, l1), (2, 0, l2), (4, 0, l4), (6, 0, l8), (7, 0, l9), (8, 0, l8), (9, 0, l9)]) (pc := 179) (DCa dc_Mod_two_1 46 rfl) (Nat.le_of_ble_eq_true rfl) rfl ?_
          refine V_iinc (ls' := [(0, 2, l0), (1, 0, l1), (2, 0, l2), (4, 0, l4), (6, 0, l8), (7, 0, l9), (8, 0, l8), (9, 0, w32 (l9 + 1))]) (pc := 181) (DCa dc_Mod_two_1 47 rfl) (Nat.le_of_ble_eq_true rfl) (by decide) 7 rfl rfl ?_
          refine V_goto (tgt := 117) (pc := 184) (DCa dc_Mod_two_1 48 rfl) (by decide) ?_
          exact hR117 _ _ _ _ _ _ _ _ _
        · refine V_goto (tgt := 181) (pc := 170) (DCa dc_Mod_two_1 42 rfl) (by decide) ?_
          refine V_iinc (ls' := [(0, 2, l0), (1, 0, l1), (2, 0, l2), (4, 0, l4), (6, 0, l6), (7, 0, l7), (8, 0, l8), (9, 0, w32 (l9 + 1))]) (pc := 181) (DCa dc_Mod_two_1 47 rfl) (Nat.le_of_ble_eq_true rfl) (by decide) 7 rfl rfl ?_
          refine V_goto (tgt := 117) (pc := 184) (DCa dc_Mod_two_1 48 rfl) (by decide) ?_
          exact hR117 _ _ _ _ _ _ _ _ _
    · refine V_iinc (ls' := [(0, 2, l0), (1, 0, l1), (2, 0, l2), (4, 0, l4), (6, 0, l6), (7, 0, l7), (8, 0, l8), (9, 0, w32 (l9 + 1))]) (pc := 181) (DCa dc_Mod_two_1 47 rfl) (Nat.le_of_ble_eq_true rfl) (by decide) 7 rfl rfl ?_
      refine V_goto (tgt := 117) (pc := 184) (DCa dc_Mod_two_1 48 rfl) (by decide) ?_
      exact hR117 _ _ _ _ _ _ _ _ _
  · refine V_iinc (ls' := [(0, 2, l0), (1, 0, l1), (2, 0, l2), (4, 0, l4), (6, 0, l6), (7, 0, l7), (8, 0, w32 (l8 + 1)), (9, 0, l9)]) (pc := 187) (DCa dc_Mod_two_1 49 rfl) (Nat.le_of_ble_eq_true rfl) (by decide) 6 rfl rfl ?_
    refine V_goto (tgt := 87) (pc := 190) (DCa dc_Mod_two_2 0 rfl) (by decide) ?_
    refine V_pick [0, 1, 2, 3, 4, 5, 6] rfl ?_
    exact hR87 _ _ _ _ _ _ _ _
theorem v_Mod_two_L117 (F : Nat) (R87 : Int → Int → Int → Int → Int → Int → Int → Hp → Option (Int × Hp)) (hR87 : ∀ (l0 l1 l2 l4 l6 l7 l8 : Int) (h : Hp), V X_Mod_two 87 [(0, 2, l0), (1, 0, l1), (2, 0, l2), (4, 0, l4), (6, 0, l6), (7, 0, l7), (8, 0, l8)] [] h (R87 l0 l1 l2 l4 l6 l7 l8 h)) (n : Nat) : ∀ (l0 l1 l2 l4 l6 l7 l8 l9 : Int) (h : Hp), V X_Mod_two 117 [(0, 2, l0), (1, 0, l1), (2, 0, l2), (4, 0, l4), (6, 0, l6), (7, 0, l7), (8, 0, l8), (9, 0, l9)] [] h (Mod_two_L117 F R87 n l0 l1 l2 l4 l6 l7 l8 l9 h) := by
  induction n with
  | zero => intros; exact V_none
  | succ n ih => exact fun l0 l1 l2 l4 l6 l7 l8 l9 h => v_Mod_two_L117s F R87 hR87 _ ih l0 l1 l2 l4 l6 l7 l8 l9 h
theorem v_Mod_two_B193 (F : Nat)  (l0 l4 l6 l7 : Int) (h : Hp) : V X_Mod_two 193 [(0, 2, l0), (4, 0, l4), (6, 0, l6), (7, 0, l7)] [] h (Mod_two_B193 F  l0 l4 l6 l7 h) := by
  unfold Mod_two_B193
  refine V_iload (pc := 193) (DCa dc_Mod_two_2 1 rfl) 1 rfl ?_
  refine V_if_ne (tgt := 210) (pc := 195) (DCa dc_Mod_two_2 2 rfl) (by decide) (fun _ => ?_) (fun _ => ?_)
  · refine V_aload_n (pc := 198) (DCa dc_Mod_two_2 3 rfl) rfl 0 rfl ?_
    refine V_iload (pc := 199) (DCa dc_Mod_two_2 4 rfl) 2 rfl ?_
    refine V_iload (pc := 201) (DCa dc_Mod_two_2 5 rfl) 3 rfl ?_
    refine V_ior (pc := 203) (DCa dc_Mod_two_2 6 rfl) ?_
    refine Q_callv (ci := 12) (st := []) (pc := 204) (DCa dc_Mod_two_2 7 rfl) (sp_Mod_worthBy F _ _ _) ce_Mod_worthBy ml_12_458 rfl rfl ⟨Nat.le_of_ble_eq_true rfl, Nat.le_of_ble_eq_true rfl⟩ rfl (Nat.le_of_ble_eq_true rfl) (fun r29 h30 => ?_)
    refine V_goto (tgt := 223) (pc := 207) (DCa dc_Mod_two_2 8 rfl) (by decide) ?_
    exact V_ireturn (pc := 223) (DCa dc_Mod_two_2 15 rfl) rfl
  · refine V_iload (pc := 210) (DCa dc_Mod_two_2 9 rfl) 1 rfl ?_
    refine V_iconst (pc := 212) (DCa dc_Mod_two_2 10 rfl) (by decide) ?_
    refine V_icmp_ne (tgt := 221) (pc := 213) (DCa dc_Mod_two_2 11 rfl) (by decide) (fun _ => ?_) (fun _ => ?_)
    · refine V_iload (pc := 216) (DCa dc_Mod_two_2 12 rfl) 2 rfl ?_
      refine V_goto (tgt := 223) (pc := 218) (DCa dc_Mod_two_2 13 rfl) (by decide) ?_
      exact V_ireturn (pc := 223) (DCa dc_Mod_two_2 15 rfl) rfl
    · refine V_iload (pc := 221) (DCa dc_Mod_two_2 14 rfl) 3 rfl ?_
      exact V_ireturn (pc := 223) (DCa dc_Mod_two_2 15 rfl) rfl
theorem v_Mod_two_L87s (F : Nat)  (R87 : Int → Int → Int → Int → Int → Int → Int → Hp → Option (Int × Hp)) (hR87 : ∀ (l0 l1 l2 l4 l6 l7 l8 : Int) (h : Hp), V X_Mod_two 87 [(0, 2, l0), (1, 0, l1), (2, 0, l2), (4, 0, l4), (6, 0, l6), (7, 0, l7), (8, 0, l8)] [] h (R87 l0 l1 l2 l4 l6 l7 l8 h)) (l0 l1 l2 l4 l6 l7 l8 : Int) (h : Hp) : V X_Mod_two 87 [(0, 2, l0), (1, 0, l1), (2, 0, l2), (4, 0, l4), (6, 0, l6), (7, 0, l7), (8, 0, l8)] [] h (Mod_two_L87s F  R87 l0 l1 l2 l4 l6 l7 l8 h) := by
  unfold Mod_two_L87s
  refine V_iload (pc := 87) (DCa dc_Mod_two_1 0 rfl) 6 rfl ?_
  refine V_sipush (pc := 89) (DCa dc_Mod_two_1 1 rfl) (by decide) ?_
  refine V_icmp_ge (tgt := 193) (pc := 92) (DCa dc_Mod_two_1 2 rfl) (by decide) (fun _ => ?_) (fun _ => ?_)
  · refine V_aload_n (pc := 95) (DCa dc_Mod_two_1 3 rfl) rfl 0 rfl ?_
    refine Q_getf (k := 74) (pc := 96) (DCa dc_Mod_two_1 4 rfl) cls_12 (Nat.le_of_ble_eq_true rfl) fl_12_167 rfl rfl rfl (fun v21 => ?_)
    refine V_sipush (pc := 99) (DCa dc_Mod_two_1 5 rfl) (by decide) ?_
    refine V_iload_n (pc := 102) (DCa dc_Mod_two_1 6 rfl) rfl 1 rfl ?_
    refine V_imul (pc := 103) (DCa dc_Mod_two_1 7 rfl) ?_
    refine V_iload (pc := 104) (DCa dc_Mod_two_1 8 rfl) 6 rfl ?_
    refine V_iadd (pc := 106) (DCa dc_Mod_two_1 9 rfl) ?_
    refine Q_zaload (pc := 107) (DCa dc_Mod_two_1 10 rfl) (fun v22 => ?_)
    refine V_if_ne (tgt := 114) (pc := 108) (DCa dc_Mod_two_1 11 rfl) (by decide) (fun _ => ?_) (fun _ => ?_)
    · refine V_goto (tgt := 187) (pc := 111) (DCa dc_Mod_two_1 12 rfl) (by decide) ?_
      refine V_iinc (ls' := [(0, 2, l0), (1, 0, l1), (2, 0, l2), (4, 0, l4), (6, 0, l6), (7, 0, l7), (8, 0, w32 (l8 + 1))]) (pc := 187) (DCa dc_Mod_two_1 49 rfl) (Nat.le_of_ble_eq_true rfl) (by decide) 6 rfl rfl ?_
      refine V_goto (tgt := 87) (pc := 190) (DCa dc_Mod_two_2 0 rfl) (by decide) ?_
      exact hR87 _ _ _ _ _ _ _ _
    · refine V_iconst (pc := 114) (DCa dc_Mod_two_1 13 rfl) (by decide) ?_
      refine V_istore (ls' := [(0, 2, l0), (1, 0, l1), (2, 0, l2), (4, 0, l4), (6, 0, l6), (7, 0, l7), (8, 0, l8), (9, 0, 0)]) (pc := 115) (DCa dc_Mod_two_1 14 rfl) (Nat.le_of_ble_eq_true rfl) rfl ?_
      exact v_Mod_two_L117 F R87 hR87 F _ _ _ _ _ _ _ _ _
  · refine V_pick [0, 3, 4, 5] rfl ?_
    exact v_Mod_two_B193 F _ _ _ _ _
theorem v_Mod_two_L87 (F : Nat)  (n : Nat) : ∀ (l0 l1 l2 l4 l6 l7 l8 : Int) (h : Hp), V X_Mod_two 87 [(0, 2, l0), (1, 0, l1), (2, 0, l2), (4, 0, l4), (6, 0, l6), (7, 0, l7), (8, 0, l8)] [] h (Mod_two_L87 F  n l0 l1 l2 l4 l6 l7 l8 h) := by
  induction n with
  | zero => intros; exact V_none
  | succ n ih => exact fun l0 l1 l2 l4 l6 l7 l8 h => v_Mod_two_L87s F  _ ih l0 l1 l2 l4 l6 l7 l8 h
theorem v_Mod_two (F : Nat) (l0 l1 l2 l3 l4 : Int) (h : Hp) : V X_Mod_two 0 [(0, 2, l0), (1, 0, l1), (2, 0, l2), (3, 0, l3), (4, 0, l4)] [] h (Mod_two F l0 l1 l2 l3 l4 h) := by
  unfold Mod_two
  refine V_aload_n (pc := 0) (DCa dc_Mod_two_0 0 rfl) rfl 0 rfl ?_
  refine V_iload_n (pc := 1) (DCa dc_Mod_two_0 1 rfl) rfl 1 rfl ?_
  refine Q_callv (ci := 12) (st := []) (pc := 2) (DCa dc_Mod_two_0 2 rfl) (sp_Mod_isWorker F _ _ _) ce_Mod_isWorker ml_12_403 rfl rfl ⟨Nat.le_of_ble_eq_true rfl, Nat.le_of_ble_eq_true rfl⟩ rfl (Nat.le_of_ble_eq_true rfl) (fun r1 h2 => ?_)
  refine V_if_eq (tgt := 38) (pc := 5) (DCa dc_Mod_two_0 3 rfl) (by decide) (fun _ => ?_) (fun _ => ?_)
  · refine V_iconst (pc := 38) (DCa dc_Mod_two_0 19 rfl) (by decide) ?_
    exact V_ireturn (pc := 39) (DCa dc_Mod_two_0 20 rfl) rfl
  · refine V_aload_n (pc := 8) (DCa dc_Mod_two_0 4 rfl) rfl 0 rfl ?_
    refine V_iload_n (pc := 9) (DCa dc_Mod_two_0 5 rfl) rfl 2 rfl ?_
    refine Q_callv (ci := 12) (st := []) (pc := 10) (DCa dc_Mod_two_0 6 rfl) (sp_Mod_isWorker F _ _ _) ce_Mod_isWorker ml_12_403 rfl rfl ⟨Nat.le_of_ble_eq_true rfl, Nat.le_of_ble_eq_true rfl⟩ rfl (Nat.le_of_ble_eq_true rfl) (fun r3 h4 => ?_)
    refine V_if_eq (tgt := 38) (pc := 13) (DCa dc_Mod_two_0 7 rfl) (by decide) (fun _ => ?_) (fun _ => ?_)
    · refine V_iconst (pc := 38) (DCa dc_Mod_two_0 19 rfl) (by decide) ?_
      exact V_ireturn (pc := 39) (DCa dc_Mod_two_0 20 rfl) rfl
    · refine V_iload_n (pc := 16) (DCa dc_Mod_two_0 8 rfl) rfl 1 rfl ?_
      refine V_iload_n (pc := 17) (DCa dc_Mod_two_0 9 rfl) rfl 2 rfl ?_
      refine V_icmp_eq (tgt := 38) (pc := 18) (DCa dc_Mod_two_0 10 rfl) (by decide) (fun _ => ?_) (fun _ => ?_)
      · refine V_iconst (pc := 38) (DCa dc_Mod_two_0 19 rfl) (by decide) ?_
        exact V_ireturn (pc := 39) (DCa dc_Mod_two_0 20 rfl) rfl
      · refine V_iload_n (pc := 21) (DCa dc_Mod_two_0 11 rfl) rfl 3 rfl ?_
        refine Q_calls (st := []) (pc := 22) (DCa dc_Mod_two_0 12 rfl) (sp_Mod_isBy F _ _) ce_Mod_isBy ml_12_470 rfl ⟨Nat.le_of_ble_eq_true rfl, Nat.le_of_ble_eq_true rfl⟩ rfl (Nat.le_of_ble_eq_true rfl) (fun r5 h6 => ?_)
        refine V_if_eq (tgt := 38) (pc := 25) (DCa dc_Mod_two_0 13 rfl) (by decide) (fun _ => ?_) (fun _ => ?_)
        · refine V_iconst (pc := 38) (DCa dc_Mod_two_0 19 rfl) (by decide) ?_
          exact V_ireturn (pc := 39) (DCa dc_Mod_two_0 20 rfl) rfl
        · refine V_iload (pc := 28) (DCa dc_Mod_two_0 14 rfl) 4 rfl ?_
          refine V_iconst (pc := 30) (DCa dc_Mod_two_0 15 rfl) (by decide) ?_
          refine V_iconst (pc := 31) (DCa dc_Mod_two_0 16 rfl) (by decide) ?_
          refine Q_calls (st := []) (pc := 32) (DCa dc_Mod_two_0 17 rfl) (sp_Mod_in F _ _ _ _) ce_Mod_in ml_12_355 rfl ⟨Nat.le_of_ble_eq_true rfl, Nat.le_of_ble_eq_true rfl⟩ rfl (Nat.le_of_ble_eq_true rfl) (fun r7 h8 => ?_)
          refine V_if_ne (tgt := 40) (pc := 35) (DCa dc_Mod_two_0 18 rfl) (by decide) (fun _ => ?_) (fun _ => ?_)
          · refine V_iconst (pc := 38) (DCa dc_Mod_two_0 19 rfl) (by decide) ?_
            exact V_ireturn (pc := 39) (DCa dc_Mod_two_0 20 rfl) rfl
          · refine V_aload_n (pc := 40) (DCa dc_Mod_two_0 21 rfl) rfl 0 rfl ?_
            refine Q_callv (ci := 12) (st := []) (pc := 41) (DCa dc_Mod_two_0 22 rfl) (sp_Mod_copies F _ _) ce_Mod_copies ml_12_409 rfl rfl ⟨Nat.le_of_ble_eq_true rfl, Nat.le_of_ble_eq_true rfl⟩ rfl (Nat.le_of_ble_eq_true rfl) (fun r9 h10 => ?_)
            refine V_aload_n (pc := 44) (DCa dc_Mod_two_0 23 rfl) rfl 0 rfl ?_
            refine Q_callv (ci := 12) (st := []) (pc := 45) (DCa dc_Mod_two_0 24 rfl) (sp_Mod_neverDone F _ _) ce_Mod_neverDone ml_12_464 rfl rfl ⟨Nat.le_of_ble_eq_true rfl, Nat.le_of_ble_eq_true rfl⟩ rfl (Nat.le_of_ble_eq_true rfl) (fun r11 h12 => ?_)
            refine V_istore (ls' := [(0, 2, l0), (1, 0, l1), (2, 0, l2), (3, 0, l3), (4, 0, l4), (5, 0, r11)]) (pc := 48) (DCa dc_Mod_two_0 25 rfl) (Nat.le_of_ble_eq_true rfl) rfl ?_
            refine V_aload_n (pc := 50) (DCa dc_Mod_two_0 26 rfl) rfl 0 rfl ?_
            refine V_iload_n (pc := 51) (DCa dc_Mod_two_0 27 rfl) rfl 1 rfl ?_
            refine V_iconst (pc := 52) (DCa dc_Mod_two_0 28 rfl) (by decide) ?_
            refine Q_callv (ci := 12) (st := []) (pc := 53) (DCa dc_Mod_two_0 29 rfl) (sp_Mod_startsAs F _ _ _ _) ce_Mod_startsAs ml_12_461 rfl rfl ⟨Nat.le_of_ble_eq_true rfl, Nat.le_of_ble_eq_true rfl⟩ rfl (Nat.le_of_ble_eq_true rfl) (fun r13 h14 => ?_)
            refine V_aload_n (pc := 56) (DCa dc_Mod_two_0 30 rfl) rfl 0 rfl ?_
            refine V_iload_n (pc := 57) (DCa dc_Mod_two_0 31 rfl) rfl 1 rfl ?_
            refine V_iload (pc := 58) (DCa dc_Mod_two_0 32 rfl) 5 rfl ?_
            refine V_iload_n (pc := 60) (DCa dc_Mod_two_0 33 rfl) rfl 3 rfl ?_
            refine Q_callv (ci := 12) (st := []) (pc := 61) (DCa dc_Mod_two_0 34 rfl) (sp_Mod_fillsCan F _ _ _ _ _) ce_Mod_fillsCan ml_12_488 rfl rfl ⟨Nat.le_of_ble_eq_true rfl, Nat.le_of_ble_eq_true rfl⟩ rfl (Nat.le_of_ble_eq_true rfl) (fun r15 h16 => ?_)
            refine V_aload_n (pc := 64) (DCa dc_Mod_two_0 35 rfl) rfl 0 rfl ?_
            refine V_iload_n (pc := 65) (DCa dc_Mod_two_0 36 rfl) rfl 2 rfl ?_
            refine V_iconst (pc := 66) (DCa dc_Mod_two_0 37 rfl) (by decide) ?_
            refine Q_callv (ci := 12) (st := []) (pc := 67) (DCa dc_Mod_two_0 38 rfl) (sp_Mod_startsAs F _ _ _ _) ce_Mod_startsAs ml_12_461 rfl rfl ⟨Nat.le_of_ble_eq_true rfl, Nat.le_of_ble_eq_true rfl⟩ rfl (Nat.le_of_ble_eq_true rfl) (fun r17 h18 => ?_)
            refine V_aload_n (pc := 70) (DCa dc_Mod_two_0 39 rfl) rfl 0 rfl ?_
            refine V_iload_n (pc := 71) (DCa dc_Mod_two_0 40 rfl) rfl 2 rfl ?_
            refine V_iload (pc := 72) (DCa dc_Mod_two_0 41 rfl) 5 rfl ?_
            refine V_iload_n (pc := 74) (DCa dc_Mod_two_0 42 rfl) rfl 3 rfl ?_
            refine Q_callv (ci := 12) (st := []) (pc := 75) (DCa dc_Mod_two_0 43 rfl) (sp_Mod_fillsCan F _ _ _ _ _) ce_Mod_fillsCan ml_12_488 rfl rfl ⟨Nat.le_of_ble_eq_true rfl, Nat.le_of_ble_eq_true rfl⟩ rfl (Nat.le_of_ble_eq_true rfl) (fun r19 h20 => ?_)
            refine V_iconst (pc := 78) (DCa dc_Mod_two_0 44 rfl) (by decide) ?_
            refine V_istore (ls' := [(0, 2, l0), (1, 0, l1), (2, 0, l2), (3, 0, l3), (4, 0, l4), (5, 0, r11), (6, 0, 0)]) (pc := 79) (DCa dc_Mod_two_0 45 rfl) (Nat.le_of_ble_eq_true rfl) rfl ?_
            refine V_iconst (pc := 81) (DCa dc_Mod_two_0 46 rfl) (by decide) ?_
            refine V_istore (ls' := [(0, 2, l0), (1, 0, l1), (2, 0, l2), (3, 0, l3), (4, 0, l4), (5, 0, r11), (6, 0, 0), (7, 0, 0)]) (pc := 82) (DCa dc_Mod_two_0 47 rfl) (Nat.le_of_ble_eq_true rfl) rfl ?_
            refine V_iconst (pc := 84) (DCa dc_Mod_two_0 48 rfl) (by decide) ?_
            refine V_istore (ls' := [(0, 2, l0), (1, 0, l1), (2, 0, l2), (3, 0, l3), (4, 0, l4), (5, 0, r11), (6, 0, 0), (7, 0, 0), (8, 0, 0)]) (pc := 85) (DCa dc_Mod_two_0 49 rfl) (Nat.le_of_ble_eq_true rfl) rfl ?_
            refine V_pick [0, 1, 2, 4, 6, 7, 8] rfl ?_
            exact v_Mod_two_L87 F F _ _ _ _ _ _ _ _
theorem sp_Mod_two (F : Nat) (l0 l1 l2 l3 l4 : Int) (h : Hp) : Sp yX12_two cX12_two 10 (some (.int)) 7 172 [(2, l0), (0, l1), (0, l2), (0, l3), (0, l4)] h (Mod_two F l0 l1 l2 l3 l4 h) := Sp_of (by decide +kernel) rfl rfl (Nat.le_of_ble_eq_true rfl) (v_Mod_two F l0 l1 l2 l3 l4 h)
