-- TideRakesModel.is
def Mod_is (F : Nat) (l0 l1 : Int) (h : Hp) : Option (Int × Hp) :=
  gf h l0 112 13 fun v1 =>
  if v1 = 0 then
    (gf h l0 112 5 fun v2 =>
    gf h l0 112 11 fun v3 =>
    al h v2 0 v3 fun v4 =>
    if v4 = l1 then
      (rz 1 h)
    else
      (rz 0 h))
  else
    (rz 0 h)

theorem dc_Mod_is_0 : ∀ q ∈ ([(0, .aload_n 0, 1), (1, .getfield 251, 3), (4, .ifCond .ne 20, 3), (7, .aload_n 0, 1), (8, .getfield 20, 3), (11, .aload_n 0, 1), (12, .getfield 254, 3), (15, .iaload, 1), (16, .iload_n 1, 1), (17, .if_icmp .ne 7, 3), (20, .iconst 1, 1), (21, .goto 4, 3), (24, .iconst 0, 1), (25, .ireturn, 1)] : List (Nat × Instr × Nat)), decode cX12_is q.1 = .ok (q.2.1, q.2.2) := by decide +kernel
abbrev X_Mod_is : MX := (cX12_is, RX12, "is", 2, (some (.boolean)), 1, 20)
theorem v_Mod_is (F : Nat) (l0 l1 : Int) (h : Hp) : V X_Mod_is 0 [(0, 2, l0), (1, 0, l1)] [] h (Mod_is F l0 l1 h) := by
  unfold Mod_is
  refine V_aload_n (pc := 0) (DCa dc_Mod_is_0 0 rfl) rfl 0 rfl ?_
  refine Q_getf (k := 13) (pc := 1) (DCa dc_Mod_is_0 1 rfl) cls_12 (Nat.le_of_ble_eq_true rfl) fl_12_251 rfl rfl rfl (fun v1 => ?_)
  refine V_if_ne (tgt := 24) (pc := 4) (DCa dc_Mod_is_0 2 rfl) (by decide) (fun _ => ?_) (fun _ => ?_)
  · refine V_aload_n (pc := 7) (DCa dc_Mod_is_0 3 rfl) rfl 0 rfl ?_
    refine Q_getf (k := 5) (pc := 8) (DCa dc_Mod_is_0 4 rfl) cls_12 (Nat.le_of_ble_eq_true rfl) fl_12_20 rfl rfl rfl (fun v2 => ?_)
    refine V_aload_n (pc := 11) (DCa dc_Mod_is_0 5 rfl) rfl 0 rfl ?_
    refine Q_getf (k := 11) (pc := 12) (DCa dc_Mod_is_0 6 rfl) cls_12 (Nat.le_of_ble_eq_true rfl) fl_12_254 rfl rfl rfl (fun v3 => ?_)
    refine Q_iaload (pc := 15) (DCa dc_Mod_is_0 7 rfl) (fun v4 => ?_)
    refine V_iload_n (pc := 16) (DCa dc_Mod_is_0 8 rfl) rfl 1 rfl ?_
    refine V_icmp_ne (tgt := 24) (pc := 17) (DCa dc_Mod_is_0 9 rfl) (by decide) (fun _ => ?_) (fun _ => ?_)
    · refine V_iconst (pc := 20) (DCa dc_Mod_is_0 10 rfl) (by decide) ?_
      refine V_goto (tgt := 25) (pc := 21) (DCa dc_Mod_is_0 11 rfl) (by decide) ?_
      exact V_zreturn (pc := 25) (DCa dc_Mod_is_0 13 rfl) rfl
    · refine V_iconst (pc := 24) (DCa dc_Mod_is_0 12 rfl) (by decide) ?_
      exact V_zreturn (pc := 25) (DCa dc_Mod_is_0 13 rfl) rfl
  · refine V_iconst (pc := 24) (DCa dc_Mod_is_0 12 rfl) (by decide) ?_
    exact V_zreturn (pc := 25) (DCa dc_Mod_is_0 13 rfl) rfl
theorem sp_Mod_is (F : Nat) (l0 l1 : Int) (h : Hp) : Sp yX12_is cX12_is 2 (some (.boolean)) 1 20 [(2, l0), (0, l1)] h (Mod_is F l0 l1 h) := Sp_of (by decide +kernel) rfl rfl (Nat.le_of_ble_eq_true rfl) (v_Mod_is F l0 l1 h)

-- TideRakesModel.fail
def Mod_fail (F : Nat) (l0 l1 : Int) (h : Hp) : Option (Int × Hp) :=
  gf h l0 112 13 fun v1 =>
  if 0 < v1 then
    (some (0, h))
  else
    (pf h l0 112 13 l1 fun h2 =>
    gf h2 l0 112 6 fun v3 =>
    gf h2 l0 112 11 fun v4 =>
    al h2 v3 0 v4 fun v5 =>
    pf h2 l0 112 14 v5 fun h6 =>
    some (0, h6))

theorem dc_Mod_fail_0 : ∀ q ∈ ([(0, .aload_n 0, 1), (1, .getfield 251, 3), (4, .ifCond .le 4, 3), (7, .return_, 1), (8, .aload_n 0, 1), (9, .iload_n 1, 1), (10, .putfield 251, 3), (13, .aload_n 0, 1), (14, .aload_n 0, 1), (15, .getfield 24, 3), (18, .aload_n 0, 1), (19, .getfield 254, 3), (22, .iaload, 1), (23, .putfield 257, 3), (26, .return_, 1)] : List (Nat × Instr × Nat)), decode cX12_fail q.1 = .ok (q.2.1, q.2.2) := by decide +kernel
abbrev X_Mod_fail : MX := (cX12_fail, RX12, "fail", 2, none, 1, 20)
theorem v_Mod_fail (F : Nat) (l0 l1 : Int) (h : Hp) : V X_Mod_fail 0 [(0, 2, l0), (1, 0, l1)] [] h (Mod_fail F l0 l1 h) := by
  unfold Mod_fail
  refine V_aload_n (pc := 0) (DCa dc_Mod_fail_0 0 rfl) rfl 0 rfl ?_
  refine Q_getf (k := 13) (pc := 1) (DCa dc_Mod_fail_0 1 rfl) cls_12 (Nat.le_of_ble_eq_true rfl) fl_12_251 rfl rfl rfl (fun v1 => ?_)
  refine V_if_le (tgt := 8) (pc := 4) (DCa dc_Mod_fail_0 2 rfl) (by decide) (fun _ => ?_) (fun _ => ?_)
  · exact V_return (pc := 7) (DCa dc_Mod_fail_0 3 rfl) rfl
  · refine V_aload_n (pc := 8) (DCa dc_Mod_fail_0 4 rfl) rfl 0 rfl ?_
    refine V_iload_n (pc := 9) (DCa dc_Mod_fail_0 5 rfl) rfl 1 rfl ?_
    refine Q_putf (k := 13) (pc := 10) (DCa dc_Mod_fail_0 6 rfl) cls_12 (Nat.le_of_ble_eq_true rfl) fl_12_251 rfl rfl rfl (Or.inl rfl) (Or.inl ⟨rfl, rfl⟩) (fun h2 => ?_)
    refine V_aload_n (pc := 13) (DCa dc_Mod_fail_0 7 rfl) rfl 0 rfl ?_
    refine V_aload_n (pc := 14) (DCa dc_Mod_fail_0 8 rfl) rfl 0 rfl ?_
    refine Q_getf (k := 6) (pc := 15) (DCa dc_Mod_fail_0 9 rfl) cls_12 (Nat.le_of_ble_eq_true rfl) fl_12_24 rfl rfl rfl (fun v3 => ?_)
    refine V_aload_n (pc := 18) (DCa dc_Mod_fail_0 10 rfl) rfl 0 rfl ?_
    refine Q_getf (k := 11) (pc := 19) (DCa dc_Mod_fail_0 11 rfl) cls_12 (Nat.le_of_ble_eq_true rfl) fl_12_254 rfl rfl rfl (fun v4 => ?_)
    refine Q_iaload (pc := 22) (DCa dc_Mod_fail_0 12 rfl) (fun v5 => ?_)
    refine Q_putf (k := 14) (pc := 23) (DCa dc_Mod_fail_0 13 rfl) cls_12 (Nat.le_of_ble_eq_true rfl) fl_12_257 rfl rfl rfl (Or.inl rfl) (Or.inl ⟨rfl, rfl⟩) (fun h6 => ?_)
    exact V_return (pc := 26) (DCa dc_Mod_fail_0 14 rfl) rfl
theorem sp_Mod_fail (F : Nat) (l0 l1 : Int) (h : Hp) : Sp yX12_fail cX12_fail 2 none 1 20 [(2, l0), (0, l1)] h (Mod_fail F l0 l1 h) := Sp_of (by decide +kernel) rfl rfl (Nat.le_of_ble_eq_true rfl) (v_Mod_fail F l0 l1 h)

-- TideRakesModel.wrong
def Mod_wrong (F : Nat) (l0 l1 l2 : Int) (h : Hp) : Option (Int × Hp) :=
  gf h l0 112 6 fun v1 =>
  al h v1 0 l2 fun v2 =>
  gf h l0 112 13 fun v3 =>
  if 0 < v3 then
    (some (0, h))
  else
    (gf h l0 112 15 fun v4 =>
    if v4 = 0 then
      (pf h l0 112 15 l1 fun h5 =>
      pf h5 l0 112 16 v2 fun h6 =>
      some (0, h6))
    else
      (gf h l0 112 16 fun v7 =>
      if v7 < v2 then
        (some (0, h))
      else
        (gf h l0 112 16 fun v8 =>
        if v2 = v8 then
          (gf h l0 112 15 fun v9 =>
          if l1 < v9 then
            (pf h l0 112 15 l1 fun h10 =>
            pf h10 l0 112 16 v2 fun h11 =>
            some (0, h11))
          else
            (some (0, h)))
        else
          (pf h l0 112 15 l1 fun h12 =>
          pf h12 l0 112 16 v2 fun h13 =>
          some (0, h13)))))

theorem dc_Mod_wrong_0 : ∀ q ∈ ([(0, .aload_n 0, 1), (1, .getfield 24, 3), (4, .iload_n 2, 1), (5, .iaload, 1), (6, .istore_n 3, 1), (7, .aload_n 0, 1), (8, .getfield 251, 3), (11, .ifCond .gt 34, 3), (14, .aload_n 0, 1), (15, .getfield 260, 3), (18, .ifCond .eq 28, 3), (21, .iload_n 3, 1), (22, .aload_n 0, 1), (23, .getfield 263, 3), (26, .if_icmp .gt 19, 3), (29, .iload_n 3, 1), (30, .aload_n 0, 1), (31, .getfield 263, 3), (34, .if_icmp .ne 12, 3), (37, .iload_n 1, 1), (38, .aload_n 0, 1), (39, .getfield 260, 3), (42, .if_icmp .lt 4, 3), (45, .return_, 1), (46, .aload_n 0, 1), (47, .iload_n 1, 1), (48, .putfield 260, 3), (51, .aload_n 0, 1), (52, .iload_n 3, 1), (53, .putfield 263, 3), (56, .return_, 1)] : List (Nat × Instr × Nat)), decode cX12_wrong q.1 = .ok (q.2.1, q.2.2) := by decide +kernel
abbrev X_Mod_wrong : MX := (cX12_wrong, RX12, "wrong", 4, none, 1, 20)
theorem v_Mod_wrong (F : Nat) (l0 l1 l2 : Int) (h : Hp) : V X_Mod_wrong 0 [(0, 2, l0), (1, 0, l1), (2, 0, l2)] [] h (Mod_wrong F l0 l1 l2 h) := by
  unfold Mod_wrong
  refine V_aload_n (pc := 0) (DCa dc_Mod_wrong_0 0 rfl) rfl 0 rfl ?_
  refine Q_getf (k := 6) (pc := 1) (DCa dc_Mod_wrong_0 1 rfl) cls_12 (Nat.le_of_ble_eq_true rfl) fl_12_24 rfl rfl rfl (fun v1 => ?_)
  refine V_iload_n (pc := 4) (DCa dc_Mod_wrong_0 2 rfl) rfl 2 rfl ?_
  refine Q_iaload (pc := 5) (DCa dc_Mod_wrong_0 3 rfl) (fun v2 => ?_)
  refine V_istore_n (ls' := [(0, 2, l0), (1, 0, l1), (2, 0, l2), (3, 0, v2)]) (pc := 6) (DCa dc_Mod_wrong_0 4 rfl) rfl (Nat.le_of_ble_eq_true rfl) rfl ?_
  refine V_aload_n (pc := 7) (DCa dc_Mod_wrong_0 5 rfl) rfl 0 rfl ?_
  refine Q_getf (k := 13) (pc := 8) (DCa dc_Mod_wrong_0 6 rfl) cls_12 (Nat.le_of_ble_eq_true rfl) fl_12_251 rfl rfl rfl (fun v3 => ?_)
  refine V_if_gt (tgt := 45) (pc := 11) (DCa dc_Mod_wrong_0 7 rfl) (by decide) (fun _ => ?_) (fun _ => ?_)
  · exact V_return (pc := 45) (DCa dc_Mod_wrong_0 23 rfl) rfl
  · refine V_aload_n (pc := 14) (DCa dc_Mod_wrong_0 8 rfl) rfl 0 rfl ?_
    refine Q_getf (k := 15) (pc := 15) (DCa dc_Mod_wrong_0 9 rfl) cls_12 (Nat.le_of_ble_eq_true rfl) fl_12_260 rfl rfl rfl (fun v4 => ?_)
    refine V_if_eq (tgt := 46) (pc := 18) (DCa dc_Mod_wrong_0 10 rfl) (by decide) (fun _ => ?_) (fun _ => ?_)
    · refine V_aload_n (pc := 46) (DCa dc_Mod_wrong_0 24 rfl) rfl 0 rfl ?_
      refine V_iload_n (pc := 47) (DCa dc_Mod_wrong_0 25 rfl) rfl 1 rfl ?_
      refine Q_putf (k := 15) (pc := 48) (DCa dc_Mod_wrong_0 26 rfl) cls_12 (Nat.le_of_ble_eq_true rfl) fl_12_260 rfl rfl rfl (Or.inl rfl) (Or.inl ⟨rfl, rfl⟩) (fun h5 => ?_)
      refine V_aload_n (pc := 51) (DCa dc_Mod_wrong_0 27 rfl) rfl 0 rfl ?_
      refine V_iload_n (pc := 52) (DCa dc_Mod_wrong_0 28 rfl) rfl 3 rfl ?_
      refine Q_putf (k := 16) (pc := 53) (DCa dc_Mod_wrong_0 29 rfl) cls_12 (Nat.le_of_ble_eq_true rfl) fl_12_263 rfl rfl rfl (Or.inl rfl) (Or.inl ⟨rfl, rfl⟩) (fun h6 => ?_)
      exact V_return (pc := 56) (DCa dc_Mod_wrong_0 30 rfl) rfl
    · refine V_iload_n (pc := 21) (DCa dc_Mod_wrong_0 11 rfl) rfl 3 rfl ?_
      refine V_aload_n (pc := 22) (DCa dc_Mod_wrong_0 12 rfl) rfl 0 rfl ?_
      refine Q_getf (k := 16) (pc := 23) (DCa dc_Mod_wrong_0 13 rfl) cls_12 (Nat.le_of_ble_eq_true rfl) fl_12_263 rfl rfl rfl (fun v7 => ?_)
      refine V_icmp_gt (tgt := 45) (pc := 26) (DCa dc_Mod_wrong_0 14 rfl) (by decide) (fun _ => ?_) (fun _ => ?_)
      · exact V_return (pc := 45) (DCa dc_Mod_wrong_0 23 rfl) rfl
      · refine V_iload_n (pc := 29) (DCa dc_Mod_wrong_0 15 rfl) rfl 3 rfl ?_
        refine V_aload_n (pc := 30) (DCa dc_Mod_wrong_0 16 rfl) rfl 0 rfl ?_
        refine Q_getf (k := 16) (pc := 31) (DCa dc_Mod_wrong_0 17 rfl) cls_12 (Nat.le_of_ble_eq_true rfl) fl_12_263 rfl rfl rfl (fun v8 => ?_)
        refine V_icmp_ne (tgt := 46) (pc := 34) (DCa dc_Mod_wrong_0 18 rfl) (by decide) (fun _ => ?_) (fun _ => ?_)
        · refine V_iload_n (pc := 37) (DCa dc_Mod_wrong_0 19 rfl) rfl 1 rfl ?_
          refine V_aload_n (pc := 38) (DCa dc_Mod_wrong_0 20 rfl) rfl 0 rfl ?_
          refine Q_getf (k := 15) (pc := 39) (DCa dc_Mod_wrong_0 21 rfl) cls_12 (Nat.le_of_ble_eq_true rfl) fl_12_260 rfl rfl rfl (fun v9 => ?_)
          refine V_icmp_lt (tgt := 46) (pc := 42) (DCa dc_Mod_wrong_0 22 rfl) (by decide) (fun _ => ?_) (fun _ => ?_)
          · refine V_aload_n (pc := 46) (DCa dc_Mod_wrong_0 24 rfl) rfl 0 rfl ?_
            refine V_iload_n (pc := 47) (DCa dc_Mod_wrong_0 25 rfl) rfl 1 rfl ?_
            refine Q_putf (k := 15) (pc := 48) (DCa dc_Mod_wrong_0 26 rfl) cls_12 (Nat.le_of_ble_eq_true rfl) fl_12_260 rfl rfl rfl (Or.inl rfl) (Or.inl ⟨rfl, rfl⟩) (fun h10 => ?_)
            refine V_aload_n (pc := 51) (DCa dc_Mod_wrong_0 27 rfl) rfl 0 rfl ?_
            refine V_iload_n (pc := 52) (DCa dc_Mod_wrong_0 28 rfl) rfl 3 rfl ?_
            refine Q_putf (k := 16) (pc := 53) (DCa dc_Mod_wrong_0 29 rfl) cls_12 (Nat.le_of_ble_eq_true rfl) fl_12_263 rfl rfl rfl (Or.inl rfl) (Or.inl ⟨rfl, rfl⟩) (fun h11 => ?_)
            exact V_return (pc := 56) (DCa dc_Mod_wrong_0 30 rfl) rfl
          · exact V_return (pc := 45) (DCa dc_Mod_wrong_0 23 rfl) rfl
        · refine V_aload_n (pc := 46) (DCa dc_Mod_wrong_0 24 rfl) rfl 0 rfl ?_
          refine V_iload_n (pc := 47) (DCa dc_Mod_wrong_0 25 rfl) rfl 1 rfl ?_
          refine Q_putf (k := 15) (pc := 48) (DCa dc_Mod_wrong_0 26 rfl) cls_12 (Nat.le_of_ble_eq_true rfl) fl_12_260 rfl rfl rfl (Or.inl rfl) (Or.inl ⟨rfl, rfl⟩) (fun h12 => ?_)
          refine V_aload_n (pc := 51) (DCa dc_Mod_wrong_0 27 rfl) rfl 0 rfl ?_
          refine V_iload_n (pc := 52) (DCa dc_Mod_wrong_0 28 rfl) rfl 3 rfl ?_
          refine Q_putf (k := 16) (pc := 53) (DCa dc_Mod_wrong_0 29 rfl) cls_12 (Nat.le_of_ble_eq_true rfl) fl_12_263 rfl rfl rfl (Or.inl rfl) (Or.inl ⟨rfl, rfl⟩) (fun h13 => ?_)
          exact V_return (pc := 56) (DCa dc_Mod_wrong_0 30 rfl) rfl
theorem sp_Mod_wrong (F : Nat) (l0 l1 l2 : Int) (h : Hp) : Sp yX12_wrong cX12_wrong 4 none 1 20 [(2, l0), (0, l1), (0, l2)] h (Mod_wrong F l0 l1 l2 h) := Sp_of (by decide +kernel) rfl rfl (Nat.le_of_ble_eq_true rfl) (v_Mod_wrong F l0 l1 l2 h)

-- TideRakesModel.goesOn
def Mod_goesOn (F : Nat) (l0 : Int) (h : Hp) : Option (Int × Hp) :=
  gf h l0 112 11 fun v1 =>
  if v1 = 400 then
    (iv h l0 112 (Mod_fail F l0 2 h) fun r2 h3 =>
    some (0, h3))
  else
    (gf h l0 112 11 fun v4 =>
    pf h l0 112 11 (w32 (v4 + 1)) fun h5 =>
    some (0, h5))

theorem dc_Mod_goesOn_0 : ∀ q ∈ ([(0, .aload_n 0, 1), (1, .getfield 254, 3), (4, .sipush 400, 3), (7, .if_icmp .ne 11, 3), (10, .aload_n 0, 1), (11, .iconst 2, 1), (12, .invokevirtual 266, 3), (15, .goto 13, 3), (18, .aload_n 0, 1), (19, .dup, 1), (20, .getfield 254, 3), (23, .iconst 1, 1), (24, .iadd, 1), (25, .putfield 254, 3), (28, .return_, 1)] : List (Nat × Instr × Nat)), decode cX12_goesOn q.1 = .ok (q.2.1, q.2.2) := by decide +kernel
abbrev X_Mod_goesOn : MX := (cX12_goesOn, RX12, "goesOn", 1, none, 2, 41)
theorem v_Mod_goesOn (F : Nat) (l0 : Int) (h : Hp) : V X_Mod_goesOn 0 [(0, 2, l0)] [] h (Mod_goesOn F l0 h) := by
  unfold Mod_goesOn
  refine V_aload_n (pc := 0) (DCa dc_Mod_goesOn_0 0 rfl) rfl 0 rfl ?_
  refine Q_getf (k := 11) (pc := 1) (DCa dc_Mod_goesOn_0 1 rfl) cls_12 (Nat.le_of_ble_eq_true rfl) fl_12_254 rfl rfl rfl (fun v1 => ?_)
  refine V_sipush (pc := 4) (DCa dc_Mod_goesOn_0 2 rfl) (by decide) ?_
  refine V_icmp_ne (tgt := 18) (pc := 7) (DCa dc_Mod_goesOn_0 3 rfl) (by decide) (fun _ => ?_) (fun _ => ?_)
  · refine V_aload_n (pc := 10) (DCa dc_Mod_goesOn_0 4 rfl) rfl 0 rfl ?_
    refine V_iconst (pc := 11) (DCa dc_Mod_goesOn_0 5 rfl) (by decide) ?_
    refine Q_callv (ci := 12) (st := []) (pc := 12) (DCa dc_Mod_goesOn_0 6 rfl) (sp_Mod_fail F _ _ _) ce_Mod_fail ml_12_266 rfl rfl ⟨Nat.le_of_ble_eq_true rfl, Nat.le_of_ble_eq_true rfl⟩ rfl (Nat.le_of_ble_eq_true rfl) (fun r2 h3 => ?_)
    refine V_goto (tgt := 28) (pc := 15) (DCa dc_Mod_goesOn_0 7 rfl) (by decide) ?_
    exact V_return (pc := 28) (DCa dc_Mod_goesOn_0 14 rfl) rfl
  · refine V_aload_n (pc := 18) (DCa dc_Mod_goesOn_0 8 rfl) rfl 0 rfl ?_
    refine V_dup (pc := 19) (DCa dc_Mod_goesOn_0 9 rfl) rfl ?_
    refine Q_getf (k := 11) (pc := 20) (DCa dc_Mod_goesOn_0 10 rfl) cls_12 (Nat.le_of_ble_eq_true rfl) fl_12_254 rfl rfl rfl (fun v4 => ?_)
    refine V_iconst (pc := 23) (DCa dc_Mod_goesOn_0 11 rfl) (by decide) ?_
    refine V_iadd (pc := 24) (DCa dc_Mod_goesOn_0 12 rfl) ?_
    refine Q_putf (k := 11) (pc := 25) (DCa dc_Mod_goesOn_0 13 rfl) cls_12 (Nat.le_of_ble_eq_true rfl) fl_12_254 rfl rfl rfl (Or.inl rfl) (Or.inl ⟨rfl, rfl⟩) (fun h5 => ?_)
    exact V_return (pc := 28) (DCa dc_Mod_goesOn_0 14 rfl) rfl
theorem sp_Mod_goesOn (F : Nat) (l0 : Int) (h : Hp) : Sp yX12_goesOn cX12_goesOn 1 none 2 41 [(2, l0)] h (Mod_goesOn F l0 h) := Sp_of (by decide +kernel) rfl rfl (Nat.le_of_ble_eq_true rfl) (v_Mod_goesOn F l0 h)

-- TideRakesModel.must
def Mod_must (F : Nat) (l0 l1 : Int) (h : Hp) : Option (Int × Hp) :=
  iv h l0 112 (Mod_is F l0 l1 h) fun r1 h2 =>
  if r1 = 0 then
    (iv h2 l0 112 (Mod_fail F l0 1 h2) fun r3 h4 =>
    some (0, h4))
  else
    (iv h2 l0 112 (Mod_goesOn F l0 h2) fun r5 h6 =>
    some (0, h6))

theorem dc_Mod_must_0 : ∀ q ∈ ([(0, .aload_n 0, 1), (1, .iload_n 1, 1), (2, .invokevirtual 269, 3), (5, .ifCond .eq 10, 3), (8, .aload_n 0, 1), (9, .invokevirtual 272, 3), (12, .goto 8, 3), (15, .aload_n 0, 1), (16, .iconst 1, 1), (17, .invokevirtual 266, 3), (20, .return_, 1)] : List (Nat × Instr × Nat)), decode cX12_must q.1 = .ok (q.2.1, q.2.2) := by decide +kernel
abbrev X_Mod_must : MX := (cX12_must, RX12, "must", 2, none, 3, 61)
theorem v_Mod_must (F : Nat) (l0 l1 : Int) (h : Hp) : V X_Mod_must 0 [(0, 2, l0), (1, 0, l1)] [] h (Mod_must F l0 l1 h) := by
  unfold Mod_must
  refine V_aload_n (pc := 0) (DCa dc_Mod_must_0 0 rfl) rfl 0 rfl ?_
  refine V_iload_n (pc := 1) (DCa dc_Mod_must_0 1 rfl) rfl 1 rfl ?_
  refine Q_callv (ci := 12) (st := []) (pc := 2) (DCa dc_Mod_must_0 2 rfl) (sp_Mod_is F _ _ _) ce_Mod_is ml_12_269 rfl rfl ⟨Nat.le_of_ble_eq_true rfl, Nat.le_of_ble_eq_true rfl⟩ rfl (Nat.le_of_ble_eq_true rfl) (fun r1 h2 => ?_)
  refine V_if_eq (tgt := 15) (pc := 5) (DCa dc_Mod_must_0 3 rfl) (by decide) (fun _ => ?_) (fun _ => ?_)
  · refine V_aload_n (pc := 15) (DCa dc_Mod_must_0 7 rfl) rfl 0 rfl ?_
    refine V_iconst (pc := 16) (DCa dc_Mod_must_0 8 rfl) (by decide) ?_
    refine Q_callv (ci := 12) (st := []) (pc := 17) (DCa dc_Mod_must_0 9 rfl) (sp_Mod_fail F _ _ _) ce_Mod_fail ml_12_266 rfl rfl ⟨Nat.le_of_ble_eq_true rfl, Nat.le_of_ble_eq_true rfl⟩ rfl (Nat.le_of_ble_eq_true rfl) (fun r3 h4 => ?_)
    exact V_return (pc := 20) (DCa dc_Mod_must_0 10 rfl) rfl
  · refine V_aload_n (pc := 8) (DCa dc_Mod_must_0 4 rfl) rfl 0 rfl ?_
    refine Q_callv (ci := 12) (st := []) (pc := 9) (DCa dc_Mod_must_0 5 rfl) (sp_Mod_goesOn F _ _) ce_Mod_goesOn ml_12_272 rfl rfl ⟨Nat.le_of_ble_eq_true rfl, Nat.le_of_ble_eq_true rfl⟩ rfl (Nat.le_of_ble_eq_true rfl) (fun r5 h6 => ?_)
    refine V_goto (tgt := 20) (pc := 12) (DCa dc_Mod_must_0 6 rfl) (by decide) ?_
    exact V_return (pc := 20) (DCa dc_Mod_must_0 10 rfl) rfl
theorem sp_Mod_must (F : Nat) (l0 l1 : Int) (h : Hp) : Sp yX12_must cX12_must 2 none 3 61 [(2, l0), (0, l1)] h (Mod_must F l0 l1 h) := Sp_of (by decide +kernel) rfl rfl (Nat.le_of_ble_eq_true rfl) (v_Mod_must F l0 l1 h)

-- TideRakesModel.bounded
def Mod_bounded_B15 (F : Nat)  (l0 l1 : Int) (h : Hp) : Option (Int × Hp) :=
  iv h l0 112 (Mod_fail F l0 1 h) fun r7 h8 =>
  some (l1, h8)
def Mod_bounded_B51 (F : Nat)  (l0 l3 : Int) (h : Hp) : Option (Int × Hp) :=
  iv h l0 112 (Mod_goesOn F l0 h) fun r12 h13 =>
  some (l3, h13)
def Mod_bounded_B42 (F : Nat)  (l0 l3 : Int) (h : Hp) : Option (Int × Hp) :=
  gf h l0 112 11 fun v9 =>
  iv h l0 112 (Mod_wrong F l0 5 v9 h) fun r10 h11 =>
  Mod_bounded_B51 F l0 l3 h11
def Mod_bounded (F : Nat) (l0 l1 l2 : Int) (h : Hp) : Option (Int × Hp) :=
  gf h l0 112 13 fun v1 =>
  if 0 < v1 then
    (Mod_bounded_B15 F l0 l1 h)
  else
    (iv h l0 112 (Mod_is F l0 2 h) fun r2 h3 =>
    if r2 = 0 then
      (Mod_bounded_B15 F l0 l1 h3)
    else
      (gf h3 l0 112 7 fun v4 =>
      gf h3 l0 112 11 fun v5 =>
      al h3 v4 0 v5 fun v6 =>
      if v6 < l1 then
        (Mod_bounded_B42 F l0 v6 h3)
      else
        (if l2 < v6 then
          (Mod_bounded_B42 F l0 v6 h3)
        else
          (Mod_bounded_B51 F l0 v6 h3))))

theorem dc_Mod_bounded_0 : ∀ q ∈ ([(0, .aload_n 0, 1), (1, .getfield 251, 3), (4, .ifCond .gt 11, 3), (7, .aload_n 0, 1), (8, .iconst 2, 1), (9, .invokevirtual 269, 3), (12, .ifCond .ne 10, 3), (15, .aload_n 0, 1), (16, .iconst 1, 1), (17, .invokevirtual 266, 3), (20, .iload_n 1, 1), (21, .ireturn, 1), (22, .aload_n 0, 1), (23, .getfield 27, 3), (26, .aload_n 0, 1), (27, .getfield 254, 3), (30, .iaload, 1), (31, .istore_n 3, 1), (32, .iload_n 3, 1), (33, .iload_n 1, 1), (34, .if_icmp .lt 8, 3), (37, .iload_n 3, 1), (38, .iload_n 2, 1), (39, .if_icmp .le 12, 3), (42, .aload_n 0, 1), (43, .iconst 5, 1), (44, .aload_n 0, 1), (45, .getfield 254, 3), (48, .invokevirtual 325, 3), (51, .aload_n 0, 1), (52, .invokevirtual 272, 3), (55, .iload_n 3, 1), (56, .ireturn, 1)] : List (Nat × Instr × Nat)), decode cX12_bounded q.1 = .ok (q.2.1, q.2.2) := by decide +kernel
abbrev X_Mod_bounded : MX := (cX12_bounded, RX12, "bounded", 4, (some (.int)), 3, 61)
theorem v_Mod_bounded_B15 (F : Nat)  (l0 l1 : Int) (h : Hp) : V X_Mod_bounded 15 [(0, 2, l0), (1, 0, l1)] [] h (Mod_bounded_B15 F  l0 l1 h) := by
  unfold Mod_bounded_B15
  refine V_aload_n (pc := 15) (DCa dc_Mod_bounded_0 7 rfl) rfl 0 rfl ?_
  refine V_iconst (pc := 16) (DCa dc_Mod_bounded_0 8 rfl) (by decide) ?_
  refine Q_callv (ci := 12) (st := []) (pc := 17) (DCa dc_Mod_bounded_0 9 rfl) (sp_Mod_fail F _ _ _) ce_Mod_fail ml_12_266 rfl rfl ⟨Nat.le_of_ble_eq_true rfl, Nat.le_of_ble_eq_true rfl⟩ rfl (Nat.le_of_ble_eq_true rfl) (fun r7 h8 => ?_)
  refine V_iload_n (pc := 20) (DCa dc_Mod_bounded_0 10 rfl) rfl 1 rfl ?_
  exact V_ireturn (pc := 21) (DCa dc_Mod_bounded_0 11 rfl) rfl
theorem v_Mod_bounded_B51 (F : Nat)  (l0 l3 : Int) (h : Hp) : V X_Mod_bounded 51 [(0, 2, l0), (3, 0, l3)] [] h (Mod_bounded_B51 F  l0 l3 h) := by
  unfold Mod_bounded_B51
  refine V_aload_n (pc := 51) (DCa dc_Mod_bounded_0 29 rfl) rfl 0 rfl ?_
  refine Q_callv (ci := 12) (st := []) (pc := 52) (DCa dc_Mod_bounded_0 30 rfl) (sp_Mod_goesOn F _ _) ce_Mod_goesOn ml_12_272 rfl rfl ⟨Nat.le_of_ble_eq_true rfl, Nat.le_of_ble_eq_true rfl⟩ rfl (Nat.le_of_ble_eq_true rfl) (fun r12 h13 => ?_)
  refine V_iload_n (pc := 55) (DCa dc_Mod_bounded_0 31 rfl) rfl 1 rfl ?_
  exact V_ireturn (pc := 56) (DCa dc_Mod_bounded_0 32 rfl) rfl
theorem v_Mod_bounded_B42 (F : Nat)  (l0 l3 : Int) (h : Hp) : V X_Mod_bounded 42 [(0, 2, l0), (3, 0, l3)] [] h (Mod_bounded_B42 F  l0 l3 h) := by
  unfold Mod_bounded_B42
  refine V_aload_n (pc := 42) (DCa dc_Mod_bounded_0 24 rfl) rfl 0 rfl ?_
  refine V_iconst (pc := 43) (DCa dc_Mod_bounded_0 25 rfl) (by decide) ?_
  refine V_aload_n (pc := 44) (DCa dc_Mod_bounded_0 26 rfl) rfl 0 rfl ?_
  refine Q_getf (k := 11) (pc := 45) (DCa dc_Mod_bounded_0 27 rfl) cls_12 (Nat.le_of_ble_eq_true rfl) fl_12_254 rfl rfl rfl (fun v9 => ?_)
  refine Q_callv (ci := 12) (st := []) (pc := 48) (DCa dc_Mod_bounded_0 28 rfl) (sp_Mod_wrong F _ _ _ _) ce_Mod_wrong ml_12_325 rfl rfl ⟨Nat.le_of_ble_eq_true rfl, Nat.le_of_ble_eq_true rfl⟩ rfl (Nat.le_of_ble_eq_true rfl) (fun r10 h11 => ?_)
  exact v_Mod_bounded_B51 F _ _ _
theorem v_Mod_bounded (F : Nat) (l0 l1 l2 : Int) (h : Hp) : V X_Mod_bounded 0 [(0, 2, l0), (1, 0, l1), (2, 0, l2)] [] h (Mod_bounded F l0 l1 l2 h) := by
  unfold Mod_bounded
  refine V_aload_n (pc := 0) (DCa dc_Mod_bounded_0 0 rfl) rfl 0 rfl ?_
  refine Q_getf (k := 13) (pc := 1) (DCa dc_Mod_bounded_0 1 rfl) cls_12 (Nat.le_of_ble_eq_true rfl) fl_12_251 rfl rfl rfl (fun v1 => ?_)
  refine V_if_gt (tgt := 15) (pc := 4) (DCa dc_Mod_bounded_0 2 rfl) (by decide) (fun _ => ?_) (fun _ => ?_)
  · refine V_pick [0, 1] rfl ?_
    exact v_Mod_bounded_B15 F _ _ _
  · refine V_aload_n (pc := 7) (DCa dc_Mod_bounded_0 3 rfl) rfl 0 rfl ?_
    refine V_iconst (pc := 8) (DCa dc_Mod_bounded_0 4 rfl) (by decide) ?_
    refine Q_callv (ci := 12) (st := []) (pc := 9) (DCa dc_Mod_bounded_0 5 rfl) (sp_Mod_is F _ _ _) ce_Mod_is ml_12_269 rfl rfl ⟨Nat.le_of_ble_eq_true rfl, Nat.le_of_ble_eq_true rfl⟩ rfl (Nat.le_of_ble_eq_true rfl) (fun r2 h3 => ?_)
    refine V_if_ne (tgt := 22) (pc := 12) (DCa dc_Mod_bounded_0 6 rfl) (by decide) (fun _ => ?_) (fun _ => ?_)
    · refine V_pick [0, 1] rfl ?_
      exact v_Mod_bounded_B15 F _ _ _
    · refine V_aload_n (pc := 22) (DCa dc_Mod_bounded_0 12 rfl) rfl 0 rfl ?_
      refine Q_getf (k := 7) (pc := 23) (DCa dc_Mod_bounded_0 13 rfl) cls_12 (Nat.le_of_ble_eq_true rfl) fl_12_27 rfl rfl rfl (fun v4 => ?_)
      refine V_aload_n (pc := 26) (DCa dc_Mod_bounded_0 14 rfl) rfl 0 rfl ?_
      refine Q_getf (k := 11) (pc := 27) (DCa dc_Mod_bounded_0 15 rfl) cls_12 (Nat.le_of_ble_eq_true rfl) fl_12_254 rfl rfl rfl (fun v5 => ?_)
      refine Q_iaload (pc := 30) (DCa dc_Mod_bounded_0 16 rfl) (fun v6 => ?_)
      refine V_istore_n (ls' := [(0, 2, l0), (1, 0, l1), (2, 0, l2), (3, 0, v6)]) (pc := 31) (DCa dc_Mod_bounded_0 17 rfl) rfl (Nat.le_of_ble_eq_true rfl) rfl ?_
      refine V_iload_n (pc := 32) (DCa dc_Mod_bounded_0 18 rfl) rfl 3 rfl ?_
      refine V_iload_n (pc := 33) (DCa dc_Mod_bounded_0 19 rfl) rfl 1 rfl ?_
      refine V_icmp_lt (tgt := 42) (pc := 34) (DCa dc_Mod_bounded_0 20 rfl) (by decide) (fun _ => ?_) (fun _ => ?_)
      · refine V_pick [0, 3] rfl ?_
        exact v_Mod_bounded_B42 F _ _ _
      · refine V_iload_n (pc := 37) (DCa dc_Mod_bounded_0 21 rfl) rfl 3 rfl ?_
        refine V_iload_n (pc := 38) (DCa dc_Mod_bounded_0 22 rfl) rfl 2 rfl ?_
        refine V_icmp_le (tgt := 51) (pc := 39) (DCa dc_Mod_bounded_0 23 rfl) (by decide) (fun _ => ?_) (fun _ => ?_)
        · refine V_pick [0, 3] rfl ?_
          exact v_Mod_bounded_B42 F _ _ _
        · refine V_pick [0, 3] rfl ?_
          exact v_Mod_bounded_B51 F _ _ _
theorem sp_Mod_bounded (F : Nat) (l0 l1 l2 : Int) (h : Hp) : Sp yX12_bounded cX12_bounded 4 (some (.int)) 3 61 [(2, l0), (0, l1), (0, l2)] h (Mod_bounded F l0 l1 l2 h) := Sp_of (by decide +kernel) rfl rfl (Nat.le_of_ble_eq_true rfl) (v_Mod_bounded F l0 l1 l2 h)

-- TideRakesModel.roomFor
def Mod_roomFor_B10 (F : Nat)  (l0 : Int) (h : Hp) : Option (Int × Hp) :=
  gf h l0 112 13 fun v3 =>
  if v3 = 0 then
    (iv h l0 112 (Mod_goesOn F l0 h) fun r4 h5 =>
    some (0, h5))
  else
    (some (0, h))
def Mod_roomFor (F : Nat) (l0 l1 l2 : Int) (h : Hp) : Option (Int × Hp) :=
  if l1 = l2 then
    (iv h l0 112 (Mod_fail F l0 2 h) fun r1 h2 =>
    Mod_roomFor_B10 F l0 h2)
  else
    (Mod_roomFor_B10 F l0 h)

theorem dc_Mod_roomFor_0 : ∀ q ∈ ([(0, .iload_n 1, 1), (1, .iload_n 2, 1), (2, .if_icmp .ne 8, 3), (5, .aload_n 0, 1), (6, .iconst 2, 1), (7, .invokevirtual 266, 3), (10, .aload_n 0, 1), (11, .getfield 251, 3), (14, .ifCond .ne 7, 3), (17, .aload_n 0, 1), (18, .invokevirtual 272, 3), (21, .return_, 1)] : List (Nat × Instr × Nat)), decode cX12_roomFor q.1 = .ok (q.2.1, q.2.2) := by decide +kernel
abbrev X_Mod_roomFor : MX := (cX12_roomFor, RX12, "roomFor", 3, none, 3, 61)
theorem v_Mod_roomFor_B10 (F : Nat)  (l0 : Int) (h : Hp) : V X_Mod_roomFor 10 [(0, 2, l0)] [] h (Mod_roomFor_B10 F  l0 h) := by
  unfold Mod_roomFor_B10
  refine V_aload_n (pc := 10) (DCa dc_Mod_roomFor_0 6 rfl) rfl 0 rfl ?_
  refine Q_getf (k := 13) (pc := 11) (DCa dc_Mod_roomFor_0 7 rfl) cls_12 (Nat.le_of_ble_eq_true rfl) fl_12_251 rfl rfl rfl (fun v3 => ?_)
  refine V_if_ne (tgt := 21) (pc := 14) (DCa dc_Mod_roomFor_0 8 rfl) (by decide) (fun _ => ?_) (fun _ => ?_)
  · refine V_aload_n (pc := 17) (DCa dc_Mod_roomFor_0 9 rfl) rfl 0 rfl ?_
    refine Q_callv (ci := 12) (st := []) (pc := 18) (DCa dc_Mod_roomFor_0 10 rfl) (sp_Mod_goesOn F _ _) ce_Mod_goesOn ml_12_272 rfl rfl ⟨Nat.le_of_ble_eq_true rfl, Nat.le_of_ble_eq_true rfl⟩ rfl (Nat.le_of_ble_eq_true rfl) (fun r4 h5 => ?_)
    exact V_return (pc := 21) (DCa dc_Mod_roomFor_0 11 rfl) rfl
  · exact V_return (pc := 21) (DCa dc_Mod_roomFor_0 11 rfl) rfl
theorem v_Mod_roomFor (F : Nat) (l0 l1 l2 : Int) (h : Hp) : V X_Mod_roomFor 0 [(0, 2, l0), (1, 0, l1), (2, 0, l2)] [] h (Mod_roomFor F l0 l1 l2 h) := by
  unfold Mod_roomFor
  refine V_iload_n (pc := 0) (DCa dc_Mod_roomFor_0 0 rfl) rfl 1 rfl ?_
  refine V_iload_n (pc := 1) (DCa dc_Mod_roomFor_0 1 rfl) rfl 2 rfl ?_
  refine V_icmp_ne (tgt := 10) (pc := 2) (DCa dc_Mod_roomFor_0 2 rfl) (by decide) (fun _ => ?_) (fun _ => ?_)
  · refine V_aload_n (pc := 5) (DCa dc_Mod_roomFor_0 3 rfl) rfl 0 rfl ?_
    refine V_iconst (pc := 6) (DCa dc_Mod_roomFor_0 4 rfl) (by decide) ?_
    refine Q_callv (ci := 12) (st := []) (pc := 7) (DCa dc_Mod_roomFor_0 5 rfl) (sp_Mod_fail F _ _ _) ce_Mod_fail ml_12_266 rfl rfl ⟨Nat.le_of_ble_eq_true rfl, Nat.le_of_ble_eq_true rfl⟩ rfl (Nat.le_of_ble_eq_true rfl) (fun r1 h2 => ?_)
    refine V_pick [0] rfl ?_
    exact v_Mod_roomFor_B10 F _ _
  · refine V_pick [0] rfl ?_
    exact v_Mod_roomFor_B10 F _ _
theorem sp_Mod_roomFor (F : Nat) (l0 l1 l2 : Int) (h : Hp) : Sp yX12_roomFor cX12_roomFor 3 none 3 61 [(2, l0), (0, l1), (0, l2)] h (Mod_roomFor F l0 l1 l2 h) := Sp_of (by decide +kernel) rfl rfl (Nat.le_of_ble_eq_true rfl) (v_Mod_roomFor F l0 l1 l2 h)

-- TideRakesModel.emit
def Mod_emit (F : Nat) (l0 l1 l2 : Int) (h : Hp) : Option (Int × Hp) :=
  gf h l0 112 45 fun v1 =>
  gf h l0 112 44 fun v2 =>
  as h v1 0 v2 l1 fun h3 =>
  gf h3 l0 112 46 fun v4 =>
  gf h3 l0 112 44 fun v5 =>
  as h3 v4 0 v5 l2 fun h6 =>
  gf h6 l0 112 44 fun v7 =>
  pf h6 l0 112 44 (w32 (v7 + 1)) fun h8 =>
  some (0, h8)

theorem dc_Mod_emit_0 : ∀ q ∈ ([(0, .aload_n 0, 1), (1, .getfield 107, 3), (4, .aload_n 0, 1), (5, .getfield 293, 3), (8, .iload_n 1, 1), (9, .iastore, 1), (10, .aload_n 0, 1), (11, .getfield 110, 3), (14, .aload_n 0, 1), (15, .getfield 293, 3), (18, .iload_n 2, 1), (19, .iastore, 1), (20, .aload_n 0, 1), (21, .dup, 1), (22, .getfield 293, 3), (25, .iconst 1, 1), (26, .iadd, 1), (27, .putfield 293, 3), (30, .return_, 1)] : List (Nat × Instr × Nat)), decode cX12_emit q.1 = .ok (q.2.1, q.2.2) := by decide +kernel
abbrev X_Mod_emit : MX := (cX12_emit, RX12, "emit", 3, none, 1, 20)
theorem v_Mod_emit (F : Nat) (l0 l1 l2 : Int) (h : Hp) : V X_Mod_emit 0 [(0, 2, l0), (1, 0, l1), (2, 0, l2)] [] h (Mod_emit F l0 l1 l2 h) := by
  unfold Mod_emit
  refine V_aload_n (pc := 0) (DCa dc_Mod_emit_0 0 rfl) rfl 0 rfl ?_
  refine Q_getf (k := 45) (pc := 1) (DCa dc_Mod_emit_0 1 rfl) cls_12 (Nat.le_of_ble_eq_true rfl) fl_12_107 rfl rfl rfl (fun v1 => ?_)
  refine V_aload_n (pc := 4) (DCa dc_Mod_emit_0 2 rfl) rfl 0 rfl ?_
  refine Q_getf (k := 44) (pc := 5) (DCa dc_Mod_emit_0 3 rfl) cls_12 (Nat.le_of_ble_eq_true rfl) fl_12_293 rfl rfl rfl (fun v2 => ?_)
  refine V_iload_n (pc := 8) (DCa dc_Mod_emit_0 4 rfl) rfl 1 rfl ?_
  refine Q_iastore (pc := 9) (DCa dc_Mod_emit_0 5 rfl) (fun h3 => ?_)
  refine V_aload_n (pc := 10) (DCa dc_Mod_emit_0 6 rfl) rfl 0 rfl ?_
  refine Q_getf (k := 46) (pc := 11) (DCa dc_Mod_emit_0 7 rfl) cls_12 (Nat.le_of_ble_eq_true rfl) fl_12_110 rfl rfl rfl (fun v4 => ?_)
  refine V_aload_n (pc := 14) (DCa dc_Mod_emit_0 8 rfl) rfl 0 rfl ?_
  refine Q_getf (k := 44) (pc := 15) (DCa dc_Mod_emit_0 9 rfl) cls_12 (Nat.le_of_ble_eq_true rfl) fl_12_293 rfl rfl rfl (fun v5 => ?_)
  refine V_iload_n (pc := 18) (DCa dc_Mod_emit_0 10 rfl) rfl 2 rfl ?_
  refine Q_iastore (pc := 19) (DCa dc_Mod_emit_0 11 rfl) (fun h6 => ?_)
  refine V_aload_n (pc := 20) (DCa dc_Mod_emit_0 12 rfl) rfl 0 rfl ?_
  refine V_dup (pc := 21) (DCa dc_Mod_emit_0 13 rfl) rfl ?_
  refine Q_getf (k := 44) (pc := 22) (DCa dc_Mod_emit_0 14 rfl) cls_12 (Nat.le_of_ble_eq_true rfl) fl_12_293 rfl rfl rfl (fun v7 => ?_)
  refine V_iconst (pc := 25) (DCa dc_Mod_emit_0 15 rfl) (by decide) ?_
  refine V_iadd (pc := 26) (DCa dc_Mod_emit_0 16 rfl) ?_
  refine Q_putf (k := 44) (pc := 27) (DCa dc_Mod_emit_0 17 rfl) cls_12 (Nat.le_of_ble_eq_true rfl) fl_12_293 rfl rfl rfl (Or.inl rfl) (Or.inl ⟨rfl, rfl⟩) (fun h8 => ?_)
  exact V_return (pc := 30) (DCa dc_Mod_emit_0 18 rfl) rfl
theorem sp_Mod_emit (F : Nat) (l0 l1 l2 : Int) (h : Hp) : Sp yX12_emit cX12_emit 3 none 1 20 [(2, l0), (0, l1), (0, l2)] h (Mod_emit F l0 l1 l2 h) := Sp_of (by decide +kernel) rfl rfl (Nat.le_of_ble_eq_true rfl) (v_Mod_emit F l0 l1 l2 h)

-- TideRakesModel.comesOut
def Mod_comesOut_B84 (F : Nat) (R0 : Int → Int → Hp → Option (Int × Hp)) (l0 l1 s0 s1 : Int) (h : Hp) : Option (Int × Hp) :=
  iv h s1 112 (Mod_emit F s1 s0 0 h) fun r7 h8 =>
  R0 l0 l1 h8
def Mod_comesOut_B42 (F : Nat) (R0 : Int → Int → Hp → Option (Int × Hp)) (l0 l1 l2 : Int) (h : Hp) : Option (Int × Hp) :=
  gf h l0 112 48 fun v5 =>
  pf h l0 112 48 (w32 (v5 - 1)) fun h6 =>
  if l2 = 8 then
    (Mod_comesOut_B84 F R0 l0 l1 2 l0 h6)
  else
    (if l2 = 9 then
      (Mod_comesOut_B84 F R0 l0 l1 3 l0 h6)
    else
      (if l2 = 10 then
        (Mod_comesOut_B84 F R0 l0 l1 4 l0 h6)
      else
        (Mod_comesOut_B84 F R0 l0 l1 5 l0 h6)))
def Mod_comesOut_L0s (F : Nat)  (R0 : Int → Int → Hp → Option (Int × Hp)) (l0 l1 : Int) (h : Hp) : Option (Int × Hp) :=
  gf h l0 112 48 fun v1 =>
  if 0 < v1 then
    (gf h l0 112 47 fun v2 =>
    gf h l0 112 48 fun v3 =>
    al h v2 0 (w32 (v3 - 1)) fun v4 =>
    if v4 = 6 then
      (some (0, h))
    else
      (if l1 = 0 then
        (Mod_comesOut_B42 F R0 l0 l1 v4 h)
      else
        (if v4 = 8 then
          (some (0, h))
        else
          (if v4 = 9 then
            (some (0, h))
          else
            (Mod_comesOut_B42 F R0 l0 l1 v4 h)))))
  else
    (some (0, h))
def Mod_comesOut_L0 (F : Nat)  : Nat → Int → Int → Hp → Option (Int × Hp)
  | 0 => fun _ _ _ => none
  | n + 1 => Mod_comesOut_L0s F  (Mod_comesOut_L0 F  n)
def Mod_comesOut (F : Nat) (l0 l1 : Int) (h : Hp) : Option (Int × Hp) :=
  Mod_comesOut_L0 F F l0 l1 h

theorem dc_Mod_comesOut_0 : ∀ q ∈ ([(0, .aload_n 0, 1), (1, .getfield 338, 3), (4, .ifCond .le 87, 3), (7, .aload_n 0, 1), (8, .getfield 113, 3), (11, .aload_n 0, 1), (12, .getfield 338, 3), (15, .iconst 1, 1), (16, .isub, 1), (17, .iaload, 1), (18, .istore_n 2, 1), (19, .iload_n 2, 1), (20, .bipush 6, 2), (22, .if_icmp .eq 19, 3), (25, .iload_n 1, 1), (26, .ifCond .eq 16, 3), (29, .iload_n 2, 1), (30, .bipush 8, 2), (32, .if_icmp .eq 9, 3), (35, .iload_n 2, 1), (36, .bipush 9, 2), (38, .if_icmp .ne 4, 3), (41, .return_, 1), (42, .aload_n 0, 1), (43, .dup, 1), (44, .getfield 338, 3), (47, .iconst 1, 1), (48, .isub, 1), (49, .putfield 338, 3), (52, .aload_n 0, 1), (53, .iload_n 2, 1), (54, .bipush 8, 2), (56, .if_icmp .ne 7, 3), (59, .iconst 2, 1), (60, .goto 24, 3), (63, .iload_n 2, 1), (64, .bipush 9, 2), (66, .if_icmp .ne 7, 3), (69, .iconst 3, 1), (70, .goto 14, 3), (73, .iload_n 2, 1), (74, .bipush 10, 2), (76, .if_icmp .ne 7, 3), (79, .iconst 4, 1), (80, .goto 4, 3), (83, .iconst 5, 1), (84, .iconst 0, 1), (85, .invokevirtual 341, 3), (88, .goto (-88), 3), (91, .return_, 1)] : List (Nat × Instr × Nat)), decode cX12_comesOut q.1 = .ok (q.2.1, q.2.2) := by decide +kernel
abbrev X_Mod_comesOut : MX := (cX12_comesOut, RX12, "comesOut", 3, none, 2, 42)
theorem v_Mod_comesOut_B84 (F : Nat) (R0 : Int → Int → Hp → Option (Int × Hp)) (hR0 : ∀ (l0 l1 : Int) (h : Hp), V X_Mod_comesOut 0 [(0, 2, l0), (1, 0, l1)] [] h (R0 l0 l1 h)) (l0 l1 s0 s1 : Int) (h : Hp) : V X_Mod_comesOut 84 [(0, 2, l0), (1, 0, l1)] [(0, s0), (2, s1)] h (Mod_comesOut_B84 F R0 l0 l1 s0 s1 h) := by
  unfold Mod_comesOut_B84
  refine V_iconst (pc := 84) (DCa dc_Mod_comesOut_0 46 rfl) (by decide) ?_
  refine Q_callv (ci := 12) (st := []) (pc := 85) (DCa dc_Mod_comesOut_0 47 rfl) (sp_Mod_emit F _ _ _ _) ce_Mod_emit ml_12_341 rfl rfl ⟨Nat.le_of_ble_eq_true rfl, Nat.le_of_ble_eq_true rfl⟩ rfl (Nat.le_of_ble_eq_true rfl) (fun r7 h8 => ?_)
  refine V_goto (tgt := 0) (pc := 88) (DCa dc_Mod_comesOut_0 48 rfl) (by decide) ?_
  exact hR0 _ _ _
theorem v_Mod_comesOut_B42 (F : Nat) (R0 : Int → Int → Hp → Option (Int × Hp)) (hR0 : ∀ (l0 l1 : Int) (h : Hp), V X_Mod_comesOut 0 [(0, 2, l0), (1, 0, l1)] [] h (R0 l0 l1 h)) (l0 l1 l2 : Int) (h : Hp) : V X_Mod_comesOut 42 [(0, 2, l0), (1, 0, l1), (2, 0, l2)] [] h (Mod_comesOut_B42 F R0 l0 l1 l2 h) := by
  unfold Mod_comesOut_B42
  refine V_aload_n (pc := 42) (DCa dc_Mod_comesOut_0 23 rfl) rfl 0 rfl ?_
  refine V_dup (pc := 43) (DCa dc_Mod_comesOut_0 24 rfl) rfl ?_
  refine Q_getf (k := 48) (pc := 44) (DCa dc_Mod_comesOut_0 25 rfl) cls_12 (Nat.le_of_ble_eq_true rfl) fl_12_338 rfl rfl rfl (fun v5 => ?_)
  refine V_iconst (pc := 47) (DCa dc_Mod_comesOut_0 26 rfl) (by decide) ?_
  refine V_isub (pc := 48) (DCa dc_Mod_comesOut_0 27 rfl) ?_
  refine Q_putf (k := 48) (pc := 49) (DCa dc_Mod_comesOut_0 28 rfl) cls_12 (Nat.le_of_ble_eq_true rfl) fl_12_338 rfl rfl rfl (Or.inl rfl) (Or.inl ⟨rfl, rfl⟩) (fun h6 => ?_)
  refine V_aload_n (pc := 52) (DCa dc_Mod_comesOut_0 29 rfl) rfl 0 rfl ?_
  refine V_iload_n (pc := 53) (DCa dc_Mod_comesOut_0 30 rfl) rfl 2 rfl ?_
  refine V_bipush (pc := 54) (DCa dc_Mod_comesOut_0 31 rfl) (by decide) ?_
  refine V_icmp_ne (tgt := 63) (pc := 56) (DCa dc_Mod_comesOut_0 32 rfl) (by decide) (fun _ => ?_) (fun _ => ?_)
  · refine V_iconst (pc := 59) (DCa dc_Mod_comesOut_0 33 rfl) (by decide) ?_
    refine V_goto (tgt := 84) (pc := 60) (DCa dc_Mod_comesOut_0 34 rfl) (by decide) ?_
    refine V_pick [0, 1] rfl ?_
    exact v_Mod_comesOut_B84 F R0 hR0 _ _ _ _ _
  · refine V_iload_n (pc := 63) (DCa dc_Mod_comesOut_0 35 rfl) rfl 2 rfl ?_
    refine V_bipush (pc := 64) (DCa dc_Mod_comesOut_0 36 rfl) (by decide) ?_
    refine V_icmp_ne (tgt := 73) (pc := 66) (DCa dc_Mod_comesOut_0 37 rfl) (by decide) (fun _ => ?_) (fun _ => ?_)
    · refine V_iconst (pc := 69) (DCa dc_Mod_comesOut_0 38 rfl) (by decide) ?_
      refine V_goto (tgt := 84) (pc := 70) (DCa dc_Mod_comesOut_0 39 rfl) (by decide) ?_
      refine V_pick [0, 1] rfl ?_
      exact v_Mod_comesOut_B84 F R0 hR0 _ _ _ _ _
    · refine V_iload_n (pc := 73) (DCa dc_Mod_comesOut_0 40 rfl) rfl 2 rfl ?_
      refine V_bipush (pc := 74) (DCa dc_Mod_comesOut_0 41 rfl) (by decide) ?_
      refine V_icmp_ne (tgt := 83) (pc := 76) (DCa dc_Mod_comesOut_0 42 rfl) (by decide) (fun _ => ?_) (fun _ => ?_)
      · refine V_iconst (pc := 79) (DCa dc_Mod_comesOut_0 43 rfl) (by decide) ?_
        refine V_goto (tgt := 84) (pc := 80) (DCa dc_Mod_comesOut_0 44 rfl) (by decide) ?_
        refine V_pick [0, 1] rfl ?_
        exact v_Mod_comesOut_B84 F R0 hR0 _ _ _ _ _
      · refine V_iconst (pc := 83) (DCa dc_Mod_comesOut_0 45 rfl) (by decide) ?_
        refine V_pick [0, 1] rfl ?_
        exact v_Mod_comesOut_B84 F R0 hR0 _ _ _ _ _
theorem v_Mod_comesOut_L0s (F : Nat)  (R0 : Int → Int → Hp → Option (Int × Hp)) (hR0 : ∀ (l0 l1 : Int) (h : Hp), V X_Mod_comesOut 0 [(0, 2, l0), (1, 0, l1)] [] h (R0 l0 l1 h)) (l0 l1 : Int) (h : Hp) : V X_Mod_comesOut 0 [(0, 2, l0), (1, 0, l1)] [] h (Mod_comesOut_L0s F  R0 l0 l1 h) := by
  unfold Mod_comesOut_L0s
  refine V_aload_n (pc := 0) (DCa dc_Mod_comesOut_0 0 rfl) rfl 0 rfl ?_
  refine Q_getf (k := 48) (pc := 1) (DCa dc_Mod_comesOut_0 1 rfl) cls_12 (Nat.le_of_ble_eq_true rfl) fl_12_338 rfl rfl rfl (fun v1 => ?_)
  refine V_if_le (tgt := 91) (pc := 4) (DCa dc_Mod_comesOut_0 2 rfl) (by decide) (fun _ => ?_) (fun _ => ?_)
  · refine V_aload_n (pc := 7) (DCa dc_Mod_comesOut_0 3 rfl) rfl 0 rfl ?_
    refine Q_getf (k := 47) (pc := 8) (DCa dc_Mod_comesOut_0 4 rfl) cls_12 (Nat.le_of_ble_eq_true rfl) fl_12_113 rfl rfl rfl (fun v2 => ?_)
    refine V_aload_n (pc := 11) (DCa dc_Mod_comesOut_0 5 rfl) rfl 0 rfl ?_
    refine Q_getf (k := 48) (pc := 12) (DCa dc_Mod_comesOut_0 6 rfl) cls_12 (Nat.le_of_ble_eq_true rfl) fl_12_338 rfl rfl rfl (fun v3 => ?_)
    refine V_iconst (pc := 15) (DCa dc_Mod_comesOut_0 7 rfl) (by decide) ?_
    refine V_isub (pc := 16) (DCa dc_Mod_comesOut_0 8 rfl) ?_
    refine Q_iaload (pc := 17) (DCa dc_Mod_comesOut_0 9 rfl) (fun v4 => ?_)
    refine V_istore_n (ls' := [(0, 2, l0), (1, 0, l1), (2, 0, v4)]) (pc := 18) (DCa dc_Mod_comesOut_0 10 rfl) rfl (Nat.le_of_ble_eq_true rfl) rfl ?_
    refine V_iload_n (pc := 19) (DCa dc_Mod_comesOut_0 11 rfl) rfl 2 rfl ?_
    refine V_bipush (pc := 20) (DCa dc_Mod_comesOut_0 12 rfl) (by decide) ?_
    refine V_icmp_eq (tgt := 41) (pc := 22) (DCa dc_Mod_comesOut_0 13 rfl) (by decide) (fun _ => ?_) (fun _ => ?_)
    · exact V_return (pc := 41) (DCa dc_Mod_comesOut_0 22 rfl) rfl
    · refine V_iload_n (pc := 25) (DCa dc_Mod_comesOut_0 14 rfl) rfl 1 rfl ?_
      refine V_if_eq (tgt := 42) (pc := 26) (DCa dc_Mod_comesOut_0 15 rfl) (by decide) (fun _ => ?_) (fun _ => ?_)
      · exact v_Mod_comesOut_B42 F R0 hR0 _ _ _ _
      · refine V_iload_n (pc := 29) (DCa dc_Mod_comesOut_0 16 rfl) rfl 2 rfl ?_
        refine V_bipush (pc := 30) (DCa dc_Mod_comesOut_0 17 rfl) (by decide) ?_
        refine V_icmp_eq (tgt := 41) (pc := 32) (DCa dc_Mod_comesOut_0 18 rfl) (by decide) (fun _ => ?_) (fun _ => ?_)
        · exact V_return (pc := 41) (DCa dc_Mod_comesOut_0 22 rfl) rfl
        · refine V_iload_n (pc := 35) (DCa dc_Mod_comesOut_0 19 rfl) rfl 2 rfl ?_
          refine V_bipush (pc := 36) (DCa dc_Mod_comesOut_0 20 rfl) (by decide) ?_
          refine V_icmp_ne (tgt := 42) (pc := 38) (DCa dc_Mod_comesOut_0 21 rfl) (by decide) (fun _ => ?_) (fun _ => ?_)
          · exact V_return (pc := 41) (DCa dc_Mod_comesOut_0 22 rfl) rfl
          · exact v_Mod_comesOut_B42 F R0 hR0 _ _ _ _
  · exact V_return (pc := 91) (DCa dc_Mod_comesOut_0 49 rfl) rfl
theorem v_Mod_comesOut_L0 (F : Nat)  (n : Nat) : ∀ (l0 l1 : Int) (h : Hp), V X_Mod_comesOut 0 [(0, 2, l0), (1, 0, l1)] [] h (Mod_comesOut_L0 F  n l0 l1 h) := by
  induction n with
  | zero => intros; exact V_none
  | succ n ih => exact fun l0 l1 h => v_Mod_comesOut_L0s F  _ ih l0 l1 h
theorem v_Mod_comesOut (F : Nat) (l0 l1 : Int) (h : Hp) : V X_Mod_comesOut 0 [(0, 2, l0), (1, 0, l1)] [] h (Mod_comesOut F l0 l1 h) := by
  unfold Mod_comesOut
  exact v_Mod_comesOut_L0 F F _ _ _
theorem sp_Mod_comesOut (F : Nat) (l0 l1 : Int) (h : Hp) : Sp yX12_comesOut cX12_comesOut 3 none 2 42 [(2, l0), (0, l1)] h (Mod_comesOut F l0 l1 h) := Sp_of (by decide +kernel) rfl rfl (Nat.le_of_ble_eq_true rfl) (v_Mod_comesOut F l0 l1 h)

-- TideRakesModel.unit
def Mod_unit_B88 (F : Nat)  (l0 : Int) (h : Hp) : Option (Int × Hp) :=
  iv h l0 112 (Mod_fail F l0 1 h) fun r24 h25 =>
  some (0, h25)
def Mod_unit (F : Nat) (l0 : Int) (h : Hp) : Option (Int × Hp) :=
  iv h l0 112 (Mod_is F l0 2 h) fun r1 h2 =>
  if r1 = 0 then
    (gf h2 l0 112 13 fun v3 =>
    if v3 = 0 then
      (gf h2 l0 112 5 fun v4 =>
      gf h2 l0 112 11 fun v5 =>
      al h2 v4 0 v5 fun v6 =>
      if v6 < 33 then
        (Mod_unit_B88 F l0 h2)
      else
        (gf h2 l0 112 5 fun v7 =>
        gf h2 l0 112 11 fun v8 =>
        al h2 v7 0 v8 fun v9 =>
        if 37 < v9 then
          (Mod_unit_B88 F l0 h2)
        else
          (gf h2 l0 112 5 fun v10 =>
          gf h2 l0 112 11 fun v11 =>
          al h2 v10 0 v11 fun v12 =>
          iv h2 l0 112 (Mod_emit F l0 1 (w32 (v12 - 33)) h2) fun r13 h14 =>
          iv h14 l0 112 (Mod_goesOn F l0 h14) fun r15 h16 =>
          some (0, h16))))
    else
      (Mod_unit_B88 F l0 h2))
  else
    (gf h2 l0 112 7 fun v17 =>
    gf h2 l0 112 11 fun v18 =>
    al h2 v17 0 v18 fun v19 =>
    iv h2 l0 112 (Mod_emit F l0 0 v19 h2) fun r20 h21 =>
    iv h21 l0 112 (Mod_goesOn F l0 h21) fun r22 h23 =>
    some (0, h23))

theorem dc_Mod_unit_0 : ∀ q ∈ ([(0, .aload_n 0, 1), (1, .iconst 2, 1), (2, .invokevirtual 269, 3), (5, .ifCond .eq 24, 3), (8, .aload_n 0, 1), (9, .iconst 0, 1), (10, .aload_n 0, 1), (11, .getfield 27, 3), (14, .aload_n 0, 1), (15, .getfield 254, 3), (18, .iaload, 1), (19, .invokevirtual 341, 3), (22, .aload_n 0, 1), (23, .invokevirtual 272, 3), (26, .goto 67, 3), (29, .aload_n 0, 1), (30, .getfield 251, 3), (33, .ifCond .ne 55, 3), (36, .aload_n 0, 1), (37, .getfield 20, 3), (40, .aload_n 0, 1), (41, .getfield 254, 3), (44, .iaload, 1), (45, .bipush 33, 2), (47, .if_icmp .lt 41, 3), (50, .aload_n 0, 1), (51, .getfield 20, 3), (54, .aload_n 0, 1), (55, .getfield 254, 3), (58, .iaload, 1), (59, .bipush 37, 2), (61, .if_icmp .gt 27, 3), (64, .aload_n 0, 1), (65, .iconst 1, 1), (66, .aload_n 0, 1), (67, .getfield 20, 3), (70, .aload_n 0, 1), (71, .getfield 254, 3), (74, .iaload, 1), (75, .bipush 33, 2), (77, .isub, 1), (78, .invokevirtual 341, 3), (81, .aload_n 0, 1), (82, .invokevirtual 272, 3), (85, .goto 8, 3), (88, .aload_n 0, 1), (89, .iconst 1, 1), (90, .invokevirtual 266, 3), (93, .return_, 1)] : List (Nat × Instr × Nat)), decode cX12_unit q.1 = .ok (q.2.1, q.2.2) := by decide +kernel
abbrev X_Mod_unit : MX := (cX12_unit, RX12, "unit", 1, none, 3, 61)
theorem v_Mod_unit_B88 (F : Nat)  (l0 : Int) (h : Hp) : V X_Mod_unit 88 [(0, 2, l0)] [] h (Mod_unit_B88 F  l0 h) := by
  unfold Mod_unit_B88
  refine V_aload_n (pc := 88) (DCa dc_Mod_unit_0 45 rfl) rfl 0 rfl ?_
  refine V_iconst (pc := 89) (DCa dc_Mod_unit_0 46 rfl) (by decide) ?_
  refine Q_callv (ci := 12) (st := []) (pc := 90) (DCa dc_Mod_unit_0 47 rfl) (sp_Mod_fail F _ _ _) ce_Mod_fail ml_12_266 rfl rfl ⟨Nat.le_of_ble_eq_true rfl, Nat.le_of_ble_eq_true rfl⟩ rfl (Nat.le_of_ble_eq_true rfl) (fun r24 h25 => ?_)
  exact V_return (pc := 93) (DCa dc_Mod_unit_0 48 rfl) rfl
theorem v_Mod_unit (F : Nat) (l0 : Int) (h : Hp) : V X_Mod_unit 0 [(0, 2, l0)] [] h (Mod_unit F l0 h) := by
  unfold Mod_unit
  refine V_aload_n (pc := 0) (DCa dc_Mod_unit_0 0 rfl) rfl 0 rfl ?_
  refine V_iconst (pc := 1) (DCa dc_Mod_unit_0 1 rfl) (by decide) ?_
  refine Q_callv (ci := 12) (st := []) (pc := 2) (DCa dc_Mod_unit_0 2 rfl) (sp_Mod_is F _ _ _) ce_Mod_is ml_12_269 rfl rfl ⟨Nat.le_of_ble_eq_true rfl, Nat.le_of_ble_eq_true rfl⟩ rfl (Nat.le_of_ble_eq_true rfl) (fun r1 h2 => ?_)
  refine V_if_eq (tgt := 29) (pc := 5) (DCa dc_Mod_unit_0 3 rfl) (by decide) (fun _ => ?_) (fun _ => ?_)
  · refine V_aload_n (pc := 29) (DCa dc_Mod_unit_0 15 rfl) rfl 0 rfl ?_
    refine Q_getf (k := 13) (pc := 30) (DCa dc_Mod_unit_0 16 rfl) cls_12 (Nat.le_of_ble_eq_true rfl) fl_12_251 rfl rfl rfl (fun v3 => ?_)
    refine V_if_ne (tgt := 88) (pc := 33) (DCa dc_Mod_unit_0 17 rfl) (by decide) (fun _ => ?_) (fun _ => ?_)
    · refine V_aload_n (pc := 36) (DCa dc_Mod_unit_0 18 rfl) rfl 0 rfl ?_
      refine Q_getf (k := 5) (pc := 37) (DCa dc_Mod_unit_0 19 rfl) cls_12 (Nat.le_of_ble_eq_true rfl) fl_12_20 rfl rfl rfl (fun v4 => ?_)
      refine V_aload_n (pc := 40) (DCa dc_Mod_unit_0 20 rfl) rfl 0 rfl ?_
      refine Q_getf (k := 11) (pc := 41) (DCa dc_Mod_unit_0 21 rfl) cls_12 (Nat.le_of_ble_eq_true rfl) fl_12_254 rfl rfl rfl (fun v5 => ?_)
      refine Q_iaload (pc := 44) (DCa dc_Mod_unit_0 22 rfl) (fun v6 => ?_)
      refine V_bipush (pc := 45) (DCa dc_Mod_unit_0 23 rfl) (by decide) ?_
      refine V_icmp_lt (tgt := 88) (pc := 47) (DCa dc_Mod_unit_0 24 rfl) (by decide) (fun _ => ?_) (fun _ => ?_)
      · exact v_Mod_unit_B88 F _ _
      · refine V_aload_n (pc := 50) (DCa dc_Mod_unit_0 25 rfl) rfl 0 rfl ?_
        refine Q_getf (k := 5) (pc := 51) (DCa dc_Mod_unit_0 26 rfl) cls_12 (Nat.le_of_ble_eq_true rfl) fl_12_20 rfl rfl rfl (fun v7 => ?_)
        refine V_aload_n (pc := 54) (DCa dc_Mod_unit_0 27 rfl) rfl 0 rfl ?_
        refine Q_getf (k := 11) (pc := 55) (DCa dc_Mod_unit_0 28 rfl) cls_12 (Nat.le_of_ble_eq_true rfl) fl_12_254 rfl rfl rfl (fun v8 => ?_)
        refine Q_iaload (pc := 58) (DCa dc_Mod_unit_0 29 rfl) (fun v9 => ?_)
        refine V_bipush (pc := 59) (DCa dc_Mod_unit_0 30 rfl) (by decide) ?_
        refine V_icmp_gt (tgt := 88) (pc := 61) (DCa dc_Mod_unit_0 31 rfl) (by decide) (fun _ => ?_) (fun _ => ?_)
        · exact v_Mod_unit_B88 F _ _
        · refine V_aload_n (pc := 64) (DCa dc_Mod_unit_0 32 rfl) rfl 0 rfl ?_
          refine V_iconst (pc := 65) (DCa dc_Mod_unit_0 33 rfl) (by decide) ?_
          refine V_aload_n (pc := 66) (DCa dc_Mod_unit_0 34 rfl) rfl 0 rfl ?_
          refine Q_getf (k := 5) (pc := 67) (DCa dc_Mod_unit_0 35 rfl) cls_12 (Nat.le_of_ble_eq_true rfl) fl_12_20 rfl rfl rfl (fun v10 => ?_)
          refine V_aload_n (pc := 70) (DCa dc_Mod_unit_0 36 rfl) rfl 0 rfl ?_
          refine Q_getf (k := 11) (pc := 71) (DCa dc_Mod_unit_0 37 rfl) cls_12 (Nat.le_of_ble_eq_true rfl) fl_12_254 rfl rfl rfl (fun v11 => ?_)
          refine Q_iaload (pc := 74) (DCa dc_Mod_unit_0 38 rfl) (fun v12 => ?_)
          refine V_bipush (pc := 75) (DCa dc_Mod_unit_0 39 rfl) (by decide) ?_
          refine V_isub (pc := 77) (DCa dc_Mod_unit_0 40 rfl) ?_
          refine Q_callv (ci := 12) (st := []) (pc := 78) (DCa dc_Mod_unit_0 41 rfl) (sp_Mod_emit F _ _ _ _) ce_Mod_emit ml_12_341 rfl rfl ⟨Nat.le_of_ble_eq_true rfl, Nat.le_of_ble_eq_true rfl⟩ rfl (Nat.le_of_ble_eq_true rfl) (fun r13 h14 => ?_)
          refine V_aload_n (pc := 81) (DCa dc_Mod_unit_0 42 rfl) rfl 0 rfl ?_
          refine Q_callv (ci := 12) (st := []) (pc := 82) (DCa dc_Mod_unit_0 43 rfl) (sp_Mod_goesOn F _ _) ce_Mod_goesOn ml_12_272 rfl rfl ⟨Nat.le_of_ble_eq_true rfl, Nat.le_of_ble_eq_true rfl⟩ rfl (Nat.le_of_ble_eq_true rfl) (fun r15 h16 => ?_)
          refine V_goto (tgt := 93) (pc := 85) (DCa dc_Mod_unit_0 44 rfl) (by decide) ?_
          exact V_return (pc := 93) (DCa dc_Mod_unit_0 48 rfl) rfl
    · exact v_Mod_unit_B88 F _ _
  · refine V_aload_n (pc := 8) (DCa dc_Mod_unit_0 4 rfl) rfl 0 rfl ?_
    refine V_iconst (pc := 9) (DCa dc_Mod_unit_0 5 rfl) (by decide) ?_
    refine V_aload_n (pc := 10) (DCa dc_Mod_unit_0 6 rfl) rfl 0 rfl ?_
    refine Q_getf (k := 7) (pc := 11) (DCa dc_Mod_unit_0 7 rfl) cls_12 (Nat.le_of_ble_eq_true rfl) fl_12_27 rfl rfl rfl (fun v17 => ?_)
    refine V_aload_n (pc := 14) (DCa dc_Mod_unit_0 8 rfl) rfl 0 rfl ?_
    refine Q_getf (k := 11) (pc := 15) (DCa dc_Mod_unit_0 9 rfl) cls_12 (Nat.le_of_ble_eq_true rfl) fl_12_254 rfl rfl rfl (fun v18 => ?_)
    refine Q_iaload (pc := 18) (DCa dc_Mod_unit_0 10 rfl) (fun v19 => ?_)
    refine Q_callv (ci := 12) (st := []) (pc := 19) (DCa dc_Mod_unit_0 11 rfl) (sp_Mod_emit F _ _ _ _) ce_Mod_emit ml_12_341 rfl rfl ⟨Nat.le_of_ble_eq_true rfl, Nat.le_of_ble_eq_true rfl⟩ rfl (Nat.le_of_ble_eq_true rfl) (fun r20 h21 => ?_)
    refine V_aload_n (pc := 22) (DCa dc_Mod_unit_0 12 rfl) rfl 0 rfl ?_
    refine Q_callv (ci := 12) (st := []) (pc := 23) (DCa dc_Mod_unit_0 13 rfl) (sp_Mod_goesOn F _ _) ce_Mod_goesOn ml_12_272 rfl rfl ⟨Nat.le_of_ble_eq_true rfl, Nat.le_of_ble_eq_true rfl⟩ rfl (Nat.le_of_ble_eq_true rfl) (fun r22 h23 => ?_)
    refine V_goto (tgt := 93) (pc := 26) (DCa dc_Mod_unit_0 14 rfl) (by decide) ?_
    exact V_return (pc := 93) (DCa dc_Mod_unit_0 48 rfl) rfl
theorem sp_Mod_unit (F : Nat) (l0 : Int) (h : Hp) : Sp yX12_unit cX12_unit 1 none 3 61 [(2, l0)] h (Mod_unit F l0 h) := Sp_of (by decide +kernel) rfl rfl (Nat.le_of_ble_eq_true rfl) (v_Mod_unit F l0 h)

-- TideRakesModel.expression
def Mod_expression_B46 (F : Nat) (R12 : Int → Int → Int → Hp → Option (Int × Hp)) (R23 : Int → Int → Hp → Option (Int × Hp)) (l0 l1 : Int) (h : Hp) : Option (Int × Hp) :=
  gf h l0 112 12 fun v12 =>
  pf h l0 112 12 (w32 (v12 + 1)) fun h13 =>
  iv h13 l0 112 (Mod_goesOn F l0 h13) fun r14 h15 =>
  gf h15 l0 112 47 fun v16 =>
  gf h15 l0 112 48 fun v17 =>
  as h15 v16 0 v17 6 fun h18 =>
  gf h18 l0 112 48 fun v19 =>
  pf h18 l0 112 48 (w32 (v19 + 1)) fun h20 =>
  R23 l0 l1 h20
def Mod_expression_B204 (F : Nat)  (l0 : Int) (h : Hp) : Option (Int × Hp) :=
  iv h l0 112 (Mod_comesOut F l0 0 h) fun r59 h60 =>
  some (0, h60)
def Mod_expression_B191 (F : Nat)  (l0 l1 : Int) (h : Hp) : Option (Int × Hp) :=
  gf h l0 112 12 fun v44 =>
  if l1 < v44 then
    (iv h l0 112 (Mod_fail F l0 1 h) fun r45 h46 =>
    Mod_expression_B204 F l0 h46)
  else
    (Mod_expression_B204 F l0 h)
def Mod_expression_B234 (F : Nat) (R12 : Int → Int → Int → Hp → Option (Int × Hp)) (l0 l1 l2 s0 s1 : Int) (h : Hp) : Option (Int × Hp) :=
  iv h s1 112 (Mod_comesOut F s1 s0 h) fun r47 h48 =>
  gf h48 l0 112 47 fun v49 =>
  gf h48 l0 112 48 fun v50 =>
  gf h48 l0 112 5 fun v51 =>
  gf h48 l0 112 11 fun v52 =>
  al h48 v51 0 v52 fun v53 =>
  as h48 v49 0 v50 v53 fun h54 =>
  gf h54 l0 112 48 fun v55 =>
  pf h54 l0 112 48 (w32 (v55 + 1)) fun h56 =>
  iv h56 l0 112 (Mod_goesOn F l0 h56) fun r57 h58 =>
  R12 l0 l1 l2 h58
def Mod_expression_B186 (F : Nat) (R12 : Int → Int → Int → Hp → Option (Int × Hp)) (l0 l1 s0 : Int) (h : Hp) : Option (Int × Hp) :=
  if s0 = 0 then
    (Mod_expression_B191 F l0 l1 h)
  else
    (iv h l0 112 (Mod_is F l0 10 h) fun r40 h41 =>
    if r40 = 0 then
      (iv h41 l0 112 (Mod_is F l0 15 h41) fun r42 h43 =>
      if r42 = 0 then
        (Mod_expression_B234 F R12 l0 l1 s0 0 l0 h43)
      else
        (Mod_expression_B234 F R12 l0 l1 s0 1 l0 h43))
    else
      (Mod_expression_B234 F R12 l0 l1 s0 1 l0 h41))
def Mod_expression_B145 (F : Nat) (R12 : Int → Int → Int → Hp → Option (Int × Hp)) (l0 l1 : Int) (h : Hp) : Option (Int × Hp) :=
  iv h l0 112 (Mod_is F l0 8 h) fun r32 h33 =>
  if r32 = 0 then
    (iv h33 l0 112 (Mod_is F l0 9 h33) fun r34 h35 =>
    if r34 = 0 then
      (iv h35 l0 112 (Mod_is F l0 10 h35) fun r36 h37 =>
      if r36 = 0 then
        (iv h37 l0 112 (Mod_is F l0 15 h37) fun r38 h39 =>
        if r38 = 0 then
          (Mod_expression_B186 F R12 l0 l1 0 h39)
        else
          (Mod_expression_B186 F R12 l0 l1 1 h39))
      else
        (Mod_expression_B186 F R12 l0 l1 1 h37))
    else
      (Mod_expression_B186 F R12 l0 l1 1 h35))
  else
    (Mod_expression_B186 F R12 l0 l1 1 h33)
def Mod_expression_L96s (F : Nat) (R12 : Int → Int → Int → Hp → Option (Int × Hp)) (R96 : Int → Int → Hp → Option (Int × Hp)) (l0 l1 : Int) (h : Hp) : Option (Int × Hp) :=
  iv h l0 112 (Mod_is F l0 7 h) fun r21 h22 =>
  if r21 = 0 then
    (Mod_expression_B145 F R12 l0 l1 h22)
  else
    (gf h22 l0 112 12 fun v23 =>
    if l1 < v23 then
      (iv h22 l0 112 (Mod_comesOut F l0 0 h22) fun r24 h25 =>
      gf h25 l0 112 48 fun v26 =>
      pf h25 l0 112 48 (w32 (v26 - 1)) fun h27 =>
      gf h27 l0 112 12 fun v28 =>
      pf h27 l0 112 12 (w32 (v28 - 1)) fun h29 =>
      iv h29 l0 112 (Mod_goesOn F l0 h29) fun r30 h31 =>
      R96 l0 l1 h31)
    else
      (Mod_expression_B145 F R12 l0 l1 h22))
def Mod_expression_L96 (F : Nat) (R12 : Int → Int → Int → Hp → Option (Int × Hp)) : Nat → Int → Int → Hp → Option (Int × Hp)
  | 0 => fun _ _ _ => none
  | n + 1 => Mod_expression_L96s F R12 (Mod_expression_L96 F R12 n)
def Mod_expression_B84 (F : Nat) (R12 : Int → Int → Int → Hp → Option (Int × Hp)) (l0 l1 : Int) (h : Hp) : Option (Int × Hp) :=
  iv h l0 112 (Mod_unit F l0 h) fun r9 h10 =>
  gf h10 l0 112 13 fun v11 =>
  if 0 < v11 then
    (some (0, h10))
  else
    (Mod_expression_L96 F R12 F l0 l1 h10)
def Mod_expression_L23s (F : Nat) (R12 : Int → Int → Int → Hp → Option (Int × Hp)) (R23 : Int → Int → Hp → Option (Int × Hp)) (l0 l1 : Int) (h : Hp) : Option (Int × Hp) :=
  iv h l0 112 (Mod_is F l0 6 h) fun r4 h5 =>
  if r4 = 0 then
    (Mod_expression_B84 F R12 l0 l1 h5)
  else
    (gf h5 l0 112 12 fun v6 =>
    if v6 = 6 then
      (iv h5 l0 112 (Mod_fail F l0 2 h5) fun r7 h8 =>
      Mod_expression_B46 F R12 R23 l0 l1 h8)
    else
      (Mod_expression_B46 F R12 R23 l0 l1 h5))
def Mod_expression_L23 (F : Nat) (R12 : Int → Int → Int → Hp → Option (Int × Hp)) : Nat → Int → Int → Hp → Option (Int × Hp)
  | 0 => fun _ _ _ => none
  | n + 1 => Mod_expression_L23s F R12 (Mod_expression_L23 F R12 n)
def Mod_expression_L12s (F : Nat)  (R12 : Int → Int → Int → Hp → Option (Int × Hp)) (l0 l1 l2 : Int) (h : Hp) : Option (Int × Hp) :=
  if l2 = 0 then
    (some (0, h))
  else
    (gf h l0 112 13 fun v3 =>
    if v3 = 0 then
      (Mod_expression_L23 F R12 F l0 l1 h)
    else
      (some (0, h)))
def Mod_expression_L12 (F : Nat)  : Nat → Int → Int → Int → Hp → Option (Int × Hp)
  | 0 => fun _ _ _ _ => none
  | n + 1 => Mod_expression_L12s F  (Mod_expression_L12 F  n)
def Mod_expression (F : Nat) (l0 : Int) (h : Hp) : Option (Int × Hp) :=
  pf h l0 112 48 0 fun h1 =>
  gf h1 l0 112 12 fun v2 =>
  Mod_expression_L12 F F l0 v2 1 h1

theorem dc_Mod_expression_0 : ∀ q ∈ ([(0, .aload_n 0, 1), (1, .iconst 0, 1), (2, .putfield 338, 3), (5, .aload_n 0, 1), (6, .getfield 278, 3), (9, .istore_n 1, 1), (10, .iconst 1, 1), (11, .istore_n 2, 1), (12, .iload_n 2, 1), (13, .ifCond .eq 259, 3), (16, .aload_n 0, 1), (17, .getfield 251, 3), (20, .ifCond .ne 252, 3), (23, .aload_n 0, 1), (24, .bipush 6, 2), (26, .invokevirtual 269, 3), (29, .ifCond .eq 55, 3), (32, .aload_n 0, 1), (33, .getfield 278, 3), (36, .bipush 6, 2), (38, .if_icmp .ne 8, 3), (41, .aload_n 0, 1), (42, .iconst 2, 1), (43, .invokevirtual 266, 3), (46, .aload_n 0, 1), (47, .dup, 1), (48, .getfield 278, 3), (51, .iconst 1, 1), (52, .iadd, 1), (53, .putfield 278, 3), (56, .aload_n 0, 1), (57, .invokevirtual 272, 3), (60, .aload_n 0, 1), (61, .getfield 113, 3), (64, .aload_n 0, 1), (65, .getfield 338, 3), (68, .bipush 6, 2), (70, .iastore, 1), (71, .aload_n 0, 1), (72, .dup, 1), (73, .getfield 338, 3), (76, .iconst 1, 1), (77, .iadd, 1), (78, .putfield 338, 3), (81, .goto (-58), 3), (84, .aload_n 0, 1), (85, .invokevirtual 344, 3), (88, .aload_n 0, 1), (89, .getfield 251, 3), (92, .ifCond .le 4, 3)] : List (Nat × Instr × Nat)), decode cX12_expression q.1 = .ok (q.2.1, q.2.2) := by decide +kernel
theorem dc_Mod_expression_1 : ∀ q ∈ ([(95, .return_, 1), (96, .aload_n 0, 1), (97, .bipush 7, 2), (99, .invokevirtual 269, 3), (102, .ifCond .eq 43, 3), (105, .aload_n 0, 1), (106, .getfield 278, 3), (109, .iload_n 1, 1), (110, .if_icmp .le 35, 3), (113, .aload_n 0, 1), (114, .iconst 0, 1), (115, .invokevirtual 347, 3), (118, .aload_n 0, 1), (119, .dup, 1), (120, .getfield 338, 3), (123, .iconst 1, 1), (124, .isub, 1), (125, .putfield 338, 3), (128, .aload_n 0, 1), (129, .dup, 1), (130, .getfield 278, 3), (133, .iconst 1, 1), (134, .isub, 1), (135, .putfield 278, 3), (138, .aload_n 0, 1), (139, .invokevirtual 272, 3), (142, .goto (-46), 3), (145, .aload_n 0, 1), (146, .bipush 8, 2), (148, .invokevirtual 269, 3), (151, .ifCond .ne 30, 3), (154, .aload_n 0, 1), (155, .bipush 9, 2), (157, .invokevirtual 269, 3), (160, .ifCond .ne 21, 3), (163, .aload_n 0, 1), (164, .bipush 10, 2), (166, .invokevirtual 269, 3), (169, .ifCond .ne 12, 3), (172, .aload_n 0, 1), (173, .bipush 15, 2), (175, .invokevirtual 269, 3), (178, .ifCond .eq 7, 3), (181, .iconst 1, 1), (182, .goto 4, 3), (185, .iconst 0, 1), (186, .istore_n 2, 1), (187, .iload_n 2, 1), (188, .ifCond .ne 22, 3), (191, .aload_n 0, 1)] : List (Nat × Instr × Nat)), decode cX12_expression q.1 = .ok (q.2.1, q.2.2) := by decide +kernel
theorem dc_Mod_expression_2 : ∀ q ∈ ([(192, .getfield 278, 3), (195, .iload_n 1, 1), (196, .if_icmp .le 8, 3), (199, .aload_n 0, 1), (200, .iconst 1, 1), (201, .invokevirtual 266, 3), (204, .aload_n 0, 1), (205, .iconst 0, 1), (206, .invokevirtual 347, 3), (209, .return_, 1), (210, .aload_n 0, 1), (211, .aload_n 0, 1), (212, .bipush 10, 2), (214, .invokevirtual 269, 3), (217, .ifCond .ne 12, 3), (220, .aload_n 0, 1), (221, .bipush 15, 2), (223, .invokevirtual 269, 3), (226, .ifCond .eq 7, 3), (229, .iconst 1, 1), (230, .goto 4, 3), (233, .iconst 0, 1), (234, .invokevirtual 347, 3), (237, .aload_n 0, 1), (238, .getfield 113, 3), (241, .aload_n 0, 1), (242, .getfield 338, 3), (245, .aload_n 0, 1), (246, .getfield 20, 3), (249, .aload_n 0, 1), (250, .getfield 254, 3), (253, .iaload, 1), (254, .iastore, 1), (255, .aload_n 0, 1), (256, .dup, 1), (257, .getfield 338, 3), (260, .iconst 1, 1), (261, .iadd, 1), (262, .putfield 338, 3), (265, .aload_n 0, 1), (266, .invokevirtual 272, 3), (269, .goto (-257), 3), (272, .return_, 1)] : List (Nat × Instr × Nat)), decode cX12_expression q.1 = .ok (q.2.1, q.2.2) := by decide +kernel
abbrev X_Mod_expression : MX := (cX12_expression, RX12, "expression", 3, none, 4, 81)
theorem v_Mod_expression_B46 (F : Nat) (R12 : Int → Int → Int → Hp → Option (Int × Hp)) (hR12 : ∀ (l0 l1 l2 : Int) (h : Hp), V X_Mod_expression 12 [(0, 2, l0), (1, 0, l1), (2, 0, l2)] [] h (R12 l0 l1 l2 h)) (R23 : Int → Int → Hp → Option (Int × Hp)) (hR23 : ∀ (l0 l1 : Int) (h : Hp), V X_Mod_expression 23 [(0, 2, l0), (1, 0, l1)] [] h (R23 l0 l1 h)) (l0 l1 : Int) (h : Hp) : V X_Mod_expression 46 [(0, 2, l0), (1, 0, l1)] [] h (Mod_expression_B46 F R12 R23 l0 l1 h) := by
  unfold Mod_expression_B46
  refine V_aload_n (pc := 46) (DCa dc_Mod_expression_0 24 rfl) rfl 0 rfl ?_
  refine V_dup (pc := 47) (DCa dc_Mod_expression_0 25 rfl) rfl ?_
  refine Q_getf (k := 12) (pc := 48) (DCa dc_Mod_expression_0 26 rfl) cls_12 (Nat.le_of_ble_eq_true rfl) fl_12_278 rfl rfl rfl (fun v12 => ?_)
  refine V_iconst (pc := 51) (DCa dc_Mod_expression_0 27 rfl) (by decide) ?_
  refine V_iadd (pc := 52) (DCa dc_Mod_expression_0 28 rfl) ?_
  refine Q_putf (k := 12) (pc := 53) (DCa dc_Mod_expression_0 29 rfl) cls_12 (Nat.le_of_ble_eq_true rfl) fl_12_278 rfl rfl rfl (Or.inl rfl) (Or.inl ⟨rfl, rfl⟩) (fun h13 => ?_)
  refine V_aload_n (pc := 56) (DCa dc_Mod_expression_0 30 rfl) rfl 0 rfl ?_
  refine Q_callv (ci := 12) (st := []) (pc := 57) (DCa dc_Mod_expression_0 31 rfl) (sp_Mod_goesOn F _ _) ce_Mod_goesOn ml_12_272 rfl rfl ⟨Nat.le_of_ble_eq_true rfl, Nat.le_of_ble_eq_true rfl⟩ rfl (Nat.le_of_ble_eq_true rfl) (fun r14 h15 => ?_)
  refine V_aload_n (pc := 60) (DCa dc_Mod_expression_0 32 rfl) rfl 0 rfl ?_
  refine Q_getf (k := 47) (pc := 61) (DCa dc_Mod_expression_0 33 rfl) cls_12 (Nat.le_of_ble_eq_true rfl) fl_12_113 rfl rfl rfl (fun v16 => ?_)
  refine V_aload_n (pc := 64) (DCa dc_Mod_expression_0 34 rfl) rfl 0 rfl ?_
  refine Q_getf (k := 48) (pc := 65) (DCa dc_Mod_expression_0 35 rfl) cls_12 (Nat.le_of_ble_eq_true rfl) fl_12_338 rfl rfl rfl (fun v17 => ?_)
  refine V_bipush (pc := 68) (DCa dc_Mod_expression_0 36 rfl) (by decide) ?_
  refine Q_iastore (pc := 70) (DCa dc_Mod_expression_0 37 rfl) (fun h18 => ?_)
  refine V_aload_n (pc := 71) (DCa dc_Mod_expression_0 38 rfl) rfl 0 rfl ?_
  refine V_dup (pc := 72) (DCa dc_Mod_expression_0 39 rfl) rfl ?_
  refine Q_getf (k := 48) (pc := 73) (DCa dc_Mod_expression_0 40 rfl) cls_12 (Nat.le_of_ble_eq_true rfl) fl_12_338 rfl rfl rfl (fun v19 => ?_)
  refine V_iconst (pc := 76) (DCa dc_Mod_expression_0 41 rfl) (by decide) ?_
  refine V_iadd (pc := 77) (DCa dc_Mod_expression_0 42 rfl) ?_
  refine Q_putf (k := 48) (pc := 78) (DCa dc_Mod_expression_0 43 rfl) cls_12 (Nat.le_of_ble_eq_true rfl) fl_12_338 rfl rfl rfl (Or.inl rfl) (Or.inl ⟨rfl, rfl⟩) (fun h20 => ?_)
  refine V_goto (tgt := 23) (pc := 81) (DCa dc_Mod_expression_0 44 rfl) (by decide) ?_
  exact hR23 _ _ _
theorem v_Mod_expression_B204 (F : Nat)  (l0 : Int) (h : Hp) : V X_Mod_expression 204 [(0, 2, l0)] [] h (Mod_expression_B204 F  l0 h) := by
  unfold Mod_expression_B204
  refine V_aload_n (pc := 204) (DCa dc_Mod_expression_2 6 rfl) rfl 0 rfl ?_
  refine V_iconst (pc := 205) (DCa dc_Mod_expression_2 7 rfl) (by decide) ?_
  refine Q_callv (ci := 12) (st := []) (pc := 206) (DCa dc_Mod_expression_2 8 rfl) (sp_Mod_comesOut F _ _ _) ce_Mod_comesOut ml_12_347 rfl rfl ⟨Nat.le_of_ble_eq_true rfl, Nat.le_of_ble_eq_true rfl⟩ rfl (Nat.le_of_ble_eq_true rfl) (fun r59 h60 => ?_)
  exact V_return (pc := 209) (DCa dc_Mod_expression_2 9 rfl) rfl
theorem v_Mod_expression_B191 (F : Nat)  (l0 l1 : Int) (h : Hp) : V X_Mod_expression 191 [(0, 2, l0), (1, 0, l1)] [] h (Mod_expression_B191 F  l0 l1 h) := by
  unfold Mod_expression_B191
  refine V_aload_n (pc := 191) (DCa dc_Mod_expression_1 49 rfl) rfl 0 rfl ?_
  refine Q_getf (k := 12) (pc := 192) (DCa dc_Mod_expression_2 0 rfl) cls_12 (Nat.le_of_ble_eq_true rfl) fl_12_278 rfl rfl rfl (fun v44 => ?_)
  refine V_iload_n (pc := 195) (DCa dc_Mod_expression_2 1 rfl) rfl 1 rfl ?_
  refine V_icmp_le (tgt := 204) (pc := 196) (DCa dc_Mod_expression_2 2 rfl) (by decide) (fun _ => ?_) (fun _ => ?_)
  · refine V_aload_n (pc := 199) (DCa dc_Mod_expression_2 3 rfl) rfl 0 rfl ?_
    refine V_iconst (pc := 200) (DCa dc_Mod_expression_2 4 rfl) (by decide) ?_
    refine Q_callv (ci := 12) (st := []) (pc := 201) (DCa dc_Mod_expression_2 5 rfl) (sp_Mod_fail F _ _ _) ce_Mod_fail ml_12_266 rfl rfl ⟨Nat.le_of_ble_eq_true rfl, Nat.le_of_ble_eq_true rfl⟩ rfl (Nat.le_of_ble_eq_true rfl) (fun r45 h46 => ?_)
    refine V_pick [0] rfl ?_
    exact v_Mod_expression_B204 F _ _
  · refine V_pick [0] rfl ?_
    exact v_Mod_expression_B204 F _ _
theorem v_Mod_expression_B234 (F : Nat) (R12 : Int → Int → Int → Hp → Option (Int × Hp)) (hR12 : ∀ (l0 l1 l2 : Int) (h : Hp), V X_Mod_expression 12 [(0, 2, l0), (1, 0, l1), (2, 0, l2)] [] h (R12 l0 l1 l2 h)) (l0 l1 l2 s0 s1 : Int) (h : Hp) : V X_Mod_expression 234 [(0, 2, l0), (1, 0, l1), (2, 0, l2)] [(0, s0), (2, s1)] h (Mod_expression_B234 F R12 l0 l1 l2 s0 s1 h) := by
  unfold Mod_expression_B234
  refine Q_callv (ci := 12) (st := []) (pc := 234) (DCa dc_Mod_expression_2 22 rfl) (sp_Mod_comesOut F _ _ _) ce_Mod_comesOut ml_12_347 rfl rfl ⟨Nat.le_of_ble_eq_true rfl, Nat.le_of_ble_eq_true rfl⟩ rfl (Nat.le_of_ble_eq_true rfl) (fun r47 h48 => ?_)
  refine V_aload_n (pc := 237) (DCa dc_Mod_expression_2 23 rfl) rfl 0 rfl ?_
  refine Q_getf (k := 47) (pc := 238) (DCa dc_Mod_expression_2 24 rfl) cls_12 (Nat.le_of_ble_eq_true rfl) fl_12_113 rfl rfl rfl (fun v49 => ?_)
  refine V_aload_n (pc := 241) (DCa dc_Mod_expression_2 25 rfl) rfl 0 rfl ?_
  refine Q_getf (k := 48) (pc := 242) (DCa dc_Mod_expression_2 26 rfl) cls_12 (Nat.le_of_ble_eq_true rfl) fl_12_338 rfl rfl rfl (fun v50 => ?_)
  refine V_aload_n (pc := 245) (DCa dc_Mod_expression_2 27 rfl) rfl 0 rfl ?_
  refine Q_getf (k := 5) (pc := 246) (DCa dc_Mod_expression_2 28 rfl) cls_12 (Nat.le_of_ble_eq_true rfl) fl_12_20 rfl rfl rfl (fun v51 => ?_)
  refine V_aload_n (pc := 249) (DCa dc_Mod_expression_2 29 rfl) rfl 0 rfl ?_
  refine Q_getf (k := 11) (pc := 250) (DCa dc_Mod_expression_2 30 rfl) cls_12 (Nat.le_of_ble_eq_true rfl) fl_12_254 rfl rfl rfl (fun v52 => ?_)
  refine Q_iaload (pc := 253) (DCa dc_Mod_expression_2 31 rfl) (fun v53 => ?_)
  refine Q_iastore (pc := 254) (DCa dc_Mod_expression_2 32 rfl) (fun h54 => ?_)
  refine V_aload_n (pc := 255) (DCa dc_Mod_expression_2 33 rfl) rfl 0 rfl ?_
  refine V_dup (pc := 256) (DCa dc_Mod_expression_2 34 rfl) rfl ?_
  refine Q_getf (k := 48) (pc := 257) (DCa dc_Mod_expression_2 35 rfl) cls_12 (Nat.le_of_ble_eq_true rfl) fl_12_338 rfl rfl rfl (fun v55 => ?_)
  refine V_iconst (pc := 260) (DCa dc_Mod_expression_2 36 rfl) (by decide) ?_
  refine V_iadd (pc := 261) (DCa dc_Mod_expression_2 37 rfl) ?_
  refine Q_putf (k := 48) (pc := 262) (DCa dc_Mod_expression_2 38 rfl) cls_12 (Nat.le_of_ble_eq_true rfl) fl_12_338 rfl rfl rfl (Or.inl rfl) (Or.inl ⟨rfl, rfl⟩) (fun h56 => ?_)
  refine V_aload_n (pc := 265) (DCa dc_Mod_expression_2 39 rfl) rfl 0 rfl ?_
  refine Q_callv (ci := 12) (st := []) (pc := 266) (DCa dc_Mod_expression_2 40 rfl) (sp_Mod_goesOn F _ _) ce_Mod_goesOn ml_12_272 rfl rfl ⟨Nat.le_of_ble_eq_true rfl, Nat.le_of_ble_eq_true rfl⟩ rfl (Nat.le_of_ble_eq_true rfl) (fun r57 h58 => ?_)
  refine V_goto (tgt := 12) (pc := 269) (DCa dc_Mod_expression_2 41 rfl) (by decide) ?_
  exact hR12 _ _ _ _
theorem v_Mod_expression_B186 (F : Nat) (R12 : Int → Int → Int → Hp → Option (Int × Hp)) (hR12 : ∀ (l0 l1 l2 : Int) (h : Hp), V X_Mod_expression 12 [(0, 2, l0), (1, 0, l1), (2, 0, l2)] [] h (R12 l0 l1 l2 h)) (l0 l1 s0 : Int) (h : Hp) : V X_Mod_expression 186 [(0, 2, l0), (1, 0, l1)] [(0, s0)] h (Mod_expression_B186 F R12 l0 l1 s0 h) := by
  unfold Mod_expression_B186
  refine V_istore_n (ls' := [(0, 2, l0), (1, 0, l1), (2, 0, s0)]) (pc := 186) (DCa dc_Mod_expression_1 46 rfl) rfl (Nat.le_of_ble_eq_true rfl) rfl ?_
  refine V_iload_n (pc := 187) (DCa dc_Mod_expression_1 47 rfl) rfl 2 rfl ?_
  refine V_if_ne (tgt := 210) (pc := 188) (DCa dc_Mod_expression_1 48 rfl) (by decide) (fun _ => ?_) (fun _ => ?_)
  · refine V_pick [0, 1] rfl ?_
    exact v_Mod_expression_B191 F _ _ _
  · refine V_aload_n (pc := 210) (DCa dc_Mod_expression_2 10 rfl) rfl 0 rfl ?_
    refine V_aload_n (pc := 211) (DCa dc_Mod_expression_2 11 rfl) rfl 0 rfl ?_
    refine V_bipush (pc := 212) (DCa dc_Mod_expression_2 12 rfl) (by decide) ?_
    refine Q_callv (ci := 12) (st := [(2, l0)]) (pc := 214) (DCa dc_Mod_expression_2 13 rfl) (sp_Mod_is F _ _ _) ce_Mod_is ml_12_269 rfl rfl ⟨Nat.le_of_ble_eq_true rfl, Nat.le_of_ble_eq_true rfl⟩ rfl (Nat.le_of_ble_eq_true rfl) (fun r40 h41 => ?_)
    refine V_if_ne (tgt := 229) (pc := 217) (DCa dc_Mod_expression_2 14 rfl) (by decide) (fun _ => ?_) (fun _ => ?_)
    · refine V_aload_n (pc := 220) (DCa dc_Mod_expression_2 15 rfl) rfl 0 rfl ?_
      refine V_bipush (pc := 221) (DCa dc_Mod_expression_2 16 rfl) (by decide) ?_
      refine Q_callv (ci := 12) (st := [(2, l0)]) (pc := 223) (DCa dc_Mod_expression_2 17 rfl) (sp_Mod_is F _ _ _) ce_Mod_is ml_12_269 rfl rfl ⟨Nat.le_of_ble_eq_true rfl, Nat.le_of_ble_eq_true rfl⟩ rfl (Nat.le_of_ble_eq_true rfl) (fun r42 h43 => ?_)
      refine V_if_eq (tgt := 233) (pc := 226) (DCa dc_Mod_expression_2 18 rfl) (by decide) (fun _ => ?_) (fun _ => ?_)
      · refine V_iconst (pc := 233) (DCa dc_Mod_expression_2 21 rfl) (by decide) ?_
        exact v_Mod_expression_B234 F R12 hR12 _ _ _ _ _ _
      · refine V_iconst (pc := 229) (DCa dc_Mod_expression_2 19 rfl) (by decide) ?_
        refine V_goto (tgt := 234) (pc := 230) (DCa dc_Mod_expression_2 20 rfl) (by decide) ?_
        exact v_Mod_expression_B234 F R12 hR12 _ _ _ _ _ _
    · refine V_iconst (pc := 229) (DCa dc_Mod_expression_2 19 rfl) (by decide) ?_
      refine V_goto (tgt := 234) (pc := 230) (DCa dc_Mod_expression_2 20 rfl) (by decide) ?_
      exact v_Mod_expression_B234 F R12 hR12 _ _ _ _ _ _
theorem v_Mod_expression_B145 (F : Nat) (R12 : Int → Int → Int → Hp → Option (Int × Hp)) (hR12 : ∀ (l0 l1 l2 : Int) (h : Hp), V X_Mod_expression 12 [(0, 2, l0), (1, 0, l1), (2, 0, l2)] [] h (R12 l0 l1 l2 h)) (l0 l1 : Int) (h : Hp) : V X_Mod_expression 145 [(0, 2, l0), (1, 0, l1)] [] h (Mod_expression_B145 F R12 l0 l1 h) := by
  unfold Mod_expression_B145
  refine V_aload_n (pc := 145) (DCa dc_Mod_expression_1 27 rfl) rfl 0 rfl ?_
  refine V_bipush (pc := 146) (DCa dc_Mod_expression_1 28 rfl) (by decide) ?_
  refine Q_callv (ci := 12) (st := []) (pc := 148) (DCa dc_Mod_expression_1 29 rfl) (sp_Mod_is F _ _ _) ce_Mod_is ml_12_269 rfl rfl ⟨Nat.le_of_ble_eq_true rfl, Nat.le_of_ble_eq_true rfl⟩ rfl (Nat.le_of_ble_eq_true rfl) (fun r32 h33 => ?_)
  refine V_if_ne (tgt := 181) (pc := 151) (DCa dc_Mod_expression_1 30 rfl) (by decide) (fun _ => ?_) (fun _ => ?_)
  · refine V_aload_n (pc := 154) (DCa dc_Mod_expression_1 31 rfl) rfl 0 rfl ?_
    refine V_bipush (pc := 155) (DCa dc_Mod_expression_1 32 rfl) (by decide) ?_
    refine Q_callv (ci := 12) (st := []) (pc := 157) (DCa dc_Mod_expression_1 33 rfl) (sp_Mod_is F _ _ _) ce_Mod_is ml_12_269 rfl rfl ⟨Nat.le_of_ble_eq_true rfl, Nat.le_of_ble_eq_true rfl⟩ rfl (Nat.le_of_ble_eq_true rfl) (fun r34 h35 => ?_)
    refine V_if_ne (tgt := 181) (pc := 160) (DCa dc_Mod_expression_1 34 rfl) (by decide) (fun _ => ?_) (fun _ => ?_)
    · refine V_aload_n (pc := 163) (DCa dc_Mod_expression_1 35 rfl) rfl 0 rfl ?_
      refine V_bipush (pc := 164) (DCa dc_Mod_expression_1 36 rfl) (by decide) ?_
      refine Q_callv (ci := 12) (st := []) (pc := 166) (DCa dc_Mod_expression_1 37 rfl) (sp_Mod_is F _ _ _) ce_Mod_is ml_12_269 rfl rfl ⟨Nat.le_of_ble_eq_true rfl, Nat.le_of_ble_eq_true rfl⟩ rfl (Nat.le_of_ble_eq_true rfl) (fun r36 h37 => ?_)
      refine V_if_ne (tgt := 181) (pc := 169) (DCa dc_Mod_expression_1 38 rfl) (by decide) (fun _ => ?_) (fun _ => ?_)
      · refine V_aload_n (pc := 172) (DCa dc_Mod_expression_1 39 rfl) rfl 0 rfl ?_
        refine V_bipush (pc := 173) (DCa dc_Mod_expression_1 40 rfl) (by decide) ?_
        refine Q_callv (ci := 12) (st := []) (pc := 175) (DCa dc_Mod_expression_1 41 rfl) (sp_Mod_is F _ _ _) ce_Mod_is ml_12_269 rfl rfl ⟨Nat.le_of_ble_eq_true rfl, Nat.le_of_ble_eq_true rfl⟩ rfl (Nat.le_of_ble_eq_true rfl) (fun r38 h39 => ?_)
        refine V_if_eq (tgt := 185) (pc := 178) (DCa dc_Mod_expression_1 42 rfl) (by decide) (fun _ => ?_) (fun _ => ?_)
        · refine V_iconst (pc := 185) (DCa dc_Mod_expression_1 45 rfl) (by decide) ?_
          exact v_Mod_expression_B186 F R12 hR12 _ _ _ _
        · refine V_iconst (pc := 181) (DCa dc_Mod_expression_1 43 rfl) (by decide) ?_
          refine V_goto (tgt := 186) (pc := 182) (DCa dc_Mod_expression_1 44 rfl) (by decide) ?_
          exact v_Mod_expression_B186 F R12 hR12 _ _ _ _
      · refine V_iconst (pc := 181) (DCa dc_Mod_expression_1 43 rfl) (by decide) ?_
        refine V_goto (tgt := 186) (pc := 182) (DCa dc_Mod_expression_1 44 rfl) (by decide) ?_
        exact v_Mod_expression_B186 F R12 hR12 _ _ _ _
    · refine V_iconst (pc := 181) (DCa dc_Mod_expression_1 43 rfl) (by decide) ?_
      refine V_goto (tgt := 186) (pc := 182) (DCa dc_Mod_expression_1 44 rfl) (by decide) ?_
      exact v_Mod_expression_B186 F R12 hR12 _ _ _ _
  · refine V_iconst (pc := 181) (DCa dc_Mod_expression_1 43 rfl) (by decide) ?_
    refine V_goto (tgt := 186) (pc := 182) (DCa dc_Mod_expression_1 44 rfl) (by decide) ?_
    exact v_Mod_expression_B186 F R12 hR12 _ _ _ _
theorem v_Mod_expression_L96s (F : Nat) (R12 : Int → Int → Int → Hp → Option (Int × Hp)) (hR12 : ∀ (l0 l1 l2 : Int) (h : Hp), V X_Mod_expression 12 [(0, 2, l0), (1, 0, l1), (2, 0, l2)] [] h (R12 l0 l1 l2 h)) (R96 : Int → Int → Hp → Option (Int × Hp)) (hR96 : ∀ (l0 l1 : Int) (h : Hp), V X_Mod_expression 96 [(0, 2, l0), (1, 0, l1)] [] h (R96 l0 l1 h)) (l0 l1 : Int) (h : Hp) : V X_Mod_expression 96 [(0, 2, l0), (1, 0, l1)] [] h (Mod_expression_L96s F R12 R96 l0 l1 h) := by
  unfold Mod_expression_L96s
  refine V_aload_n (pc := 96) (DCa dc_Mod_expression_1 1 rfl) rfl 0 rfl ?_
  refine V_bipush (pc := 97) (DCa dc_Mod_expression_1 2 rfl) (by decide) ?_
  refine Q_callv (ci := 12) (st := []) (pc := 99) (DCa dc_Mod_expression_1 3 rfl) (sp_Mod_is F _ _ _) ce_Mod_is ml_12_269 rfl rfl ⟨Nat.le_of_ble_eq_true rfl, Nat.le_of_ble_eq_true rfl⟩ rfl (Nat.le_of_ble_eq_true rfl) (fun r21 h22 => ?_)
  refine V_if_eq (tgt := 145) (pc := 102) (DCa dc_Mod_expression_1 4 rfl) (by decide) (fun _ => ?_) (fun _ => ?_)
  · exact v_Mod_expression_B145 F R12 hR12 _ _ _
  · refine V_aload_n (pc := 105) (DCa dc_Mod_expression_1 5 rfl) rfl 0 rfl ?_
    refine Q_getf (k := 12) (pc := 106) (DCa dc_Mod_expression_1 6 rfl) cls_12 (Nat.le_of_ble_eq_true rfl) fl_12_278 rfl rfl rfl (fun v23 => ?_)
    refine V_iload_n (pc := 109) (DCa dc_Mod_expression_1 7 rfl) rfl 1 rfl ?_
    refine V_icmp_le (tgt := 145) (pc := 110) (DCa dc_Mod_expression_1 8 rfl) (by decide) (fun _ => ?_) (fun _ => ?_)
    · refine V_aload_n (pc := 113) (DCa dc_Mod_expression_1 9 rfl) rfl 0 rfl ?_
      refine V_iconst (pc := 114) (DCa dc_Mod_expression_1 10 rfl) (by decide) ?_
      refine Q_callv (ci := 12) (st := []) (pc := 115) (DCa dc_Mod_expression_1 11 rfl) (sp_Mod_comesOut F _ _ _) ce_Mod_comesOut ml_12_347 rfl rfl ⟨Nat.le_of_ble_eq_true rfl, Nat.le_of_ble_eq_true rfl⟩ rfl (Nat.le_of_ble_eq_true rfl) (fun r24 h25 => ?_)
      refine V_aload_n (pc := 118) (DCa dc_Mod_expression_1 12 rfl) rfl 0 rfl ?_
      refine V_dup (pc := 119) (DCa dc_Mod_expression_1 13 rfl) rfl ?_
      refine Q_getf (k := 48) (pc := 120) (DCa dc_Mod_expression_1 14 rfl) cls_12 (Nat.le_of_ble_eq_true rfl) fl_12_338 rfl rfl rfl (fun v26 => ?_)
      refine V_iconst (pc := 123) (DCa dc_Mod_expression_1 15 rfl) (by decide) ?_
      refine V_isub (pc := 124) (DCa dc_Mod_expression_1 16 rfl) ?_
      refine Q_putf (k := 48) (pc := 125) (DCa dc_Mod_expression_1 17 rfl) cls_12 (Nat.le_of_ble_eq_true rfl) fl_12_338 rfl rfl rfl (Or.inl rfl) (Or.inl ⟨rfl, rfl⟩) (fun h27 => ?_)
      refine V_aload_n (pc := 128) (DCa dc_Mod_expression_1 18 rfl) rfl 0 rfl ?_
      refine V_dup (pc := 129) (DCa dc_Mod_expression_1 19 rfl) rfl ?_
      refine Q_getf (k := 12) (pc := 130) (DCa dc_Mod_expression_1 20 rfl) cls_12 (Nat.le_of_ble_eq_true rfl) fl_12_278 rfl rfl rfl (fun v28 => ?_)
      refine V_iconst (pc := 133) (DCa dc_Mod_expression_1 21 rfl) (by decide) ?_
      refine V_isub (pc := 134) (DCa dc_Mod_expression_1 22 rfl) ?_
      refine Q_putf (k := 12) (pc := 135) (DCa dc_Mod_expression_1 23 rfl) cls_12 (Nat.le_of_ble_eq_true rfl) fl_12_278 rfl rfl rfl (Or.inl rfl) (Or.inl ⟨rfl, rfl⟩) (fun h29 => ?_)
      refine V_aload_n (pc := 138) (DCa dc_Mod_expression_1 24 rfl) rfl 0 rfl ?_
      refine Q_callv (ci := 12) (st := []) (pc := 139) (DCa dc_Mod_expression_1 25 rfl) (sp_Mod_goesOn F _ _) ce_Mod_goesOn ml_12_272 rfl rfl ⟨Nat.le_of_ble_eq_true rfl, Nat.le_of_ble_eq_true rfl⟩ rfl (Nat.le_of_ble_eq_true rfl) (fun r30 h31 => ?_)
      refine V_goto (tgt := 96) (pc := 142) (DCa dc_Mod_expression_1 26 rfl) (by decide) ?_
      exact hR96 _ _ _
    · exact v_Mod_expression_B145 F R12 hR12 _ _ _
theorem v_Mod_expression_L96 (F : Nat) (R12 : Int → Int → Int → Hp → Option (Int × Hp)) (hR12 : ∀ (l0 l1 l2 : Int) (h : Hp), V X_Mod_expression 12 [(0, 2, l0), (1, 0, l1), (2, 0, l2)] [] h (R12 l0 l1 l2 h)) (n : Nat) : ∀ (l0 l1 : Int) (h : Hp), V X_Mod_expression 96 [(0, 2, l0), (1, 0, l1)] [] h (Mod_expression_L96 F R12 n l0 l1 h) := by
  induction n with
  | zero => intros; exact V_none
  | succ n ih => exact fun l0 l1 h => v_Mod_expression_L96s F R12 hR12 _ ih l0 l1 h
theorem v_Mod_expression_B84 (F : Nat) (R12 : Int → Int → Int → Hp → Option (Int × Hp)) (hR12 : ∀ (l0 l1 l2 : Int) (h : Hp), V X_Mod_expression 12 [(0, 2, l0), (1, 0, l1), (2, 0, l2)] [] h (R12 l0 l1 l2 h)) (l0 l1 : Int) (h : Hp) : V X_Mod_expression 84 [(0, 2, l0), (1, 0, l1)] [] h (Mod_expression_B84 F R12 l0 l1 h) := by
  unfold Mod_expression_B84
  refine V_aload_n (pc := 84) (DCa dc_Mod_expression_0 45 rfl) rfl 0 rfl ?_
  refine Q_callv (ci := 12) (st := []) (pc := 85) (DCa dc_Mod_expression_0 46 rfl) (sp_Mod_unit F _ _) ce_Mod_unit ml_12_344 rfl rfl ⟨Nat.le_of_ble_eq_true rfl, Nat.le_of_ble_eq_true rfl⟩ rfl (Nat.le_of_ble_eq_true rfl) (fun r9 h10 => ?_)
  refine V_aload_n (pc := 88) (DCa dc_Mod_expression_0 47 rfl) rfl 0 rfl ?_
  refine Q_getf (k := 13) (pc := 89) (DCa dc_Mod_expression_0 48 rfl) cls_12 (Nat.le_of_ble_eq_true rfl) fl_12_251 rfl rfl rfl (fun v11 => ?_)
  refine V_if_le (tgt := 96) (pc := 92) (DCa dc_Mod_expression_0 49 rfl) (by decide) (fun _ => ?_) (fun _ => ?_)
  · exact V_return (pc := 95) (DCa dc_Mod_expression_1 0 rfl) rfl
  · exact v_Mod_expression_L96 F R12 hR12 F _ _ _
theorem v_Mod_expression_L23s (F : Nat) (R12 : Int → Int → Int → Hp → Option (Int × Hp)) (hR12 : ∀ (l0 l1 l2 : Int) (h : Hp), V X_Mod_expression 12 [(0, 2, l0), (1, 0, l1), (2, 0, l2)] [] h (R12 l0 l1 l2 h)) (R23 : Int → Int → Hp → Option (Int × Hp)) (hR23 : ∀ (l0 l1 : Int) (h : Hp), V X_Mod_expression 23 [(0, 2, l0), (1, 0, l1)] [] h (R23 l0 l1 h)) (l0 l1 : Int) (h : Hp) : V X_Mod_expression 23 [(0, 2, l0), (1, 0, l1)] [] h (Mod_expression_L23s F R12 R23 l0 l1 h) := by
  unfold Mod_expression_L23s
  refine V_aload_n (pc := 23) (DCa dc_Mod_expression_0 13 rfl) rfl 0 rfl ?_
  refine V_bipush (pc := 24) (DCa dc_Mod_expression_0 14 rfl) (by decide) ?_
  refine Q_callv (ci := 12) (st := []) (pc := 26) (DCa dc_Mod_expression_0 15 rfl) (sp_Mod_is F _ _ _) ce_Mod_is ml_12_269 rfl rfl ⟨Nat.le_of_ble_eq_true rfl, Nat.le_of_ble_eq_true rfl⟩ rfl (Nat.le_of_ble_eq_true rfl) (fun r4 h5 => ?_)
  refine V_if_eq (tgt := 84) (pc := 29) (DCa dc_Mod_expression_0 16 rfl) (by decide) (fun _ => ?_) (fun _ => ?_)
  · exact v_Mod_expression_B84 F R12 hR12 _ _ _
  · refine V_aload_n (pc := 32) (DCa dc_Mod_expression_0 17 rfl) rfl 0 rfl ?_
    refine Q_getf (k := 12) (pc := 33) (DCa dc_Mod_expression_0 18 rfl) cls_12 (Nat.le_of_ble_eq_true rfl) fl_12_278 rfl rfl rfl (fun v6 => ?_)
    refine V_bipush (pc := 36) (DCa dc_Mod_expression_0 19 rfl) (by decide) ?_
    refine V_icmp_ne (tgt := 46) (pc := 38) (DCa dc_Mod_expression_0 20 rfl) (by decide) (fun _ => ?_) (fun _ => ?_)
    · refine V_aload_n (pc := 41) (DCa dc_Mod_expression_0 21 rfl) rfl 0 rfl ?_
      refine V_iconst (pc := 42) (DCa dc_Mod_expression_0 22 rfl) (by decide) ?_
      refine Q_callv (ci := 12) (st := []) (pc := 43) (DCa dc_Mod_expression_0 23 rfl) (sp_Mod_fail F _ _ _) ce_Mod_fail ml_12_266 rfl rfl ⟨Nat.le_of_ble_eq_true rfl, Nat.le_of_ble_eq_true rfl⟩ rfl (Nat.le_of_ble_eq_true rfl) (fun r7 h8 => ?_)
      exact v_Mod_expression_B46 F R12 hR12 R23 hR23 _ _ _
    · exact v_Mod_expression_B46 F R12 hR12 R23 hR23 _ _ _
theorem v_Mod_expression_L23 (F : Nat) (R12 : Int → Int → Int → Hp → Option (Int × Hp)) (hR12 : ∀ (l0 l1 l2 : Int) (h : Hp), V X_Mod_expression 12 [(0, 2, l0), (1, 0, l1), (2, 0, l2)] [] h (R12 l0 l1 l2 h)) (n : Nat) : ∀ (l0 l1 : Int) (h : Hp), V X_Mod_expression 23 [(0, 2, l0), (1, 0, l1)] [] h (Mod_expression_L23 F R12 n l0 l1 h) := by
  induction n with
  | zero => intros; exact V_none
  | succ n ih => exact fun l0 l1 h => v_Mod_expression_L23s F R12 hR12 _ ih l0 l1 h
theorem v_Mod_expression_L12s (F : Nat)  (R12 : Int → Int → Int → Hp → Option (Int × Hp)) (hR12 : ∀ (l0 l1 l2 : Int) (h : Hp), V X_Mod_expression 12 [(0, 2, l0), (1, 0, l1), (2, 0, l2)] [] h (R12 l0 l1 l2 h)) (l0 l1 l2 : Int) (h : Hp) : V X_Mod_expression 12 [(0, 2, l0), (1, 0, l1), (2, 0, l2)] [] h (Mod_expression_L12s F  R12 l0 l1 l2 h) := by
  unfold Mod_expression_L12s
  refine V_iload_n (pc := 12) (DCa dc_Mod_expression_0 8 rfl) rfl 2 rfl ?_
  refine V_if_eq (tgt := 272) (pc := 13) (DCa dc_Mod_expression_0 9 rfl) (by decide) (fun _ => ?_) (fun _ => ?_)
  · exact V_return (pc := 272) (DCa dc_Mod_expression_2 42 rfl) rfl
  · refine V_aload_n (pc := 16) (DCa dc_Mod_expression_0 10 rfl) rfl 0 rfl ?_
    refine Q_getf (k := 13) (pc := 17) (DCa dc_Mod_expression_0 11 rfl) cls_12 (Nat.le_of_ble_eq_true rfl) fl_12_251 rfl rfl rfl (fun v3 => ?_)
    refine V_if_ne (tgt := 272) (pc := 20) (DCa dc_Mod_expression_0 12 rfl) (by decide) (fun _ => ?_) (fun _ => ?_)
    · refine V_pick [0, 1] rfl ?_
      exact v_Mod_expression_L23 F R12 hR12 F _ _ _
    · exact V_return (pc := 272) (DCa dc_Mod_expression_2 42 rfl) rfl
theorem v_Mod_expression_L12 (F : Nat)  (n : Nat) : ∀ (l0 l1 l2 : Int) (h : Hp), V X_Mod_expression 12 [(0, 2, l0), (1, 0, l1), (2, 0, l2)] [] h (Mod_expression_L12 F  n l0 l1 l2 h) := by
  induction n with
  | zero => intros; exact V_none
  | succ n ih => exact fun l0 l1 l2 h => v_Mod_expression_L12s F  _ ih l0 l1 l2 h
theorem v_Mod_expression (F : Nat) (l0 : Int) (h : Hp) : V X_Mod_expression 0 [(0, 2, l0)] [] h (Mod_expression F l0 h) := by
  unfold Mod_expression
  refine V_aload_n (pc := 0) (DCa dc_Mod_expression_0 0 rfl) rfl 0 rfl ?_
  refine V_iconst (pc := 1) (DCa dc_Mod_expression_0 1 rfl) (by decide) ?_
  refine Q_putf (k := 48) (pc := 2) (DCa dc_Mod_expression_0 2 rfl) cls_12 (Nat.le_of_ble_eq_true rfl) fl_12_338 rfl rfl rfl (Or.inl rfl) (Or.inl ⟨rfl, rfl⟩) (fun h1 => ?_)
  refine V_aload_n (pc := 5) (DCa dc_Mod_expression_0 3 rfl) rfl 0 rfl ?_
  refine Q_getf (k := 12) (pc := 6) (DCa dc_Mod_expression_0 4 rfl) cls_12 (Nat.le_of_ble_eq_true rfl) fl_12_278 rfl rfl rfl (fun v2 => ?_)
  refine V_istore_n (ls' := [(0, 2, l0), (1, 0, v2)]) (pc := 9) (DCa dc_Mod_expression_0 5 rfl) rfl (Nat.le_of_ble_eq_true rfl) rfl ?_
  refine V_iconst (pc := 10) (DCa dc_Mod_expression_0 6 rfl) (by decide) ?_
  refine V_istore_n (ls' := [(0, 2, l0), (1, 0, v2), (2, 0, 1)]) (pc := 11) (DCa dc_Mod_expression_0 7 rfl) rfl (Nat.le_of_ble_eq_true rfl) rfl ?_
  exact v_Mod_expression_L12 F F _ _ _ _
theorem sp_Mod_expression (F : Nat) (l0 : Int) (h : Hp) : Sp yX12_expression cX12_expression 3 none 4 81 [(2, l0)] h (Mod_expression F l0 h) := Sp_of (by decide +kernel) rfl rfl (Nat.le_of_ble_eq_true rfl) (v_Mod_expression F l0 h)

-- TideRakesModel.term
def Mod_term_B24 (F : Nat)  (l0 : Int) (h : Hp) : Option (Int × Hp) :=
  gf h l0 112 43 fun v8 =>
  gf h l0 112 38 fun v9 =>
  gf h l0 112 44 fun v10 =>
  as h v8 0 v9 v10 fun h11 =>
  gf h11 l0 112 38 fun v12 =>
  pf h11 l0 112 38 (w32 (v12 + 1)) fun h13 =>
  some (0, h13)
def Mod_term (F : Nat) (l0 : Int) (h : Hp) : Option (Int × Hp) :=
  gf h l0 112 42 fun v1 =>
  gf h l0 112 38 fun v2 =>
  gf h l0 112 44 fun v3 =>
  as h v1 0 v2 v3 fun h4 =>
  gf h4 l0 112 13 fun v5 =>
  if v5 = 0 then
    (iv h4 l0 112 (Mod_expression F l0 h4) fun r6 h7 =>
    Mod_term_B24 F l0 h7)
  else
    (Mod_term_B24 F l0 h4)

theorem dc_Mod_term_0 : ∀ q ∈ ([(0, .aload_n 0, 1), (1, .getfield 101, 3), (4, .aload_n 0, 1), (5, .getfield 290, 3), (8, .aload_n 0, 1), (9, .getfield 293, 3), (12, .iastore, 1), (13, .aload_n 0, 1), (14, .getfield 251, 3), (17, .ifCond .ne 7, 3), (20, .aload_n 0, 1), (21, .invokevirtual 332, 3), (24, .aload_n 0, 1), (25, .getfield 104, 3), (28, .aload_n 0, 1), (29, .getfield 290, 3), (32, .aload_n 0, 1), (33, .getfield 293, 3), (36, .iastore, 1), (37, .aload_n 0, 1), (38, .dup, 1), (39, .getfield 290, 3), (42, .iconst 1, 1), (43, .iadd, 1), (44, .putfield 290, 3), (47, .return_, 1)] : List (Nat × Instr × Nat)), decode cX12_term q.1 = .ok (q.2.1, q.2.2) := by decide +kernel
abbrev X_Mod_term : MX := (cX12_term, RX12, "term", 1, none, 5, 103)
theorem v_Mod_term_B24 (F : Nat)  (l0 : Int) (h : Hp) : V X_Mod_term 24 [(0, 2, l0)] [] h (Mod_term_B24 F  l0 h) := by
  unfold Mod_term_B24
  refine V_aload_n (pc := 24) (DCa dc_Mod_term_0 12 rfl) rfl 0 rfl ?_
  refine Q_getf (k := 43) (pc := 25) (DCa dc_Mod_term_0 13 rfl) cls_12 (Nat.le_of_ble_eq_true rfl) fl_12_104 rfl rfl rfl (fun v8 => ?_)
  refine V_aload_n (pc := 28) (DCa dc_Mod_term_0 14 rfl) rfl 0 rfl ?_
  refine Q_getf (k := 38) (pc := 29) (DCa dc_Mod_term_0 15 rfl) cls_12 (Nat.le_of_ble_eq_true rfl) fl_12_290 rfl rfl rfl (fun v9 => ?_)
  refine V_aload_n (pc := 32) (DCa dc_Mod_term_0 16 rfl) rfl 0 rfl ?_
  refine Q_getf (k := 44) (pc := 33) (DCa dc_Mod_term_0 17 rfl) cls_12 (Nat.le_of_ble_eq_true rfl) fl_12_293 rfl rfl rfl (fun v10 => ?_)
  refine Q_iastore (pc := 36) (DCa dc_Mod_term_0 18 rfl) (fun h11 => ?_)
  refine V_aload_n (pc := 37) (DCa dc_Mod_term_0 19 rfl) rfl 0 rfl ?_
  refine V_dup (pc := 38) (DCa dc_Mod_term_0 20 rfl) rfl ?_
  refine Q_getf (k := 38) (pc := 39) (DCa dc_Mod_term_0 21 rfl) cls_12 (Nat.le_of_ble_eq_true rfl) fl_12_290 rfl rfl rfl (fun v12 => ?_)
  refine V_iconst (pc := 42) (DCa dc_Mod_term_0 22 rfl) (by decide) ?_
  refine V_iadd (pc := 43) (DCa dc_Mod_term_0 23 rfl) ?_
  refine Q_putf (k := 38) (pc := 44) (DCa dc_Mod_term_0 24 rfl) cls_12 (Nat.le_of_ble_eq_true rfl) fl_12_290 rfl rfl rfl (Or.inl rfl) (Or.inl ⟨rfl, rfl⟩) (fun h13 => ?_)
  exact V_return (pc := 47) (DCa dc_Mod_term_0 25 rfl) rfl
theorem v_Mod_term (F : Nat) (l0 : Int) (h : Hp) : V X_Mod_term 0 [(0, 2, l0)] [] h (Mod_term F l0 h) := by
  unfold Mod_term
  refine V_aload_n (pc := 0) (DCa dc_Mod_term_0 0 rfl) rfl 0 rfl ?_
  refine Q_getf (k := 42) (pc := 1) (DCa dc_Mod_term_0 1 rfl) cls_12 (Nat.le_of_ble_eq_true rfl) fl_12_101 rfl rfl rfl (fun v1 => ?_)
  refine V_aload_n (pc := 4) (DCa dc_Mod_term_0 2 rfl) rfl 0 rfl ?_
  refine Q_getf (k := 38) (pc := 5) (DCa dc_Mod_term_0 3 rfl) cls_12 (Nat.le_of_ble_eq_true rfl) fl_12_290 rfl rfl rfl (fun v2 => ?_)
  refine V_aload_n (pc := 8) (DCa dc_Mod_term_0 4 rfl) rfl 0 rfl ?_
  refine Q_getf (k := 44) (pc := 9) (DCa dc_Mod_term_0 5 rfl) cls_12 (Nat.le_of_ble_eq_true rfl) fl_12_293 rfl rfl rfl (fun v3 => ?_)
  refine Q_iastore (pc := 12) (DCa dc_Mod_term_0 6 rfl) (fun h4 => ?_)
  refine V_aload_n (pc := 13) (DCa dc_Mod_term_0 7 rfl) rfl 0 rfl ?_
  refine Q_getf (k := 13) (pc := 14) (DCa dc_Mod_term_0 8 rfl) cls_12 (Nat.le_of_ble_eq_true rfl) fl_12_251 rfl rfl rfl (fun v5 => ?_)
  refine V_if_ne (tgt := 24) (pc := 17) (DCa dc_Mod_term_0 9 rfl) (by decide) (fun _ => ?_) (fun _ => ?_)
  · refine V_aload_n (pc := 20) (DCa dc_Mod_term_0 10 rfl) rfl 0 rfl ?_
    refine Q_callv (ci := 12) (st := []) (pc := 21) (DCa dc_Mod_term_0 11 rfl) (sp_Mod_expression F _ _) ce_Mod_expression ml_12_332 rfl rfl ⟨Nat.le_of_ble_eq_true rfl, Nat.le_of_ble_eq_true rfl⟩ rfl (Nat.le_of_ble_eq_true rfl) (fun r6 h7 => ?_)
    exact v_Mod_term_B24 F _ _
  · exact v_Mod_term_B24 F _ _
theorem sp_Mod_term (F : Nat) (l0 : Int) (h : Hp) : Sp yX12_term cX12_term 1 none 5 103 [(2, l0)] h (Mod_term F l0 h) := Sp_of (by decide +kernel) rfl rfl (Nat.le_of_ble_eq_true rfl) (v_Mod_term F l0 h)

-- TideRakesModel.tellLaw
def Mod_tellLaw_B129 (F : Nat)  (l0 l1 l2 : Int) (h : Hp) : Option (Int × Hp) :=
  gf h l0 112 39 fun v9 =>
  gf h l0 112 38 fun v10 =>
  az h v9 v10 0 fun h11 =>
  iv h11 l0 112 (Mod_term F l0 h11) fun r12 h13 =>
  iv h13 l0 112 (Mod_must F l0 4 h13) fun r14 h15 =>
  gf h15 l0 112 13 fun v16 =>
  if 0 < v16 then
    (some (0, h15))
  else
    (gf h15 l0 112 36 fun v17 =>
    gf h15 l0 112 19 fun v18 =>
    as h15 v17 0 (w32 ((w32 (5 * v18)) + l1)) l2 fun h19 =>
    gf h19 l0 112 37 fun v20 =>
    gf h19 l0 112 19 fun v21 =>
    gf h19 l0 112 38 fun v22 =>
    as h19 v20 0 (w32 ((w32 (5 * v21)) + l1)) v22 fun h23 =>
    some (0, h23))
def Mod_tellLaw_B110 (F : Nat) (R12 : Int → Int → Int → Int → Hp → Option (Int × Hp)) (l0 l1 l2 l3 : Int) (h : Hp) : Option (Int × Hp) :=
  iv h l0 112 (Mod_must F l0 31 h) fun r45 h46 =>
  iv h46 l0 112 (Mod_term F l0 h46) fun r47 h48 =>
  iv h48 l0 112 (Mod_must F l0 32 h48) fun r49 h50 =>
  R12 l0 l1 l2 l3 h50
def Mod_tellLaw_B38 (F : Nat) (R12 : Int → Int → Int → Int → Hp → Option (Int × Hp)) (l0 l1 l2 l3 : Int) (h : Hp) : Option (Int × Hp) :=
  gf h l0 112 13 fun v24 =>
  if 0 < v24 then
    (some (0, h))
  else
    (iv h l0 112 (Mod_goesOn F l0 h) fun r25 h26 =>
    gf h26 l0 112 39 fun v27 =>
    gf h26 l0 112 38 fun v28 =>
    az h26 v27 v28 1 fun h29 =>
    gf h29 l0 112 40 fun v30 =>
    gf h29 l0 112 38 fun v31 =>
    gf h29 l0 112 44 fun v32 =>
    as h29 v30 0 v31 v32 fun h33 =>
    iv h33 l0 112 (Mod_expression F l0 h33) fun r34 h35 =>
    iv h35 l0 112 (Mod_must F l0 13 h35) fun r36 h37 =>
    gf h37 l0 112 41 fun v38 =>
    gf h37 l0 112 38 fun v39 =>
    gf h37 l0 112 44 fun v40 =>
    as h37 v38 0 v39 v40 fun h41 =>
    gf h41 l0 112 13 fun v42 =>
    if v42 = 0 then
      (iv h41 l0 112 (Mod_expression F l0 h41) fun r43 h44 =>
      Mod_tellLaw_B110 F R12 l0 l1 l2 (w32 (l3 + 1)) h44)
    else
      (Mod_tellLaw_B110 F R12 l0 l1 l2 (w32 (l3 + 1)) h41))
def Mod_tellLaw_L12s (F : Nat)  (R12 : Int → Int → Int → Int → Hp → Option (Int × Hp)) (l0 l1 l2 l3 : Int) (h : Hp) : Option (Int × Hp) :=
  gf h l0 112 13 fun v4 =>
  if v4 = 0 then
    (iv h l0 112 (Mod_is F l0 30 h) fun r5 h6 =>
    if r5 = 0 then
      (Mod_tellLaw_B129 F l0 l1 l2 h6)
    else
      (if l3 = 4 then
        (iv h6 l0 112 (Mod_fail F l0 2 h6) fun r7 h8 =>
        Mod_tellLaw_B38 F R12 l0 l1 l2 l3 h8)
      else
        (Mod_tellLaw_B38 F R12 l0 l1 l2 l3 h6)))
  else
    (Mod_tellLaw_B129 F l0 l1 l2 h)
def Mod_tellLaw_L12 (F : Nat)  : Nat → Int → Int → Int → Int → Hp → Option (Int × Hp)
  | 0 => fun _ _ _ _ _ => none
  | n + 1 => Mod_tellLaw_L12s F  (Mod_tellLaw_L12 F  n)
def Mod_tellLaw (F : Nat) (l0 l1 : Int) (h : Hp) : Option (Int × Hp) :=
  iv h l0 112 (Mod_must F l0 5 h) fun r1 h2 =>
  gf h2 l0 112 38 fun v3 =>
  Mod_tellLaw_L12 F F l0 l1 v3 0 h2

theorem dc_Mod_tellLaw_0 : ∀ q ∈ ([(0, .aload_n 0, 1), (1, .iconst 5, 1), (2, .invokevirtual 319, 3), (5, .aload_n 0, 1), (6, .getfield 290, 3), (9, .istore_n 2, 1), (10, .iconst 0, 1), (11, .istore_n 3, 1), (12, .aload_n 0, 1), (13, .getfield 251, 3), (16, .ifCond .ne 113, 3), (19, .aload_n 0, 1), (20, .bipush 30, 2), (22, .invokevirtual 269, 3), (25, .ifCond .eq 104, 3), (28, .iload_n 3, 1), (29, .iconst 4, 1), (30, .if_icmp .ne 8, 3), (33, .aload_n 0, 1), (34, .iconst 2, 1), (35, .invokevirtual 266, 3), (38, .aload_n 0, 1), (39, .getfield 251, 3), (42, .ifCond .le 4, 3), (45, .return_, 1), (46, .iinc 3 1, 3), (49, .aload_n 0, 1), (50, .invokevirtual 272, 3), (53, .aload_n 0, 1), (54, .getfield 91, 3), (57, .aload_n 0, 1), (58, .getfield 290, 3), (61, .iconst 1, 1), (62, .bastore, 1), (63, .aload_n 0, 1), (64, .getfield 95, 3), (67, .aload_n 0, 1), (68, .getfield 290, 3), (71, .aload_n 0, 1), (72, .getfield 293, 3), (75, .iastore, 1), (76, .aload_n 0, 1), (77, .invokevirtual 332, 3), (80, .aload_n 0, 1), (81, .bipush 13, 2), (83, .invokevirtual 319, 3), (86, .aload_n 0, 1), (87, .getfield 98, 3), (90, .aload_n 0, 1), (91, .getfield 290, 3)] : List (Nat × Instr × Nat)), decode cX12_tellLaw q.1 = .ok (q.2.1, q.2.2) := by decide +kernel
theorem dc_Mod_tellLaw_1 : ∀ q ∈ ([(94, .aload_n 0, 1), (95, .getfield 293, 3), (98, .iastore, 1), (99, .aload_n 0, 1), (100, .getfield 251, 3), (103, .ifCond .ne 7, 3), (106, .aload_n 0, 1), (107, .invokevirtual 332, 3), (110, .aload_n 0, 1), (111, .bipush 31, 2), (113, .invokevirtual 319, 3), (116, .aload_n 0, 1), (117, .invokevirtual 335, 3), (120, .aload_n 0, 1), (121, .bipush 32, 2), (123, .invokevirtual 319, 3), (126, .goto (-114), 3), (129, .aload_n 0, 1), (130, .getfield 91, 3), (133, .aload_n 0, 1), (134, .getfield 290, 3), (137, .iconst 0, 1), (138, .bastore, 1), (139, .aload_n 0, 1), (140, .invokevirtual 335, 3), (143, .aload_n 0, 1), (144, .iconst 4, 1), (145, .invokevirtual 319, 3), (148, .aload_n 0, 1), (149, .getfield 251, 3), (152, .ifCond .le 4, 3), (155, .return_, 1), (156, .aload_n 0, 1), (157, .getfield 85, 3), (160, .iconst 5, 1), (161, .aload_n 0, 1), (162, .getfield 284, 3), (165, .imul, 1), (166, .iload_n 1, 1), (167, .iadd, 1), (168, .iload_n 2, 1), (169, .iastore, 1), (170, .aload_n 0, 1), (171, .getfield 88, 3), (174, .iconst 5, 1), (175, .aload_n 0, 1), (176, .getfield 284, 3), (179, .imul, 1), (180, .iload_n 1, 1), (181, .iadd, 1)] : List (Nat × Instr × Nat)), decode cX12_tellLaw q.1 = .ok (q.2.1, q.2.2) := by decide +kernel
theorem dc_Mod_tellLaw_2 : ∀ q ∈ ([(182, .aload_n 0, 1), (183, .getfield 290, 3), (186, .iastore, 1), (187, .return_, 1)] : List (Nat × Instr × Nat)), decode cX12_tellLaw q.1 = .ok (q.2.1, q.2.2) := by decide +kernel
abbrev X_Mod_tellLaw : MX := (cX12_tellLaw, RX12, "tellLaw", 4, none, 6, 123)
theorem v_Mod_tellLaw_B129 (F : Nat)  (l0 l1 l2 : Int) (h : Hp) : V X_Mod_tellLaw 129 [(0, 2, l0), (1, 0, l1), (2, 0, l2)] [] h (Mod_tellLaw_B129 F  l0 l1 l2 h) := by
  unfold Mod_tellLaw_B129
  refine V_aload_n (pc := 129) (DCa dc_Mod_tellLaw_1 17 rfl) rfl 0 rfl ?_
  refine Q_getf (k := 39) (pc := 130) (DCa dc_Mod_tellLaw_1 18 rfl) cls_12 (Nat.le_of_ble_eq_true rfl) fl_12_91 rfl rfl rfl (fun v9 => ?_)
  refine V_aload_n (pc := 133) (DCa dc_Mod_tellLaw_1 19 rfl) rfl 0 rfl ?_
  refine Q_getf (k := 38) (pc := 134) (DCa dc_Mod_tellLaw_1 20 rfl) cls_12 (Nat.le_of_ble_eq_true rfl) fl_12_290 rfl rfl rfl (fun v10 => ?_)
  refine V_iconst (pc := 137) (DCa dc_Mod_tellLaw_1 21 rfl) (by decide) ?_
  refine Q_zastore (pc := 138) (DCa dc_Mod_tellLaw_1 22 rfl) (fun h11 => ?_)
  refine V_aload_n (pc := 139) (DCa dc_Mod_tellLaw_1 23 rfl) rfl 0 rfl ?_
  refine Q_callv (ci := 12) (st := []) (pc := 140) (DCa dc_Mod_tellLaw_1 24 rfl) (sp_Mod_term F _ _) ce_Mod_term ml_12_335 rfl rfl ⟨Nat.le_of_ble_eq_true rfl, Nat.le_of_ble_eq_true rfl⟩ rfl (Nat.le_of_ble_eq_true rfl) (fun r12 h13 => ?_)
  refine V_aload_n (pc := 143) (DCa dc_Mod_tellLaw_1 25 rfl) rfl 0 rfl ?_
  refine V_iconst (pc := 144) (DCa dc_Mod_tellLaw_1 26 rfl) (by decide) ?_
  refine Q_callv (ci := 12) (st := []) (pc := 145) (DCa dc_Mod_tellLaw_1 27 rfl) (sp_Mod_must F _ _ _) ce_Mod_must ml_12_319 rfl rfl ⟨Nat.le_of_ble_eq_true rfl, Nat.le_of_ble_eq_true rfl⟩ rfl (Nat.le_of_ble_eq_true rfl) (fun r14 h15 => ?_)
  refine V_aload_n (pc := 148) (DCa dc_Mod_tellLaw_1 28 rfl) rfl 0 rfl ?_
  refine Q_getf (k := 13) (pc := 149) (DCa dc_Mod_tellLaw_1 29 rfl) cls_12 (Nat.le_of_ble_eq_true rfl) fl_12_251 rfl rfl rfl (fun v16 => ?_)
  refine V_if_le (tgt := 156) (pc := 152) (DCa dc_Mod_tellLaw_1 30 rfl) (by decide) (fun _ => ?_) (fun _ => ?_)
  · exact V_return (pc := 155) (DCa dc_Mod_tellLaw_1 31 rfl) rfl
  · refine V_aload_n (pc := 156) (DCa dc_Mod_tellLaw_1 32 rfl) rfl 0 rfl ?_
    refine Q_getf (k := 36) (pc := 157) (DCa dc_Mod_tellLaw_1 33 rfl) cls_12 (Nat.le_of_ble_eq_true rfl) fl_12_85 rfl rfl rfl (fun v17 => ?_)
    refine V_iconst (pc := 160) (DCa dc_Mod_tellLaw_1 34 rfl) (by decide) ?_
    refine V_aload_n (pc := 161) (DCa dc_Mod_tellLaw_1 35 rfl) rfl 0 rfl ?_
    refine Q_getf (k := 19) (pc := 162) (DCa dc_Mod_tellLaw_1 36 rfl) cls_12 (Nat.le_of_ble_eq_true rfl) fl_12_284 rfl rfl rfl (fun v18 => ?_)
    refine V_imul (pc := 165) (DCa dc_Mod_tellLaw_1 37 rfl) ?_
    refine V_iload_n (pc := 166) (DCa dc_Mod_tellLaw_1 38 rfl) rfl 1 rfl ?_
    refine V_iadd (pc := 167) (DCa dc_Mod_tellLaw_1 39 rfl) ?_
    refine V_iload_n (pc := 168) (DCa dc_Mod_tellLaw_1 40 rfl) rfl 2 rfl ?_
    refine Q_iastore (pc := 169) (DCa dc_Mod_tellLaw_1 41 rfl) (fun h19 => ?_)
    refine V_aload_n (pc := 170) (DCa dc_Mod_tellLaw_1 42 rfl) rfl 0 rfl ?_
    refine Q_getf (k := 37) (pc := 171) (DCa dc_Mod_tellLaw_1 43 rfl) cls_12 (Nat.le_of_ble_eq_true rfl) fl_12_88 rfl rfl rfl (fun v20 => ?_)
    refine V_iconst (pc := 174) (DCa dc_Mod_tellLaw_1 44 rfl) (by decide) ?_
    refine V_aload_n (pc := 175) (DCa dc_Mod_tellLaw_1 45 rfl) rfl 0 rfl ?_
    refine Q_getf (k := 19) (pc := 176) (DCa dc_Mod_tellLaw_1 46 rfl) cls_12 (Nat.le_of_ble_eq_true rfl) fl_12_284 rfl rfl rfl (fun v21 => ?_)
    refine V_imul (pc := 179) (DCa dc_Mod_tellLaw_1 47 rfl) ?_
    refine V_iload_n (pc := 180) (DCa dc_Mod_tellLaw_1 48 rfl) rfl 1 rfl ?_
    refine V_iadd (pc := 181) (DCa dc_Mod_tellLaw_1 49 rfl) ?_
    refine V_aload_n (pc := 182) (DCa dc_Mod_tellLaw_2 0 rfl) rfl 0 rfl ?_
    refine Q_getf (k := 38) (pc := 183) (DCa dc_Mod_tellLaw_2 1 rfl) cls_12 (Nat.le_of_ble_eq_true rfl) fl_12_290 rfl rfl rfl (fun v22 => ?_)
    refine Q_iastore (pc := 186) (DCa dc_Mod_tellLaw_2 2 rfl) (fun h23 => ?_)
    exact V_return (pc := 187) (DCa dc_Mod_tellLaw_2 3 rfl) rfl
theorem v_Mod_tellLaw_B110 (F : Nat) (R12 : Int → Int → Int → Int → Hp → Option (Int × Hp)) (hR12 : ∀ (l0 l1 l2 l3 : Int) (h : Hp), V X_Mod_tellLaw 12 [(0, 2, l0), (1, 0, l1), (2, 0, l2), (3, 0, l3)] [] h (R12 l0 l1 l2 l3 h)) (l0 l1 l2 l3 : Int) (h : Hp) : V X_Mod_tellLaw 110 [(0, 2, l0), (1, 0, l1), (2, 0, l2), (3, 0, l3)] [] h (Mod_tellLaw_B110 F R12 l0 l1 l2 l3 h) := by
  unfold Mod_tellLaw_B110
  refine V_aload_n (pc := 110) (DCa dc_Mod_tellLaw_1 8 rfl) rfl 0 rfl ?_
  refine V_bipush (pc := 111) (DCa dc_Mod_tellLaw_1 9 rfl) (by decide) ?_
  refine Q_callv (ci := 12) (st := []) (pc := 113) (DCa dc_Mod_tellLaw_1 10 rfl) (sp_Mod_must F _ _ _) ce_Mod_must ml_12_319 rfl rfl ⟨Nat.le_of_ble_eq_true rfl, Nat.le_of_ble_eq_true rfl⟩ rfl (Nat.le_of_ble_eq_true rfl) (fun r45 h46 => ?_)
  refine V_aload_n (pc := 116) (DCa dc_Mod_tellLaw_1 11 rfl) rfl 0 rfl ?_
  refine Q_callv (ci := 12) (st := []) (pc := 117) (DCa dc_Mod_tellLaw_1 12 rfl) (sp_Mod_term F _ _) ce_Mod_term ml_12_335 rfl rfl ⟨Nat.le_of_ble_eq_true rfl, Nat.le_of_ble_eq_true rfl⟩ rfl (Nat.le_of_ble_eq_true rfl) (fun r47 h48 => ?_)
  refine V_aload_n (pc := 120) (DCa dc_Mod_tellLaw_1 13 rfl) rfl 0 rfl ?_
  refine V_bipush (pc := 121) (DCa dc_Mod_tellLaw_1 14 rfl) (by decide) ?_
  refine Q_callv (ci := 12) (st := []) (pc := 123) (DCa dc_Mod_tellLaw_1 15 rfl) (sp_Mod_must F _ _ _) ce_Mod_must ml_12_319 rfl rfl ⟨Nat.le_of_ble_eq_true rfl, Nat.le_of_ble_eq_true rfl⟩ rfl (Nat.le_of_ble_eq_true rfl) (fun r49 h50 => ?_)
  refine V_goto (tgt := 12) (pc := 126) (DCa dc_Mod_tellLaw_1 16 rfl) (by decide) ?_
  exact hR12 _ _ _ _ _
theorem v_Mod_tellLaw_B38 (F : Nat) (R12 : Int → Int → Int → Int → Hp → Option (Int × Hp)) (hR12 : ∀ (l0 l1 l2 l3 : Int) (h : Hp), V X_Mod_tellLaw 12 [(0, 2, l0), (1, 0, l1), (2, 0, l2), (3, 0, l3)] [] h (R12 l0 l1 l2 l3 h)) (l0 l1 l2 l3 : Int) (h : Hp) : V X_Mod_tellLaw 38 [(0, 2, l0), (1, 0, l1), (2, 0, l2), (3, 0, l3)] [] h (Mod_tellLaw_B38 F R12 l0 l1 l2 l3 h) := by
  unfold Mod_tellLaw_B38
  refine V_aload_n (pc := 38) (DCa dc_Mod_tellLaw_0 21 rfl) rfl 0 rfl ?_
  refine Q_getf (k := 13) (pc := 39) (DCa dc_Mod_tellLaw_0 22 rfl) cls_12 (Nat.le_of_ble_eq_true rfl) fl_12_251 rfl rfl rfl (fun v24 => ?_)
  refine V_if_le (tgt := 46) (pc := 42) (DCa dc_Mod_tellLaw_0 23 rfl) (by decide) (fun _ => ?_) (fun _ => ?_)
  · exact V_return (pc := 45) (DCa dc_Mod_tellLaw_0 24 rfl) rfl
  · refine V_iinc (ls' := [(0, 2, l0), (1, 0, l1), (2, 0, l2), (3, 0, w32 (l3 + 1))]) (pc := 46) (DCa dc_Mod_tellLaw_0 25 rfl) (Nat.le_of_ble_eq_true rfl) (by decide) 3 rfl rfl ?_
    refine V_aload_n (pc := 49) (DCa dc_Mod_tellLaw_0 26 rfl) rfl 0 rfl ?_
    refine Q_callv (ci := 12) (st := []) (pc := 50) (DCa dc_Mod_tellLaw_0 27 rfl) (sp_Mod_goesOn F _ _) ce_Mod_goesOn ml_12_272 rfl rfl ⟨Nat.le_of_ble_eq_true rfl, Nat.le_of_ble_eq_true rfl⟩ rfl (Nat.le_of_ble_eq_true rfl) (fun r25 h26 => ?_)
    refine V_aload_n (pc := 53) (DCa dc_Mod_tellLaw_0 28 rfl) rfl 0 rfl ?_
    refine Q_getf (k := 39) (pc := 54) (DCa dc_Mod_tellLaw_0 29 rfl) cls_12 (Nat.le_of_ble_eq_true rfl) fl_12_91 rfl rfl rfl (fun v27 => ?_)
    refine V_aload_n (pc := 57) (DCa dc_Mod_tellLaw_0 30 rfl) rfl 0 rfl ?_
    refine Q_getf (k := 38) (pc := 58) (DCa dc_Mod_tellLaw_0 31 rfl) cls_12 (Nat.le_of_ble_eq_true rfl) fl_12_290 rfl rfl rfl (fun v28 => ?_)
    refine V_iconst (pc := 61) (DCa dc_Mod_tellLaw_0 32 rfl) (by decide) ?_
    refine Q_zastore (pc := 62) (DCa dc_Mod_tellLaw_0 33 rfl) (fun h29 => ?_)
    refine V_aload_n (pc := 63) (DCa dc_Mod_tellLaw_0 34 rfl) rfl 0 rfl ?_
    refine Q_getf (k := 40) (pc := 64) (DCa dc_Mod_tellLaw_0 35 rfl) cls_12 (Nat.le_of_ble_eq_true rfl) fl_12_95 rfl rfl rfl (fun v30 => ?_)
    refine V_aload_n (pc := 67) (DCa dc_Mod_tellLaw_0 36 rfl) rfl 0 rfl ?_
    refine Q_getf (k := 38) (pc := 68) (DCa dc_Mod_tellLaw_0 37 rfl) cls_12 (Nat.le_of_ble_eq_true rfl) fl_12_290 rfl rfl rfl (fun v31 => ?_)
    refine V_aload_n (pc := 71) (DCa dc_Mod_tellLaw_0 38 rfl) rfl 0 rfl ?_
    refine Q_getf (k := 44) (pc := 72) (DCa dc_Mod_tellLaw_0 39 rfl) cls_12 (Nat.le_of_ble_eq_true rfl) fl_12_293 rfl rfl rfl (fun v32 => ?_)
    refine Q_iastore (pc := 75) (DCa dc_Mod_tellLaw_0 40 rfl) (fun h33 => ?_)
    refine V_aload_n (pc := 76) (DCa dc_Mod_tellLaw_0 41 rfl) rfl 0 rfl ?_
    refine Q_callv (ci := 12) (st := []) (pc := 77) (DCa dc_Mod_tellLaw_0 42 rfl) (sp_Mod_expression F _ _) ce_Mod_expression ml_12_332 rfl rfl ⟨Nat.le_of_ble_eq_true rfl, Nat.le_of_ble_eq_true rfl⟩ rfl (Nat.le_of_ble_eq_true rfl) (fun r34 h35 => ?_)
    refine V_aload_n (pc := 80) (DCa dc_Mod_tellLaw_0 43 rfl) rfl 0 rfl ?_
    refine V_bipush (pc := 81) (DCa dc_Mod_tellLaw_0 44 rfl) (by decide) ?_
    refine Q_callv (ci := 12) (st := []) (pc := 83) (DCa dc_Mod_tellLaw_0 45 rfl) (sp_Mod_must F _ _ _) ce_Mod_must ml_12_319 rfl rfl ⟨Nat.le_of_ble_eq_true rfl, Nat.le_of_ble_eq_true rfl⟩ rfl (Nat.le_of_ble_eq_true rfl) (fun r36 h37 => ?_)
    refine V_aload_n (pc := 86) (DCa dc_Mod_tellLaw_0 46 rfl) rfl 0 rfl ?_
    refine Q_getf (k := 41) (pc := 87) (DCa dc_Mod_tellLaw_0 47 rfl) cls_12 (Nat.le_of_ble_eq_true rfl) fl_12_98 rfl rfl rfl (fun v38 => ?_)
    refine V_aload_n (pc := 90) (DCa dc_Mod_tellLaw_0 48 rfl) rfl 0 rfl ?_
    refine Q_getf (k := 38) (pc := 91) (DCa dc_Mod_tellLaw_0 49 rfl) cls_12 (Nat.le_of_ble_eq_true rfl) fl_12_290 rfl rfl rfl (fun v39 => ?_)
    refine V_aload_n (pc := 94) (DCa dc_Mod_tellLaw_1 0 rfl) rfl 0 rfl ?_
    refine Q_getf (k := 44) (pc := 95) (DCa dc_Mod_tellLaw_1 1 rfl) cls_12 (Nat.le_of_ble_eq_true rfl) fl_12_293 rfl rfl rfl (fun v40 => ?_)
    refine Q_iastore (pc := 98) (DCa dc_Mod_tellLaw_1 2 rfl) (fun h41 => ?_)
    refine V_aload_n (pc := 99) (DCa dc_Mod_tellLaw_1 3 rfl) rfl 0 rfl ?_
    refine Q_getf (k := 13) (pc := 100) (DCa dc_Mod_tellLaw_1 4 rfl) cls_12 (Nat.le_of_ble_eq_true rfl) fl_12_251 rfl rfl rfl (fun v42 => ?_)
    refine V_if_ne (tgt := 110) (pc := 103) (DCa dc_Mod_tellLaw_1 5 rfl) (by decide) (fun _ => ?_) (fun _ => ?_)
    · refine V_aload_n (pc := 106) (DCa dc_Mod_tellLaw_1 6 rfl) rfl 0 rfl ?_
      refine Q_callv (ci := 12) (st := []) (pc := 107) (DCa dc_Mod_tellLaw_1 7 rfl) (sp_Mod_expression F _ _) ce_Mod_expression ml_12_332 rfl rfl ⟨Nat.le_of_ble_eq_true rfl, Nat.le_of_ble_eq_true rfl⟩ rfl (Nat.le_of_ble_eq_true rfl) (fun r43 h44 => ?_)
      exact v_Mod_tellLaw_B110 F R12 hR12 _ _ _ _ _
    · exact v_Mod_tellLaw_B110 F R12 hR12 _ _ _ _ _
theorem v_Mod_tellLaw_L12s (F : Nat)  (R12 : Int → Int → Int → Int → Hp → Option (Int × Hp)) (hR12 : ∀ (l0 l1 l2 l3 : Int) (h : Hp), V X_Mod_tellLaw 12 [(0, 2, l0), (1, 0, l1), (2, 0, l2), (3, 0, l3)] [] h (R12 l0 l1 l2 l3 h)) (l0 l1 l2 l3 : Int) (h : Hp) : V X_Mod_tellLaw 12 [(0, 2, l0), (1, 0, l1), (2, 0, l2), (3, 0, l3)] [] h (Mod_tellLaw_L12s F  R12 l0 l1 l2 l3 h) := by
  unfold Mod_tellLaw_L12s
  refine V_aload_n (pc := 12) (DCa dc_Mod_tellLaw_0 8 rfl) rfl 0 rfl ?_
  refine Q_getf (k := 13) (pc := 13) (DCa dc_Mod_tellLaw_0 9 rfl) cls_12 (Nat.le_of_ble_eq_true rfl) fl_12_251 rfl rfl rfl (fun v4 => ?_)
  refine V_if_ne (tgt := 129) (pc := 16) (DCa dc_Mod_tellLaw_0 10 rfl) (by decide) (fun _ => ?_) (fun _ => ?_)
  · refine V_aload_n (pc := 19) (DCa dc_Mod_tellLaw_0 11 rfl) rfl 0 rfl ?_
    refine V_bipush (pc := 20) (DCa dc_Mod_tellLaw_0 12 rfl) (by decide) ?_
    refine Q_callv (ci := 12) (st := []) (pc := 22) (DCa dc_Mod_tellLaw_0 13 rfl) (sp_Mod_is F _ _ _) ce_Mod_is ml_12_269 rfl rfl ⟨Nat.le_of_ble_eq_true rfl, Nat.le_of_ble_eq_true rfl⟩ rfl (Nat.le_of_ble_eq_true rfl) (fun r5 h6 => ?_)
    refine V_if_eq (tgt := 129) (pc := 25) (DCa dc_Mod_tellLaw_0 14 rfl) (by decide) (fun _ => ?_) (fun _ => ?_)
    · refine V_pick [0, 1, 2] rfl ?_
      exact v_Mod_tellLaw_B129 F _ _ _ _
    · refine V_iload_n (pc := 28) (DCa dc_Mod_tellLaw_0 15 rfl) rfl 3 rfl ?_
      refine V_iconst (pc := 29) (DCa dc_Mod_tellLaw_0 16 rfl) (by decide) ?_
      refine V_icmp_ne (tgt := 38) (pc := 30) (DCa dc_Mod_tellLaw_0 17 rfl) (by decide) (fun _ => ?_) (fun _ => ?_)
      · refine V_aload_n (pc := 33) (DCa dc_Mod_tellLaw_0 18 rfl) rfl 0 rfl ?_
        refine V_iconst (pc := 34) (DCa dc_Mod_tellLaw_0 19 rfl) (by decide) ?_
        refine Q_callv (ci := 12) (st := []) (pc := 35) (DCa dc_Mod_tellLaw_0 20 rfl) (sp_Mod_fail F _ _ _) ce_Mod_fail ml_12_266 rfl rfl ⟨Nat.le_of_ble_eq_true rfl, Nat.le_of_ble_eq_true rfl⟩ rfl (Nat.le_of_ble_eq_true rfl) (fun r7 h8 => ?_)
        exact v_Mod_tellLaw_B38 F R12 hR12 _ _ _ _ _
      · exact v_Mod_tellLaw_B38 F R12 hR12 _ _ _ _ _
  · refine V_pick [0, 1, 2] rfl ?_
    exact v_Mod_tellLaw_B129 F _ _ _ _
theorem v_Mod_tellLaw_L12 (F : Nat)  (n : Nat) : ∀ (l0 l1 l2 l3 : Int) (h : Hp), V X_Mod_tellLaw 12 [(0, 2, l0), (1, 0, l1), (2, 0, l2), (3, 0, l3)] [] h (Mod_tellLaw_L12 F  n l0 l1 l2 l3 h) := by
  induction n with
  | zero => intros; exact V_none
  | succ n ih => exact fun l0 l1 l2 l3 h => v_Mod_tellLaw_L12s F  _ ih l0 l1 l2 l3 h
theorem v_Mod_tellLaw (F : Nat) (l0 l1 : Int) (h : Hp) : V X_Mod_tellLaw 0 [(0, 2, l0), (1, 0, l1)] [] h (Mod_tellLaw F l0 l1 h) := by
  unfold Mod_tellLaw
  refine V_aload_n (pc := 0) (DCa dc_Mod_tellLaw_0 0 rfl) rfl 0 rfl ?_
  refine V_iconst (pc := 1) (DCa dc_Mod_tellLaw_0 1 rfl) (by decide) ?_
  refine Q_callv (ci := 12) (st := []) (pc := 2) (DCa dc_Mod_tellLaw_0 2 rfl) (sp_Mod_must F _ _ _) ce_Mod_must ml_12_319 rfl rfl ⟨Nat.le_of_ble_eq_true rfl, Nat.le_of_ble_eq_true rfl⟩ rfl (Nat.le_of_ble_eq_true rfl) (fun r1 h2 => ?_)
  refine V_aload_n (pc := 5) (DCa dc_Mod_tellLaw_0 3 rfl) rfl 0 rfl ?_
  refine Q_getf (k := 38) (pc := 6) (DCa dc_Mod_tellLaw_0 4 rfl) cls_12 (Nat.le_of_ble_eq_true rfl) fl_12_290 rfl rfl rfl (fun v3 => ?_)
  refine V_istore_n (ls' := [(0, 2, l0), (1, 0, l1), (2, 0, v3)]) (pc := 9) (DCa dc_Mod_tellLaw_0 5 rfl) rfl (Nat.le_of_ble_eq_true rfl) rfl ?_
  refine V_iconst (pc := 10) (DCa dc_Mod_tellLaw_0 6 rfl) (by decide) ?_
  refine V_istore_n (ls' := [(0, 2, l0), (1, 0, l1), (2, 0, v3), (3, 0, 0)]) (pc := 11) (DCa dc_Mod_tellLaw_0 7 rfl) rfl (Nat.le_of_ble_eq_true rfl) rfl ?_
  exact v_Mod_tellLaw_L12 F F _ _ _ _ _
theorem sp_Mod_tellLaw (F : Nat) (l0 l1 : Int) (h : Hp) : Sp yX12_tellLaw cX12_tellLaw 4 none 6 123 [(2, l0), (0, l1)] h (Mod_tellLaw F l0 l1 h) := Sp_of (by decide +kernel) rfl rfl (Nat.le_of_ble_eq_true rfl) (v_Mod_tellLaw F l0 l1 h)

-- TideRakesModel.named
def Mod_named_L12s (F : Nat)  (R12 : Int → Int → Int → Hp → Option (Int × Hp)) (l0 l1 l2 : Int) (h : Hp) : Option (Int × Hp) :=
  gf h l0 112 20 fun v4 =>
  if l2 < v4 then
    (gf h l0 112 13 fun v5 =>
    if v5 = 0 then
      (gf h l0 112 21 fun v6 =>
      al h v6 3 l2 fun v7 =>
      gf h l0 112 8 fun v8 =>
      al h v8 3 l1 fun v9 =>
      if (lcmp v7 v9) = 0 then
        (iv h l0 112 (Mod_wrong F l0 3 l1 h) fun r10 h11 =>
        R12 l0 l1 (w32 (l2 + 1)) h11)
      else
        (R12 l0 l1 (w32 (l2 + 1)) h))
    else
      (some (l1, h)))
  else
    (some (l1, h))
def Mod_named_L12 (F : Nat)  : Nat → Int → Int → Int → Hp → Option (Int × Hp)
  | 0 => fun _ _ _ _ => none
  | n + 1 => Mod_named_L12s F  (Mod_named_L12 F  n)
def Mod_named (F : Nat) (l0 : Int) (h : Hp) : Option (Int × Hp) :=
  gf h l0 112 11 fun v1 =>
  iv h l0 112 (Mod_must F l0 1 h) fun r2 h3 =>
  Mod_named_L12 F F l0 v1 0 h3

theorem dc_Mod_named_0 : ∀ q ∈ ([(0, .aload_n 0, 1), (1, .getfield 254, 3), (4, .istore_n 1, 1), (5, .aload_n 0, 1), (6, .iconst 1, 1), (7, .invokevirtual 319, 3), (10, .iconst 0, 1), (11, .istore_n 2, 1), (12, .iload_n 2, 1), (13, .aload_n 0, 1), (14, .getfield 287, 3), (17, .if_icmp .ge 38, 3), (20, .aload_n 0, 1), (21, .getfield 251, 3), (24, .ifCond .ne 31, 3), (27, .aload_n 0, 1), (28, .getfield 40, 3), (31, .iload_n 2, 1), (32, .laload, 1), (33, .aload_n 0, 1), (34, .getfield 30, 3), (37, .iload_n 1, 1), (38, .laload, 1), (39, .lcmp, 1), (40, .ifCond .ne 9, 3), (43, .aload_n 0, 1), (44, .iconst 3, 1), (45, .iload_n 1, 1), (46, .invokevirtual 325, 3), (49, .iinc 2 1, 3), (52, .goto (-40), 3), (55, .iload_n 1, 1), (56, .ireturn, 1)] : List (Nat × Instr × Nat)), decode cX12_named q.1 = .ok (q.2.1, q.2.2) := by decide +kernel
abbrev X_Mod_named : MX := (cX12_named, RX12, "named", 3, (some (.int)), 4, 82)
theorem v_Mod_named_L12s (F : Nat)  (R12 : Int → Int → Int → Hp → Option (Int × Hp)) (hR12 : ∀ (l0 l1 l2 : Int) (h : Hp), V X_Mod_named 12 [(0, 2, l0), (1, 0, l1), (2, 0, l2)] [] h (R12 l0 l1 l2 h)) (l0 l1 l2 : Int) (h : Hp) : V X_Mod_named 12 [(0, 2, l0), (1, 0, l1), (2, 0, l2)] [] h (Mod_named_L12s F  R12 l0 l1 l2 h) := by
  unfold Mod_named_L12s
  refine V_iload_n (pc := 12) (DCa dc_Mod_named_0 8 rfl) rfl 2 rfl ?_
  refine V_aload_n (pc := 13) (DCa dc_Mod_named_0 9 rfl) rfl 0 rfl ?_
  refine Q_getf (k := 20) (pc := 14) (DCa dc_Mod_named_0 10 rfl) cls_12 (Nat.le_of_ble_eq_true rfl) fl_12_287 rfl rfl rfl (fun v4 => ?_)
  refine V_icmp_ge (tgt := 55) (pc := 17) (DCa dc_Mod_named_0 11 rfl) (by decide) (fun _ => ?_) (fun _ => ?_)
  · refine V_aload_n (pc := 20) (DCa dc_Mod_named_0 12 rfl) rfl 0 rfl ?_
    refine Q_getf (k := 13) (pc := 21) (DCa dc_Mod_named_0 13 rfl) cls_12 (Nat.le_of_ble_eq_true rfl) fl_12_251 rfl rfl rfl (fun v5 => ?_)
    refine V_if_ne (tgt := 55) (pc := 24) (DCa dc_Mod_named_0 14 rfl) (by decide) (fun _ => ?_) (fun _ => ?_)
    · refine V_aload_n (pc := 27) (DCa dc_Mod_named_0 15 rfl) rfl 0 rfl ?_
      refine Q_getf (k := 21) (pc := 28) (DCa dc_Mod_named_0 16 rfl) cls_12 (Nat.le_of_ble_eq_true rfl) fl_12_40 rfl rfl rfl (fun v6 => ?_)
      refine V_iload_n (pc := 31) (DCa dc_Mod_named_0 17 rfl) rfl 2 rfl ?_
      refine Q_laload (pc := 32) (DCa dc_Mod_named_0 18 rfl) (fun v7 => ?_)
      refine V_aload_n (pc := 33) (DCa dc_Mod_named_0 19 rfl) rfl 0 rfl ?_
      refine Q_getf (k := 8) (pc := 34) (DCa dc_Mod_named_0 20 rfl) cls_12 (Nat.le_of_ble_eq_true rfl) fl_12_30 rfl rfl rfl (fun v8 => ?_)
      refine V_iload_n (pc := 37) (DCa dc_Mod_named_0 21 rfl) rfl 1 rfl ?_
      refine Q_laload (pc := 38) (DCa dc_Mod_named_0 22 rfl) (fun v9 => ?_)
      refine V_lcmp (pc := 39) (DCa dc_Mod_named_0 23 rfl) ?_
      refine V_if_ne (tgt := 49) (pc := 40) (DCa dc_Mod_named_0 24 rfl) (by decide) (fun _ => ?_) (fun _ => ?_)
      · refine V_aload_n (pc := 43) (DCa dc_Mod_named_0 25 rfl) rfl 0 rfl ?_
        refine V_iconst (pc := 44) (DCa dc_Mod_named_0 26 rfl) (by decide) ?_
        refine V_iload_n (pc := 45) (DCa dc_Mod_named_0 27 rfl) rfl 1 rfl ?_
        refine Q_callv (ci := 12) (st := []) (pc := 46) (DCa dc_Mod_named_0 28 rfl) (sp_Mod_wrong F _ _ _ _) ce_Mod_wrong ml_12_325 rfl rfl ⟨Nat.le_of_ble_eq_true rfl, Nat.le_of_ble_eq_true rfl⟩ rfl (Nat.le_of_ble_eq_true rfl) (fun r10 h11 => ?_)
        refine V_iinc (ls' := [(0, 2, l0), (1, 0, l1), (2, 0, w32 (l2 + 1))]) (pc := 49) (DCa dc_Mod_named_0 29 rfl) (Nat.le_of_ble_eq_true rfl) (by decide) 2 rfl rfl ?_
        refine V_goto (tgt := 12) (pc := 52) (DCa dc_Mod_named_0 30 rfl) (by decide) ?_
        exact hR12 _ _ _ _
      · refine V_iinc (ls' := [(0, 2, l0), (1, 0, l1), (2, 0, w32 (l2 + 1))]) (pc := 49) (DCa dc_Mod_named_0 29 rfl) (Nat.le_of_ble_eq_true rfl) (by decide) 2 rfl rfl ?_
        refine V_goto (tgt := 12) (pc := 52) (DCa dc_Mod_named_0 30 rfl) (by decide) ?_
        exact hR12 _ _ _ _
    · refine V_iload_n (pc := 55) (DCa dc_Mod_named_0 31 rfl) rfl 1 rfl ?_
      exact V_ireturn (pc := 56) (DCa dc_Mod_named_0 32 rfl) rfl
  · refine V_iload_n (pc := 55) (DCa dc_Mod_named_0 31 rfl) rfl 1 rfl ?_
    exact V_ireturn (pc := 56) (DCa dc_Mod_named_0 32 rfl) rfl
theorem v_Mod_named_L12 (F : Nat)  (n : Nat) : ∀ (l0 l1 l2 : Int) (h : Hp), V X_Mod_named 12 [(0, 2, l0), (1, 0, l1), (2, 0, l2)] [] h (Mod_named_L12 F  n l0 l1 l2 h) := by
  induction n with
  | zero => intros; exact V_none
  | succ n ih => exact fun l0 l1 l2 h => v_Mod_named_L12s F  _ ih l0 l1 l2 h
theorem v_Mod_named (F : Nat) (l0 : Int) (h : Hp) : V X_Mod_named 0 [(0, 2, l0)] [] h (Mod_named F l0 h) := by
  unfold Mod_named
  refine V_aload_n (pc := 0) (DCa dc_Mod_named_0 0 rfl) rfl 0 rfl ?_
  refine Q_getf (k := 11) (pc := 1) (DCa dc_Mod_named_0 1 rfl) cls_12 (Nat.le_of_ble_eq_true rfl) fl_12_254 rfl rfl rfl (fun v1 => ?_)
  refine V_istore_n (ls' := [(0, 2, l0), (1, 0, v1)]) (pc := 4) (DCa dc_Mod_named_0 2 rfl) rfl (Nat.le_of_ble_eq_true rfl) rfl ?_
  refine V_aload_n (pc := 5) (DCa dc_Mod_named_0 3 rfl) rfl 0 rfl ?_
  refine V_iconst (pc := 6) (DCa dc_Mod_named_0 4 rfl) (by decide) ?_
  refine Q_callv (ci := 12) (st := []) (pc := 7) (DCa dc_Mod_named_0 5 rfl) (sp_Mod_must F _ _ _) ce_Mod_must ml_12_319 rfl rfl ⟨Nat.le_of_ble_eq_true rfl, Nat.le_of_ble_eq_true rfl⟩ rfl (Nat.le_of_ble_eq_true rfl) (fun r2 h3 => ?_)
  refine V_iconst (pc := 10) (DCa dc_Mod_named_0 6 rfl) (by decide) ?_
  refine V_istore_n (ls' := [(0, 2, l0), (1, 0, v1), (2, 0, 0)]) (pc := 11) (DCa dc_Mod_named_0 7 rfl) rfl (Nat.le_of_ble_eq_true rfl) rfl ?_
  exact v_Mod_named_L12 F F _ _ _ _
theorem sp_Mod_named (F : Nat) (l0 : Int) (h : Hp) : Sp yX12_named cX12_named 3 (some (.int)) 4 82 [(2, l0)] h (Mod_named F l0 h) := Sp_of (by decide +kernel) rfl rfl (Nat.le_of_ble_eq_true rfl) (v_Mod_named F l0 h)

-- TideRakesModel.tellPart
def Mod_tellPart (F : Nat) (l0 : Int) (h : Hp) : Option (Int × Hp) :=
  gf h l0 112 19 fun v1 =>
  gf h l0 112 22 fun v2 =>
  gf h l0 112 19 fun v3 =>
  al h v2 0 v3 fun v4 =>
  lt (w32 ((w32 (8 * v1)) + v4)) fun x5 =>
  iv h l0 112 (Mod_named F l0 h) fun r6 h7 =>
  gf h7 l0 112 23 fun v8 =>
  iv h7 l0 112 (Mod_bounded F l0 0 99 h7) fun r9 h10 =>
  as h10 v8 0 x5 r9 fun h11 =>
  gf h11 l0 112 24 fun v12 =>
  iv h11 l0 112 (Mod_bounded F l0 0 99 h11) fun r13 h14 =>
  as h14 v12 0 x5 r13 fun h15 =>
  gf h15 l0 112 25 fun v16 =>
  iv h15 l0 112 (Mod_bounded F l0 0 99 h15) fun r17 h18 =>
  as h18 v16 0 x5 r17 fun h19 =>
  gf h19 l0 112 26 fun v20 =>
  iv h19 l0 112 (Mod_bounded F l0 1 60 h19) fun r21 h22 =>
  as h22 v20 0 x5 r21 fun h23 =>
  iv h23 l0 112 (Mod_must F l0 4 h23) fun r24 h25 =>
  gf h25 l0 112 13 fun v26 =>
  if 0 < v26 then
    (some (0, h25))
  else
    (gf h25 l0 112 21 fun v27 =>
    gf h25 l0 112 20 fun v28 =>
    gf h25 l0 112 8 fun v29 =>
    al h25 v29 3 r6 fun v30 =>
    as h25 v27 3 v28 v30 fun h31 =>
    gf h31 l0 112 20 fun v32 =>
    pf h31 l0 112 20 (w32 (v32 + 1)) fun h33 =>
    gf h33 l0 112 22 fun v34 =>
    gf h33 l0 112 19 fun v35 =>
    al h33 v34 0 v35 fun v36 =>
    as h33 v34 0 v35 (w32 (v36 + 1)) fun h37 =>
    some (0, h37))

theorem dc_Mod_tellPart_0 : ∀ q ∈ ([(0, .bipush 8, 2), (2, .aload_n 0, 1), (3, .getfield 284, 3), (6, .imul, 1), (7, .aload_n 0, 1), (8, .getfield 43, 3), (11, .aload_n 0, 1), (12, .getfield 284, 3), (15, .iaload, 1), (16, .iadd, 1), (17, .istore_n 1, 1), (18, .aload_n 0, 1), (19, .invokevirtual 328, 3), (22, .istore_n 2, 1), (23, .aload_n 0, 1), (24, .getfield 46, 3), (27, .iload_n 1, 1), (28, .aload_n 0, 1), (29, .iconst 0, 1), (30, .bipush 99, 2), (32, .invokevirtual 315, 3), (35, .iastore, 1), (36, .aload_n 0, 1), (37, .getfield 49, 3), (40, .iload_n 1, 1), (41, .aload_n 0, 1), (42, .iconst 0, 1), (43, .bipush 99, 2), (45, .invokevirtual 315, 3), (48, .iastore, 1), (49, .aload_n 0, 1), (50, .getfield 52, 3), (53, .iload_n 1, 1), (54, .aload_n 0, 1), (55, .iconst 0, 1), (56, .bipush 99, 2), (58, .invokevirtual 315, 3), (61, .iastore, 1), (62, .aload_n 0, 1), (63, .getfield 55, 3), (66, .iload_n 1, 1), (67, .aload_n 0, 1), (68, .iconst 1, 1), (69, .bipush 60, 2), (71, .invokevirtual 315, 3), (74, .iastore, 1), (75, .aload_n 0, 1), (76, .iconst 4, 1), (77, .invokevirtual 319, 3), (80, .aload_n 0, 1)] : List (Nat × Instr × Nat)), decode cX12_tellPart q.1 = .ok (q.2.1, q.2.2) := by decide +kernel
theorem dc_Mod_tellPart_1 : ∀ q ∈ ([(81, .getfield 251, 3), (84, .ifCond .le 4, 3), (87, .return_, 1), (88, .aload_n 0, 1), (89, .getfield 40, 3), (92, .aload_n 0, 1), (93, .getfield 287, 3), (96, .aload_n 0, 1), (97, .getfield 30, 3), (100, .iload_n 2, 1), (101, .laload, 1), (102, .lastore, 1), (103, .aload_n 0, 1), (104, .dup, 1), (105, .getfield 287, 3), (108, .iconst 1, 1), (109, .iadd, 1), (110, .putfield 287, 3), (113, .aload_n 0, 1), (114, .getfield 43, 3), (117, .aload_n 0, 1), (118, .getfield 284, 3), (121, .dup2, 1), (122, .iaload, 1), (123, .iconst 1, 1), (124, .iadd, 1), (125, .iastore, 1), (126, .return_, 1)] : List (Nat × Instr × Nat)), decode cX12_tellPart q.1 = .ok (q.2.1, q.2.2) := by decide +kernel
abbrev X_Mod_tellPart : MX := (cX12_tellPart, RX12, "tellPart", 3, none, 5, 104)
theorem v_Mod_tellPart (F : Nat) (l0 : Int) (h : Hp) : V X_Mod_tellPart 0 [(0, 2, l0)] [] h (Mod_tellPart F l0 h) := by
  unfold Mod_tellPart
  refine V_bipush (pc := 0) (DCa dc_Mod_tellPart_0 0 rfl) (by decide) ?_
  refine V_aload_n (pc := 2) (DCa dc_Mod_tellPart_0 1 rfl) rfl 0 rfl ?_
  refine Q_getf (k := 19) (pc := 3) (DCa dc_Mod_tellPart_0 2 rfl) cls_12 (Nat.le_of_ble_eq_true rfl) fl_12_284 rfl rfl rfl (fun v1 => ?_)
  refine V_imul (pc := 6) (DCa dc_Mod_tellPart_0 3 rfl) ?_
  refine V_aload_n (pc := 7) (DCa dc_Mod_tellPart_0 4 rfl) rfl 0 rfl ?_
  refine Q_getf (k := 22) (pc := 8) (DCa dc_Mod_tellPart_0 5 rfl) cls_12 (Nat.le_of_ble_eq_true rfl) fl_12_43 rfl rfl rfl (fun v2 => ?_)
  refine V_aload_n (pc := 11) (DCa dc_Mod_tellPart_0 6 rfl) rfl 0 rfl ?_
  refine Q_getf (k := 19) (pc := 12) (DCa dc_Mod_tellPart_0 7 rfl) cls_12 (Nat.le_of_ble_eq_true rfl) fl_12_284 rfl rfl rfl (fun v3 => ?_)
  refine Q_iaload (pc := 15) (DCa dc_Mod_tellPart_0 8 rfl) (fun v4 => ?_)
  refine V_iadd (pc := 16) (DCa dc_Mod_tellPart_0 9 rfl) ?_
  refine Q_lt (fun x5 => ?_)
  refine V_istore_n (ls' := [(0, 2, l0), (1, 0, x5)]) (pc := 17) (DCa dc_Mod_tellPart_0 10 rfl) rfl (Nat.le_of_ble_eq_true rfl) rfl ?_
  refine V_aload_n (pc := 18) (DCa dc_Mod_tellPart_0 11 rfl) rfl 0 rfl ?_
  refine Q_callv (ci := 12) (st := []) (pc := 19) (DCa dc_Mod_tellPart_0 12 rfl) (sp_Mod_named F _ _) ce_Mod_named ml_12_328 rfl rfl ⟨Nat.le_of_ble_eq_true rfl, Nat.le_of_ble_eq_true rfl⟩ rfl (Nat.le_of_ble_eq_true rfl) (fun r6 h7 => ?_)
  refine V_istore_n (ls' := [(0, 2, l0), (1, 0, x5), (2, 0, r6)]) (pc := 22) (DCa dc_Mod_tellPart_0 13 rfl) rfl (Nat.le_of_ble_eq_true rfl) rfl ?_
  refine V_aload_n (pc := 23) (DCa dc_Mod_tellPart_0 14 rfl) rfl 0 rfl ?_
  refine Q_getf (k := 23) (pc := 24) (DCa dc_Mod_tellPart_0 15 rfl) cls_12 (Nat.le_of_ble_eq_true rfl) fl_12_46 rfl rfl rfl (fun v8 => ?_)
  refine V_iload_n (pc := 27) (DCa dc_Mod_tellPart_0 16 rfl) rfl 1 rfl ?_
  refine V_aload_n (pc := 28) (DCa dc_Mod_tellPart_0 17 rfl) rfl 0 rfl ?_
  refine V_iconst (pc := 29) (DCa dc_Mod_tellPart_0 18 rfl) (by decide) ?_
  refine V_bipush (pc := 30) (DCa dc_Mod_tellPart_0 19 rfl) (by decide) ?_
  refine Q_callv (ci := 12) (st := [(0, x5), (2, v8)]) (pc := 32) (DCa dc_Mod_tellPart_0 20 rfl) (sp_Mod_bounded F _ _ _ _) ce_Mod_bounded ml_12_315 rfl rfl ⟨Nat.le_of_ble_eq_true rfl, Nat.le_of_ble_eq_true rfl⟩ rfl (Nat.le_of_ble_eq_true rfl) (fun r9 h10 => ?_)
  refine Q_iastore (pc := 35) (DCa dc_Mod_tellPart_0 21 rfl) (fun h11 => ?_)
  refine V_aload_n (pc := 36) (DCa dc_Mod_tellPart_0 22 rfl) rfl 0 rfl ?_
  refine Q_getf (k := 24) (pc := 37) (DCa dc_Mod_tellPart_0 23 rfl) cls_12 (Nat.le_of_ble_eq_true rfl) fl_12_49 rfl rfl rfl (fun v12 => ?_)
  refine V_iload_n (pc := 40) (DCa dc_Mod_tellPart_0 24 rfl) rfl 1 rfl ?_
  refine V_aload_n (pc := 41) (DCa dc_Mod_tellPart_0 25 rfl) rfl 0 rfl ?_
  refine V_iconst (pc := 42) (DCa dc_Mod_tellPart_0 26 rfl) (by decide) ?_
  refine V_bipush (pc := 43) (DCa dc_Mod_tellPart_0 27 rfl) (by decide) ?_
  refine Q_callv (ci := 12) (st := [(0, x5), (2, v12)]) (pc := 45) (DCa dc_Mod_tellPart_0 28 rfl) (sp_Mod_bounded F _ _ _ _) ce_Mod_bounded ml_12_315 rfl rfl ⟨Nat.le_of_ble_eq_true rfl, Nat.le_of_ble_eq_true rfl⟩ rfl (Nat.le_of_ble_eq_true rfl) (fun r13 h14 => ?_)
  refine Q_iastore (pc := 48) (DCa dc_Mod_tellPart_0 29 rfl) (fun h15 => ?_)
  refine V_aload_n (pc := 49) (DCa dc_Mod_tellPart_0 30 rfl) rfl 0 rfl ?_
  refine Q_getf (k := 25) (pc := 50) (DCa dc_Mod_tellPart_0 31 rfl) cls_12 (Nat.le_of_ble_eq_true rfl) fl_12_52 rfl rfl rfl (fun v16 => ?_)
  refine V_iload_n (pc := 53) (DCa dc_Mod_tellPart_0 32 rfl) rfl 1 rfl ?_
  refine V_aload_n (pc := 54) (DCa dc_Mod_tellPart_0 33 rfl) rfl 0 rfl ?_
  refine V_iconst (pc := 55) (DCa dc_Mod_tellPart_0 34 rfl) (by decide) ?_
  refine V_bipush (pc := 56) (DCa dc_Mod_tellPart_0 35 rfl) (by decide) ?_
  refine Q_callv (ci := 12) (st := [(0, x5), (2, v16)]) (pc := 58) (DCa dc_Mod_tellPart_0 36 rfl) (sp_Mod_bounded F _ _ _ _) ce_Mod_bounded ml_12_315 rfl rfl ⟨Nat.le_of_ble_eq_true rfl, Nat.le_of_ble_eq_true rfl⟩ rfl (Nat.le_of_ble_eq_true rfl) (fun r17 h18 => ?_)
  refine Q_iastore (pc := 61) (DCa dc_Mod_tellPart_0 37 rfl) (fun h19 => ?_)
  refine V_aload_n (pc := 62) (DCa dc_Mod_tellPart_0 38 rfl) rfl 0 rfl ?_
  refine Q_getf (k := 26) (pc := 63) (DCa dc_Mod_tellPart_0 39 rfl) cls_12 (Nat.le_of_ble_eq_true rfl) fl_12_55 rfl rfl rfl (fun v20 => ?_)
  refine V_iload_n (pc := 66) (DCa dc_Mod_tellPart_0 40 rfl) rfl 1 rfl ?_
  refine V_aload_n (pc := 67) (DCa dc_Mod_tellPart_0 41 rfl) rfl 0 rfl ?_
  refine V_iconst (pc := 68) (DCa dc_Mod_tellPart_0 42 rfl) (by decide) ?_
  refine V_bipush (pc := 69) (DCa dc_Mod_tellPart_0 43 rfl) (by decide) ?_
  refine Q_callv (ci := 12) (st := [(0, x5), (2, v20)]) (pc := 71) (DCa dc_Mod_tellPart_0 44 rfl) (sp_Mod_bounded F _ _ _ _) ce_Mod_bounded ml_12_315 rfl rfl ⟨Nat.le_of_ble_eq_true rfl, Nat.le_of_ble_eq_true rfl⟩ rfl (Nat.le_of_ble_eq_true rfl) (fun r21 h22 => ?_)
  refine Q_iastore (pc := 74) (DCa dc_Mod_tellPart_0 45 rfl) (fun h23 => ?_)
  refine V_aload_n (pc := 75) (DCa dc_Mod_tellPart_0 46 rfl) rfl 0 rfl ?_
  refine V_iconst (pc := 76) (DCa dc_Mod_tellPart_0 47 rfl) (by decide) ?_
  refine Q_callv (ci := 12) (st := []) (pc := 77) (DCa dc_Mod_tellPart_0 48 rfl) (sp_Mod_must F _ _ _) ce_Mod_must ml_12_319 rfl rfl ⟨Nat.le_of_ble_eq_true rfl, Nat.le_of_ble_eq_true rfl⟩ rfl (Nat.le_of_ble_eq_true rfl) (fun r24 h25 => ?_)
  refine V_aload_n (pc := 80) (DCa dc_Mod_tellPart_0 49 rfl) rfl 0 rfl ?_
  refine Q_getf (k := 13) (pc := 81) (DCa dc_Mod_tellPart_1 0 rfl) cls_12 (Nat.le_of_ble_eq_true rfl) fl_12_251 rfl rfl rfl (fun v26 => ?_)
  refine V_if_le (tgt := 88) (pc := 84) (DCa dc_Mod_tellPart_1 1 rfl) (by decide) (fun _ => ?_) (fun _ => ?_)
  · exact V_return (pc := 87) (DCa dc_Mod_tellPart_1 2 rfl) rfl
  · refine V_aload_n (pc := 88) (DCa dc_Mod_tellPart_1 3 rfl) rfl 0 rfl ?_
    refine Q_getf (k := 21) (pc := 89) (DCa dc_Mod_tellPart_1 4 rfl) cls_12 (Nat.le_of_ble_eq_true rfl) fl_12_40 rfl rfl rfl (fun v27 => ?_)
    refine V_aload_n (pc := 92) (DCa dc_Mod_tellPart_1 5 rfl) rfl 0 rfl ?_
    refine Q_getf (k := 20) (pc := 93) (DCa dc_Mod_tellPart_1 6 rfl) cls_12 (Nat.le_of_ble_eq_true rfl) fl_12_287 rfl rfl rfl (fun v28 => ?_)
    refine V_aload_n (pc := 96) (DCa dc_Mod_tellPart_1 7 rfl) rfl 0 rfl ?_
    refine Q_getf (k := 8) (pc := 97) (DCa dc_Mod_tellPart_1 8 rfl) cls_12 (Nat.le_of_ble_eq_true rfl) fl_12_30 rfl rfl rfl (fun v29 => ?_)
    refine V_iload_n (pc := 100) (DCa dc_Mod_tellPart_1 9 rfl) rfl 2 rfl ?_
    refine Q_laload (pc := 101) (DCa dc_Mod_tellPart_1 10 rfl) (fun v30 => ?_)
    refine Q_lastore (pc := 102) (DCa dc_Mod_tellPart_1 11 rfl) (fun h31 => ?_)
    refine V_aload_n (pc := 103) (DCa dc_Mod_tellPart_1 12 rfl) rfl 0 rfl ?_
    refine V_dup (pc := 104) (DCa dc_Mod_tellPart_1 13 rfl) rfl ?_
    refine Q_getf (k := 20) (pc := 105) (DCa dc_Mod_tellPart_1 14 rfl) cls_12 (Nat.le_of_ble_eq_true rfl) fl_12_287 rfl rfl rfl (fun v32 => ?_)
    refine V_iconst (pc := 108) (DCa dc_Mod_tellPart_1 15 rfl) (by decide) ?_
    refine V_iadd (pc := 109) (DCa dc_Mod_tellPart_1 16 rfl) ?_
    refine Q_putf (k := 20) (pc := 110) (DCa dc_Mod_tellPart_1 17 rfl) cls_12 (Nat.le_of_ble_eq_true rfl) fl_12_287 rfl rfl rfl (Or.inl rfl) (Or.inl ⟨rfl, rfl⟩) (fun h33 => ?_)
    refine V_aload_n (pc := 113) (DCa dc_Mod_tellPart_1 18 rfl) rfl 0 rfl ?_
    refine Q_getf (k := 22) (pc := 114) (DCa dc_Mod_tellPart_1 19 rfl) cls_12 (Nat.le_of_ble_eq_true rfl) fl_12_43 rfl rfl rfl (fun v34 => ?_)
    refine V_aload_n (pc := 117) (DCa dc_Mod_tellPart_1 20 rfl) rfl 0 rfl ?_
    refine Q_getf (k := 19) (pc := 118) (DCa dc_Mod_tellPart_1 21 rfl) cls_12 (Nat.le_of_ble_eq_true rfl) fl_12_284 rfl rfl rfl (fun v35 => ?_)
    refine V_dup2 (pc := 121) (DCa dc_Mod_tellPart_1 22 rfl) rfl rfl ?_
    refine Q_iaload (pc := 122) (DCa dc_Mod_tellPart_1 23 rfl) (fun v36 => ?_)
    refine V_iconst (pc := 123) (DCa dc_Mod_tellPart_1 24 rfl) (by decide) ?_
    refine V_iadd (pc := 124) (DCa dc_Mod_tellPart_1 25 rfl) ?_
    refine Q_iastore (pc := 125) (DCa dc_Mod_tellPart_1 26 rfl) (fun h37 => ?_)
    exact V_return (pc := 126) (DCa dc_Mod_tellPart_1 27 rfl) rfl
theorem sp_Mod_tellPart (F : Nat) (l0 : Int) (h : Hp) : Sp yX12_tellPart cX12_tellPart 3 none 5 104 [(2, l0)] h (Mod_tellPart F l0 h) := Sp_of (by decide +kernel) rfl rfl (Nat.le_of_ble_eq_true rfl) (v_Mod_tellPart F l0 h)

-- TideRakesModel.tellWorker
def Mod_tellWorker (F : Nat) (l0 : Int) (h : Hp) : Option (Int × Hp) :=
  gf h l0 112 19 fun v1 =>
  gf h l0 112 27 fun v2 =>
  gf h l0 112 19 fun v3 =>
  al h v2 0 v3 fun v4 =>
  lt (w32 ((w32 (3 * v1)) + v4)) fun x5 =>
  iv h l0 112 (Mod_named F l0 h) fun r6 h7 =>
  gf h7 l0 112 28 fun v8 =>
  iv h7 l0 112 (Mod_bounded F l0 0 99 h7) fun r9 h10 =>
  as h10 v8 0 x5 r9 fun h11 =>
  gf h11 l0 112 29 fun v12 =>
  iv h11 l0 112 (Mod_bounded F l0 0 99 h11) fun r13 h14 =>
  as h14 v12 0 x5 r13 fun h15 =>
  gf h15 l0 112 30 fun v16 =>
  iv h15 l0 112 (Mod_bounded F l0 1 20 h15) fun r17 h18 =>
  as h18 v16 0 x5 r17 fun h19 =>
  iv h19 l0 112 (Mod_must F l0 4 h19) fun r20 h21 =>
  gf h21 l0 112 13 fun v22 =>
  if 0 < v22 then
    (some (0, h21))
  else
    (gf h21 l0 112 21 fun v23 =>
    gf h21 l0 112 20 fun v24 =>
    gf h21 l0 112 8 fun v25 =>
    al h21 v25 3 r6 fun v26 =>
    as h21 v23 3 v24 v26 fun h27 =>
    gf h27 l0 112 20 fun v28 =>
    pf h27 l0 112 20 (w32 (v28 + 1)) fun h29 =>
    gf h29 l0 112 27 fun v30 =>
    gf h29 l0 112 19 fun v31 =>
    al h29 v30 0 v31 fun v32 =>
    as h29 v30 0 v31 (w32 (v32 + 1)) fun h33 =>
    some (0, h33))

theorem dc_Mod_tellWorker_0 : ∀ q ∈ ([(0, .iconst 3, 1), (1, .aload_n 0, 1), (2, .getfield 284, 3), (5, .imul, 1), (6, .aload_n 0, 1), (7, .getfield 58, 3), (10, .aload_n 0, 1), (11, .getfield 284, 3), (14, .iaload, 1), (15, .iadd, 1), (16, .istore_n 1, 1), (17, .aload_n 0, 1), (18, .invokevirtual 328, 3), (21, .istore_n 2, 1), (22, .aload_n 0, 1), (23, .getfield 61, 3), (26, .iload_n 1, 1), (27, .aload_n 0, 1), (28, .iconst 0, 1), (29, .bipush 99, 2), (31, .invokevirtual 315, 3), (34, .iastore, 1), (35, .aload_n 0, 1), (36, .getfield 64, 3), (39, .iload_n 1, 1), (40, .aload_n 0, 1), (41, .iconst 0, 1), (42, .bipush 99, 2), (44, .invokevirtual 315, 3), (47, .iastore, 1), (48, .aload_n 0, 1), (49, .getfield 67, 3), (52, .iload_n 1, 1), (53, .aload_n 0, 1), (54, .iconst 1, 1), (55, .bipush 20, 2), (57, .invokevirtual 315, 3), (60, .iastore, 1), (61, .aload_n 0, 1), (62, .iconst 4, 1), (63, .invokevirtual 319, 3), (66, .aload_n 0, 1), (67, .getfield 251, 3), (70, .ifCond .le 4, 3), (73, .return_, 1), (74, .aload_n 0, 1), (75, .getfield 40, 3), (78, .aload_n 0, 1), (79, .getfield 287, 3), (82, .aload_n 0, 1)] : List (Nat × Instr × Nat)), decode cX12_tellWorker q.1 = .ok (q.2.1, q.2.2) := by decide +kernel
theorem dc_Mod_tellWorker_1 : ∀ q ∈ ([(83, .getfield 30, 3), (86, .iload_n 2, 1), (87, .laload, 1), (88, .lastore, 1), (89, .aload_n 0, 1), (90, .dup, 1), (91, .getfield 287, 3), (94, .iconst 1, 1), (95, .iadd, 1), (96, .putfield 287, 3), (99, .aload_n 0, 1), (100, .getfield 58, 3), (103, .aload_n 0, 1), (104, .getfield 284, 3), (107, .dup2, 1), (108, .iaload, 1), (109, .iconst 1, 1), (110, .iadd, 1), (111, .iastore, 1), (112, .return_, 1)] : List (Nat × Instr × Nat)), decode cX12_tellWorker q.1 = .ok (q.2.1, q.2.2) := by decide +kernel
abbrev X_Mod_tellWorker : MX := (cX12_tellWorker, RX12, "tellWorker", 3, none, 5, 104)
theorem v_Mod_tellWorker (F : Nat) (l0 : Int) (h : Hp) : V X_Mod_tellWorker 0 [(0, 2, l0)] [] h (Mod_tellWorker F l0 h) := by
  unfold Mod_tellWorker
  refine V_iconst (pc := 0) (DCa dc_Mod_tellWorker_0 0 rfl) (by decide) ?_
  refine V_aload_n (pc := 1) (DCa dc_Mod_tellWorker_0 1 rfl) rfl 0 rfl ?_
  refine Q_getf (k := 19) (pc := 2) (DCa dc_Mod_tellWorker_0 2 rfl) cls_12 (Nat.le_of_ble_eq_true rfl) fl_12_284 rfl rfl rfl (fun v1 => ?_)
  refine V_imul (pc := 5) (DCa dc_Mod_tellWorker_0 3 rfl) ?_
  refine V_aload_n (pc := 6) (DCa dc_Mod_tellWorker_0 4 rfl) rfl 0 rfl ?_
  refine Q_getf (k := 27) (pc := 7) (DCa dc_Mod_tellWorker_0 5 rfl) cls_12 (Nat.le_of_ble_eq_true rfl) fl_12_58 rfl rfl rfl (fun v2 => ?_)
  refine V_aload_n (pc := 10) (DCa dc_Mod_tellWorker_0 6 rfl) rfl 0 rfl ?_
  refine Q_getf (k := 19) (pc := 11) (DCa dc_Mod_tellWorker_0 7 rfl) cls_12 (Nat.le_of_ble_eq_true rfl) fl_12_284 rfl rfl rfl (fun v3 => ?_)
  refine Q_iaload (pc := 14) (DCa dc_Mod_tellWorker_0 8 rfl) (fun v4 => ?_)
  refine V_iadd (pc := 15) (DCa dc_Mod_tellWorker_0 9 rfl) ?_
  refine Q_lt (fun x5 => ?_)
  refine V_istore_n (ls' := [(0, 2, l0), (1, 0, x5)]) (pc := 16) (DCa dc_Mod_tellWorker_0 10 rfl) rfl (Nat.le_of_ble_eq_true rfl) rfl ?_
  refine V_aload_n (pc := 17) (DCa dc_Mod_tellWorker_0 11 rfl) rfl 0 rfl ?_
  refine Q_callv (ci := 12) (st := []) (pc := 18) (DCa dc_Mod_tellWorker_0 12 rfl) (sp_Mod_named F _ _) ce_Mod_named ml_12_328 rfl rfl ⟨Nat.le_of_ble_eq_true rfl, Nat.le_of_ble_eq_true rfl⟩ rfl (Nat.le_of_ble_eq_true rfl) (fun r6 h7 => ?_)
  refine V_istore_n (ls' := [(0, 2, l0), (1, 0, x5), (2, 0, r6)]) (pc := 21) (DCa dc_Mod_tellWorker_0 13 rfl) rfl (Nat.le_of_ble_eq_true rfl) rfl ?_
  refine V_aload_n (pc := 22) (DCa dc_Mod_tellWorker_0 14 rfl) rfl 0 rfl ?_
  refine Q_getf (k := 28) (pc := 23) (DCa dc_Mod_tellWorker_0 15 rfl) cls_12 (Nat.le_of_ble_eq_true rfl) fl_12_61 rfl rfl rfl (fun v8 => ?_)
  refine V_iload_n (pc := 26) (DCa dc_Mod_tellWorker_0 16 rfl) rfl 1 rfl ?_
  refine V_aload_n (pc := 27) (DCa dc_Mod_tellWorker_0 17 rfl) rfl 0 rfl ?_
  refine V_iconst (pc := 28) (DCa dc_Mod_tellWorker_0 18 rfl) (by decide) ?_
  refine V_bipush (pc := 29) (DCa dc_Mod_tellWorker_0 19 rfl) (by decide) ?_
  refine Q_callv (ci := 12) (st := [(0, x5), (2, v8)]) (pc := 31) (DCa dc_Mod_tellWorker_0 20 rfl) (sp_Mod_bounded F _ _ _ _) ce_Mod_bounded ml_12_315 rfl rfl ⟨Nat.le_of_ble_eq_true rfl, Nat.le_of_ble_eq_true rfl⟩ rfl (Nat.le_of_ble_eq_true rfl) (fun r9 h10 => ?_)
  refine Q_iastore (pc := 34) (DCa dc_Mod_tellWorker_0 21 rfl) (fun h11 => ?_)
  refine V_aload_n (pc := 35) (DCa dc_Mod_tellWorker_0 22 rfl) rfl 0 rfl ?_
  refine Q_getf (k := 29) (pc := 36) (DCa dc_Mod_tellWorker_0 23 rfl) cls_12 (Nat.le_of_ble_eq_true rfl) fl_12_64 rfl rfl rfl (fun v12 => ?_)
  refine V_iload_n (pc := 39) (DCa dc_Mod_tellWorker_0 24 rfl) rfl 1 rfl ?_
  refine V_aload_n (pc := 40) (DCa dc_Mod_tellWorker_0 25 rfl) rfl 0 rfl ?_
  refine V_iconst (pc := 41) (DCa dc_Mod_tellWorker_0 26 rfl) (by decide) ?_
  refine V_bipush (pc := 42) (DCa dc_Mod_tellWorker_0 27 rfl) (by decide) ?_
  refine Q_callv (ci := 12) (st := [(0, x5), (2, v12)]) (pc := 44) (DCa dc_Mod_tellWorker_0 28 rfl) (sp_Mod_bounded F _ _ _ _) ce_Mod_bounded ml_12_315 rfl rfl ⟨Nat.le_of_ble_eq_true rfl, Nat.le_of_ble_eq_true rfl⟩ rfl (Nat.le_of_ble_eq_true rfl) (fun r13 h14 => ?_)
  refine Q_iastore (pc := 47) (DCa dc_Mod_tellWorker_0 29 rfl) (fun h15 => ?_)
  refine V_aload_n (pc := 48) (DCa dc_Mod_tellWorker_0 30 rfl) rfl 0 rfl ?_
  refine Q_getf (k := 30) (pc := 49) (DCa dc_Mod_tellWorker_0 31 rfl) cls_12 (Nat.le_of_ble_eq_true rfl) fl_12_67 rfl rfl rfl (fun v16 => ?_)
  refine V_iload_n (pc := 52) (DCa dc_Mod_tellWorker_0 32 rfl) rfl 1 rfl ?_
  refine V_aload_n (pc := 53) (DCa dc_Mod_tellWorker_0 33 rfl) rfl 0 rfl ?_
  refine V_iconst (pc := 54) (DCa dc_Mod_tellWorker_0 34 rfl) (by decide) ?_
  refine V_bipush (pc := 55) (DCa dc_Mod_tellWorker_0 35 rfl) (by decide) ?_
  refine Q_callv (ci := 12) (st := [(0, x5), (2, v16)]) (pc := 57) (DCa dc_Mod_tellWorker_0 36 rfl) (sp_Mod_bounded F _ _ _ _) ce_Mod_bounded ml_12_315 rfl rfl ⟨Nat.le_of_ble_eq_true rfl, Nat.le_of_ble_eq_true rfl⟩ rfl (Nat.le_of_ble_eq_true rfl) (fun r17 h18 => ?_)
  refine Q_iastore (pc := 60) (DCa dc_Mod_tellWorker_0 37 rfl) (fun h19 => ?_)
  refine V_aload_n (pc := 61) (DCa dc_Mod_tellWorker_0 38 rfl) rfl 0 rfl ?_
  refine V_iconst (pc := 62) (DCa dc_Mod_tellWorker_0 39 rfl) (by decide) ?_
  refine Q_callv (ci := 12) (st := []) (pc := 63) (DCa dc_Mod_tellWorker_0 40 rfl) (sp_Mod_must F _ _ _) ce_Mod_must ml_12_319 rfl rfl ⟨Nat.le_of_ble_eq_true rfl, Nat.le_of_ble_eq_true rfl⟩ rfl (Nat.le_of_ble_eq_true rfl) (fun r20 h21 => ?_)
  refine V_aload_n (pc := 66) (DCa dc_Mod_tellWorker_0 41 rfl) rfl 0 rfl ?_
  refine Q_getf (k := 13) (pc := 67) (DCa dc_Mod_tellWorker_0 42 rfl) cls_12 (Nat.le_of_ble_eq_true rfl) fl_12_251 rfl rfl rfl (fun v22 => ?_)
  refine V_if_le (tgt := 74) (pc := 70) (DCa dc_Mod_tellWorker_0 43 rfl) (by decide) (fun _ => ?_) (fun _ => ?_)
  · exact V_return (pc := 73) (DCa dc_Mod_tellWorker_0 44 rfl) rfl
  · refine V_aload_n (pc := 74) (DCa dc_Mod_tellWorker_0 45 rfl) rfl 0 rfl ?_
    refine Q_getf (k := 21) (pc := 75) (DCa dc_Mod_tellWorker_0 46 rfl) cls_12 (Nat.le_of_ble_eq_true rfl) fl_12_40 rfl rfl rfl (fun v23 => ?_)
    refine V_aload_n (pc := 78) (DCa dc_Mod_tellWorker_0 47 rfl) rfl 0 rfl ?_
    refine Q_getf (k := 20) (pc := 79) (DCa dc_Mod_tellWorker_0 48 rfl) cls_12 (Nat.le_of_ble_eq_true rfl) fl_12_287 rfl rfl rfl (fun v24 => ?_)
    refine V_aload_n (pc := 82) (DCa dc_Mod_tellWorker_0 49 rfl) rfl 0 rfl ?_
    refine Q_getf (k := 8) (pc := 83) (DCa dc_Mod_tellWorker_1 0 rfl) cls_12 (Nat.le_of_ble_eq_true rfl) fl_12_30 rfl rfl rfl (fun v25 => ?_)
    refine V_iload_n (pc := 86) (DCa dc_Mod_tellWorker_1 1 rfl) rfl 2 rfl ?_
    refine Q_laload (pc := 87) (DCa dc_Mod_tellWorker_1 2 rfl) (fun v26 => ?_)
    refine Q_lastore (pc := 88) (DCa dc_Mod_tellWorker_1 3 rfl) (fun h27 => ?_)
    refine V_aload_n (pc := 89) (DCa dc_Mod_tellWorker_1 4 rfl) rfl 0 rfl ?_
    refine V_dup (pc := 90) (DCa dc_Mod_tellWorker_1 5 rfl) rfl ?_
    refine Q_getf (k := 20) (pc := 91) (DCa dc_Mod_tellWorker_1 6 rfl) cls_12 (Nat.le_of_ble_eq_true rfl) fl_12_287 rfl rfl rfl (fun v28 => ?_)
    refine V_iconst (pc := 94) (DCa dc_Mod_tellWorker_1 7 rfl) (by decide) ?_
    refine V_iadd (pc := 95) (DCa dc_Mod_tellWorker_1 8 rfl) ?_
    refine Q_putf (k := 20) (pc := 96) (DCa dc_Mod_tellWorker_1 9 rfl) cls_12 (Nat.le_of_ble_eq_true rfl) fl_12_287 rfl rfl rfl (Or.inl rfl) (Or.inl ⟨rfl, rfl⟩) (fun h29 => ?_)
    refine V_aload_n (pc := 99) (DCa dc_Mod_tellWorker_1 10 rfl) rfl 0 rfl ?_
    refine Q_getf (k := 27) (pc := 100) (DCa dc_Mod_tellWorker_1 11 rfl) cls_12 (Nat.le_of_ble_eq_true rfl) fl_12_58 rfl rfl rfl (fun v30 => ?_)
    refine V_aload_n (pc := 103) (DCa dc_Mod_tellWorker_1 12 rfl) rfl 0 rfl ?_
    refine Q_getf (k := 19) (pc := 104) (DCa dc_Mod_tellWorker_1 13 rfl) cls_12 (Nat.le_of_ble_eq_true rfl) fl_12_284 rfl rfl rfl (fun v31 => ?_)
    refine V_dup2 (pc := 107) (DCa dc_Mod_tellWorker_1 14 rfl) rfl rfl ?_
    refine Q_iaload (pc := 108) (DCa dc_Mod_tellWorker_1 15 rfl) (fun v32 => ?_)
    refine V_iconst (pc := 109) (DCa dc_Mod_tellWorker_1 16 rfl) (by decide) ?_
    refine V_iadd (pc := 110) (DCa dc_Mod_tellWorker_1 17 rfl) ?_
    refine Q_iastore (pc := 111) (DCa dc_Mod_tellWorker_1 18 rfl) (fun h33 => ?_)
    exact V_return (pc := 112) (DCa dc_Mod_tellWorker_1 19 rfl) rfl
theorem sp_Mod_tellWorker (F : Nat) (l0 : Int) (h : Hp) : Sp yX12_tellWorker cX12_tellWorker 3 none 5 104 [(2, l0)] h (Mod_tellWorker F l0 h) := Sp_of (by decide +kernel) rfl rfl (Nat.le_of_ble_eq_true rfl) (v_Mod_tellWorker F l0 h)

-- TideRakesModel.tellOne
def Mod_tellOne_B276 (F : Nat)  (l0 l1 : Int) (h : Hp) : Option (Int × Hp) :=
  gf h l0 112 13 fun v101 =>
  if 0 < v101 then
    (some (0, h))
  else
    (iv h l0 112 (Mod_goesOn F l0 h) fun r102 h103 =>
    iv h103 l0 112 (Mod_tellLaw F l0 l1 h103) fun r104 h105 =>
    some (0, h105))
def Mod_tellOne_B271 (F : Nat)  (l0 l1 : Int) (h : Hp) : Option (Int × Hp) :=
  iv h l0 112 (Mod_fail F l0 1 h) fun r99 h100 =>
  Mod_tellOne_B276 F l0 l1 h100
def Mod_tellOne (F : Nat) (l0 : Int) (h : Hp) : Option (Int × Hp) :=
  gf h l0 112 5 fun v1 =>
  gf h l0 112 11 fun v2 =>
  al h v1 0 v2 fun v3 =>
  tsw v3 20 10 (fun i => match i with
    | 0 => (gf h l0 112 22 fun v4 =>
    gf h l0 112 19 fun v5 =>
    al h v4 0 v5 fun v6 =>
    iv h l0 112 (Mod_roomFor F l0 v6 8 h) fun r7 h8 =>
    gf h8 l0 112 13 fun v9 =>
    if v9 = 0 then
      (iv h8 l0 112 (Mod_tellPart F l0 h8) fun r10 h11 =>
      some (0, h11))
    else
      (some (0, h8)))
    | 1 => (gf h l0 112 27 fun v12 =>
    gf h l0 112 19 fun v13 =>
    al h v12 0 v13 fun v14 =>
    iv h l0 112 (Mod_roomFor F l0 v14 3 h) fun r15 h16 =>
    gf h16 l0 112 13 fun v17 =>
    if v17 = 0 then
      (iv h16 l0 112 (Mod_tellWorker F l0 h16) fun r18 h19 =>
      some (0, h19))
    else
      (some (0, h16)))
    | 2 => (gf h l0 112 5 fun v20 =>
    gf h l0 112 11 fun v21 =>
    al h v20 0 v21 fun v22 =>
    lt (w32 (v22 - 22)) fun x23 =>
    if x23 < 0 then
      (Mod_tellOne_B271 F l0 x23 h)
    else
      (gf h l0 112 5 fun v24 =>
      gf h l0 112 11 fun v25 =>
      al h v24 0 v25 fun v26 =>
      if 26 < v26 then
        (Mod_tellOne_B271 F l0 x23 h)
      else
        (Mod_tellOne_B276 F l0 x23 h)))
    | 3 => (gf h l0 112 5 fun v27 =>
    gf h l0 112 11 fun v28 =>
    al h v27 0 v28 fun v29 =>
    lt (w32 (v29 - 22)) fun x30 =>
    if x30 < 0 then
      (Mod_tellOne_B271 F l0 x30 h)
    else
      (gf h l0 112 5 fun v31 =>
      gf h l0 112 11 fun v32 =>
      al h v31 0 v32 fun v33 =>
      if 26 < v33 then
        (Mod_tellOne_B271 F l0 x30 h)
      else
        (Mod_tellOne_B276 F l0 x30 h)))
    | 4 => (gf h l0 112 5 fun v34 =>
    gf h l0 112 11 fun v35 =>
    al h v34 0 v35 fun v36 =>
    lt (w32 (v36 - 22)) fun x37 =>
    if x37 < 0 then
      (Mod_tellOne_B271 F l0 x37 h)
    else
      (gf h l0 112 5 fun v38 =>
      gf h l0 112 11 fun v39 =>
      al h v38 0 v39 fun v40 =>
      if 26 < v40 then
        (Mod_tellOne_B271 F l0 x37 h)
      else
        (Mod_tellOne_B276 F l0 x37 h)))
    | 5 => (gf h l0 112 5 fun v41 =>
    gf h l0 112 11 fun v42 =>
    al h v41 0 v42 fun v43 =>
    lt (w32 (v43 - 22)) fun x44 =>
    if x44 < 0 then
      (Mod_tellOne_B271 F l0 x44 h)
    else
      (gf h l0 112 5 fun v45 =>
      gf h l0 112 11 fun v46 =>
      al h v45 0 v46 fun v47 =>
      if 26 < v47 then
        (Mod_tellOne_B271 F l0 x44 h)
      else
        (Mod_tellOne_B276 F l0 x44 h)))
    | 6 => (gf h l0 112 5 fun v48 =>
    gf h l0 112 11 fun v49 =>
    al h v48 0 v49 fun v50 =>
    lt (w32 (v50 - 22)) fun x51 =>
    if x51 < 0 then
      (Mod_tellOne_B271 F l0 x51 h)
    else
      (gf h l0 112 5 fun v52 =>
      gf h l0 112 11 fun v53 =>
      al h v52 0 v53 fun v54 =>
      if 26 < v54 then
        (Mod_tellOne_B271 F l0 x51 h)
      else
        (Mod_tellOne_B276 F l0 x51 h)))
    | 7 => (iv h l0 112 (Mod_goesOn F l0 h) fun r55 h56 =>
    gf h56 l0 112 31 fun v57 =>
    gf h56 l0 112 19 fun v58 =>
    iv h56 l0 112 (Mod_bounded F l0 1 600 h56) fun r59 h60 =>
    as h60 v57 0 v58 r59 fun h61 =>
    gf h61 l0 112 32 fun v62 =>
    gf h61 l0 112 19 fun v63 =>
    iv h61 l0 112 (Mod_bounded F l0 1 600 h61) fun r64 h65 =>
    as h65 v62 0 v63 r64 fun h66 =>
    iv h66 l0 112 (Mod_must F l0 4 h66) fun r67 h68 =>
    some (0, h68))
    | 8 => (iv h l0 112 (Mod_goesOn F l0 h) fun r69 h70 =>
    gf h70 l0 112 33 fun v71 =>
    gf h70 l0 112 19 fun v72 =>
    iv h70 l0 112 (Mod_bounded F l0 0 99 h70) fun r73 h74 =>
    as h74 v71 0 v72 r73 fun h75 =>
    gf h75 l0 112 34 fun v76 =>
    gf h75 l0 112 19 fun v77 =>
    iv h75 l0 112 (Mod_bounded F l0 0 99 h75) fun r78 h79 =>
    as h79 v76 0 v77 r78 fun h80 =>
    iv h80 l0 112 (Mod_must F l0 4 h80) fun r81 h82 =>
    some (0, h82))
    | _ => (iv h l0 112 (Mod_goesOn F l0 h) fun r83 h84 =>
    gf h84 l0 112 35 fun v85 =>
    gf h84 l0 112 19 fun v86 =>
    iv h84 l0 112 (Mod_bounded F l0 0 9999 h84) fun r87 h88 =>
    as h88 v85 0 v86 r87 fun h89 =>
    iv h89 l0 112 (Mod_must F l0 4 h89) fun r90 h91 =>
    some (0, h91)))
    (gf h l0 112 5 fun v92 =>
    gf h l0 112 11 fun v93 =>
    al h v92 0 v93 fun v94 =>
    lt (w32 (v94 - 22)) fun x95 =>
    if x95 < 0 then
      (Mod_tellOne_B271 F l0 x95 h)
    else
      (gf h l0 112 5 fun v96 =>
      gf h l0 112 11 fun v97 =>
      al h v96 0 v97 fun v98 =>
      if 26 < v98 then
        (Mod_tellOne_B271 F l0 x95 h)
      else
        (Mod_tellOne_B276 F l0 x95 h)))

theorem dc_Mod_tellOne_0 : ∀ q ∈ ([(0, .aload_n 0, 1), (1, .getfield 20, 3), (4, .aload_n 0, 1), (5, .getfield 254, 3), (8, .iaload, 1), (9, .tableswitch 231 20 29 #[55, 84, 231, 231, 231, 231, 231, 112, 158, 202], 55), (64, .aload_n 0, 1), (65, .aload_n 0, 1), (66, .getfield 43, 3), (69, .aload_n 0, 1), (70, .getfield 284, 3), (73, .iaload, 1), (74, .bipush 8, 2), (76, .invokevirtual 305, 3), (79, .aload_n 0, 1), (80, .getfield 251, 3), (83, .ifCond .ne 210, 3), (86, .aload_n 0, 1), (87, .invokevirtual 309, 3), (90, .goto 203, 3), (93, .aload_n 0, 1), (94, .aload_n 0, 1), (95, .getfield 58, 3), (98, .aload_n 0, 1), (99, .getfield 284, 3), (102, .iaload, 1), (103, .iconst 3, 1), (104, .invokevirtual 305, 3), (107, .aload_n 0, 1), (108, .getfield 251, 3), (111, .ifCond .ne 182, 3), (114, .aload_n 0, 1), (115, .invokevirtual 312, 3), (118, .goto 175, 3), (121, .aload_n 0, 1), (122, .invokevirtual 272, 3), (125, .aload_n 0, 1), (126, .getfield 70, 3), (129, .aload_n 0, 1), (130, .getfield 284, 3), (133, .aload_n 0, 1), (134, .iconst 1, 1), (135, .sipush 600, 3), (138, .invokevirtual 315, 3), (141, .iastore, 1), (142, .aload_n 0, 1), (143, .getfield 73, 3), (146, .aload_n 0, 1), (147, .getfield 284, 3), (150, .aload_n 0, 1)] : List (Nat × Instr × Nat)), decode cX12_tellOne q.1 = .ok (q.2.1, q.2.2) := by decide +kernel
theorem dc_Mod_tellOne_1 : ∀ q ∈ ([(151, .iconst 1, 1), (152, .sipush 600, 3), (155, .invokevirtual 315, 3), (158, .iastore, 1), (159, .aload_n 0, 1), (160, .iconst 4, 1), (161, .invokevirtual 319, 3), (164, .goto 129, 3), (167, .aload_n 0, 1), (168, .invokevirtual 272, 3), (171, .aload_n 0, 1), (172, .getfield 76, 3), (175, .aload_n 0, 1), (176, .getfield 284, 3), (179, .aload_n 0, 1), (180, .iconst 0, 1), (181, .bipush 99, 2), (183, .invokevirtual 315, 3), (186, .iastore, 1), (187, .aload_n 0, 1), (188, .getfield 79, 3), (191, .aload_n 0, 1), (192, .getfield 284, 3), (195, .aload_n 0, 1), (196, .iconst 0, 1), (197, .bipush 99, 2), (199, .invokevirtual 315, 3), (202, .iastore, 1), (203, .aload_n 0, 1), (204, .iconst 4, 1), (205, .invokevirtual 319, 3), (208, .goto 85, 3), (211, .aload_n 0, 1), (212, .invokevirtual 272, 3), (215, .aload_n 0, 1), (216, .getfield 82, 3), (219, .aload_n 0, 1), (220, .getfield 284, 3), (223, .aload_n 0, 1), (224, .iconst 0, 1), (225, .sipush 9999, 3), (228, .invokevirtual 315, 3), (231, .iastore, 1), (232, .aload_n 0, 1), (233, .iconst 4, 1), (234, .invokevirtual 319, 3), (237, .goto 56, 3), (240, .aload_n 0, 1), (241, .getfield 20, 3), (244, .aload_n 0, 1)] : List (Nat × Instr × Nat)), decode cX12_tellOne q.1 = .ok (q.2.1, q.2.2) := by decide +kernel
theorem dc_Mod_tellOne_2 : ∀ q ∈ ([(245, .getfield 254, 3), (248, .iaload, 1), (249, .bipush 22, 2), (251, .isub, 1), (252, .istore_n 1, 1), (253, .iload_n 1, 1), (254, .ifCond .lt 17, 3), (257, .aload_n 0, 1), (258, .getfield 20, 3), (261, .aload_n 0, 1), (262, .getfield 254, 3), (265, .iaload, 1), (266, .bipush 26, 2), (268, .if_icmp .le 8, 3), (271, .aload_n 0, 1), (272, .iconst 1, 1), (273, .invokevirtual 266, 3), (276, .aload_n 0, 1), (277, .getfield 251, 3), (280, .ifCond .le 4, 3), (283, .return_, 1), (284, .aload_n 0, 1), (285, .invokevirtual 272, 3), (288, .aload_n 0, 1), (289, .iload_n 1, 1), (290, .invokevirtual 322, 3), (293, .return_, 1)] : List (Nat × Instr × Nat)), decode cX12_tellOne q.1 = .ok (q.2.1, q.2.2) := by decide +kernel
abbrev X_Mod_tellOne : MX := (cX12_tellOne, RX12, "tellOne", 2, none, 7, 146)
theorem v_Mod_tellOne_B276 (F : Nat)  (l0 l1 : Int) (h : Hp) : V X_Mod_tellOne 276 [(0, 2, l0), (1, 0, l1)] [] h (Mod_tellOne_B276 F  l0 l1 h) := by
  unfold Mod_tellOne_B276
  refine V_aload_n (pc := 276) (DCa dc_Mod_tellOne_2 17 rfl) rfl 0 rfl ?_
  refine Q_getf (k := 13) (pc := 277) (DCa dc_Mod_tellOne_2 18 rfl) cls_12 (Nat.le_of_ble_eq_true rfl) fl_12_251 rfl rfl rfl (fun v101 => ?_)
  refine V_if_le (tgt := 284) (pc := 280) (DCa dc_Mod_tellOne_2 19 rfl) (by decide) (fun _ => ?_) (fun _ => ?_)
  · exact V_return (pc := 283) (DCa dc_Mod_tellOne_2 20 rfl) rfl
  · refine V_aload_n (pc := 284) (DCa dc_Mod_tellOne_2 21 rfl) rfl 0 rfl ?_
    refine Q_callv (ci := 12) (st := []) (pc := 285) (DCa dc_Mod_tellOne_2 22 rfl) (sp_Mod_goesOn F _ _) ce_Mod_goesOn ml_12_272 rfl rfl ⟨Nat.le_of_ble_eq_true rfl, Nat.le_of_ble_eq_true rfl⟩ rfl (Nat.le_of_ble_eq_true rfl) (fun r102 h103 => ?_)
    refine V_aload_n (pc := 288) (DCa dc_Mod_tellOne_2 23 rfl) rfl 0 rfl ?_
    refine V_iload_n (pc := 289) (DCa dc_Mod_tellOne_2 24 rfl) rfl 1 rfl ?_
    refine Q_callv (ci := 12) (st := []) (pc := 290) (DCa dc_Mod_tellOne_2 25 rfl) (sp_Mod_tellLaw F _ _ _) ce_Mod_tellLaw ml_12_322 rfl rfl ⟨Nat.le_of_ble_eq_true rfl, Nat.le_of_ble_eq_true rfl⟩ rfl (Nat.le_of_ble_eq_true rfl) (fun r104 h105 => ?_)
    exact V_return (pc := 293) (DCa dc_Mod_tellOne_2 26 rfl) rfl
theorem v_Mod_tellOne_B271 (F : Nat)  (l0 l1 : Int) (h : Hp) : V X_Mod_tellOne 271 [(0, 2, l0), (1, 0, l1)] [] h (Mod_tellOne_B271 F  l0 l1 h) := by
  unfold Mod_tellOne_B271
  refine V_aload_n (pc := 271) (DCa dc_Mod_tellOne_2 14 rfl) rfl 0 rfl ?_
  refine V_iconst (pc := 272) (DCa dc_Mod_tellOne_2 15 rfl) (by decide) ?_
  refine Q_callv (ci := 12) (st := []) (pc := 273) (DCa dc_Mod_tellOne_2 16 rfl) (sp_Mod_fail F _ _ _) ce_Mod_fail ml_12_266 rfl rfl ⟨Nat.le_of_ble_eq_true rfl, Nat.le_of_ble_eq_true rfl⟩ rfl (Nat.le_of_ble_eq_true rfl) (fun r99 h100 => ?_)
  exact v_Mod_tellOne_B276 F _ _ _
theorem v_Mod_tellOne (F : Nat) (l0 : Int) (h : Hp) : V X_Mod_tellOne 0 [(0, 2, l0)] [] h (Mod_tellOne F l0 h) := by
  unfold Mod_tellOne
  refine V_aload_n (pc := 0) (DCa dc_Mod_tellOne_0 0 rfl) rfl 0 rfl ?_
  refine Q_getf (k := 5) (pc := 1) (DCa dc_Mod_tellOne_0 1 rfl) cls_12 (Nat.le_of_ble_eq_true rfl) fl_12_20 rfl rfl rfl (fun v1 => ?_)
  refine V_aload_n (pc := 4) (DCa dc_Mod_tellOne_0 2 rfl) rfl 0 rfl ?_
  refine Q_getf (k := 11) (pc := 5) (DCa dc_Mod_tellOne_0 3 rfl) cls_12 (Nat.le_of_ble_eq_true rfl) fl_12_254 rfl rfl rfl (fun v2 => ?_)
  refine Q_iaload (pc := 8) (DCa dc_Mod_tellOne_0 4 rfl) (fun v3 => ?_)
  refine V_table (tgt := 240) (pc := 9) (DCa dc_Mod_tellOne_0 5 rfl) (by decide) (by decide) ?_ (fun i hi _ => ?_)
  · refine V_aload_n (pc := 240) (DCa dc_Mod_tellOne_1 47 rfl) rfl 0 rfl ?_
    refine Q_getf (k := 5) (pc := 241) (DCa dc_Mod_tellOne_1 48 rfl) cls_12 (Nat.le_of_ble_eq_true rfl) fl_12_20 rfl rfl rfl (fun v92 => ?_)
    refine V_aload_n (pc := 244) (DCa dc_Mod_tellOne_1 49 rfl) rfl 0 rfl ?_
    refine Q_getf (k := 11) (pc := 245) (DCa dc_Mod_tellOne_2 0 rfl) cls_12 (Nat.le_of_ble_eq_true rfl) fl_12_254 rfl rfl rfl (fun v93 => ?_)
    refine Q_iaload (pc := 248) (DCa dc_Mod_tellOne_2 1 rfl) (fun v94 => ?_)
    refine V_bipush (pc := 249) (DCa dc_Mod_tellOne_2 2 rfl) (by decide) ?_
    refine V_isub (pc := 251) (DCa dc_Mod_tellOne_2 3 rfl) ?_
    refine Q_lt (fun x95 => ?_)
    refine V_istore_n (ls' := [(0, 2, l0), (1, 0, x95)]) (pc := 252) (DCa dc_Mod_tellOne_2 4 rfl) rfl (Nat.le_of_ble_eq_true rfl) rfl ?_
    refine V_iload_n (pc := 253) (DCa dc_Mod_tellOne_2 5 rfl) rfl 1 rfl ?_
    refine V_if_lt (tgt := 271) (pc := 254) (DCa dc_Mod_tellOne_2 6 rfl) (by decide) (fun _ => ?_) (fun _ => ?_)
    · exact v_Mod_tellOne_B271 F _ _ _
    · refine V_aload_n (pc := 257) (DCa dc_Mod_tellOne_2 7 rfl) rfl 0 rfl ?_
      refine Q_getf (k := 5) (pc := 258) (DCa dc_Mod_tellOne_2 8 rfl) cls_12 (Nat.le_of_ble_eq_true rfl) fl_12_20 rfl rfl rfl (fun v96 => ?_)
      refine V_aload_n (pc := 261) (DCa dc_Mod_tellOne_2 9 rfl) rfl 0 rfl ?_
      refine Q_getf (k := 11) (pc := 262) (DCa dc_Mod_tellOne_2 10 rfl) cls_12 (Nat.le_of_ble_eq_true rfl) fl_12_254 rfl rfl rfl (fun v97 => ?_)
      refine Q_iaload (pc := 265) (DCa dc_Mod_tellOne_2 11 rfl) (fun v98 => ?_)
      refine V_bipush (pc := 266) (DCa dc_Mod_tellOne_2 12 rfl) (by decide) ?_
      refine V_icmp_le (tgt := 276) (pc := 268) (DCa dc_Mod_tellOne_2 13 rfl) (by decide) (fun _ => ?_) (fun _ => ?_)
      · exact v_Mod_tellOne_B271 F _ _ _
      · exact v_Mod_tellOne_B276 F _ _ _
  · match i, hi with
    | 0, _ =>
      refine ⟨_, 64, rfl, by decide, ?_⟩
      refine V_aload_n (pc := 64) (DCa dc_Mod_tellOne_0 6 rfl) rfl 0 rfl ?_
      refine V_aload_n (pc := 65) (DCa dc_Mod_tellOne_0 7 rfl) rfl 0 rfl ?_
      refine Q_getf (k := 22) (pc := 66) (DCa dc_Mod_tellOne_0 8 rfl) cls_12 (Nat.le_of_ble_eq_true rfl) fl_12_43 rfl rfl rfl (fun v4 => ?_)
      refine V_aload_n (pc := 69) (DCa dc_Mod_tellOne_0 9 rfl) rfl 0 rfl ?_
      refine Q_getf (k := 19) (pc := 70) (DCa dc_Mod_tellOne_0 10 rfl) cls_12 (Nat.le_of_ble_eq_true rfl) fl_12_284 rfl rfl rfl (fun v5 => ?_)
      refine Q_iaload (pc := 73) (DCa dc_Mod_tellOne_0 11 rfl) (fun v6 => ?_)
      refine V_bipush (pc := 74) (DCa dc_Mod_tellOne_0 12 rfl) (by decide) ?_
      refine Q_callv (ci := 12) (st := []) (pc := 76) (DCa dc_Mod_tellOne_0 13 rfl) (sp_Mod_roomFor F _ _ _ _) ce_Mod_roomFor ml_12_305 rfl rfl ⟨Nat.le_of_ble_eq_true rfl, Nat.le_of_ble_eq_true rfl⟩ rfl (Nat.le_of_ble_eq_true rfl) (fun r7 h8 => ?_)
      refine V_aload_n (pc := 79) (DCa dc_Mod_tellOne_0 14 rfl) rfl 0 rfl ?_
      refine Q_getf (k := 13) (pc := 80) (DCa dc_Mod_tellOne_0 15 rfl) cls_12 (Nat.le_of_ble_eq_true rfl) fl_12_251 rfl rfl rfl (fun v9 => ?_)
      refine V_if_ne (tgt := 293) (pc := 83) (DCa dc_Mod_tellOne_0 16 rfl) (by decide) (fun _ => ?_) (fun _ => ?_)
      · refine V_aload_n (pc := 86) (DCa dc_Mod_tellOne_0 17 rfl) rfl 0 rfl ?_
        refine Q_callv (ci := 12) (st := []) (pc := 87) (DCa dc_Mod_tellOne_0 18 rfl) (sp_Mod_tellPart F _ _) ce_Mod_tellPart ml_12_309 rfl rfl ⟨Nat.le_of_ble_eq_true rfl, Nat.le_of_ble_eq_true rfl⟩ rfl (Nat.le_of_ble_eq_true rfl) (fun r10 h11 => ?_)
        refine V_goto (tgt := 293) (pc := 90) (DCa dc_Mod_tellOne_0 19 rfl) (by decide) ?_
        exact V_return (pc := 293) (DCa dc_Mod_tellOne_2 26 rfl) rfl
      · exact V_return (pc := 293) (DCa dc_Mod_tellOne_2 26 rfl) rfl
    | 1, _ =>
      refine ⟨_, 93, rfl, by decide, ?_⟩
      refine V_aload_n (pc := 93) (DCa dc_Mod_tellOne_0 20 rfl) rfl 0 rfl ?_
      refine V_aload_n (pc := 94) (DCa dc_Mod_tellOne_0 21 rfl) rfl 0 rfl ?_
      refine Q_getf (k := 27) (pc := 95) (DCa dc_Mod_tellOne_0 22 rfl) cls_12 (Nat.le_of_ble_eq_true rfl) fl_12_58 rfl rfl rfl (fun v12 => ?_)
      refine V_aload_n (pc := 98) (DCa dc_Mod_tellOne_0 23 rfl) rfl 0 rfl ?_
      refine Q_getf (k := 19) (pc := 99) (DCa dc_Mod_tellOne_0 24 rfl) cls_12 (Nat.le_of_ble_eq_true rfl) fl_12_284 rfl rfl rfl (fun v13 => ?_)
      refine Q_iaload (pc := 102) (DCa dc_Mod_tellOne_0 25 rfl) (fun v14 => ?_)
      refine V_iconst (pc := 103) (DCa dc_Mod_tellOne_0 26 rfl) (by decide) ?_
      refine Q_callv (ci := 12) (st := []) (pc := 104) (DCa dc_Mod_tellOne_0 27 rfl) (sp_Mod_roomFor F _ _ _ _) ce_Mod_roomFor ml_12_305 rfl rfl ⟨Nat.le_of_ble_eq_true rfl, Nat.le_of_ble_eq_true rfl⟩ rfl (Nat.le_of_ble_eq_true rfl) (fun r15 h16 => ?_)
      refine V_aload_n (pc := 107) (DCa dc_Mod_tellOne_0 28 rfl) rfl 0 rfl ?_
      refine Q_getf (k := 13) (pc := 108) (DCa dc_Mod_tellOne_0 29 rfl) cls_12 (Nat.le_of_ble_eq_true rfl) fl_12_251 rfl rfl rfl (fun v17 => ?_)
      refine V_if_ne (tgt := 293) (pc := 111) (DCa dc_Mod_tellOne_0 30 rfl) (by decide) (fun _ => ?_) (fun _ => ?_)
      · refine V_aload_n (pc := 114) (DCa dc_Mod_tellOne_0 31 rfl) rfl 0 rfl ?_
        refine Q_callv (ci := 12) (st := []) (pc := 115) (DCa dc_Mod_tellOne_0 32 rfl) (sp_Mod_tellWorker F _ _) ce_Mod_tellWorker ml_12_312 rfl rfl ⟨Nat.le_of_ble_eq_true rfl, Nat.le_of_ble_eq_true rfl⟩ rfl (Nat.le_of_ble_eq_true rfl) (fun r18 h19 => ?_)
        refine V_goto (tgt := 293) (pc := 118) (DCa dc_Mod_tellOne_0 33 rfl) (by decide) ?_
        exact V_return (pc := 293) (DCa dc_Mod_tellOne_2 26 rfl) rfl
      · exact V_return (pc := 293) (DCa dc_Mod_tellOne_2 26 rfl) rfl
    | 2, _ =>
      refine ⟨_, 240, rfl, by decide, ?_⟩
      refine V_aload_n (pc := 240) (DCa dc_Mod_tellOne_1 47 rfl) rfl 0 rfl ?_
      refine Q_getf (k := 5) (pc := 241) (DCa dc_Mod_tellOne_1 48 rfl) cls_12 (Nat.le_of_ble_eq_true rfl) fl_12_20 rfl rfl rfl (fun v20 => ?_)
      refine V_aload_n (pc := 244) (DCa dc_Mod_tellOne_1 49 rfl) rfl 0 rfl ?_
      refine Q_getf (k := 11) (pc := 245) (DCa dc_Mod_tellOne_2 0 rfl) cls_12 (Nat.le_of_ble_eq_true rfl) fl_12_254 rfl rfl rfl (fun v21 => ?_)
      refine Q_iaload (pc := 248) (DCa dc_Mod_tellOne_2 1 rfl) (fun v22 => ?_)
      refine V_bipush (pc := 249) (DCa dc_Mod_tellOne_2 2 rfl) (by decide) ?_
      refine V_isub (pc := 251) (DCa dc_Mod_tellOne_2 3 rfl) ?_
      refine Q_lt (fun x23 => ?_)
      refine V_istore_n (ls' := [(0, 2, l0), (1, 0, x23)]) (pc := 252) (DCa dc_Mod_tellOne_2 4 rfl) rfl (Nat.le_of_ble_eq_true rfl) rfl ?_
      refine V_iload_n (pc := 253) (DCa dc_Mod_tellOne_2 5 rfl) rfl 1 rfl ?_
      refine V_if_lt (tgt := 271) (pc := 254) (DCa dc_Mod_tellOne_2 6 rfl) (by decide) (fun _ => ?_) (fun _ => ?_)
      · exact v_Mod_tellOne_B271 F _ _ _
      · refine V_aload_n (pc := 257) (DCa dc_Mod_tellOne_2 7 rfl) rfl 0 rfl ?_
        refine Q_getf (k := 5) (pc := 258) (DCa dc_Mod_tellOne_2 8 rfl) cls_12 (Nat.le_of_ble_eq_true rfl) fl_12_20 rfl rfl rfl (fun v24 => ?_)
        refine V_aload_n (pc := 261) (DCa dc_Mod_tellOne_2 9 rfl) rfl 0 rfl ?_
        refine Q_getf (k := 11) (pc := 262) (DCa dc_Mod_tellOne_2 10 rfl) cls_12 (Nat.le_of_ble_eq_true rfl) fl_12_254 rfl rfl rfl (fun v25 => ?_)
        refine Q_iaload (pc := 265) (DCa dc_Mod_tellOne_2 11 rfl) (fun v26 => ?_)
        refine V_bipush (pc := 266) (DCa dc_Mod_tellOne_2 12 rfl) (by decide) ?_
        refine V_icmp_le (tgt := 276) (pc := 268) (DCa dc_Mod_tellOne_2 13 rfl) (by decide) (fun _ => ?_) (fun _ => ?_)
        · exact v_Mod_tellOne_B271 F _ _ _
        · exact v_Mod_tellOne_B276 F _ _ _
    | 3, _ =>
      refine ⟨_, 240, rfl, by decide, ?_⟩
      refine V_aload_n (pc := 240) (DCa dc_Mod_tellOne_1 47 rfl) rfl 0 rfl ?_
      refine Q_getf (k := 5) (pc := 241) (DCa dc_Mod_tellOne_1 48 rfl) cls_12 (Nat.le_of_ble_eq_true rfl) fl_12_20 rfl rfl rfl (fun v27 => ?_)
      refine V_aload_n (pc := 244) (DCa dc_Mod_tellOne_1 49 rfl) rfl 0 rfl ?_
      refine Q_getf (k := 11) (pc := 245) (DCa dc_Mod_tellOne_2 0 rfl) cls_12 (Nat.le_of_ble_eq_true rfl) fl_12_254 rfl rfl rfl (fun v28 => ?_)
      refine Q_iaload (pc := 248) (DCa dc_Mod_tellOne_2 1 rfl) (fun v29 => ?_)
      refine V_bipush (pc := 249) (DCa dc_Mod_tellOne_2 2 rfl) (by decide) ?_
      refine V_isub (pc := 251) (DCa dc_Mod_tellOne_2 3 rfl) ?_
      refine Q_lt (fun x30 => ?_)
      refine V_istore_n (ls' := [(0, 2, l0), (1, 0, x30)]) (pc := 252) (DCa dc_Mod_tellOne_2 4 rfl) rfl (Nat.le_of_ble_eq_true rfl) rfl ?_
      refine V_iload_n (pc := 253) (DCa dc_Mod_tellOne_2 5 rfl) rfl 1 rfl ?_
      refine V_if_lt (tgt := 271) (pc := 254) (DCa dc_Mod_tellOne_2 6 rfl) (by decide) (fun _ => ?_) (fun _ => ?_)
      · exact v_Mod_tellOne_B271 F _ _ _
      · refine V_aload_n (pc := 257) (DCa dc_Mod_tellOne_2 7 rfl) rfl 0 rfl ?_
        refine Q_getf (k := 5) (pc := 258) (DCa dc_Mod_tellOne_2 8 rfl) cls_12 (Nat.le_of_ble_eq_true rfl) fl_12_20 rfl rfl rfl (fun v31 => ?_)
        refine V_aload_n (pc := 261) (DCa dc_Mod_tellOne_2 9 rfl) rfl 0 rfl ?_
        refine Q_getf (k := 11) (pc := 262) (DCa dc_Mod_tellOne_2 10 rfl) cls_12 (Nat.le_of_ble_eq_true rfl) fl_12_254 rfl rfl rfl (fun v32 => ?_)
        refine Q_iaload (pc := 265) (DCa dc_Mod_tellOne_2 11 rfl) (fun v33 => ?_)
        refine V_bipush (pc := 266) (DCa dc_Mod_tellOne_2 12 rfl) (by decide) ?_
        refine V_icmp_le (tgt := 276) (pc := 268) (DCa dc_Mod_tellOne_2 13 rfl) (by decide) (fun _ => ?_) (fun _ => ?_)
        · exact v_Mod_tellOne_B271 F _ _ _
        · exact v_Mod_tellOne_B276 F _ _ _
    | 4, _ =>
      refine ⟨_, 240, rfl, by decide, ?_⟩
      refine V_aload_n (pc := 240) (DCa dc_Mod_tellOne_1 47 rfl) rfl 0 rfl ?_
      refine Q_getf (k := 5) (pc := 241) (DCa dc_Mod_tellOne_1 48 rfl) cls_12 (Nat.le_of_ble_eq_true rfl) fl_12_20 rfl rfl rfl (fun v34 => ?_)
      refine V_aload_n (pc := 244) (DCa dc_Mod_tellOne_1 49 rfl) rfl 0 rfl ?_
      refine Q_getf (k := 11) (pc := 245) (DCa dc_Mod_tellOne_2 0 rfl) cls_12 (Nat.le_of_ble_eq_true rfl) fl_12_254 rfl rfl rfl (fun v35 => ?_)
      refine Q_iaload (pc := 248) (DCa dc_Mod_tellOne_2 1 rfl) (fun v36 => ?_)
      refine V_bipush (pc := 249) (DCa dc_Mod_tellOne_2 2 rfl) (by decide) ?_
      refine V_isub (pc := 251) (DCa dc_Mod_tellOne_2 3 rfl) ?_
      refine Q_lt (fun x37 => ?_)
      refine V_istore_n (ls' := [(0, 2, l0), (1, 0, x37)]) (pc := 252) (DCa dc_Mod_tellOne_2 4 rfl) rfl (Nat.le_of_ble_eq_true rfl) rfl ?_
      refine V_iload_n (pc := 253) (DCa dc_Mod_tellOne_2 5 rfl) rfl 1 rfl ?_
      refine V_if_lt (tgt := 271) (pc := 254) (DCa dc_Mod_tellOne_2 6 rfl) (by decide) (fun _ => ?_) (fun _ => ?_)
      · exact v_Mod_tellOne_B271 F _ _ _
      · refine V_aload_n (pc := 257) (DCa dc_Mod_tellOne_2 7 rfl) rfl 0 rfl ?_
        refine Q_getf (k := 5) (pc := 258) (DCa dc_Mod_tellOne_2 8 rfl) cls_12 (Nat.le_of_ble_eq_true rfl) fl_12_20 rfl rfl rfl (fun v38 => ?_)
        refine V_aload_n (pc := 261) (DCa dc_Mod_tellOne_2 9 rfl) rfl 0 rfl ?_
        refine Q_getf (k := 11) (pc := 262) (DCa dc_Mod_tellOne_2 10 rfl) cls_12 (Nat.le_of_ble_eq_true rfl) fl_12_254 rfl rfl rfl (fun v39 => ?_)
        refine Q_iaload (pc := 265) (DCa dc_Mod_tellOne_2 11 rfl) (fun v40 => ?_)
        refine V_bipush (pc := 266) (DCa dc_Mod_tellOne_2 12 rfl) (by decide) ?_
        refine V_icmp_le (tgt := 276) (pc := 268) (DCa dc_Mod_tellOne_2 13 rfl) (by decide) (fun _ => ?_) (fun _ => ?_)
        · exact v_Mod_tellOne_B271 F _ _ _
        · exact v_Mod_tellOne_B276 F _ _ _
    | 5, _ =>
      refine ⟨_, 240, rfl, by decide, ?_⟩
      refine V_aload_n (pc := 240) (DCa dc_Mod_tellOne_1 47 rfl) rfl 0 rfl ?_
      refine Q_getf (k := 5) (pc := 241) (DCa dc_Mod_tellOne_1 48 rfl) cls_12 (Nat.le_of_ble_eq_true rfl) fl_12_20 rfl rfl rfl (fun v41 => ?_)
      refine V_aload_n (pc := 244) (DCa dc_Mod_tellOne_1 49 rfl) rfl 0 rfl ?_
      refine Q_getf (k := 11) (pc := 245) (DCa dc_Mod_tellOne_2 0 rfl) cls_12 (Nat.le_of_ble_eq_true rfl) fl_12_254 rfl rfl rfl (fun v42 => ?_)
      refine Q_iaload (pc := 248) (DCa dc_Mod_tellOne_2 1 rfl) (fun v43 => ?_)
      refine V_bipush (pc := 249) (DCa dc_Mod_tellOne_2 2 rfl) (by decide) ?_
      refine V_isub (pc := 251) (DCa dc_Mod_tellOne_2 3 rfl) ?_
      refine Q_lt (fun x44 => ?_)
      refine V_istore_n (ls' := [(0, 2, l0), (1, 0, x44)]) (pc := 252) (DCa dc_Mod_tellOne_2 4 rfl) rfl (Nat.le_of_ble_eq_true rfl) rfl ?_
      refine V_iload_n (pc := 253) (DCa dc_Mod_tellOne_2 5 rfl) rfl 1 rfl ?_
      refine V_if_lt (tgt := 271) (pc := 254) (DCa dc_Mod_tellOne_2 6 rfl) (by decide) (fun _ => ?_) (fun _ => ?_)
      · exact v_Mod_tellOne_B271 F _ _ _
      · refine V_aload_n (pc := 257) (DCa dc_Mod_tellOne_2 7 rfl) rfl 0 rfl ?_
        refine Q_getf (k := 5) (pc := 258) (DCa dc_Mod_tellOne_2 8 rfl) cls_12 (Nat.le_of_ble_eq_true rfl) fl_12_20 rfl rfl rfl (fun v45 => ?_)
        refine V_aload_n (pc := 261) (DCa dc_Mod_tellOne_2 9 rfl) rfl 0 rfl ?_
        refine Q_getf (k := 11) (pc := 262) (DCa dc_Mod_tellOne_2 10 rfl) cls_12 (Nat.le_of_ble_eq_true rfl) fl_12_254 rfl rfl rfl (fun v46 => ?_)
        refine Q_iaload (pc := 265) (DCa dc_Mod_tellOne_2 11 rfl) (fun v47 => ?_)
        refine V_bipush (pc := 266) (DCa dc_Mod_tellOne_2 12 rfl) (by decide) ?_
        refine V_icmp_le (tgt := 276) (pc := 268) (DCa dc_Mod_tellOne_2 13 rfl) (by decide) (fun _ => ?_) (fun _ => ?_)
        · exact v_Mod_tellOne_B271 F _ _ _
        · exact v_Mod_tellOne_B276 F _ _ _
    | 6, _ =>
      refine ⟨_, 240, rfl, by decide, ?_⟩
      refine V_aload_n (pc := 240) (DCa dc_Mod_tellOne_1 47 rfl) rfl 0 rfl ?_
      refine Q_getf (k := 5) (pc := 241) (DCa dc_Mod_tellOne_1 48 rfl) cls_12 (Nat.le_of_ble_eq_true rfl) fl_12_20 rfl rfl rfl (fun v48 => ?_)
      refine V_aload_n (pc := 244) (DCa dc_Mod_tellOne_1 49 rfl) rfl 0 rfl ?_
      refine Q_getf (k := 11) (pc := 245) (DCa dc_Mod_tellOne_2 0 rfl) cls_12 (Nat.le_of_ble_eq_true rfl) fl_12_254 rfl rfl rfl (fun v49 => ?_)
      refine Q_iaload (pc := 248) (DCa dc_Mod_tellOne_2 1 rfl) (fun v50 => ?_)
      refine V_bipush (pc := 249) (DCa dc_Mod_tellOne_2 2 rfl) (by decide) ?_
      refine V_isub (pc := 251) (DCa dc_Mod_tellOne_2 3 rfl) ?_
      refine Q_lt (fun x51 => ?_)
      refine V_istore_n (ls' := [(0, 2, l0), (1, 0, x51)]) (pc := 252) (DCa dc_Mod_tellOne_2 4 rfl) rfl (Nat.le_of_ble_eq_true rfl) rfl ?_
      refine V_iload_n (pc := 253) (DCa dc_Mod_tellOne_2 5 rfl) rfl 1 rfl ?_
      refine V_if_lt (tgt := 271) (pc := 254) (DCa dc_Mod_tellOne_2 6 rfl) (by decide) (fun _ => ?_) (fun _ => ?_)
      · exact v_Mod_tellOne_B271 F _ _ _
      · refine V_aload_n (pc := 257) (DCa dc_Mod_tellOne_2 7 rfl) rfl 0 rfl ?_
        refine Q_getf (k := 5) (pc := 258) (DCa dc_Mod_tellOne_2 8 rfl) cls_12 (Nat.le_of_ble_eq_true rfl) fl_12_20 rfl rfl rfl (fun v52 => ?_)
        refine V_aload_n (pc := 261) (DCa dc_Mod_tellOne_2 9 rfl) rfl 0 rfl ?_
        refine Q_getf (k := 11) (pc := 262) (DCa dc_Mod_tellOne_2 10 rfl) cls_12 (Nat.le_of_ble_eq_true rfl) fl_12_254 rfl rfl rfl (fun v53 => ?_)
        refine Q_iaload (pc := 265) (DCa dc_Mod_tellOne_2 11 rfl) (fun v54 => ?_)
        refine V_bipush (pc := 266) (DCa dc_Mod_tellOne_2 12 rfl) (by decide) ?_
        refine V_icmp_le (tgt := 276) (pc := 268) (DCa dc_Mod_tellOne_2 13 rfl) (by decide) (fun _ => ?_) (fun _ => ?_)
        · exact v_Mod_tellOne_B271 F _ _ _
        · exact v_Mod_tellOne_B276 F _ _ _
    | 7, _ =>
      refine ⟨_, 121, rfl, by decide, ?_⟩
      refine V_aload_n (pc := 121) (DCa dc_Mod_tellOne_0 34 rfl) rfl 0 rfl ?_
      refine Q_callv (ci := 12) (st := []) (pc := 122) (DCa dc_Mod_tellOne_0 35 rfl) (sp_Mod_goesOn F _ _) ce_Mod_goesOn ml_12_272 rfl rfl ⟨Nat.le_of_ble_eq_true rfl, Nat.le_of_ble_eq_true rfl⟩ rfl (Nat.le_of_ble_eq_true rfl) (fun r55 h56 => ?_)
      refine V_aload_n (pc := 125) (DCa dc_Mod_tellOne_0 36 rfl) rfl 0 rfl ?_
      refine Q_getf (k := 31) (pc := 126) (DCa dc_Mod_tellOne_0 37 rfl) cls_12 (Nat.le_of_ble_eq_true rfl) fl_12_70 rfl rfl rfl (fun v57 => ?_)
      refine V_aload_n (pc := 129) (DCa dc_Mod_tellOne_0 38 rfl) rfl 0 rfl ?_
      refine Q_getf (k := 19) (pc := 130) (DCa dc_Mod_tellOne_0 39 rfl) cls_12 (Nat.le_of_ble_eq_true rfl) fl_12_284 rfl rfl rfl (fun v58 => ?_)
      refine V_aload_n (pc := 133) (DCa dc_Mod_tellOne_0 40 rfl) rfl 0 rfl ?_
      refine V_iconst (pc := 134) (DCa dc_Mod_tellOne_0 41 rfl) (by decide) ?_
      refine V_sipush (pc := 135) (DCa dc_Mod_tellOne_0 42 rfl) (by decide) ?_
      refine Q_callv (ci := 12) (st := [(0, v58), (2, v57)]) (pc := 138) (DCa dc_Mod_tellOne_0 43 rfl) (sp_Mod_bounded F _ _ _ _) ce_Mod_bounded ml_12_315 rfl rfl ⟨Nat.le_of_ble_eq_true rfl, Nat.le_of_ble_eq_true rfl⟩ rfl (Nat.le_of_ble_eq_true rfl) (fun r59 h60 => ?_)
      refine Q_iastore (pc := 141) (DCa dc_Mod_tellOne_0 44 rfl) (fun h61 => ?_)
      refine V_aload_n (pc := 142) (DCa dc_Mod_tellOne_0 45 rfl) rfl 0 rfl ?_
      refine Q_getf (k := 32) (pc := 143) (DCa dc_Mod_tellOne_0 46 rfl) cls_12 (Nat.le_of_ble_eq_true rfl) fl_12_73 rfl rfl rfl (fun v62 => ?_)
      refine V_aload_n (pc := 146) (DCa dc_Mod_tellOne_0 47 rfl) rfl 0 rfl ?_
      refine Q_getf (k := 19) (pc := 147) (DCa dc_Mod_tellOne_0 48 rfl) cls_12 (Nat.le_of_ble_eq_true rfl) fl_12_284 rfl rfl rfl (fun v63 => ?_)
      refine V_aload_n (pc := 150) (DCa dc_Mod_tellOne_0 49 rfl) rfl 0 rfl ?_
      refine V_iconst (pc := 151) (DCa dc_Mod_tellOne_1 0 rfl) (by decide) ?_
      refine V_sipush (pc := 152) (DCa dc_Mod_tellOne_1 1 rfl) (by decide) ?_
      refine Q_callv (ci := 12) (st := [(0, v63), (2, v62)]) (pc := 155) (DCa dc_Mod_tellOne_1 2 rfl) (sp_Mod_bounded F _ _ _ _) ce_Mod_bounded ml_12_315 rfl rfl ⟨Nat.le_of_ble_eq_true rfl, Nat.le_of_ble_eq_true rfl⟩ rfl (Nat.le_of_ble_eq_true rfl) (fun r64 h65 => ?_)
      refine Q_iastore (pc := 158) (DCa dc_Mod_tellOne_1 3 rfl) (fun h66 => ?_)
      refine V_aload_n (pc := 159) (DCa dc_Mod_tellOne_1 4 rfl) rfl 0 rfl ?_
      refine V_iconst (pc := 160) (DCa dc_Mod_tellOne_1 5 rfl) (by decide) ?_
      refine Q_callv (ci := 12) (st := []) (pc := 161) (DCa dc_Mod_tellOne_1 6 rfl) (sp_Mod_must F _ _ _) ce_Mod_must ml_12_319 rfl rfl ⟨Nat.le_of_ble_eq_true rfl, Nat.le_of_ble_eq_true rfl⟩ rfl (Nat.le_of_ble_eq_true rfl) (fun r67 h68 => ?_)
      refine V_goto (tgt := 293) (pc := 164) (DCa dc_Mod_tellOne_1 7 rfl) (by decide) ?_
      exact V_return (pc := 293) (DCa dc_Mod_tellOne_2 26 rfl) rfl
    | 8, _ =>
      refine ⟨_, 167, rfl, by decide, ?_⟩
      refine V_aload_n (pc := 167) (DCa dc_Mod_tellOne_1 8 rfl) rfl 0 rfl ?_
      refine Q_callv (ci := 12) (st := []) (pc := 168) (DCa dc_Mod_tellOne_1 9 rfl) (sp_Mod_goesOn F _ _) ce_Mod_goesOn ml_12_272 rfl rfl ⟨Nat.le_of_ble_eq_true rfl, Nat.le_of_ble_eq_true rfl⟩ rfl (Nat.le_of_ble_eq_true rfl) (fun r69 h70 => ?_)
      refine V_aload_n (pc := 171) (DCa dc_Mod_tellOne_1 10 rfl) rfl 0 rfl ?_
      refine Q_getf (k := 33) (pc := 172) (DCa dc_Mod_tellOne_1 11 rfl) cls_12 (Nat.le_of_ble_eq_true rfl) fl_12_76 rfl rfl rfl (fun v71 => ?_)
      refine V_aload_n (pc := 175) (DCa dc_Mod_tellOne_1 12 rfl) rfl 0 rfl ?_
      refine Q_getf (k := 19) (pc := 176) (DCa dc_Mod_tellOne_1 13 rfl) cls_12 (Nat.le_of_ble_eq_true rfl) fl_12_284 rfl rfl rfl (fun v72 => ?_)
      refine V_aload_n (pc := 179) (DCa dc_Mod_tellOne_1 14 rfl) rfl 0 rfl ?_
      refine V_iconst (pc := 180) (DCa dc_Mod_tellOne_1 15 rfl) (by decide) ?_
      refine V_bipush (pc := 181) (DCa dc_Mod_tellOne_1 16 rfl) (by decide) ?_
      refine Q_callv (ci := 12) (st := [(0, v72), (2, v71)]) (pc := 183) (DCa dc_Mod_tellOne_1 17 rfl) (sp_Mod_bounded F _ _ _ _) ce_Mod_bounded ml_12_315 rfl rfl ⟨Nat.le_of_ble_eq_true rfl, Nat.le_of_ble_eq_true rfl⟩ rfl (Nat.le_of_ble_eq_true rfl) (fun r73 h74 => ?_)
      refine Q_iastore (pc := 186) (DCa dc_Mod_tellOne_1 18 rfl) (fun h75 => ?_)
      refine V_aload_n (pc := 187) (DCa dc_Mod_tellOne_1 19 rfl) rfl 0 rfl ?_
      refine Q_getf (k := 34) (pc := 188) (DCa dc_Mod_tellOne_1 20 rfl) cls_12 (Nat.le_of_ble_eq_true rfl) fl_12_79 rfl rfl rfl (fun v76 => ?_)
      refine V_aload_n (pc := 191) (DCa dc_Mod_tellOne_1 21 rfl) rfl 0 rfl ?_
      refine Q_getf (k := 19) (pc := 192) (DCa dc_Mod_tellOne_1 22 rfl) cls_12 (Nat.le_of_ble_eq_true rfl) fl_12_284 rfl rfl rfl (fun v77 => ?_)
      refine V_aload_n (pc := 195) (DCa dc_Mod_tellOne_1 23 rfl) rfl 0 rfl ?_
      refine V_iconst (pc := 196) (DCa dc_Mod_tellOne_1 24 rfl) (by decide) ?_
      refine V_bipush (pc := 197) (DCa dc_Mod_tellOne_1 25 rfl) (by decide) ?_
      refine Q_callv (ci := 12) (st := [(0, v77), (2, v76)]) (pc := 199) (DCa dc_Mod_tellOne_1 26 rfl) (sp_Mod_bounded F _ _ _ _) ce_Mod_bounded ml_12_315 rfl rfl ⟨Nat.le_of_ble_eq_true rfl, Nat.le_of_ble_eq_true rfl⟩ rfl (Nat.le_of_ble_eq_true rfl) (fun r78 h79 => ?_)
      refine Q_iastore (pc := 202) (DCa dc_Mod_tellOne_1 27 rfl) (fun h80 => ?_)
      refine V_aload_n (pc := 203) (DCa dc_Mod_tellOne_1 28 rfl) rfl 0 rfl ?_
      refine V_iconst (pc := 204) (DCa dc_Mod_tellOne_1 29 rfl) (by decide) ?_
      refine Q_callv (ci := 12) (st := []) (pc := 205) (DCa dc_Mod_tellOne_1 30 rfl) (sp_Mod_must F _ _ _) ce_Mod_must ml_12_319 rfl rfl ⟨Nat.le_of_ble_eq_true rfl, Nat.le_of_ble_eq_true rfl⟩ rfl (Nat.le_of_ble_eq_true rfl) (fun r81 h82 => ?_)
      refine V_goto (tgt := 293) (pc := 208) (DCa dc_Mod_tellOne_1 31 rfl) (by decide) ?_
      exact V_return (pc := 293) (DCa dc_Mod_tellOne_2 26 rfl) rfl
    | 9, _ =>
      refine ⟨_, 211, rfl, by decide, ?_⟩
      refine V_aload_n (pc := 211) (DCa dc_Mod_tellOne_1 32 rfl) rfl 0 rfl ?_
      refine Q_callv (ci := 12) (st := []) (pc := 212) (DCa dc_Mod_tellOne_1 33 rfl) (sp_Mod_goesOn F _ _) ce_Mod_goesOn ml_12_272 rfl rfl ⟨Nat.le_of_ble_eq_true rfl, Nat.le_of_ble_eq_true rfl⟩ rfl (Nat.le_of_ble_eq_true rfl) (fun r83 h84 => ?_)
      refine V_aload_n (pc := 215) (DCa dc_Mod_tellOne_1 34 rfl) rfl 0 rfl ?_
      refine Q_getf (k := 35) (pc := 216) (DCa dc_Mod_tellOne_1 35 rfl) cls_12 (Nat.le_of_ble_eq_true rfl) fl_12_82 rfl rfl rfl (fun v85 => ?_)
      refine V_aload_n (pc := 219) (DCa dc_Mod_tellOne_1 36 rfl) rfl 0 rfl ?_
      refine Q_getf (k := 19) (pc := 220) (DCa dc_Mod_tellOne_1 37 rfl) cls_12 (Nat.le_of_ble_eq_true rfl) fl_12_284 rfl rfl rfl (fun v86 => ?_)
      refine V_aload_n (pc := 223) (DCa dc_Mod_tellOne_1 38 rfl) rfl 0 rfl ?_
      refine V_iconst (pc := 224) (DCa dc_Mod_tellOne_1 39 rfl) (by decide) ?_
      refine V_sipush (pc := 225) (DCa dc_Mod_tellOne_1 40 rfl) (by decide) ?_
      refine Q_callv (ci := 12) (st := [(0, v86), (2, v85)]) (pc := 228) (DCa dc_Mod_tellOne_1 41 rfl) (sp_Mod_bounded F _ _ _ _) ce_Mod_bounded ml_12_315 rfl rfl ⟨Nat.le_of_ble_eq_true rfl, Nat.le_of_ble_eq_true rfl⟩ rfl (Nat.le_of_ble_eq_true rfl) (fun r87 h88 => ?_)
      refine Q_iastore (pc := 231) (DCa dc_Mod_tellOne_1 42 rfl) (fun h89 => ?_)
      refine V_aload_n (pc := 232) (DCa dc_Mod_tellOne_1 43 rfl) rfl 0 rfl ?_
      refine V_iconst (pc := 233) (DCa dc_Mod_tellOne_1 44 rfl) (by decide) ?_
      refine Q_callv (ci := 12) (st := []) (pc := 234) (DCa dc_Mod_tellOne_1 45 rfl) (sp_Mod_must F _ _ _) ce_Mod_must ml_12_319 rfl rfl ⟨Nat.le_of_ble_eq_true rfl, Nat.le_of_ble_eq_true rfl⟩ rfl (Nat.le_of_ble_eq_true rfl) (fun r90 h91 => ?_)
      refine V_goto (tgt := 293) (pc := 237) (DCa dc_Mod_tellOne_1 46 rfl) (by decide) ?_
      exact V_return (pc := 293) (DCa dc_Mod_tellOne_2 26 rfl) rfl
    | k + 10, hi => exact absurd hi (by omega)
theorem sp_Mod_tellOne (F : Nat) (l0 : Int) (h : Hp) : Sp yX12_tellOne cX12_tellOne 2 none 7 146 [(2, l0)] h (Mod_tellOne F l0 h) := Sp_of (by decide +kernel) rfl rfl (Nat.le_of_ble_eq_true rfl) (v_Mod_tellOne F l0 h)

-- TideRakesModel.read
def Mod_read_L223s (F : Nat)  (R223 : Int → Int → Hp → Option (Int × Hp)) (l0 l1 : Int) (h : Hp) : Option (Int × Hp) :=
  if l1 < 3 then
    (gf h l0 112 84 fun v49 =>
    az h v49 l1 0 fun h50 =>
    R223 l0 (w32 (l1 + 1)) h50)
  else
    (some (0, h))
def Mod_read_L223 (F : Nat)  : Nat → Int → Int → Hp → Option (Int × Hp)
  | 0 => fun _ _ _ => none
  | n + 1 => Mod_read_L223s F  (Mod_read_L223 F  n)
def Mod_read_B164 (F : Nat)  (l0 s0 s1 : Int) (h : Hp) : Option (Int × Hp) :=
  pf h s1 112 17 s0 fun h34 =>
  gf h34 l0 112 13 fun v35 =>
  if 0 < v35 then
    (gf h34 l0 112 13 fun v36 =>
    some (v36, h34))
  else
    (gf h34 l0 112 15 fun v37 =>
    if 0 < v37 then
      (gf h34 l0 112 15 fun v38 =>
      some (v38, h34))
    else
      (gf h34 l0 112 19 fun v39 =>
      pf h34 l0 112 18 v39 fun h40 =>
      iv h40 l0 112 (Mod_layOut F l0 h40) fun r41 h42 =>
      iv h42 l0 112 (Mod_begins F l0 h42) fun r43 h44 =>
      iv h44 l0 112 (Mod_keepsRow F l0 h44) fun r45 h46 =>
      pf h46 l0 112 64 0 fun h47 =>
      pf h47 l0 112 80 0 fun h48 =>
      Mod_read_L223 F F l0 0 h48))
def Mod_read_B134 (F : Nat)  (l0 : Int) (h : Hp) : Option (Int × Hp) :=
  gf h l0 112 13 fun v30 =>
  if 0 < v30 then
    (gf h l0 112 14 fun v31 =>
    Mod_read_B164 F l0 v31 l0 h)
  else
    (gf h l0 112 15 fun v32 =>
    if 0 < v32 then
      (gf h l0 112 16 fun v33 =>
      Mod_read_B164 F l0 v33 l0 h)
    else
      (Mod_read_B164 F l0 (-1) l0 h))
def Mod_read_L112s (F : Nat)  (R112 : Int → Hp → Option (Int × Hp)) (l0 : Int) (h : Hp) : Option (Int × Hp) :=
  gf h l0 112 13 fun v25 =>
  if v25 = 0 then
    (iv h l0 112 (Mod_is F l0 0 h) fun r26 h27 =>
    if r26 = 0 then
      (iv h27 l0 112 (Mod_tellOne F l0 h27) fun r28 h29 =>
      R112 l0 h29)
    else
      (Mod_read_B134 F l0 h27))
  else
    (Mod_read_B134 F l0 h)
def Mod_read_L112 (F : Nat)  : Nat → Int → Hp → Option (Int × Hp)
  | 0 => fun _ _ => none
  | n + 1 => Mod_read_L112s F  (Mod_read_L112 F  n)
def Mod_read_B36 (F : Nat)  (l0 : Int) (h : Hp) : Option (Int × Hp) :=
  pf h l0 112 2 0 fun h8 =>
  iv h8 l0 112 (Mod_cut F l0 h8) fun r9 h10 =>
  pf h10 l0 112 11 0 fun h11 =>
  pf h11 l0 112 12 0 fun h12 =>
  pf h12 l0 112 13 0 fun h13 =>
  pf h13 l0 112 15 0 fun h14 =>
  gf h14 l0 112 18 fun v15 =>
  pf h14 l0 112 19 (w32 (1 - v15)) fun h16 =>
  pf h16 l0 112 20 0 fun h17 =>
  gf h17 l0 112 19 fun v18 =>
  iv h17 l0 112 (Mod_plain F l0 v18 h17) fun r19 h20 =>
  gf h20 l0 112 19 fun v21 =>
  pf h20 l0 112 38 (w32 (130 * v21)) fun h22 =>
  gf h22 l0 112 19 fun v23 =>
  pf h22 l0 112 44 (w32 (420 * v23)) fun h24 =>
  Mod_read_L112 F F l0 h24
def Mod_read_L10s (F : Nat)  (R10 : Int → Int → Hp → Option (Int × Hp)) (l0 l1 : Int) (h : Hp) : Option (Int × Hp) :=
  gf h l0 112 4 fun v3 =>
  if l1 < v3 then
    (gf h l0 112 3 fun v4 =>
    gf h l0 112 1 fun v5 =>
    al h v5 1 l1 fun v6 =>
    as h v4 1 l1 (i2b v6) fun h7 =>
    R10 l0 (w32 (l1 + 1)) h7)
  else
    (Mod_read_B36 F l0 h)
def Mod_read_L10 (F : Nat)  : Nat → Int → Int → Hp → Option (Int × Hp)
  | 0 => fun _ _ _ => none
  | n + 1 => Mod_read_L10s F  (Mod_read_L10 F  n)
def Mod_read (F : Nat) (l0 : Int) (h : Hp) : Option (Int × Hp) :=
  gf h l0 112 2 fun v1 =>
  pf h l0 112 4 v1 fun h2 =>
  Mod_read_L10 F F l0 0 h2

theorem dc_Mod_read_0 : ∀ q ∈ ([(0, .aload_n 0, 1), (1, .aload_n 0, 1), (2, .getfield 214, 3), (5, .putfield 220, 3), (8, .iconst 0, 1), (9, .istore_n 1, 1), (10, .iload_n 1, 1), (11, .aload_n 0, 1), (12, .getfield 220, 3), (15, .if_icmp .ge 21, 3), (18, .aload_n 0, 1), (19, .getfield 17, 3), (22, .iload_n 1, 1), (23, .aload_n 0, 1), (24, .getfield 13, 3), (27, .iload_n 1, 1), (28, .baload, 1), (29, .bastore, 1), (30, .iinc 1 1, 3), (33, .goto (-23), 3), (36, .aload_n 0, 1), (37, .iconst 0, 1), (38, .putfield 214, 3), (41, .aload_n 0, 1), (42, .invokevirtual 275, 3), (45, .aload_n 0, 1), (46, .iconst 0, 1), (47, .putfield 254, 3), (50, .aload_n 0, 1), (51, .iconst 0, 1), (52, .putfield 278, 3), (55, .aload_n 0, 1), (56, .iconst 0, 1), (57, .putfield 251, 3), (60, .aload_n 0, 1), (61, .iconst 0, 1), (62, .putfield 260, 3), (65, .aload_n 0, 1), (66, .iconst 1, 1), (67, .aload_n 0, 1), (68, .getfield 281, 3), (71, .isub, 1), (72, .putfield 284, 3), (75, .aload_n 0, 1), (76, .iconst 0, 1), (77, .putfield 287, 3), (80, .aload_n 0, 1), (81, .aload_n 0, 1), (82, .getfield 284, 3), (85, .invokevirtual 197, 3)] : List (Nat × Instr × Nat)), decode cX12_read q.1 = .ok (q.2.1, q.2.2) := by decide +kernel
theorem dc_Mod_read_1 : ∀ q ∈ ([(88, .aload_n 0, 1), (89, .sipush 130, 3), (92, .aload_n 0, 1), (93, .getfield 284, 3), (96, .imul, 1), (97, .putfield 290, 3), (100, .aload_n 0, 1), (101, .sipush 420, 3), (104, .aload_n 0, 1), (105, .getfield 284, 3), (108, .imul, 1), (109, .putfield 293, 3), (112, .aload_n 0, 1), (113, .getfield 251, 3), (116, .ifCond .ne 18, 3), (119, .aload_n 0, 1), (120, .iconst 0, 1), (121, .invokevirtual 269, 3), (124, .ifCond .ne 10, 3), (127, .aload_n 0, 1), (128, .invokevirtual 296, 3), (131, .goto (-19), 3), (134, .aload_n 0, 1), (135, .aload_n 0, 1), (136, .getfield 251, 3), (139, .ifCond .le 10, 3), (142, .aload_n 0, 1), (143, .getfield 257, 3), (146, .goto 18, 3), (149, .aload_n 0, 1), (150, .getfield 260, 3), (153, .ifCond .le 10, 3), (156, .aload_n 0, 1), (157, .getfield 263, 3), (160, .goto 4, 3), (163, .iconst (-1), 1), (164, .putfield 37, 3), (167, .aload_n 0, 1), (168, .getfield 251, 3), (171, .ifCond .le 8, 3), (174, .aload_n 0, 1), (175, .getfield 251, 3), (178, .ireturn, 1), (179, .aload_n 0, 1), (180, .getfield 260, 3), (183, .ifCond .le 8, 3), (186, .aload_n 0, 1), (187, .getfield 260, 3), (190, .ireturn, 1), (191, .aload_n 0, 1)] : List (Nat × Instr × Nat)), decode cX12_read q.1 = .ok (q.2.1, q.2.2) := by decide +kernel
theorem dc_Mod_read_2 : ∀ q ∈ ([(192, .aload_n 0, 1), (193, .getfield 284, 3), (196, .putfield 281, 3), (199, .aload_n 0, 1), (200, .invokevirtual 205, 3), (203, .aload_n 0, 1), (204, .invokevirtual 208, 3), (207, .aload_n 0, 1), (208, .invokevirtual 211, 3), (211, .aload_n 0, 1), (212, .iconst 0, 1), (213, .putfield 299, 3), (216, .aload_n 0, 1), (217, .iconst 0, 1), (218, .putfield 302, 3), (221, .iconst 0, 1), (222, .istore_n 1, 1), (223, .iload_n 1, 1), (224, .iconst 3, 1), (225, .if_icmp .ge 16, 3), (228, .aload_n 0, 1), (229, .getfield 191, 3), (232, .iload_n 1, 1), (233, .iconst 0, 1), (234, .bastore, 1), (235, .iinc 1 1, 3), (238, .goto (-15), 3), (241, .iconst 0, 1), (242, .ireturn, 1)] : List (Nat × Instr × Nat)), decode cX12_read q.1 = .ok (q.2.1, q.2.2) := by decide +kernel
abbrev X_Mod_read : MX := (cX12_read, RX12, "read", 2, (some (.int)), 8, 167)
theorem v_Mod_read_L223s (F : Nat)  (R223 : Int → Int → Hp → Option (Int × Hp)) (hR223 : ∀ (l0 l1 : Int) (h : Hp), V X_Mod_read 223 [(0, 2, l0), (1, 0, l1)] [] h (R223 l0 l1 h)) (l0 l1 : Int) (h : Hp) : V X_Mod_read 223 [(0, 2, l0), (1, 0, l1)] [] h (Mod_read_L223s F  R223 l0 l1 h) := by
  unfold Mod_read_L223s
  refine V_iload_n (pc := 223) (DCa dc_Mod_read_2 17 rfl) rfl 1 rfl ?_
  refine V_iconst (pc := 224) (DCa dc_Mod_read_2 18 rfl) (by decide) ?_
  refine V_icmp_ge (tgt := 241) (pc := 225) (DCa dc_Mod_read_2 19 rfl) (by decide) (fun _ => ?_) (fun _ => ?_)
  · refine V_aload_n (pc := 228) (DCa dc_Mod_read_2 20 rfl) rfl 0 rfl ?_
    refine Q_getf (k := 84) (pc := 229) (DCa dc_Mod_read_2 21 rfl) cls_12 (Nat.le_of_ble_eq_true rfl) fl_12_191 rfl rfl rfl (fun v49 => ?_)
    refine V_iload_n (pc := 232) (DCa dc_Mod_read_2 22 rfl) rfl 1 rfl ?_
    refine V_iconst (pc := 233) (DCa dc_Mod_read_2 23 rfl) (by decide) ?_
    refine Q_zastore (pc := 234) (DCa dc_Mod_read_2 24 rfl) (fun h50 => ?_)
    refine V_iinc (ls' := [(0, 2, l0), (1, 0, w32 (l1 + 1))]) (pc := 235) (DCa dc_Mod_read_2 25 rfl) (Nat.le_of_ble_eq_true rfl) (by decide) 1 rfl rfl ?_
    refine V_goto (tgt := 223) (pc := 238) (DCa dc_Mod_read_2 26 rfl) (by decide) ?_
    exact hR223 _ _ _
  · refine V_iconst (pc := 241) (DCa dc_Mod_read_2 27 rfl) (by decide) ?_
    exact V_ireturn (pc := 242) (DCa dc_Mod_read_2 28 rfl) rfl
theorem v_Mod_read_L223 (F : Nat)  (n : Nat) : ∀ (l0 l1 : Int) (h : Hp), V X_Mod_read 223 [(0, 2, l0), (1, 0, l1)] [] h (Mod_read_L223 F  n l0 l1 h) := by
  induction n with
  | zero => intros; exact V_none
  | succ n ih => exact fun l0 l1 h => v_Mod_read_L223s F  _ ih l0 l1 h
theorem v_Mod_read_B164 (F : Nat)  (l0 s0 s1 : Int) (h : Hp) : V X_Mod_read 164 [(0, 2, l0)] [(0, s0), (2, s1)] h (Mod_read_B164 F  l0 s0 s1 h) := by
  unfold Mod_read_B164
  refine Q_putf (k := 17) (pc := 164) (DCa dc_Mod_read_1 36 rfl) cls_12 (Nat.le_of_ble_eq_true rfl) fl_12_37 rfl rfl rfl (Or.inl rfl) (Or.inl ⟨rfl, rfl⟩) (fun h34 => ?_)
  refine V_aload_n (pc := 167) (DCa dc_Mod_read_1 37 rfl) rfl 0 rfl ?_
  refine Q_getf (k := 13) (pc := 168) (DCa dc_Mod_read_1 38 rfl) cls_12 (Nat.le_of_ble_eq_true rfl) fl_12_251 rfl rfl rfl (fun v35 => ?_)
  refine V_if_le (tgt := 179) (pc := 171) (DCa dc_Mod_read_1 39 rfl) (by decide) (fun _ => ?_) (fun _ => ?_)
  · refine V_aload_n (pc := 174) (DCa dc_Mod_read_1 40 rfl) rfl 0 rfl ?_
    refine Q_getf (k := 13) (pc := 175) (DCa dc_Mod_read_1 41 rfl) cls_12 (Nat.le_of_ble_eq_true rfl) fl_12_251 rfl rfl rfl (fun v36 => ?_)
    exact V_ireturn (pc := 178) (DCa dc_Mod_read_1 42 rfl) rfl
  · refine V_aload_n (pc := 179) (DCa dc_Mod_read_1 43 rfl) rfl 0 rfl ?_
    refine Q_getf (k := 15) (pc := 180) (DCa dc_Mod_read_1 44 rfl) cls_12 (Nat.le_of_ble_eq_true rfl) fl_12_260 rfl rfl rfl (fun v37 => ?_)
    refine V_if_le (tgt := 191) (pc := 183) (DCa dc_Mod_read_1 45 rfl) (by decide) (fun _ => ?_) (fun _ => ?_)
    · refine V_aload_n (pc := 186) (DCa dc_Mod_read_1 46 rfl) rfl 0 rfl ?_
      refine Q_getf (k := 15) (pc := 187) (DCa dc_Mod_read_1 47 rfl) cls_12 (Nat.le_of_ble_eq_true rfl) fl_12_260 rfl rfl rfl (fun v38 => ?_)
      exact V_ireturn (pc := 190) (DCa dc_Mod_read_1 48 rfl) rfl
    · refine V_aload_n (pc := 191) (DCa dc_Mod_read_1 49 rfl) rfl 0 rfl ?_
      refine V_aload_n (pc := 192) (DCa dc_Mod_read_2 0 rfl) rfl 0 rfl ?_
      refine Q_getf (k := 19) (pc := 193) (DCa dc_Mod_read_2 1 rfl) cls_12 (Nat.le_of_ble_eq_true rfl) fl_12_284 rfl rfl rfl (fun v39 => ?_)
      refine Q_putf (k := 18) (pc := 196) (DCa dc_Mod_read_2 2 rfl) cls_12 (Nat.le_of_ble_eq_true rfl) fl_12_281 rfl rfl rfl (Or.inl rfl) (Or.inl ⟨rfl, rfl⟩) (fun h40 => ?_)
      refine V_aload_n (pc := 199) (DCa dc_Mod_read_2 3 rfl) rfl 0 rfl ?_
      refine Q_callv (ci := 12) (st := []) (pc := 200) (DCa dc_Mod_read_2 4 rfl) (sp_Mod_layOut F _ _) ce_Mod_layOut ml_12_205 rfl rfl ⟨Nat.le_of_ble_eq_true rfl, Nat.le_of_ble_eq_true rfl⟩ rfl (Nat.le_of_ble_eq_true rfl) (fun r41 h42 => ?_)
      refine V_aload_n (pc := 203) (DCa dc_Mod_read_2 5 rfl) rfl 0 rfl ?_
      refine Q_callv (ci := 12) (st := []) (pc := 204) (DCa dc_Mod_read_2 6 rfl) (sp_Mod_begins F _ _) ce_Mod_begins ml_12_208 rfl rfl ⟨Nat.le_of_ble_eq_true rfl, Nat.le_of_ble_eq_true rfl⟩ rfl (Nat.le_of_ble_eq_true rfl) (fun r43 h44 => ?_)
      refine V_aload_n (pc := 207) (DCa dc_Mod_read_2 7 rfl) rfl 0 rfl ?_
      refine Q_callv (ci := 12) (st := []) (pc := 208) (DCa dc_Mod_read_2 8 rfl) (sp_Mod_keepsRow F _ _) ce_Mod_keepsRow ml_12_211 rfl rfl ⟨Nat.le_of_ble_eq_true rfl, Nat.le_of_ble_eq_true rfl⟩ rfl (Nat.le_of_ble_eq_true rfl) (fun r45 h46 => ?_)
      refine V_aload_n (pc := 211) (DCa dc_Mod_read_2 9 rfl) rfl 0 rfl ?_
      refine V_iconst (pc := 212) (DCa dc_Mod_read_2 10 rfl) (by decide) ?_
      refine Q_putf (k := 64) (pc := 213) (DCa dc_Mod_read_2 11 rfl) cls_12 (Nat.le_of_ble_eq_true rfl) fl_12_299 rfl rfl rfl (Or.inl rfl) (Or.inl ⟨rfl, rfl⟩) (fun h47 => ?_)
      refine V_aload_n (pc := 216) (DCa dc_Mod_read_2 12 rfl) rfl 0 rfl ?_
      refine V_iconst (pc := 217) (DCa dc_Mod_read_2 13 rfl) (by decide) ?_
      refine Q_putf (k := 80) (pc := 218) (DCa dc_Mod_read_2 14 rfl) cls_12 (Nat.le_of_ble_eq_true rfl) fl_12_302 rfl rfl rfl (Or.inl rfl) (Or.inl ⟨rfl, rfl⟩) (fun h48 => ?_)
      refine V_iconst (pc := 221) (DCa dc_Mod_read_2 15 rfl) (by decide) ?_
      refine V_istore_n (ls' := [(0, 2, l0), (1, 0, 0)]) (pc := 222) (DCa dc_Mod_read_2 16 rfl) rfl (Nat.le_of_ble_eq_true rfl) rfl ?_
      exact v_Mod_read_L223 F F _ _ _
theorem v_Mod_read_B134 (F : Nat)  (l0 : Int) (h : Hp) : V X_Mod_read 134 [(0, 2, l0)] [] h (Mod_read_B134 F  l0 h) := by
  unfold Mod_read_B134
  refine V_aload_n (pc := 134) (DCa dc_Mod_read_1 22 rfl) rfl 0 rfl ?_
  refine V_aload_n (pc := 135) (DCa dc_Mod_read_1 23 rfl) rfl 0 rfl ?_
  refine Q_getf (k := 13) (pc := 136) (DCa dc_Mod_read_1 24 rfl) cls_12 (Nat.le_of_ble_eq_true rfl) fl_12_251 rfl rfl rfl (fun v30 => ?_)
  refine V_if_le (tgt := 149) (pc := 139) (DCa dc_Mod_read_1 25 rfl) (by decide) (fun _ => ?_) (fun _ => ?_)
  · refine V_aload_n (pc := 142) (DCa dc_Mod_read_1 26 rfl) rfl 0 rfl ?_
    refine Q_getf (k := 14) (pc := 143) (DCa dc_Mod_read_1 27 rfl) cls_12 (Nat.le_of_ble_eq_true rfl) fl_12_257 rfl rfl rfl (fun v31 => ?_)
    refine V_goto (tgt := 164) (pc := 146) (DCa dc_Mod_read_1 28 rfl) (by decide) ?_
    exact v_Mod_read_B164 F _ _ _ _
  · refine V_aload_n (pc := 149) (DCa dc_Mod_read_1 29 rfl) rfl 0 rfl ?_
    refine Q_getf (k := 15) (pc := 150) (DCa dc_Mod_read_1 30 rfl) cls_12 (Nat.le_of_ble_eq_true rfl) fl_12_260 rfl rfl rfl (fun v32 => ?_)
    refine V_if_le (tgt := 163) (pc := 153) (DCa dc_Mod_read_1 31 rfl) (by decide) (fun _ => ?_) (fun _ => ?_)
    · refine V_aload_n (pc := 156) (DCa dc_Mod_read_1 32 rfl) rfl 0 rfl ?_
      refine Q_getf (k := 16) (pc := 157) (DCa dc_Mod_read_1 33 rfl) cls_12 (Nat.le_of_ble_eq_true rfl) fl_12_263 rfl rfl rfl (fun v33 => ?_)
      refine V_goto (tgt := 164) (pc := 160) (DCa dc_Mod_read_1 34 rfl) (by decide) ?_
      exact v_Mod_read_B164 F _ _ _ _
    · refine V_iconst (pc := 163) (DCa dc_Mod_read_1 35 rfl) (by decide) ?_
      exact v_Mod_read_B164 F _ _ _ _
theorem v_Mod_read_L112s (F : Nat)  (R112 : Int → Hp → Option (Int × Hp)) (hR112 : ∀ (l0 : Int) (h : Hp), V X_Mod_read 112 [(0, 2, l0)] [] h (R112 l0 h)) (l0 : Int) (h : Hp) : V X_Mod_read 112 [(0, 2, l0)] [] h (Mod_read_L112s F  R112 l0 h) := by
  unfold Mod_read_L112s
  refine V_aload_n (pc := 112) (DCa dc_Mod_read_1 12 rfl) rfl 0 rfl ?_
  refine Q_getf (k := 13) (pc := 113) (DCa dc_Mod_read_1 13 rfl) cls_12 (Nat.le_of_ble_eq_true rfl) fl_12_251 rfl rfl rfl (fun v25 => ?_)
  refine V_if_ne (tgt := 134) (pc := 116) (DCa dc_Mod_read_1 14 rfl) (by decide) (fun _ => ?_) (fun _ => ?_)
  · refine V_aload_n (pc := 119) (DCa dc_Mod_read_1 15 rfl) rfl 0 rfl ?_
    refine V_iconst (pc := 120) (DCa dc_Mod_read_1 16 rfl) (by decide) ?_
    refine Q_callv (ci := 12) (st := []) (pc := 121) (DCa dc_Mod_read_1 17 rfl) (sp_Mod_is F _ _ _) ce_Mod_is ml_12_269 rfl rfl ⟨Nat.le_of_ble_eq_true rfl, Nat.le_of_ble_eq_true rfl⟩ rfl (Nat.le_of_ble_eq_true rfl) (fun r26 h27 => ?_)
    refine V_if_ne (tgt := 134) (pc := 124) (DCa dc_Mod_read_1 18 rfl) (by decide) (fun _ => ?_) (fun _ => ?_)
    · refine V_aload_n (pc := 127) (DCa dc_Mod_read_1 19 rfl) rfl 0 rfl ?_
      refine Q_callv (ci := 12) (st := []) (pc := 128) (DCa dc_Mod_read_1 20 rfl) (sp_Mod_tellOne F _ _) ce_Mod_tellOne ml_12_296 rfl rfl ⟨Nat.le_of_ble_eq_true rfl, Nat.le_of_ble_eq_true rfl⟩ rfl (Nat.le_of_ble_eq_true rfl) (fun r28 h29 => ?_)
      refine V_goto (tgt := 112) (pc := 131) (DCa dc_Mod_read_1 21 rfl) (by decide) ?_
      exact hR112 _ _
    · exact v_Mod_read_B134 F _ _
  · exact v_Mod_read_B134 F _ _
theorem v_Mod_read_L112 (F : Nat)  (n : Nat) : ∀ (l0 : Int) (h : Hp), V X_Mod_read 112 [(0, 2, l0)] [] h (Mod_read_L112 F  n l0 h) := by
  induction n with
  | zero => intros; exact V_none
  | succ n ih => exact fun l0 h => v_Mod_read_L112s F  _ ih l0 h
theorem v_Mod_read_B36 (F : Nat)  (l0 : Int) (h : Hp) : V X_Mod_read 36 [(0, 2, l0)] [] h (Mod_read_B36 F  l0 h) := by
  unfold Mod_read_B36
  refine V_aload_n (pc := 36) (DCa dc_Mod_read_0 20 rfl) rfl 0 rfl ?_
  refine V_iconst (pc := 37) (DCa dc_Mod_read_0 21 rfl) (by decide) ?_
  refine Q_putf (k := 2) (pc := 38) (DCa dc_Mod_read_0 22 rfl) cls_12 (Nat.le_of_ble_eq_true rfl) fl_12_214 rfl rfl rfl (Or.inl rfl) (Or.inl ⟨rfl, rfl⟩) (fun h8 => ?_)
  refine V_aload_n (pc := 41) (DCa dc_Mod_read_0 23 rfl) rfl 0 rfl ?_
  refine Q_callv (ci := 12) (st := []) (pc := 42) (DCa dc_Mod_read_0 24 rfl) (sp_Mod_cut F _ _) ce_Mod_cut ml_12_275 rfl rfl ⟨Nat.le_of_ble_eq_true rfl, Nat.le_of_ble_eq_true rfl⟩ rfl (Nat.le_of_ble_eq_true rfl) (fun r9 h10 => ?_)
  refine V_aload_n (pc := 45) (DCa dc_Mod_read_0 25 rfl) rfl 0 rfl ?_
  refine V_iconst (pc := 46) (DCa dc_Mod_read_0 26 rfl) (by decide) ?_
  refine Q_putf (k := 11) (pc := 47) (DCa dc_Mod_read_0 27 rfl) cls_12 (Nat.le_of_ble_eq_true rfl) fl_12_254 rfl rfl rfl (Or.inl rfl) (Or.inl ⟨rfl, rfl⟩) (fun h11 => ?_)
  refine V_aload_n (pc := 50) (DCa dc_Mod_read_0 28 rfl) rfl 0 rfl ?_
  refine V_iconst (pc := 51) (DCa dc_Mod_read_0 29 rfl) (by decide) ?_
  refine Q_putf (k := 12) (pc := 52) (DCa dc_Mod_read_0 30 rfl) cls_12 (Nat.le_of_ble_eq_true rfl) fl_12_278 rfl rfl rfl (Or.inl rfl) (Or.inl ⟨rfl, rfl⟩) (fun h12 => ?_)
  refine V_aload_n (pc := 55) (DCa dc_Mod_read_0 31 rfl) rfl 0 rfl ?_
  refine V_iconst (pc := 56) (DCa dc_Mod_read_0 32 rfl) (by decide) ?_
  refine Q_putf (k := 13) (pc := 57) (DCa dc_Mod_read_0 33 rfl) cls_12 (Nat.le_of_ble_eq_true rfl) fl_12_251 rfl rfl rfl (Or.inl rfl) (Or.inl ⟨rfl, rfl⟩) (fun h13 => ?_)
  refine V_aload_n (pc := 60) (DCa dc_Mod_read_0 34 rfl) rfl 0 rfl ?_
  refine V_iconst (pc := 61) (DCa dc_Mod_read_0 35 rfl) (by decide) ?_
  refine Q_putf (k := 15) (pc := 62) (DCa dc_Mod_read_0 36 rfl) cls_12 (Nat.le_of_ble_eq_true rfl) fl_12_260 rfl rfl rfl (Or.inl rfl) (Or.inl ⟨rfl, rfl⟩) (fun h14 => ?_)
  refine V_aload_n (pc := 65) (DCa dc_Mod_read_0 37 rfl) rfl 0 rfl ?_
  refine V_iconst (pc := 66) (DCa dc_Mod_read_0 38 rfl) (by decide) ?_
  refine V_aload_n (pc := 67) (DCa dc_Mod_read_0 39 rfl) rfl 0 rfl ?_
  refine Q_getf (k := 18) (pc := 68) (DCa dc_Mod_read_0 40 rfl) cls_12 (Nat.le_of_ble_eq_true rfl) fl_12_281 rfl rfl rfl (fun v15 => ?_)
  refine V_isub (pc := 71) (DCa dc_Mod_read_0 41 rfl) ?_
  refine Q_putf (k := 19) (pc := 72) (DCa dc_Mod_read_0 42 rfl) cls_12 (Nat.le_of_ble_eq_true rfl) fl_12_284 rfl rfl rfl (Or.inl rfl) (Or.inl ⟨rfl, rfl⟩) (fun h16 => ?_)
  refine V_aload_n (pc := 75) (DCa dc_Mod_read_0 43 rfl) rfl 0 rfl ?_
  refine V_iconst (pc := 76) (DCa dc_Mod_read_0 44 rfl) (by decide) ?_
  refine Q_putf (k := 20) (pc := 77) (DCa dc_Mod_read_0 45 rfl) cls_12 (Nat.le_of_ble_eq_true rfl) fl_12_287 rfl rfl rfl (Or.inl rfl) (Or.inl ⟨rfl, rfl⟩) (fun h17 => ?_)
  refine V_aload_n (pc := 80) (DCa dc_Mod_read_0 46 rfl) rfl 0 rfl ?_
  refine V_aload_n (pc := 81) (DCa dc_Mod_read_0 47 rfl) rfl 0 rfl ?_
  refine Q_getf (k := 19) (pc := 82) (DCa dc_Mod_read_0 48 rfl) cls_12 (Nat.le_of_ble_eq_true rfl) fl_12_284 rfl rfl rfl (fun v18 => ?_)
  refine Q_callv (ci := 12) (st := []) (pc := 85) (DCa dc_Mod_read_0 49 rfl) (sp_Mod_plain F _ _ _) ce_Mod_plain ml_12_197 rfl rfl ⟨Nat.le_of_ble_eq_true rfl, Nat.le_of_ble_eq_true rfl⟩ rfl (Nat.le_of_ble_eq_true rfl) (fun r19 h20 => ?_)
  refine V_aload_n (pc := 88) (DCa dc_Mod_read_1 0 rfl) rfl 0 rfl ?_
  refine V_sipush (pc := 89) (DCa dc_Mod_read_1 1 rfl) (by decide) ?_
  refine V_aload_n (pc := 92) (DCa dc_Mod_read_1 2 rfl) rfl 0 rfl ?_
  refine Q_getf (k := 19) (pc := 93) (DCa dc_Mod_read_1 3 rfl) cls_12 (Nat.le_of_ble_eq_true rfl) fl_12_284 rfl rfl rfl (fun v21 => ?_)
  refine V_imul (pc := 96) (DCa dc_Mod_read_1 4 rfl) ?_
  refine Q_putf (k := 38) (pc := 97) (DCa dc_Mod_read_1 5 rfl) cls_12 (Nat.le_of_ble_eq_true rfl) fl_12_290 rfl rfl rfl (Or.inl rfl) (Or.inl ⟨rfl, rfl⟩) (fun h22 => ?_)
  refine V_aload_n (pc := 100) (DCa dc_Mod_read_1 6 rfl) rfl 0 rfl ?_
  refine V_sipush (pc := 101) (DCa dc_Mod_read_1 7 rfl) (by decide) ?_
  refine V_aload_n (pc := 104) (DCa dc_Mod_read_1 8 rfl) rfl 0 rfl ?_
  refine Q_getf (k := 19) (pc := 105) (DCa dc_Mod_read_1 9 rfl) cls_12 (Nat.le_of_ble_eq_true rfl) fl_12_284 rfl rfl rfl (fun v23 => ?_)
  refine V_imul (pc := 108) (DCa dc_Mod_read_1 10 rfl) ?_
  refine Q_putf (k := 44) (pc := 109) (DCa dc_Mod_read_1 11 rfl) cls_12 (Nat.le_of_ble_eq_true rfl) fl_12_293 rfl rfl rfl (Or.inl rfl) (Or.inl ⟨rfl, rfl⟩) (fun h24 => ?_)
  exact v_Mod_read_L112 F F _ _
theorem v_Mod_read_L10s (F : Nat)  (R10 : Int → Int → Hp → Option (Int × Hp)) (hR10 : ∀ (l0 l1 : Int) (h : Hp), V X_Mod_read 10 [(0, 2, l0), (1, 0, l1)] [] h (R10 l0 l1 h)) (l0 l1 : Int) (h : Hp) : V X_Mod_read 10 [(0, 2, l0), (1, 0, l1)] [] h (Mod_read_L10s F  R10 l0 l1 h) := by
  unfold Mod_read_L10s
  refine V_iload_n (pc := 10) (DCa dc_Mod_read_0 6 rfl) rfl 1 rfl ?_
  refine V_aload_n (pc := 11) (DCa dc_Mod_read_0 7 rfl) rfl 0 rfl ?_
  refine Q_getf (k := 4) (pc := 12) (DCa dc_Mod_read_0 8 rfl) cls_12 (Nat.le_of_ble_eq_true rfl) fl_12_220 rfl rfl rfl (fun v3 => ?_)
  refine V_icmp_ge (tgt := 36) (pc := 15) (DCa dc_Mod_read_0 9 rfl) (by decide) (fun _ => ?_) (fun _ => ?_)
  · refine V_aload_n (pc := 18) (DCa dc_Mod_read_0 10 rfl) rfl 0 rfl ?_
    refine Q_getf (k := 3) (pc := 19) (DCa dc_Mod_read_0 11 rfl) cls_12 (Nat.le_of_ble_eq_true rfl) fl_12_17 rfl rfl rfl (fun v4 => ?_)
    refine V_iload_n (pc := 22) (DCa dc_Mod_read_0 12 rfl) rfl 1 rfl ?_
    refine V_aload_n (pc := 23) (DCa dc_Mod_read_0 13 rfl) rfl 0 rfl ?_
    refine Q_getf (k := 1) (pc := 24) (DCa dc_Mod_read_0 14 rfl) cls_12 (Nat.le_of_ble_eq_true rfl) fl_12_13 rfl rfl rfl (fun v5 => ?_)
    refine V_iload_n (pc := 27) (DCa dc_Mod_read_0 15 rfl) rfl 1 rfl ?_
    refine Q_baload (pc := 28) (DCa dc_Mod_read_0 16 rfl) (fun v6 => ?_)
    refine Q_bastore (pc := 29) (DCa dc_Mod_read_0 17 rfl) (fun h7 => ?_)
    refine V_iinc (ls' := [(0, 2, l0), (1, 0, w32 (l1 + 1))]) (pc := 30) (DCa dc_Mod_read_0 18 rfl) (Nat.le_of_ble_eq_true rfl) (by decide) 1 rfl rfl ?_
    refine V_goto (tgt := 10) (pc := 33) (DCa dc_Mod_read_0 19 rfl) (by decide) ?_
    exact hR10 _ _ _
  · refine V_pick [0] rfl ?_
    exact v_Mod_read_B36 F _ _
theorem v_Mod_read_L10 (F : Nat)  (n : Nat) : ∀ (l0 l1 : Int) (h : Hp), V X_Mod_read 10 [(0, 2, l0), (1, 0, l1)] [] h (Mod_read_L10 F  n l0 l1 h) := by
  induction n with
  | zero => intros; exact V_none
  | succ n ih => exact fun l0 l1 h => v_Mod_read_L10s F  _ ih l0 l1 h
theorem v_Mod_read (F : Nat) (l0 : Int) (h : Hp) : V X_Mod_read 0 [(0, 2, l0)] [] h (Mod_read F l0 h) := by
  unfold Mod_read
  refine V_aload_n (pc := 0) (DCa dc_Mod_read_0 0 rfl) rfl 0 rfl ?_
  refine V_aload_n (pc := 1) (DCa dc_Mod_read_0 1 rfl) rfl 0 rfl ?_
  refine Q_getf (k := 2) (pc := 2) (DCa dc_Mod_read_0 2 rfl) cls_12 (Nat.le_of_ble_eq_true rfl) fl_12_214 rfl rfl rfl (fun v1 => ?_)
  refine Q_putf (k := 4) (pc := 5) (DCa dc_Mod_read_0 3 rfl) cls_12 (Nat.le_of_ble_eq_true rfl) fl_12_220 rfl rfl rfl (Or.inl rfl) (Or.inl ⟨rfl, rfl⟩) (fun h2 => ?_)
  refine V_iconst (pc := 8) (DCa dc_Mod_read_0 4 rfl) (by decide) ?_
  refine V_istore_n (ls' := [(0, 2, l0), (1, 0, 0)]) (pc := 9) (DCa dc_Mod_read_0 5 rfl) rfl (Nat.le_of_ble_eq_true rfl) rfl ?_
  exact v_Mod_read_L10 F F _ _ _
theorem sp_Mod_read (F : Nat) (l0 : Int) (h : Hp) : Sp yX12_read cX12_read 2 (some (.int)) 8 167 [(2, l0)] h (Mod_read F l0 h) := Sp_of (by decide +kernel) rfl rfl (Nat.le_of_ble_eq_true rfl) (v_Mod_read F l0 h)
