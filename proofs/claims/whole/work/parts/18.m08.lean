-- TideRakesModel.place
def Mod_place (F : Nat) (l0 : Int) (h : Hp) : Option (Int × Hp) :=
  gf h l0 112 17 fun v1 =>
  some (v1, h)

theorem dc_Mod_place_0 : ∀ q ∈ ([(0, .aload_n 0, 1), (1, .getfield 37, 3), (4, .ireturn, 1)] : List (Nat × Instr × Nat)), decode cX12_place q.1 = .ok (q.2.1, q.2.2) := by decide +kernel
abbrev X_Mod_place : MX := (cX12_place, RX12, "place", 1, (some (.int)), 1, 20)
theorem v_Mod_place (F : Nat) (l0 : Int) (h : Hp) : V X_Mod_place 0 [(0, 2, l0)] [] h (Mod_place F l0 h) := by
  unfold Mod_place
  refine V_aload_n (pc := 0) (DCa dc_Mod_place_0 0 rfl) rfl 0 rfl ?_
  refine Q_getf (k := 17) (pc := 1) (DCa dc_Mod_place_0 1 rfl) cls_12 (Nat.le_of_ble_eq_true rfl) fl_12_37 rfl rfl rfl (fun v1 => ?_)
  exact V_ireturn (pc := 4) (DCa dc_Mod_place_0 2 rfl) rfl
theorem sp_Mod_place (F : Nat) (l0 : Int) (h : Hp) : Sp yX12_place cX12_place 1 (some (.int)) 1 20 [(2, l0)] h (Mod_place F l0 h) := Sp_of (by decide +kernel) rfl rfl (Nat.le_of_ble_eq_true rfl) (v_Mod_place F l0 h)

-- TideRakesModel.isPart
def Mod_isPart (F : Nat) (l0 l1 : Int) (h : Hp) : Option (Int × Hp) :=
  gf h l0 112 22 fun v1 =>
  gf h l0 112 18 fun v2 =>
  al h v1 0 v2 fun v3 =>
  cl (Mod_in F l1 0 (w32 (v3 - 1)) h) fun r4 h5 =>
  rz r4 h5

theorem dc_Mod_isPart_0 : ∀ q ∈ ([(0, .iload_n 1, 1), (1, .iconst 0, 1), (2, .aload_n 0, 1), (3, .getfield 43, 3), (6, .aload_n 0, 1), (7, .getfield 281, 3), (10, .iaload, 1), (11, .iconst 1, 1), (12, .isub, 1), (13, .invokestatic 355, 3), (16, .ireturn, 1)] : List (Nat × Instr × Nat)), decode cX12_isPart q.1 = .ok (q.2.1, q.2.2) := by decide +kernel
abbrev X_Mod_isPart : MX := (cX12_isPart, RX12, "isPart", 2, (some (.boolean)), 2, 42)
theorem v_Mod_isPart (F : Nat) (l0 l1 : Int) (h : Hp) : V X_Mod_isPart 0 [(0, 2, l0), (1, 0, l1)] [] h (Mod_isPart F l0 l1 h) := by
  unfold Mod_isPart
  refine V_iload_n (pc := 0) (DCa dc_Mod_isPart_0 0 rfl) rfl 1 rfl ?_
  refine V_iconst (pc := 1) (DCa dc_Mod_isPart_0 1 rfl) (by decide) ?_
  refine V_aload_n (pc := 2) (DCa dc_Mod_isPart_0 2 rfl) rfl 0 rfl ?_
  refine Q_getf (k := 22) (pc := 3) (DCa dc_Mod_isPart_0 3 rfl) cls_12 (Nat.le_of_ble_eq_true rfl) fl_12_43 rfl rfl rfl (fun v1 => ?_)
  refine V_aload_n (pc := 6) (DCa dc_Mod_isPart_0 4 rfl) rfl 0 rfl ?_
  refine Q_getf (k := 18) (pc := 7) (DCa dc_Mod_isPart_0 5 rfl) cls_12 (Nat.le_of_ble_eq_true rfl) fl_12_281 rfl rfl rfl (fun v2 => ?_)
  refine Q_iaload (pc := 10) (DCa dc_Mod_isPart_0 6 rfl) (fun v3 => ?_)
  refine V_iconst (pc := 11) (DCa dc_Mod_isPart_0 7 rfl) (by decide) ?_
  refine V_isub (pc := 12) (DCa dc_Mod_isPart_0 8 rfl) ?_
  refine Q_calls (st := []) (pc := 13) (DCa dc_Mod_isPart_0 9 rfl) (sp_Mod_in F _ _ _ _) ce_Mod_in ml_12_355 rfl ⟨Nat.le_of_ble_eq_true rfl, Nat.le_of_ble_eq_true rfl⟩ rfl (Nat.le_of_ble_eq_true rfl) (fun r4 h5 => ?_)
  exact V_zreturn (pc := 16) (DCa dc_Mod_isPart_0 10 rfl) rfl
theorem sp_Mod_isPart (F : Nat) (l0 l1 : Int) (h : Hp) : Sp yX12_isPart cX12_isPart 2 (some (.boolean)) 2 42 [(2, l0), (0, l1)] h (Mod_isPart F l0 l1 h) := Sp_of (by decide +kernel) rfl rfl (Nat.le_of_ble_eq_true rfl) (v_Mod_isPart F l0 l1 h)

-- TideRakesModel.isWorker
def Mod_isWorker (F : Nat) (l0 l1 : Int) (h : Hp) : Option (Int × Hp) :=
  gf h l0 112 27 fun v1 =>
  gf h l0 112 18 fun v2 =>
  al h v1 0 v2 fun v3 =>
  cl (Mod_in F l1 0 (w32 (v3 - 1)) h) fun r4 h5 =>
  rz r4 h5

theorem dc_Mod_isWorker_0 : ∀ q ∈ ([(0, .iload_n 1, 1), (1, .iconst 0, 1), (2, .aload_n 0, 1), (3, .getfield 58, 3), (6, .aload_n 0, 1), (7, .getfield 281, 3), (10, .iaload, 1), (11, .iconst 1, 1), (12, .isub, 1), (13, .invokestatic 355, 3), (16, .ireturn, 1)] : List (Nat × Instr × Nat)), decode cX12_isWorker q.1 = .ok (q.2.1, q.2.2) := by decide +kernel
abbrev X_Mod_isWorker : MX := (cX12_isWorker, RX12, "isWorker", 2, (some (.boolean)), 2, 42)
theorem v_Mod_isWorker (F : Nat) (l0 l1 : Int) (h : Hp) : V X_Mod_isWorker 0 [(0, 2, l0), (1, 0, l1)] [] h (Mod_isWorker F l0 l1 h) := by
  unfold Mod_isWorker
  refine V_iload_n (pc := 0) (DCa dc_Mod_isWorker_0 0 rfl) rfl 1 rfl ?_
  refine V_iconst (pc := 1) (DCa dc_Mod_isWorker_0 1 rfl) (by decide) ?_
  refine V_aload_n (pc := 2) (DCa dc_Mod_isWorker_0 2 rfl) rfl 0 rfl ?_
  refine Q_getf (k := 27) (pc := 3) (DCa dc_Mod_isWorker_0 3 rfl) cls_12 (Nat.le_of_ble_eq_true rfl) fl_12_58 rfl rfl rfl (fun v1 => ?_)
  refine V_aload_n (pc := 6) (DCa dc_Mod_isWorker_0 4 rfl) rfl 0 rfl ?_
  refine Q_getf (k := 18) (pc := 7) (DCa dc_Mod_isWorker_0 5 rfl) cls_12 (Nat.le_of_ble_eq_true rfl) fl_12_281 rfl rfl rfl (fun v2 => ?_)
  refine Q_iaload (pc := 10) (DCa dc_Mod_isWorker_0 6 rfl) (fun v3 => ?_)
  refine V_iconst (pc := 11) (DCa dc_Mod_isWorker_0 7 rfl) (by decide) ?_
  refine V_isub (pc := 12) (DCa dc_Mod_isWorker_0 8 rfl) ?_
  refine Q_calls (st := []) (pc := 13) (DCa dc_Mod_isWorker_0 9 rfl) (sp_Mod_in F _ _ _ _) ce_Mod_in ml_12_355 rfl ⟨Nat.le_of_ble_eq_true rfl, Nat.le_of_ble_eq_true rfl⟩ rfl (Nat.le_of_ble_eq_true rfl) (fun r4 h5 => ?_)
  exact V_zreturn (pc := 16) (DCa dc_Mod_isWorker_0 10 rfl) rfl
theorem sp_Mod_isWorker (F : Nat) (l0 l1 : Int) (h : Hp) : Sp yX12_isWorker cX12_isWorker 2 (some (.boolean)) 2 42 [(2, l0), (0, l1)] h (Mod_isWorker F l0 l1 h) := Sp_of (by decide +kernel) rfl rfl (Nat.le_of_ble_eq_true rfl) (v_Mod_isWorker F l0 l1 h)

-- TideRakesModel.firstFrom
def Mod_firstFrom (F : Nat) (l0 l1 l2 : Int) (h : Hp) : Option (Int × Hp) :=
  if 599 < l2 then
    (some ((-2), h))
  else
    (gf h l0 112 61 fun v1 =>
    al h v1 0 (w32 ((w32 (601 * l1)) + l2)) fun v2 =>
    some (v2, h))

theorem dc_Mod_firstFrom_0 : ∀ q ∈ ([(0, .iload_n 2, 1), (1, .sipush 599, 3), (4, .if_icmp .le 8, 3), (7, .bipush (-2), 2), (9, .goto 15, 3), (12, .aload_n 0, 1), (13, .getfield 149, 3), (16, .sipush 601, 3), (19, .iload_n 1, 1), (20, .imul, 1), (21, .iload_n 2, 1), (22, .iadd, 1), (23, .iaload, 1), (24, .ireturn, 1)] : List (Nat × Instr × Nat)), decode cX12_firstFrom q.1 = .ok (q.2.1, q.2.2) := by decide +kernel
abbrev X_Mod_firstFrom : MX := (cX12_firstFrom, RX12, "firstFrom", 3, (some (.int)), 1, 20)
theorem v_Mod_firstFrom (F : Nat) (l0 l1 l2 : Int) (h : Hp) : V X_Mod_firstFrom 0 [(0, 2, l0), (1, 0, l1), (2, 0, l2)] [] h (Mod_firstFrom F l0 l1 l2 h) := by
  unfold Mod_firstFrom
  refine V_iload_n (pc := 0) (DCa dc_Mod_firstFrom_0 0 rfl) rfl 2 rfl ?_
  refine V_sipush (pc := 1) (DCa dc_Mod_firstFrom_0 1 rfl) (by decide) ?_
  refine V_icmp_le (tgt := 12) (pc := 4) (DCa dc_Mod_firstFrom_0 2 rfl) (by decide) (fun _ => ?_) (fun _ => ?_)
  · refine V_bipush (pc := 7) (DCa dc_Mod_firstFrom_0 3 rfl) (by decide) ?_
    refine V_goto (tgt := 24) (pc := 9) (DCa dc_Mod_firstFrom_0 4 rfl) (by decide) ?_
    exact V_ireturn (pc := 24) (DCa dc_Mod_firstFrom_0 13 rfl) rfl
  · refine V_aload_n (pc := 12) (DCa dc_Mod_firstFrom_0 5 rfl) rfl 0 rfl ?_
    refine Q_getf (k := 61) (pc := 13) (DCa dc_Mod_firstFrom_0 6 rfl) cls_12 (Nat.le_of_ble_eq_true rfl) fl_12_149 rfl rfl rfl (fun v1 => ?_)
    refine V_sipush (pc := 16) (DCa dc_Mod_firstFrom_0 7 rfl) (by decide) ?_
    refine V_iload_n (pc := 19) (DCa dc_Mod_firstFrom_0 8 rfl) rfl 1 rfl ?_
    refine V_imul (pc := 20) (DCa dc_Mod_firstFrom_0 9 rfl) ?_
    refine V_iload_n (pc := 21) (DCa dc_Mod_firstFrom_0 10 rfl) rfl 2 rfl ?_
    refine V_iadd (pc := 22) (DCa dc_Mod_firstFrom_0 11 rfl) ?_
    refine Q_iaload (pc := 23) (DCa dc_Mod_firstFrom_0 12 rfl) (fun v2 => ?_)
    exact V_ireturn (pc := 24) (DCa dc_Mod_firstFrom_0 13 rfl) rfl
theorem sp_Mod_firstFrom (F : Nat) (l0 l1 l2 : Int) (h : Hp) : Sp yX12_firstFrom cX12_firstFrom 3 (some (.int)) 1 20 [(2, l0), (0, l1), (0, l2)] h (Mod_firstFrom F l0 l1 l2 h) := Sp_of (by decide +kernel) rfl rfl (Nat.le_of_ble_eq_true rfl) (v_Mod_firstFrom F l0 l1 l2 h)

-- TideRakesModel.isCovered
def Mod_isCovered_L3s (F : Nat)  (R3 : Int → Int → Int → Int → Hp → Option (Int × Hp)) (l0 l1 l3 l4 : Int) (h : Hp) : Option (Int × Hp) :=
  if l3 < l4 then
    (rz 0 h)
  else
    (if l4 < 600 then
      (gf h l0 112 59 fun v1 =>
      al h v1 0 (w32 ((w32 (600 * l1)) + l4)) fun v2 =>
      if v2 = 0 then
        (rz 1 h)
      else
        (R3 l0 l1 l3 (w32 (l4 + 1)) h))
    else
      (rz 0 h))
def Mod_isCovered_L3 (F : Nat)  : Nat → Int → Int → Int → Int → Hp → Option (Int × Hp)
  | 0 => fun _ _ _ _ _ => none
  | n + 1 => Mod_isCovered_L3s F  (Mod_isCovered_L3 F  n)
def Mod_isCovered (F : Nat) (l0 l1 l2 l3 : Int) (h : Hp) : Option (Int × Hp) :=
  Mod_isCovered_L3 F F l0 l1 l3 l2 h

theorem dc_Mod_isCovered_0 : ∀ q ∈ ([(0, .iload_n 2, 1), (1, .istore 4, 2), (3, .iload 4, 2), (5, .iload_n 3, 1), (6, .if_icmp .gt 35, 3), (9, .iload 4, 2), (11, .sipush 600, 3), (14, .if_icmp .ge 27, 3), (17, .aload_n 0, 1), (18, .getfield 143, 3), (21, .sipush 600, 3), (24, .iload_n 1, 1), (25, .imul, 1), (26, .iload 4, 2), (28, .iadd, 1), (29, .iaload, 1), (30, .ifCond .ne 5, 3), (33, .iconst 1, 1), (34, .ireturn, 1), (35, .iinc 4 1, 3), (38, .goto (-35), 3), (41, .iconst 0, 1), (42, .ireturn, 1)] : List (Nat × Instr × Nat)), decode cX12_isCovered q.1 = .ok (q.2.1, q.2.2) := by decide +kernel
abbrev X_Mod_isCovered : MX := (cX12_isCovered, RX12, "isCovered", 5, (some (.boolean)), 1, 20)
theorem v_Mod_isCovered_L3s (F : Nat)  (R3 : Int → Int → Int → Int → Hp → Option (Int × Hp)) (hR3 : ∀ (l0 l1 l3 l4 : Int) (h : Hp), V X_Mod_isCovered 3 [(0, 2, l0), (1, 0, l1), (3, 0, l3), (4, 0, l4)] [] h (R3 l0 l1 l3 l4 h)) (l0 l1 l3 l4 : Int) (h : Hp) : V X_Mod_isCovered 3 [(0, 2, l0), (1, 0, l1), (3, 0, l3), (4, 0, l4)] [] h (Mod_isCovered_L3s F  R3 l0 l1 l3 l4 h) := by
  unfold Mod_isCovered_L3s
  refine V_iload (pc := 3) (DCa dc_Mod_isCovered_0 2 rfl) 3 rfl ?_
  refine V_iload_n (pc := 5) (DCa dc_Mod_isCovered_0 3 rfl) rfl 2 rfl ?_
  refine V_icmp_gt (tgt := 41) (pc := 6) (DCa dc_Mod_isCovered_0 4 rfl) (by decide) (fun _ => ?_) (fun _ => ?_)
  · refine V_iconst (pc := 41) (DCa dc_Mod_isCovered_0 21 rfl) (by decide) ?_
    exact V_zreturn (pc := 42) (DCa dc_Mod_isCovered_0 22 rfl) rfl
  · refine V_iload (pc := 9) (DCa dc_Mod_isCovered_0 5 rfl) 3 rfl ?_
    refine V_sipush (pc := 11) (DCa dc_Mod_isCovered_0 6 rfl) (by decide) ?_
    refine V_icmp_ge (tgt := 41) (pc := 14) (DCa dc_Mod_isCovered_0 7 rfl) (by decide) (fun _ => ?_) (fun _ => ?_)
    · refine V_aload_n (pc := 17) (DCa dc_Mod_isCovered_0 8 rfl) rfl 0 rfl ?_
      refine Q_getf (k := 59) (pc := 18) (DCa dc_Mod_isCovered_0 9 rfl) cls_12 (Nat.le_of_ble_eq_true rfl) fl_12_143 rfl rfl rfl (fun v1 => ?_)
      refine V_sipush (pc := 21) (DCa dc_Mod_isCovered_0 10 rfl) (by decide) ?_
      refine V_iload_n (pc := 24) (DCa dc_Mod_isCovered_0 11 rfl) rfl 1 rfl ?_
      refine V_imul (pc := 25) (DCa dc_Mod_isCovered_0 12 rfl) ?_
      refine V_iload (pc := 26) (DCa dc_Mod_isCovered_0 13 rfl) 3 rfl ?_
      refine V_iadd (pc := 28) (DCa dc_Mod_isCovered_0 14 rfl) ?_
      refine Q_iaload (pc := 29) (DCa dc_Mod_isCovered_0 15 rfl) (fun v2 => ?_)
      refine V_if_ne (tgt := 35) (pc := 30) (DCa dc_Mod_isCovered_0 16 rfl) (by decide) (fun _ => ?_) (fun _ => ?_)
      · refine V_iconst (pc := 33) (DCa dc_Mod_isCovered_0 17 rfl) (by decide) ?_
        exact V_zreturn (pc := 34) (DCa dc_Mod_isCovered_0 18 rfl) rfl
      · refine V_iinc (ls' := [(0, 2, l0), (1, 0, l1), (3, 0, l3), (4, 0, w32 (l4 + 1))]) (pc := 35) (DCa dc_Mod_isCovered_0 19 rfl) (Nat.le_of_ble_eq_true rfl) (by decide) 3 rfl rfl ?_
        refine V_goto (tgt := 3) (pc := 38) (DCa dc_Mod_isCovered_0 20 rfl) (by decide) ?_
        exact hR3 _ _ _ _ _
    · refine V_iconst (pc := 41) (DCa dc_Mod_isCovered_0 21 rfl) (by decide) ?_
      exact V_zreturn (pc := 42) (DCa dc_Mod_isCovered_0 22 rfl) rfl
theorem v_Mod_isCovered_L3 (F : Nat)  (n : Nat) : ∀ (l0 l1 l3 l4 : Int) (h : Hp), V X_Mod_isCovered 3 [(0, 2, l0), (1, 0, l1), (3, 0, l3), (4, 0, l4)] [] h (Mod_isCovered_L3 F  n l0 l1 l3 l4 h) := by
  induction n with
  | zero => intros; exact V_none
  | succ n ih => exact fun l0 l1 l3 l4 h => v_Mod_isCovered_L3s F  _ ih l0 l1 l3 l4 h
theorem v_Mod_isCovered (F : Nat) (l0 l1 l2 l3 : Int) (h : Hp) : V X_Mod_isCovered 0 [(0, 2, l0), (1, 0, l1), (2, 0, l2), (3, 0, l3)] [] h (Mod_isCovered F l0 l1 l2 l3 h) := by
  unfold Mod_isCovered
  refine V_iload_n (pc := 0) (DCa dc_Mod_isCovered_0 0 rfl) rfl 2 rfl ?_
  refine V_istore (ls' := [(0, 2, l0), (1, 0, l1), (2, 0, l2), (3, 0, l3), (4, 0, l2)]) (pc := 1) (DCa dc_Mod_isCovered_0 1 rfl) (Nat.le_of_ble_eq_true rfl) rfl ?_
  refine V_pick [0, 1, 3, 4] rfl ?_
  exact v_Mod_isCovered_L3 F F _ _ _ _ _
theorem sp_Mod_isCovered (F : Nat) (l0 l1 l2 l3 : Int) (h : Hp) : Sp yX12_isCovered cX12_isCovered 5 (some (.boolean)) 1 20 [(2, l0), (0, l1), (0, l2), (0, l3)] h (Mod_isCovered F l0 l1 l2 l3 h) := Sp_of (by decide +kernel) rfl rfl (Nat.le_of_ble_eq_true rfl) (v_Mod_isCovered F l0 l1 l2 l3 h)

-- TideRakesModel.apart
def Mod_apart (F : Nat) (l0 l1 : Int) (h : Hp) : Option (Int × Hp) :=
  if l0 < l1 then
    (some (w32 (l1 - l0), h))
  else
    (some (w32 (l0 - l1), h))

theorem dc_Mod_apart_0 : ∀ q ∈ ([(0, .iload_n 0, 1), (1, .iload_n 1, 1), (2, .if_icmp .ge 9, 3), (5, .iload_n 1, 1), (6, .iload_n 0, 1), (7, .isub, 1), (8, .goto 6, 3), (11, .iload_n 0, 1), (12, .iload_n 1, 1), (13, .isub, 1), (14, .ireturn, 1)] : List (Nat × Instr × Nat)), decode cX12_apart q.1 = .ok (q.2.1, q.2.2) := by decide +kernel
abbrev X_Mod_apart : MX := (cX12_apart, RX12, "apart", 2, (some (.int)), 1, 20)
theorem v_Mod_apart (F : Nat) (l0 l1 : Int) (h : Hp) : V X_Mod_apart 0 [(0, 0, l0), (1, 0, l1)] [] h (Mod_apart F l0 l1 h) := by
  unfold Mod_apart
  refine V_iload_n (pc := 0) (DCa dc_Mod_apart_0 0 rfl) rfl 0 rfl ?_
  refine V_iload_n (pc := 1) (DCa dc_Mod_apart_0 1 rfl) rfl 1 rfl ?_
  refine V_icmp_ge (tgt := 11) (pc := 2) (DCa dc_Mod_apart_0 2 rfl) (by decide) (fun _ => ?_) (fun _ => ?_)
  · refine V_iload_n (pc := 5) (DCa dc_Mod_apart_0 3 rfl) rfl 1 rfl ?_
    refine V_iload_n (pc := 6) (DCa dc_Mod_apart_0 4 rfl) rfl 0 rfl ?_
    refine V_isub (pc := 7) (DCa dc_Mod_apart_0 5 rfl) ?_
    refine V_goto (tgt := 14) (pc := 8) (DCa dc_Mod_apart_0 6 rfl) (by decide) ?_
    exact V_ireturn (pc := 14) (DCa dc_Mod_apart_0 10 rfl) rfl
  · refine V_iload_n (pc := 11) (DCa dc_Mod_apart_0 7 rfl) rfl 0 rfl ?_
    refine V_iload_n (pc := 12) (DCa dc_Mod_apart_0 8 rfl) rfl 1 rfl ?_
    refine V_isub (pc := 13) (DCa dc_Mod_apart_0 9 rfl) ?_
    exact V_ireturn (pc := 14) (DCa dc_Mod_apart_0 10 rfl) rfl
theorem sp_Mod_apart (F : Nat) (l0 l1 : Int) (h : Hp) : Sp yX12_apart cX12_apart 2 (some (.int)) 1 20 [(0, l0), (0, l1)] h (Mod_apart F l0 l1 h) := Sp_of (by decide +kernel) rfl rfl (Nat.le_of_ble_eq_true rfl) (v_Mod_apart F l0 l1 h)

-- TideRakesModel.wayOf
def Mod_wayOf (F : Nat) (l0 l1 l2 l3 l4 l5 : Int) (h : Hp) : Option (Int × Hp) :=
  gf h l0 112 30 fun v1 =>
  gf h l0 112 18 fun v2 =>
  al h v1 0 (w32 ((w32 (3 * v2)) + l1)) fun v3 =>
  cl (Mod_apart F l2 l4 h) fun r4 h5 =>
  cl (Mod_apart F l3 l5 h5) fun r6 h7 =>
  dv (w32 ((w32 ((w32 (r4 + r6)) + v3)) - 1)) v3 fun v8 =>
  some (v8, h7)

theorem dc_Mod_wayOf_0 : ∀ q ∈ ([(0, .aload_n 0, 1), (1, .getfield 67, 3), (4, .iconst 3, 1), (5, .aload_n 0, 1), (6, .getfield 281, 3), (9, .imul, 1), (10, .iload_n 1, 1), (11, .iadd, 1), (12, .iaload, 1), (13, .istore 6, 2), (15, .iload_n 2, 1), (16, .iload 4, 2), (18, .invokestatic 377, 3), (21, .iload_n 3, 1), (22, .iload 5, 2), (24, .invokestatic 377, 3), (27, .iadd, 1), (28, .iload 6, 2), (30, .iadd, 1), (31, .iconst 1, 1), (32, .isub, 1), (33, .iload 6, 2), (35, .idiv, 1), (36, .ireturn, 1)] : List (Nat × Instr × Nat)), decode cX12_wayOf q.1 = .ok (q.2.1, q.2.2) := by decide +kernel
abbrev X_Mod_wayOf : MX := (cX12_wayOf, RX12, "wayOf", 7, (some (.int)), 2, 41)
theorem v_Mod_wayOf (F : Nat) (l0 l1 l2 l3 l4 l5 : Int) (h : Hp) : V X_Mod_wayOf 0 [(0, 2, l0), (1, 0, l1), (2, 0, l2), (3, 0, l3), (4, 0, l4), (5, 0, l5)] [] h (Mod_wayOf F l0 l1 l2 l3 l4 l5 h) := by
  unfold Mod_wayOf
  refine V_aload_n (pc := 0) (DCa dc_Mod_wayOf_0 0 rfl) rfl 0 rfl ?_
  refine Q_getf (k := 30) (pc := 1) (DCa dc_Mod_wayOf_0 1 rfl) cls_12 (Nat.le_of_ble_eq_true rfl) fl_12_67 rfl rfl rfl (fun v1 => ?_)
  refine V_iconst (pc := 4) (DCa dc_Mod_wayOf_0 2 rfl) (by decide) ?_
  refine V_aload_n (pc := 5) (DCa dc_Mod_wayOf_0 3 rfl) rfl 0 rfl ?_
  refine Q_getf (k := 18) (pc := 6) (DCa dc_Mod_wayOf_0 4 rfl) cls_12 (Nat.le_of_ble_eq_true rfl) fl_12_281 rfl rfl rfl (fun v2 => ?_)
  refine V_imul (pc := 9) (DCa dc_Mod_wayOf_0 5 rfl) ?_
  refine V_iload_n (pc := 10) (DCa dc_Mod_wayOf_0 6 rfl) rfl 1 rfl ?_
  refine V_iadd (pc := 11) (DCa dc_Mod_wayOf_0 7 rfl) ?_
  refine Q_iaload (pc := 12) (DCa dc_Mod_wayOf_0 8 rfl) (fun v3 => ?_)
  refine V_istore (ls' := [(0, 2, l0), (1, 0, l1), (2, 0, l2), (3, 0, l3), (4, 0, l4), (5, 0, l5), (6, 0, v3)]) (pc := 13) (DCa dc_Mod_wayOf_0 9 rfl) (Nat.le_of_ble_eq_true rfl) rfl ?_
  refine V_iload_n (pc := 15) (DCa dc_Mod_wayOf_0 10 rfl) rfl 2 rfl ?_
  refine V_iload (pc := 16) (DCa dc_Mod_wayOf_0 11 rfl) 4 rfl ?_
  refine Q_calls (st := []) (pc := 18) (DCa dc_Mod_wayOf_0 12 rfl) (sp_Mod_apart F _ _ _) ce_Mod_apart ml_12_377 rfl ⟨Nat.le_of_ble_eq_true rfl, Nat.le_of_ble_eq_true rfl⟩ rfl (Nat.le_of_ble_eq_true rfl) (fun r4 h5 => ?_)
  refine V_iload_n (pc := 21) (DCa dc_Mod_wayOf_0 13 rfl) rfl 3 rfl ?_
  refine V_iload (pc := 22) (DCa dc_Mod_wayOf_0 14 rfl) 5 rfl ?_
  refine Q_calls (st := [(0, r4)]) (pc := 24) (DCa dc_Mod_wayOf_0 15 rfl) (sp_Mod_apart F _ _ _) ce_Mod_apart ml_12_377 rfl ⟨Nat.le_of_ble_eq_true rfl, Nat.le_of_ble_eq_true rfl⟩ rfl (Nat.le_of_ble_eq_true rfl) (fun r6 h7 => ?_)
  refine V_iadd (pc := 27) (DCa dc_Mod_wayOf_0 16 rfl) ?_
  refine V_iload (pc := 28) (DCa dc_Mod_wayOf_0 17 rfl) 6 rfl ?_
  refine V_iadd (pc := 30) (DCa dc_Mod_wayOf_0 18 rfl) ?_
  refine V_iconst (pc := 31) (DCa dc_Mod_wayOf_0 19 rfl) (by decide) ?_
  refine V_isub (pc := 32) (DCa dc_Mod_wayOf_0 20 rfl) ?_
  refine V_iload (pc := 33) (DCa dc_Mod_wayOf_0 21 rfl) 6 rfl ?_
  refine Q_idiv (pc := 35) (DCa dc_Mod_wayOf_0 22 rfl) (fun v8 => ?_)
  exact V_ireturn (pc := 36) (DCa dc_Mod_wayOf_0 23 rfl) rfl
theorem sp_Mod_wayOf (F : Nat) (l0 l1 l2 l3 l4 l5 : Int) (h : Hp) : Sp yX12_wayOf cX12_wayOf 7 (some (.int)) 2 41 [(2, l0), (0, l1), (0, l2), (0, l3), (0, l4), (0, l5)] h (Mod_wayOf F l0 l1 l2 l3 l4 l5 h) := Sp_of (by decide +kernel) rfl rfl (Nat.le_of_ble_eq_true rfl) (v_Mod_wayOf F l0 l1 l2 l3 l4 l5 h)

-- TideRakesModel.copies
def Mod_copies_L2s (F : Nat)  (R2 : Int → Int → Hp → Option (Int × Hp)) (l0 l1 : Int) (h : Hp) : Option (Int × Hp) :=
  if l1 < 140 then
    (gf h l0 112 63 fun v1 =>
    gf h l0 112 62 fun v2 =>
    al h v2 0 l1 fun v3 =>
    as h v1 0 l1 v3 fun h4 =>
    R2 l0 (w32 (l1 + 1)) h4)
  else
    (some (0, h))
def Mod_copies_L2 (F : Nat)  : Nat → Int → Int → Hp → Option (Int × Hp)
  | 0 => fun _ _ _ => none
  | n + 1 => Mod_copies_L2s F  (Mod_copies_L2 F  n)
def Mod_copies (F : Nat) (l0 : Int) (h : Hp) : Option (Int × Hp) :=
  Mod_copies_L2 F F l0 0 h

theorem dc_Mod_copies_0 : ∀ q ∈ ([(0, .iconst 0, 1), (1, .istore_n 1, 1), (2, .iload_n 1, 1), (3, .sipush 140, 3), (6, .if_icmp .ge 21, 3), (9, .aload_n 0, 1), (10, .getfield 155, 3), (13, .iload_n 1, 1), (14, .aload_n 0, 1), (15, .getfield 152, 3), (18, .iload_n 1, 1), (19, .iaload, 1), (20, .iastore, 1), (21, .iinc 1 1, 3), (24, .goto (-22), 3), (27, .return_, 1)] : List (Nat × Instr × Nat)), decode cX12_copies q.1 = .ok (q.2.1, q.2.2) := by decide +kernel
abbrev X_Mod_copies : MX := (cX12_copies, RX12, "copies", 2, none, 1, 20)
theorem v_Mod_copies_L2s (F : Nat)  (R2 : Int → Int → Hp → Option (Int × Hp)) (hR2 : ∀ (l0 l1 : Int) (h : Hp), V X_Mod_copies 2 [(0, 2, l0), (1, 0, l1)] [] h (R2 l0 l1 h)) (l0 l1 : Int) (h : Hp) : V X_Mod_copies 2 [(0, 2, l0), (1, 0, l1)] [] h (Mod_copies_L2s F  R2 l0 l1 h) := by
  unfold Mod_copies_L2s
  refine V_iload_n (pc := 2) (DCa dc_Mod_copies_0 2 rfl) rfl 1 rfl ?_
  refine V_sipush (pc := 3) (DCa dc_Mod_copies_0 3 rfl) (by decide) ?_
  refine V_icmp_ge (tgt := 27) (pc := 6) (DCa dc_Mod_copies_0 4 rfl) (by decide) (fun _ => ?_) (fun _ => ?_)
  · refine V_aload_n (pc := 9) (DCa dc_Mod_copies_0 5 rfl) rfl 0 rfl ?_
    refine Q_getf (k := 63) (pc := 10) (DCa dc_Mod_copies_0 6 rfl) cls_12 (Nat.le_of_ble_eq_true rfl) fl_12_155 rfl rfl rfl (fun v1 => ?_)
    refine V_iload_n (pc := 13) (DCa dc_Mod_copies_0 7 rfl) rfl 1 rfl ?_
    refine V_aload_n (pc := 14) (DCa dc_Mod_copies_0 8 rfl) rfl 0 rfl ?_
    refine Q_getf (k := 62) (pc := 15) (DCa dc_Mod_copies_0 9 rfl) cls_12 (Nat.le_of_ble_eq_true rfl) fl_12_152 rfl rfl rfl (fun v2 => ?_)
    refine V_iload_n (pc := 18) (DCa dc_Mod_copies_0 10 rfl) rfl 1 rfl ?_
    refine Q_iaload (pc := 19) (DCa dc_Mod_copies_0 11 rfl) (fun v3 => ?_)
    refine Q_iastore (pc := 20) (DCa dc_Mod_copies_0 12 rfl) (fun h4 => ?_)
    refine V_iinc (ls' := [(0, 2, l0), (1, 0, w32 (l1 + 1))]) (pc := 21) (DCa dc_Mod_copies_0 13 rfl) (Nat.le_of_ble_eq_true rfl) (by decide) 1 rfl rfl ?_
    refine V_goto (tgt := 2) (pc := 24) (DCa dc_Mod_copies_0 14 rfl) (by decide) ?_
    exact hR2 _ _ _
  · exact V_return (pc := 27) (DCa dc_Mod_copies_0 15 rfl) rfl
theorem v_Mod_copies_L2 (F : Nat)  (n : Nat) : ∀ (l0 l1 : Int) (h : Hp), V X_Mod_copies 2 [(0, 2, l0), (1, 0, l1)] [] h (Mod_copies_L2 F  n l0 l1 h) := by
  induction n with
  | zero => intros; exact V_none
  | succ n ih => exact fun l0 l1 h => v_Mod_copies_L2s F  _ ih l0 l1 h
theorem v_Mod_copies (F : Nat) (l0 : Int) (h : Hp) : V X_Mod_copies 0 [(0, 2, l0)] [] h (Mod_copies F l0 h) := by
  unfold Mod_copies
  refine V_iconst (pc := 0) (DCa dc_Mod_copies_0 0 rfl) (by decide) ?_
  refine V_istore_n (ls' := [(0, 2, l0), (1, 0, 0)]) (pc := 1) (DCa dc_Mod_copies_0 1 rfl) rfl (Nat.le_of_ble_eq_true rfl) rfl ?_
  exact v_Mod_copies_L2 F F _ _ _
theorem sp_Mod_copies (F : Nat) (l0 : Int) (h : Hp) : Sp yX12_copies cX12_copies 2 none 1 20 [(2, l0)] h (Mod_copies F l0 h) := Sp_of (by decide +kernel) rfl rfl (Nat.le_of_ble_eq_true rfl) (v_Mod_copies F l0 h)

-- TideRakesModel.comesAt
def Mod_comesAt (F : Nat) (l0 l1 l2 : Int) (h : Hp) : Option (Int × Hp) :=
  gf h l0 112 63 fun v1 =>
  al h v1 0 (w32 (38 + l1)) fun v2 =>
  gf h l0 112 63 fun v3 =>
  al h v3 0 (w32 (32 + l1)) fun v4 =>
  gf h l0 112 63 fun v5 =>
  al h v5 0 (w32 (35 + l1)) fun v6 =>
  gf h l0 112 55 fun v7 =>
  al h v7 0 l2 fun v8 =>
  gf h l0 112 56 fun v9 =>
  al h v9 0 l2 fun v10 =>
  iv h l0 112 (Mod_wayOf F l0 l1 v4 v6 v8 v10 h) fun r11 h12 =>
  some (w32 (v2 + r11), h12)

theorem dc_Mod_comesAt_0 : ∀ q ∈ ([(0, .aload_n 0, 1), (1, .getfield 155, 3), (4, .bipush 38, 2), (6, .iload_n 1, 1), (7, .iadd, 1), (8, .iaload, 1), (9, .aload_n 0, 1), (10, .iload_n 1, 1), (11, .aload_n 0, 1), (12, .getfield 155, 3), (15, .bipush 32, 2), (17, .iload_n 1, 1), (18, .iadd, 1), (19, .iaload, 1), (20, .aload_n 0, 1), (21, .getfield 155, 3), (24, .bipush 35, 2), (26, .iload_n 1, 1), (27, .iadd, 1), (28, .iaload, 1), (29, .aload_n 0, 1), (30, .getfield 131, 3), (33, .iload_n 2, 1), (34, .iaload, 1), (35, .aload_n 0, 1), (36, .getfield 134, 3), (39, .iload_n 2, 1), (40, .iaload, 1), (41, .invokevirtual 380, 3), (44, .iadd, 1), (45, .ireturn, 1)] : List (Nat × Instr × Nat)), decode cX12_comesAt q.1 = .ok (q.2.1, q.2.2) := by decide +kernel
abbrev X_Mod_comesAt : MX := (cX12_comesAt, RX12, "comesAt", 3, (some (.int)), 3, 67)
theorem v_Mod_comesAt (F : Nat) (l0 l1 l2 : Int) (h : Hp) : V X_Mod_comesAt 0 [(0, 2, l0), (1, 0, l1), (2, 0, l2)] [] h (Mod_comesAt F l0 l1 l2 h) := by
  unfold Mod_comesAt
  refine V_aload_n (pc := 0) (DCa dc_Mod_comesAt_0 0 rfl) rfl 0 rfl ?_
  refine Q_getf (k := 63) (pc := 1) (DCa dc_Mod_comesAt_0 1 rfl) cls_12 (Nat.le_of_ble_eq_true rfl) fl_12_155 rfl rfl rfl (fun v1 => ?_)
  refine V_bipush (pc := 4) (DCa dc_Mod_comesAt_0 2 rfl) (by decide) ?_
  refine V_iload_n (pc := 6) (DCa dc_Mod_comesAt_0 3 rfl) rfl 1 rfl ?_
  refine V_iadd (pc := 7) (DCa dc_Mod_comesAt_0 4 rfl) ?_
  refine Q_iaload (pc := 8) (DCa dc_Mod_comesAt_0 5 rfl) (fun v2 => ?_)
  refine V_aload_n (pc := 9) (DCa dc_Mod_comesAt_0 6 rfl) rfl 0 rfl ?_
  refine V_iload_n (pc := 10) (DCa dc_Mod_comesAt_0 7 rfl) rfl 1 rfl ?_
  refine V_aload_n (pc := 11) (DCa dc_Mod_comesAt_0 8 rfl) rfl 0 rfl ?_
  refine Q_getf (k := 63) (pc := 12) (DCa dc_Mod_comesAt_0 9 rfl) cls_12 (Nat.le_of_ble_eq_true rfl) fl_12_155 rfl rfl rfl (fun v3 => ?_)
  refine V_bipush (pc := 15) (DCa dc_Mod_comesAt_0 10 rfl) (by decide) ?_
  refine V_iload_n (pc := 17) (DCa dc_Mod_comesAt_0 11 rfl) rfl 1 rfl ?_
  refine V_iadd (pc := 18) (DCa dc_Mod_comesAt_0 12 rfl) ?_
  refine Q_iaload (pc := 19) (DCa dc_Mod_comesAt_0 13 rfl) (fun v4 => ?_)
  refine V_aload_n (pc := 20) (DCa dc_Mod_comesAt_0 14 rfl) rfl 0 rfl ?_
  refine Q_getf (k := 63) (pc := 21) (DCa dc_Mod_comesAt_0 15 rfl) cls_12 (Nat.le_of_ble_eq_true rfl) fl_12_155 rfl rfl rfl (fun v5 => ?_)
  refine V_bipush (pc := 24) (DCa dc_Mod_comesAt_0 16 rfl) (by decide) ?_
  refine V_iload_n (pc := 26) (DCa dc_Mod_comesAt_0 17 rfl) rfl 1 rfl ?_
  refine V_iadd (pc := 27) (DCa dc_Mod_comesAt_0 18 rfl) ?_
  refine Q_iaload (pc := 28) (DCa dc_Mod_comesAt_0 19 rfl) (fun v6 => ?_)
  refine V_aload_n (pc := 29) (DCa dc_Mod_comesAt_0 20 rfl) rfl 0 rfl ?_
  refine Q_getf (k := 55) (pc := 30) (DCa dc_Mod_comesAt_0 21 rfl) cls_12 (Nat.le_of_ble_eq_true rfl) fl_12_131 rfl rfl rfl (fun v7 => ?_)
  refine V_iload_n (pc := 33) (DCa dc_Mod_comesAt_0 22 rfl) rfl 2 rfl ?_
  refine Q_iaload (pc := 34) (DCa dc_Mod_comesAt_0 23 rfl) (fun v8 => ?_)
  refine V_aload_n (pc := 35) (DCa dc_Mod_comesAt_0 24 rfl) rfl 0 rfl ?_
  refine Q_getf (k := 56) (pc := 36) (DCa dc_Mod_comesAt_0 25 rfl) cls_12 (Nat.le_of_ble_eq_true rfl) fl_12_134 rfl rfl rfl (fun v9 => ?_)
  refine V_iload_n (pc := 39) (DCa dc_Mod_comesAt_0 26 rfl) rfl 2 rfl ?_
  refine Q_iaload (pc := 40) (DCa dc_Mod_comesAt_0 27 rfl) (fun v10 => ?_)
  refine Q_callv (ci := 12) (st := [(0, v2)]) (pc := 41) (DCa dc_Mod_comesAt_0 28 rfl) (sp_Mod_wayOf F _ _ _ _ _ _ _) ce_Mod_wayOf ml_12_380 rfl rfl ⟨Nat.le_of_ble_eq_true rfl, Nat.le_of_ble_eq_true rfl⟩ rfl (Nat.le_of_ble_eq_true rfl) (fun r11 h12 => ?_)
  refine V_iadd (pc := 44) (DCa dc_Mod_comesAt_0 29 rfl) ?_
  exact V_ireturn (pc := 45) (DCa dc_Mod_comesAt_0 30 rfl) rfl
theorem sp_Mod_comesAt (F : Nat) (l0 l1 l2 : Int) (h : Hp) : Sp yX12_comesAt cX12_comesAt 3 (some (.int)) 3 67 [(2, l0), (0, l1), (0, l2)] h (Mod_comesAt F l0 l1 l2 h) := Sp_of (by decide +kernel) rfl rfl (Nat.le_of_ble_eq_true rfl) (v_Mod_comesAt F l0 l1 l2 h)

-- TideRakesModel.goesThere
def Mod_goesThere (F : Nat) (l0 l1 l2 l3 : Int) (h : Hp) : Option (Int × Hp) :=
  gf h l0 112 63 fun v1 =>
  gf h l0 112 55 fun v2 =>
  al h v2 0 l2 fun v3 =>
  as h v1 0 (w32 (32 + l1)) v3 fun h4 =>
  gf h4 l0 112 63 fun v5 =>
  gf h4 l0 112 56 fun v6 =>
  al h4 v6 0 l2 fun v7 =>
  as h4 v5 0 (w32 (35 + l1)) v7 fun h8 =>
  gf h8 l0 112 63 fun v9 =>
  as h8 v9 0 (w32 (38 + l1)) l3 fun h10 =>
  some (0, h10)

theorem dc_Mod_goesThere_0 : ∀ q ∈ ([(0, .aload_n 0, 1), (1, .getfield 155, 3), (4, .bipush 32, 2), (6, .iload_n 1, 1), (7, .iadd, 1), (8, .aload_n 0, 1), (9, .getfield 131, 3), (12, .iload_n 2, 1), (13, .iaload, 1), (14, .iastore, 1), (15, .aload_n 0, 1), (16, .getfield 155, 3), (19, .bipush 35, 2), (21, .iload_n 1, 1), (22, .iadd, 1), (23, .aload_n 0, 1), (24, .getfield 134, 3), (27, .iload_n 2, 1), (28, .iaload, 1), (29, .iastore, 1), (30, .aload_n 0, 1), (31, .getfield 155, 3), (34, .bipush 38, 2), (36, .iload_n 1, 1), (37, .iadd, 1), (38, .iload_n 3, 1), (39, .iastore, 1), (40, .return_, 1)] : List (Nat × Instr × Nat)), decode cX12_goesThere q.1 = .ok (q.2.1, q.2.2) := by decide +kernel
abbrev X_Mod_goesThere : MX := (cX12_goesThere, RX12, "goesThere", 4, none, 1, 20)
theorem v_Mod_goesThere (F : Nat) (l0 l1 l2 l3 : Int) (h : Hp) : V X_Mod_goesThere 0 [(0, 2, l0), (1, 0, l1), (2, 0, l2), (3, 0, l3)] [] h (Mod_goesThere F l0 l1 l2 l3 h) := by
  unfold Mod_goesThere
  refine V_aload_n (pc := 0) (DCa dc_Mod_goesThere_0 0 rfl) rfl 0 rfl ?_
  refine Q_getf (k := 63) (pc := 1) (DCa dc_Mod_goesThere_0 1 rfl) cls_12 (Nat.le_of_ble_eq_true rfl) fl_12_155 rfl rfl rfl (fun v1 => ?_)
  refine V_bipush (pc := 4) (DCa dc_Mod_goesThere_0 2 rfl) (by decide) ?_
  refine V_iload_n (pc := 6) (DCa dc_Mod_goesThere_0 3 rfl) rfl 1 rfl ?_
  refine V_iadd (pc := 7) (DCa dc_Mod_goesThere_0 4 rfl) ?_
  refine V_aload_n (pc := 8) (DCa dc_Mod_goesThere_0 5 rfl) rfl 0 rfl ?_
  refine Q_getf (k := 55) (pc := 9) (DCa dc_Mod_goesThere_0 6 rfl) cls_12 (Nat.le_of_ble_eq_true rfl) fl_12_131 rfl rfl rfl (fun v2 => ?_)
  refine V_iload_n (pc := 12) (DCa dc_Mod_goesThere_0 7 rfl) rfl 2 rfl ?_
  refine Q_iaload (pc := 13) (DCa dc_Mod_goesThere_0 8 rfl) (fun v3 => ?_)
  refine Q_iastore (pc := 14) (DCa dc_Mod_goesThere_0 9 rfl) (fun h4 => ?_)
  refine V_aload_n (pc := 15) (DCa dc_Mod_goesThere_0 10 rfl) rfl 0 rfl ?_
  refine Q_getf (k := 63) (pc := 16) (DCa dc_Mod_goesThere_0 11 rfl) cls_12 (Nat.le_of_ble_eq_true rfl) fl_12_155 rfl rfl rfl (fun v5 => ?_)
  refine V_bipush (pc := 19) (DCa dc_Mod_goesThere_0 12 rfl) (by decide) ?_
  refine V_iload_n (pc := 21) (DCa dc_Mod_goesThere_0 13 rfl) rfl 1 rfl ?_
  refine V_iadd (pc := 22) (DCa dc_Mod_goesThere_0 14 rfl) ?_
  refine V_aload_n (pc := 23) (DCa dc_Mod_goesThere_0 15 rfl) rfl 0 rfl ?_
  refine Q_getf (k := 56) (pc := 24) (DCa dc_Mod_goesThere_0 16 rfl) cls_12 (Nat.le_of_ble_eq_true rfl) fl_12_134 rfl rfl rfl (fun v6 => ?_)
  refine V_iload_n (pc := 27) (DCa dc_Mod_goesThere_0 17 rfl) rfl 2 rfl ?_
  refine Q_iaload (pc := 28) (DCa dc_Mod_goesThere_0 18 rfl) (fun v7 => ?_)
  refine Q_iastore (pc := 29) (DCa dc_Mod_goesThere_0 19 rfl) (fun h8 => ?_)
  refine V_aload_n (pc := 30) (DCa dc_Mod_goesThere_0 20 rfl) rfl 0 rfl ?_
  refine Q_getf (k := 63) (pc := 31) (DCa dc_Mod_goesThere_0 21 rfl) cls_12 (Nat.le_of_ble_eq_true rfl) fl_12_155 rfl rfl rfl (fun v9 => ?_)
  refine V_bipush (pc := 34) (DCa dc_Mod_goesThere_0 22 rfl) (by decide) ?_
  refine V_iload_n (pc := 36) (DCa dc_Mod_goesThere_0 23 rfl) rfl 1 rfl ?_
  refine V_iadd (pc := 37) (DCa dc_Mod_goesThere_0 24 rfl) ?_
  refine V_iload_n (pc := 38) (DCa dc_Mod_goesThere_0 25 rfl) rfl 3 rfl ?_
  refine Q_iastore (pc := 39) (DCa dc_Mod_goesThere_0 26 rfl) (fun h10 => ?_)
  exact V_return (pc := 40) (DCa dc_Mod_goesThere_0 27 rfl) rfl
theorem sp_Mod_goesThere (F : Nat) (l0 l1 l2 l3 : Int) (h : Hp) : Sp yX12_goesThere cX12_goesThere 4 none 1 20 [(2, l0), (0, l1), (0, l2), (0, l3)] h (Mod_goesThere F l0 l1 l2 l3 h) := Sp_of (by decide +kernel) rfl rfl (Nat.le_of_ble_eq_true rfl) (v_Mod_goesThere F l0 l1 l2 l3 h)

-- TideRakesModel.sends
def Mod_sends_B36 (F : Nat)  (l0 l1 l2 l3 : Int) (h : Hp) : Option (Int × Hp) :=
  iv h l0 112 (Mod_firstFrom F l0 l2 l3 h) fun r9 h10 =>
  if r9 < 0 then
    (some ((-2), h10))
  else
    (gf h10 l0 112 57 fun v11 =>
    al h10 v11 0 l2 fun v12 =>
    lt (w32 (r9 + v12)) fun x13 =>
    gf h10 l0 112 63 fun v14 =>
    as h10 v14 0 l2 x13 fun h15 =>
    gf h15 l0 112 63 fun v16 =>
    as h15 v16 0 (w32 (8 + l2)) 0 fun h17 =>
    gf h17 l0 112 63 fun v18 =>
    as h17 v18 0 (w32 (16 + l2)) (-2) fun h19 =>
    gf h19 l0 112 63 fun v20 =>
    as h19 v20 0 (w32 (24 + l2)) l1 fun h21 =>
    gf h21 l0 112 63 fun v22 =>
    al h21 v22 0 (w32 (41 + l1)) fun v23 =>
    gf h21 l0 112 25 fun v24 =>
    gf h21 l0 112 18 fun v25 =>
    al h21 v24 0 (w32 ((w32 (8 * v25)) + l2)) fun v26 =>
    as h21 v22 0 (w32 (41 + l1)) (w32 (v23 + v26)) fun h27 =>
    iv h27 l0 112 (Mod_goesThere F l0 l1 l2 x13 h27) fun r28 h29 =>
    some (x13, h29))
def Mod_sends (F : Nat) (l0 l1 l2 : Int) (h : Hp) : Option (Int × Hp) :=
  iv h l0 112 (Mod_comesAt F l0 l1 l2 h) fun r1 h2 =>
  gf h2 l0 112 63 fun v3 =>
  al h2 v3 0 l2 fun v4 =>
  if v4 = (-2) then
    (Mod_sends_B36 F l0 l1 l2 r1 h2)
  else
    (gf h2 l0 112 63 fun v5 =>
    al h2 v5 0 l2 fun v6 =>
    iv h2 l0 112 (Mod_isCovered F l0 l2 v6 r1 h2) fun r7 h8 =>
    if r7 = 0 then
      (some ((-2), h8))
    else
      (Mod_sends_B36 F l0 l1 l2 r1 h8))

theorem dc_Mod_sends_0 : ∀ q ∈ ([(0, .aload_n 0, 1), (1, .iload_n 1, 1), (2, .iload_n 2, 1), (3, .invokevirtual 384, 3), (6, .istore_n 3, 1), (7, .aload_n 0, 1), (8, .getfield 155, 3), (11, .iload_n 2, 1), (12, .iaload, 1), (13, .bipush (-2), 2), (15, .if_icmp .eq 21, 3), (18, .aload_n 0, 1), (19, .iload_n 2, 1), (20, .aload_n 0, 1), (21, .getfield 155, 3), (24, .iload_n 2, 1), (25, .iaload, 1), (26, .iload_n 3, 1), (27, .invokevirtual 387, 3), (30, .ifCond .ne 6, 3), (33, .bipush (-2), 2), (35, .ireturn, 1), (36, .aload_n 0, 1), (37, .iload_n 2, 1), (38, .iload_n 3, 1), (39, .invokevirtual 390, 3), (42, .istore 4, 2), (44, .iload 4, 2), (46, .ifCond .ge 6, 3), (49, .bipush (-2), 2), (51, .ireturn, 1), (52, .iload 4, 2), (54, .aload_n 0, 1), (55, .getfield 137, 3), (58, .iload_n 2, 1), (59, .iaload, 1), (60, .iadd, 1), (61, .istore 5, 2), (63, .aload_n 0, 1), (64, .getfield 155, 3), (67, .iload_n 2, 1), (68, .iload 5, 2), (70, .iastore, 1), (71, .aload_n 0, 1), (72, .getfield 155, 3), (75, .bipush 8, 2), (77, .iload_n 2, 1), (78, .iadd, 1), (79, .iconst 0, 1), (80, .iastore, 1)] : List (Nat × Instr × Nat)), decode cX12_sends q.1 = .ok (q.2.1, q.2.2) := by decide +kernel
theorem dc_Mod_sends_1 : ∀ q ∈ ([(81, .aload_n 0, 1), (82, .getfield 155, 3), (85, .bipush 16, 2), (87, .iload_n 2, 1), (88, .iadd, 1), (89, .bipush (-2), 2), (91, .iastore, 1), (92, .aload_n 0, 1), (93, .getfield 155, 3), (96, .bipush 24, 2), (98, .iload_n 2, 1), (99, .iadd, 1), (100, .iload_n 1, 1), (101, .iastore, 1), (102, .aload_n 0, 1), (103, .getfield 155, 3), (106, .bipush 41, 2), (108, .iload_n 1, 1), (109, .iadd, 1), (110, .dup2, 1), (111, .iaload, 1), (112, .aload_n 0, 1), (113, .getfield 52, 3), (116, .bipush 8, 2), (118, .aload_n 0, 1), (119, .getfield 281, 3), (122, .imul, 1), (123, .iload_n 2, 1), (124, .iadd, 1), (125, .iaload, 1), (126, .iadd, 1), (127, .iastore, 1), (128, .aload_n 0, 1), (129, .iload_n 1, 1), (130, .iload_n 2, 1), (131, .iload 5, 2), (133, .invokevirtual 393, 3), (136, .iload 5, 2), (138, .ireturn, 1)] : List (Nat × Instr × Nat)), decode cX12_sends q.1 = .ok (q.2.1, q.2.2) := by decide +kernel
abbrev X_Mod_sends : MX := (cX12_sends, RX12, "sends", 6, (some (.int)), 4, 89)
theorem v_Mod_sends_B36 (F : Nat)  (l0 l1 l2 l3 : Int) (h : Hp) : V X_Mod_sends 36 [(0, 2, l0), (1, 0, l1), (2, 0, l2), (3, 0, l3)] [] h (Mod_sends_B36 F  l0 l1 l2 l3 h) := by
  unfold Mod_sends_B36
  refine V_aload_n (pc := 36) (DCa dc_Mod_sends_0 22 rfl) rfl 0 rfl ?_
  refine V_iload_n (pc := 37) (DCa dc_Mod_sends_0 23 rfl) rfl 2 rfl ?_
  refine V_iload_n (pc := 38) (DCa dc_Mod_sends_0 24 rfl) rfl 3 rfl ?_
  refine Q_callv (ci := 12) (st := []) (pc := 39) (DCa dc_Mod_sends_0 25 rfl) (sp_Mod_firstFrom F _ _ _ _) ce_Mod_firstFrom ml_12_390 rfl rfl ⟨Nat.le_of_ble_eq_true rfl, Nat.le_of_ble_eq_true rfl⟩ rfl (Nat.le_of_ble_eq_true rfl) (fun r9 h10 => ?_)
  refine V_istore (ls' := [(0, 2, l0), (1, 0, l1), (2, 0, l2), (3, 0, l3), (4, 0, r9)]) (pc := 42) (DCa dc_Mod_sends_0 26 rfl) (Nat.le_of_ble_eq_true rfl) rfl ?_
  refine V_iload (pc := 44) (DCa dc_Mod_sends_0 27 rfl) 4 rfl ?_
  refine V_if_ge (tgt := 52) (pc := 46) (DCa dc_Mod_sends_0 28 rfl) (by decide) (fun _ => ?_) (fun _ => ?_)
  · refine V_bipush (pc := 49) (DCa dc_Mod_sends_0 29 rfl) (by decide) ?_
    exact V_ireturn (pc := 51) (DCa dc_Mod_sends_0 30 rfl) rfl
  · refine V_iload (pc := 52) (DCa dc_Mod_sends_0 31 rfl) 4 rfl ?_
    refine V_aload_n (pc := 54) (DCa dc_Mod_sends_0 32 rfl) rfl 0 rfl ?_
    refine Q_getf (k := 57) (pc := 55) (DCa dc_Mod_sends_0 33 rfl) cls_12 (Nat.le_of_ble_eq_true rfl) fl_12_137 rfl rfl rfl (fun v11 => ?_)
    refine V_iload_n (pc := 58) (DCa dc_Mod_sends_0 34 rfl) rfl 2 rfl ?_
    refine Q_iaload (pc := 59) (DCa dc_Mod_sends_0 35 rfl) (fun v12 => ?_)
    refine V_iadd (pc := 60) (DCa dc_Mod_sends_0 36 rfl) ?_
    refine Q_lt (fun x13 => ?_)
    refine V_istore (ls' := [(0, 2, l0), (1, 0, l1), (2, 0, l2), (3, 0, l3), (4, 0, r9), (5, 0, x13)]) (pc := 61) (DCa dc_Mod_sends_0 37 rfl) (Nat.le_of_ble_eq_true rfl) rfl ?_
    refine V_aload_n (pc := 63) (DCa dc_Mod_sends_0 38 rfl) rfl 0 rfl ?_
    refine Q_getf (k := 63) (pc := 64) (DCa dc_Mod_sends_0 39 rfl) cls_12 (Nat.le_of_ble_eq_true rfl) fl_12_155 rfl rfl rfl (fun v14 => ?_)
    refine V_iload_n (pc := 67) (DCa dc_Mod_sends_0 40 rfl) rfl 2 rfl ?_
    refine V_iload (pc := 68) (DCa dc_Mod_sends_0 41 rfl) 5 rfl ?_
    refine Q_iastore (pc := 70) (DCa dc_Mod_sends_0 42 rfl) (fun h15 => ?_)
    refine V_aload_n (pc := 71) (DCa dc_Mod_sends_0 43 rfl) rfl 0 rfl ?_
    refine Q_getf (k := 63) (pc := 72) (DCa dc_Mod_sends_0 44 rfl) cls_12 (Nat.le_of_ble_eq_true rfl) fl_12_155 rfl rfl rfl (fun v16 => ?_)
    refine V_bipush (pc := 75) (DCa dc_Mod_sends_0 45 rfl) (by decide) ?_
    refine V_iload_n (pc := 77) (DCa dc_Mod_sends_0 46 rfl) rfl 2 rfl ?_
    refine V_iadd (pc := 78) (DCa dc_Mod_sends_0 47 rfl) ?_
    refine V_iconst (pc := 79) (DCa dc_Mod_sends_0 48 rfl) (by decide) ?_
    refine Q_iastore (pc := 80) (DCa dc_Mod_sends_0 49 rfl) (fun h17 => ?_)
    refine V_aload_n (pc := 81) (DCa dc_Mod_sends_1 0 rfl) rfl 0 rfl ?_
    refine Q_getf (k := 63) (pc := 82) (DCa dc_Mod_sends_1 1 rfl) cls_12 (Nat.le_of_ble_eq_true rfl) fl_12_155 rfl rfl rfl (fun v18 => ?_)
    refine V_bipush (pc := 85) (DCa dc_Mod_sends_1 2 rfl) (by decide) ?_
    refine V_iload_n (pc := 87) (DCa dc_Mod_sends_1 3 rfl) rfl 2 rfl ?_
    refine V_iadd (pc := 88) (DCa dc_Mod_sends_1 4 rfl) ?_
    refine V_bipush (pc := 89) (DCa dc_Mod_sends_1 5 rfl) (by decide) ?_
    refine Q_iastore (pc := 91) (DCa dc_Mod_sends_1 6 rfl) (fun h19 => ?_)
    refine V_aload_n (pc := 92) (DCa dc_Mod_sends_1 7 rfl) rfl 0 rfl ?_
    refine Q_getf (k := 63) (pc := 93) (DCa dc_Mod_sends_1 8 rfl) cls_12 (Nat.le_of_ble_eq_true rfl) fl_12_155 rfl rfl rfl (fun v20 => ?_)
    refine V_bipush (pc := 96) (DCa dc_Mod_sends_1 9 rfl) (by decide) ?_
    refine V_iload_n (pc := 98) (DCa dc_Mod_sends_1 10 rfl) rfl 2 rfl ?_
    refine V_iadd (pc := 99) (DCa dc_Mod_sends_1 11 rfl) ?_
    refine V_iload_n (pc := 100) (DCa dc_Mod_sends_1 12 rfl) rfl 1 rfl ?_
    refine Q_iastore (pc := 101) (DCa dc_Mod_sends_1 13 rfl) (fun h21 => ?_)
    refine V_aload_n (pc := 102) (DCa dc_Mod_sends_1 14 rfl) rfl 0 rfl ?_
    refine Q_getf (k := 63) (pc := 103) (DCa dc_Mod_sends_1 15 rfl) cls_12 (Nat.le_of_ble_eq_true rfl) fl_12_155 rfl rfl rfl (fun v22 => ?_)
    refine V_bipush (pc := 106) (DCa dc_Mod_sends_1 16 rfl) (by decide) ?_
    refine V_iload_n (pc := 108) (DCa dc_Mod_sends_1 17 rfl) rfl 1 rfl ?_
    refine V_iadd (pc := 109) (DCa dc_Mod_sends_1 18 rfl) ?_
    refine V_dup2 (pc := 110) (DCa dc_Mod_sends_1 19 rfl) rfl rfl ?_
    refine Q_iaload (pc := 111) (DCa dc_Mod_sends_1 20 rfl) (fun v23 => ?_)
    refine V_aload_n (pc := 112) (DCa dc_Mod_sends_1 21 rfl) rfl 0 rfl ?_
    refine Q_getf (k := 25) (pc := 113) (DCa dc_Mod_sends_1 22 rfl) cls_12 (Nat.le_of_ble_eq_true rfl) fl_12_52 rfl rfl rfl (fun v24 => ?_)
    refine V_bipush (pc := 116) (DCa dc_Mod_sends_1 23 rfl) (by decide) ?_
    refine V_aload_n (pc := 118) (DCa dc_Mod_sends_1 24 rfl) rfl 0 rfl ?_
    refine Q_getf (k := 18) (pc := 119) (DCa dc_Mod_sends_1 25 rfl) cls_12 (Nat.le_of_ble_eq_true rfl) fl_12_281 rfl rfl rfl (fun v25 => ?_)
    refine V_imul (pc := 122) (DCa dc_Mod_sends_1 26 rfl) ?_
    refine V_iload_n (pc := 123) (DCa dc_Mod_sends_1 27 rfl) rfl 2 rfl ?_
    refine V_iadd (pc := 124) (DCa dc_Mod_sends_1 28 rfl) ?_
    refine Q_iaload (pc := 125) (DCa dc_Mod_sends_1 29 rfl) (fun v26 => ?_)
    refine V_iadd (pc := 126) (DCa dc_Mod_sends_1 30 rfl) ?_
    refine Q_iastore (pc := 127) (DCa dc_Mod_sends_1 31 rfl) (fun h27 => ?_)
    refine V_aload_n (pc := 128) (DCa dc_Mod_sends_1 32 rfl) rfl 0 rfl ?_
    refine V_iload_n (pc := 129) (DCa dc_Mod_sends_1 33 rfl) rfl 1 rfl ?_
    refine V_iload_n (pc := 130) (DCa dc_Mod_sends_1 34 rfl) rfl 2 rfl ?_
    refine V_iload (pc := 131) (DCa dc_Mod_sends_1 35 rfl) 5 rfl ?_
    refine Q_callv (ci := 12) (st := []) (pc := 133) (DCa dc_Mod_sends_1 36 rfl) (sp_Mod_goesThere F _ _ _ _ _) ce_Mod_goesThere ml_12_393 rfl rfl ⟨Nat.le_of_ble_eq_true rfl, Nat.le_of_ble_eq_true rfl⟩ rfl (Nat.le_of_ble_eq_true rfl) (fun r28 h29 => ?_)
    refine V_iload (pc := 136) (DCa dc_Mod_sends_1 37 rfl) 5 rfl ?_
    exact V_ireturn (pc := 138) (DCa dc_Mod_sends_1 38 rfl) rfl
theorem v_Mod_sends (F : Nat) (l0 l1 l2 : Int) (h : Hp) : V X_Mod_sends 0 [(0, 2, l0), (1, 0, l1), (2, 0, l2)] [] h (Mod_sends F l0 l1 l2 h) := by
  unfold Mod_sends
  refine V_aload_n (pc := 0) (DCa dc_Mod_sends_0 0 rfl) rfl 0 rfl ?_
  refine V_iload_n (pc := 1) (DCa dc_Mod_sends_0 1 rfl) rfl 1 rfl ?_
  refine V_iload_n (pc := 2) (DCa dc_Mod_sends_0 2 rfl) rfl 2 rfl ?_
  refine Q_callv (ci := 12) (st := []) (pc := 3) (DCa dc_Mod_sends_0 3 rfl) (sp_Mod_comesAt F _ _ _ _) ce_Mod_comesAt ml_12_384 rfl rfl ⟨Nat.le_of_ble_eq_true rfl, Nat.le_of_ble_eq_true rfl⟩ rfl (Nat.le_of_ble_eq_true rfl) (fun r1 h2 => ?_)
  refine V_istore_n (ls' := [(0, 2, l0), (1, 0, l1), (2, 0, l2), (3, 0, r1)]) (pc := 6) (DCa dc_Mod_sends_0 4 rfl) rfl (Nat.le_of_ble_eq_true rfl) rfl ?_
  refine V_aload_n (pc := 7) (DCa dc_Mod_sends_0 5 rfl) rfl 0 rfl ?_
  refine Q_getf (k := 63) (pc := 8) (DCa dc_Mod_sends_0 6 rfl) cls_12 (Nat.le_of_ble_eq_true rfl) fl_12_155 rfl rfl rfl (fun v3 => ?_)
  refine V_iload_n (pc := 11) (DCa dc_Mod_sends_0 7 rfl) rfl 2 rfl ?_
  refine Q_iaload (pc := 12) (DCa dc_Mod_sends_0 8 rfl) (fun v4 => ?_)
  refine V_bipush (pc := 13) (DCa dc_Mod_sends_0 9 rfl) (by decide) ?_
  refine V_icmp_eq (tgt := 36) (pc := 15) (DCa dc_Mod_sends_0 10 rfl) (by decide) (fun _ => ?_) (fun _ => ?_)
  · exact v_Mod_sends_B36 F _ _ _ _ _
  · refine V_aload_n (pc := 18) (DCa dc_Mod_sends_0 11 rfl) rfl 0 rfl ?_
    refine V_iload_n (pc := 19) (DCa dc_Mod_sends_0 12 rfl) rfl 2 rfl ?_
    refine V_aload_n (pc := 20) (DCa dc_Mod_sends_0 13 rfl) rfl 0 rfl ?_
    refine Q_getf (k := 63) (pc := 21) (DCa dc_Mod_sends_0 14 rfl) cls_12 (Nat.le_of_ble_eq_true rfl) fl_12_155 rfl rfl rfl (fun v5 => ?_)
    refine V_iload_n (pc := 24) (DCa dc_Mod_sends_0 15 rfl) rfl 2 rfl ?_
    refine Q_iaload (pc := 25) (DCa dc_Mod_sends_0 16 rfl) (fun v6 => ?_)
    refine V_iload_n (pc := 26) (DCa dc_Mod_sends_0 17 rfl) rfl 3 rfl ?_
    refine Q_callv (ci := 12) (st := []) (pc := 27) (DCa dc_Mod_sends_0 18 rfl) (sp_Mod_isCovered F _ _ _ _ _) ce_Mod_isCovered ml_12_387 rfl rfl ⟨Nat.le_of_ble_eq_true rfl, Nat.le_of_ble_eq_true rfl⟩ rfl (Nat.le_of_ble_eq_true rfl) (fun r7 h8 => ?_)
    refine V_if_ne (tgt := 36) (pc := 30) (DCa dc_Mod_sends_0 19 rfl) (by decide) (fun _ => ?_) (fun _ => ?_)
    · refine V_bipush (pc := 33) (DCa dc_Mod_sends_0 20 rfl) (by decide) ?_
      exact V_ireturn (pc := 35) (DCa dc_Mod_sends_0 21 rfl) rfl
    · exact v_Mod_sends_B36 F _ _ _ _ _
theorem sp_Mod_sends (F : Nat) (l0 l1 l2 : Int) (h : Hp) : Sp yX12_sends cX12_sends 6 (some (.int)) 4 89 [(2, l0), (0, l1), (0, l2)] h (Mod_sends F l0 l1 l2 h) := Sp_of (by decide +kernel) rfl rfl (Nat.le_of_ble_eq_true rfl) (v_Mod_sends F l0 l1 l2 h)

-- TideRakesModel.crosses
def Mod_crosses (F : Nat) (l0 l1 : Int) (h : Hp) : Option (Int × Hp) :=
  gf h l0 112 63 fun v1 =>
  al h v1 0 l1 fun v2 =>
  if v2 = (-2) then
    (rz 0 h)
  else
    (gf h l0 112 63 fun v3 =>
    al h v3 0 (w32 (8 + l1)) fun v4 =>
    if v4 = 1 then
      (rz 0 h)
    else
      (gf h l0 112 63 fun v5 =>
      as h v5 0 (w32 (8 + l1)) 1 fun h6 =>
      rz 1 h6))

theorem dc_Mod_crosses_0 : ∀ q ∈ ([(0, .aload_n 0, 1), (1, .getfield 155, 3), (4, .iload_n 1, 1), (5, .iaload, 1), (6, .bipush (-2), 2), (8, .if_icmp .eq 16, 3), (11, .aload_n 0, 1), (12, .getfield 155, 3), (15, .bipush 8, 2), (17, .iload_n 1, 1), (18, .iadd, 1), (19, .iaload, 1), (20, .iconst 1, 1), (21, .if_icmp .ne 5, 3), (24, .iconst 0, 1), (25, .ireturn, 1), (26, .aload_n 0, 1), (27, .getfield 155, 3), (30, .bipush 8, 2), (32, .iload_n 1, 1), (33, .iadd, 1), (34, .iconst 1, 1), (35, .iastore, 1), (36, .iconst 1, 1), (37, .ireturn, 1)] : List (Nat × Instr × Nat)), decode cX12_crosses q.1 = .ok (q.2.1, q.2.2) := by decide +kernel
abbrev X_Mod_crosses : MX := (cX12_crosses, RX12, "crosses", 2, (some (.boolean)), 1, 20)
theorem v_Mod_crosses (F : Nat) (l0 l1 : Int) (h : Hp) : V X_Mod_crosses 0 [(0, 2, l0), (1, 0, l1)] [] h (Mod_crosses F l0 l1 h) := by
  unfold Mod_crosses
  refine V_aload_n (pc := 0) (DCa dc_Mod_crosses_0 0 rfl) rfl 0 rfl ?_
  refine Q_getf (k := 63) (pc := 1) (DCa dc_Mod_crosses_0 1 rfl) cls_12 (Nat.le_of_ble_eq_true rfl) fl_12_155 rfl rfl rfl (fun v1 => ?_)
  refine V_iload_n (pc := 4) (DCa dc_Mod_crosses_0 2 rfl) rfl 1 rfl ?_
  refine Q_iaload (pc := 5) (DCa dc_Mod_crosses_0 3 rfl) (fun v2 => ?_)
  refine V_bipush (pc := 6) (DCa dc_Mod_crosses_0 4 rfl) (by decide) ?_
  refine V_icmp_eq (tgt := 24) (pc := 8) (DCa dc_Mod_crosses_0 5 rfl) (by decide) (fun _ => ?_) (fun _ => ?_)
  · refine V_iconst (pc := 24) (DCa dc_Mod_crosses_0 14 rfl) (by decide) ?_
    exact V_zreturn (pc := 25) (DCa dc_Mod_crosses_0 15 rfl) rfl
  · refine V_aload_n (pc := 11) (DCa dc_Mod_crosses_0 6 rfl) rfl 0 rfl ?_
    refine Q_getf (k := 63) (pc := 12) (DCa dc_Mod_crosses_0 7 rfl) cls_12 (Nat.le_of_ble_eq_true rfl) fl_12_155 rfl rfl rfl (fun v3 => ?_)
    refine V_bipush (pc := 15) (DCa dc_Mod_crosses_0 8 rfl) (by decide) ?_
    refine V_iload_n (pc := 17) (DCa dc_Mod_crosses_0 9 rfl) rfl 1 rfl ?_
    refine V_iadd (pc := 18) (DCa dc_Mod_crosses_0 10 rfl) ?_
    refine Q_iaload (pc := 19) (DCa dc_Mod_crosses_0 11 rfl) (fun v4 => ?_)
    refine V_iconst (pc := 20) (DCa dc_Mod_crosses_0 12 rfl) (by decide) ?_
    refine V_icmp_ne (tgt := 26) (pc := 21) (DCa dc_Mod_crosses_0 13 rfl) (by decide) (fun _ => ?_) (fun _ => ?_)
    · refine V_iconst (pc := 24) (DCa dc_Mod_crosses_0 14 rfl) (by decide) ?_
      exact V_zreturn (pc := 25) (DCa dc_Mod_crosses_0 15 rfl) rfl
    · refine V_aload_n (pc := 26) (DCa dc_Mod_crosses_0 16 rfl) rfl 0 rfl ?_
      refine Q_getf (k := 63) (pc := 27) (DCa dc_Mod_crosses_0 17 rfl) cls_12 (Nat.le_of_ble_eq_true rfl) fl_12_155 rfl rfl rfl (fun v5 => ?_)
      refine V_bipush (pc := 30) (DCa dc_Mod_crosses_0 18 rfl) (by decide) ?_
      refine V_iload_n (pc := 32) (DCa dc_Mod_crosses_0 19 rfl) rfl 1 rfl ?_
      refine V_iadd (pc := 33) (DCa dc_Mod_crosses_0 20 rfl) ?_
      refine V_iconst (pc := 34) (DCa dc_Mod_crosses_0 21 rfl) (by decide) ?_
      refine Q_iastore (pc := 35) (DCa dc_Mod_crosses_0 22 rfl) (fun h6 => ?_)
      refine V_iconst (pc := 36) (DCa dc_Mod_crosses_0 23 rfl) (by decide) ?_
      exact V_zreturn (pc := 37) (DCa dc_Mod_crosses_0 24 rfl) rfl
theorem sp_Mod_crosses (F : Nat) (l0 l1 : Int) (h : Hp) : Sp yX12_crosses cX12_crosses 2 (some (.boolean)) 1 20 [(2, l0), (0, l1)] h (Mod_crosses F l0 l1 h) := Sp_of (by decide +kernel) rfl rfl (Nat.le_of_ble_eq_true rfl) (v_Mod_crosses F l0 l1 h)

-- TideRakesModel.mendsOne
def Mod_mendsOne (F : Nat) (l0 l1 l2 : Int) (h : Hp) : Option (Int × Hp) :=
  iv h l0 112 (Mod_comesAt F l0 l1 l2 h) fun r1 h2 =>
  gf h2 l0 112 57 fun v3 =>
  al h2 v3 0 l2 fun v4 =>
  dv (w32 (v4 + 2)) 3 fun v5 =>
  lt (w32 (r1 + v5)) fun x6 =>
  gf h2 l0 112 63 fun v7 =>
  al h2 v7 0 (w32 (8 + l2)) fun v8 =>
  if v8 = 0 then
    (some ((-2), h2))
  else
    (if 600 < x6 then
      (some ((-2), h2))
    else
      (gf h2 l0 112 63 fun v9 =>
      as h2 v9 0 (w32 (8 + l2)) 0 fun h10 =>
      gf h10 l0 112 63 fun v11 =>
      as h10 v11 0 (w32 (16 + l2)) x6 fun h12 =>
      iv h12 l0 112 (Mod_goesThere F l0 l1 l2 x6 h12) fun r13 h14 =>
      some (x6, h14)))

theorem dc_Mod_mendsOne_0 : ∀ q ∈ ([(0, .aload_n 0, 1), (1, .iload_n 1, 1), (2, .iload_n 2, 1), (3, .invokevirtual 384, 3), (6, .aload_n 0, 1), (7, .getfield 137, 3), (10, .iload_n 2, 1), (11, .iaload, 1), (12, .iconst 2, 1), (13, .iadd, 1), (14, .iconst 3, 1), (15, .idiv, 1), (16, .iadd, 1), (17, .istore_n 3, 1), (18, .aload_n 0, 1), (19, .getfield 155, 3), (22, .bipush 8, 2), (24, .iload_n 2, 1), (25, .iadd, 1), (26, .iaload, 1), (27, .ifCond .eq 10, 3), (30, .iload_n 3, 1), (31, .sipush 600, 3), (34, .if_icmp .le 6, 3), (37, .bipush (-2), 2), (39, .ireturn, 1), (40, .aload_n 0, 1), (41, .getfield 155, 3), (44, .bipush 8, 2), (46, .iload_n 2, 1), (47, .iadd, 1), (48, .iconst 0, 1), (49, .iastore, 1), (50, .aload_n 0, 1), (51, .getfield 155, 3), (54, .bipush 16, 2), (56, .iload_n 2, 1), (57, .iadd, 1), (58, .iload_n 3, 1), (59, .iastore, 1), (60, .aload_n 0, 1), (61, .iload_n 1, 1), (62, .iload_n 2, 1), (63, .iload_n 3, 1), (64, .invokevirtual 393, 3), (67, .iload_n 3, 1), (68, .ireturn, 1)] : List (Nat × Instr × Nat)), decode cX12_mendsOne q.1 = .ok (q.2.1, q.2.2) := by decide +kernel
abbrev X_Mod_mendsOne : MX := (cX12_mendsOne, RX12, "mendsOne", 4, (some (.int)), 4, 89)
theorem v_Mod_mendsOne (F : Nat) (l0 l1 l2 : Int) (h : Hp) : V X_Mod_mendsOne 0 [(0, 2, l0), (1, 0, l1), (2, 0, l2)] [] h (Mod_mendsOne F l0 l1 l2 h) := by
  unfold Mod_mendsOne
  refine V_aload_n (pc := 0) (DCa dc_Mod_mendsOne_0 0 rfl) rfl 0 rfl ?_
  refine V_iload_n (pc := 1) (DCa dc_Mod_mendsOne_0 1 rfl) rfl 1 rfl ?_
  refine V_iload_n (pc := 2) (DCa dc_Mod_mendsOne_0 2 rfl) rfl 2 rfl ?_
  refine Q_callv (ci := 12) (st := []) (pc := 3) (DCa dc_Mod_mendsOne_0 3 rfl) (sp_Mod_comesAt F _ _ _ _) ce_Mod_comesAt ml_12_384 rfl rfl ⟨Nat.le_of_ble_eq_true rfl, Nat.le_of_ble_eq_true rfl⟩ rfl (Nat.le_of_ble_eq_true rfl) (fun r1 h2 => ?_)
  refine V_aload_n (pc := 6) (DCa dc_Mod_mendsOne_0 4 rfl) rfl 0 rfl ?_
  refine Q_getf (k := 57) (pc := 7) (DCa dc_Mod_mendsOne_0 5 rfl) cls_12 (Nat.le_of_ble_eq_true rfl) fl_12_137 rfl rfl rfl (fun v3 => ?_)
  refine V_iload_n (pc := 10) (DCa dc_Mod_mendsOne_0 6 rfl) rfl 2 rfl ?_
  refine Q_iaload (pc := 11) (DCa dc_Mod_mendsOne_0 7 rfl) (fun v4 => ?_)
  refine V_iconst (pc := 12) (DCa dc_Mod_mendsOne_0 8 rfl) (by decide) ?_
  refine V_iadd (pc := 13) (DCa dc_Mod_mendsOne_0 9 rfl) ?_
  refine V_iconst (pc := 14) (DCa dc_Mod_mendsOne_0 10 rfl) (by decide) ?_
  refine Q_idiv (pc := 15) (DCa dc_Mod_mendsOne_0 11 rfl) (fun v5 => ?_)
  refine V_iadd (pc := 16) (DCa dc_Mod_mendsOne_0 12 rfl) ?_
  refine Q_lt (fun x6 => ?_)
  refine V_istore_n (ls' := [(0, 2, l0), (1, 0, l1), (2, 0, l2), (3, 0, x6)]) (pc := 17) (DCa dc_Mod_mendsOne_0 13 rfl) rfl (Nat.le_of_ble_eq_true rfl) rfl ?_
  refine V_aload_n (pc := 18) (DCa dc_Mod_mendsOne_0 14 rfl) rfl 0 rfl ?_
  refine Q_getf (k := 63) (pc := 19) (DCa dc_Mod_mendsOne_0 15 rfl) cls_12 (Nat.le_of_ble_eq_true rfl) fl_12_155 rfl rfl rfl (fun v7 => ?_)
  refine V_bipush (pc := 22) (DCa dc_Mod_mendsOne_0 16 rfl) (by decide) ?_
  refine V_iload_n (pc := 24) (DCa dc_Mod_mendsOne_0 17 rfl) rfl 2 rfl ?_
  refine V_iadd (pc := 25) (DCa dc_Mod_mendsOne_0 18 rfl) ?_
  refine Q_iaload (pc := 26) (DCa dc_Mod_mendsOne_0 19 rfl) (fun v8 => ?_)
  refine V_if_eq (tgt := 37) (pc := 27) (DCa dc_Mod_mendsOne_0 20 rfl) (by decide) (fun _ => ?_) (fun _ => ?_)
  · refine V_bipush (pc := 37) (DCa dc_Mod_mendsOne_0 24 rfl) (by decide) ?_
    exact V_ireturn (pc := 39) (DCa dc_Mod_mendsOne_0 25 rfl) rfl
  · refine V_iload_n (pc := 30) (DCa dc_Mod_mendsOne_0 21 rfl) rfl 3 rfl ?_
    refine V_sipush (pc := 31) (DCa dc_Mod_mendsOne_0 22 rfl) (by decide) ?_
    refine V_icmp_le (tgt := 40) (pc := 34) (DCa dc_Mod_mendsOne_0 23 rfl) (by decide) (fun _ => ?_) (fun _ => ?_)
    · refine V_bipush (pc := 37) (DCa dc_Mod_mendsOne_0 24 rfl) (by decide) ?_
      exact V_ireturn (pc := 39) (DCa dc_Mod_mendsOne_0 25 rfl) rfl
    · refine V_aload_n (pc := 40) (DCa dc_Mod_mendsOne_0 26 rfl) rfl 0 rfl ?_
      refine Q_getf (k := 63) (pc := 41) (DCa dc_Mod_mendsOne_0 27 rfl) cls_12 (Nat.le_of_ble_eq_true rfl) fl_12_155 rfl rfl rfl (fun v9 => ?_)
      refine V_bipush (pc := 44) (DCa dc_Mod_mendsOne_0 28 rfl) (by decide) ?_
      refine V_iload_n (pc := 46) (DCa dc_Mod_mendsOne_0 29 rfl) rfl 2 rfl ?_
      refine V_iadd (pc := 47) (DCa dc_Mod_mendsOne_0 30 rfl) ?_
      refine V_iconst (pc := 48) (DCa dc_Mod_mendsOne_0 31 rfl) (by decide) ?_
      refine Q_iastore (pc := 49) (DCa dc_Mod_mendsOne_0 32 rfl) (fun h10 => ?_)
      refine V_aload_n (pc := 50) (DCa dc_Mod_mendsOne_0 33 rfl) rfl 0 rfl ?_
      refine Q_getf (k := 63) (pc := 51) (DCa dc_Mod_mendsOne_0 34 rfl) cls_12 (Nat.le_of_ble_eq_true rfl) fl_12_155 rfl rfl rfl (fun v11 => ?_)
      refine V_bipush (pc := 54) (DCa dc_Mod_mendsOne_0 35 rfl) (by decide) ?_
      refine V_iload_n (pc := 56) (DCa dc_Mod_mendsOne_0 36 rfl) rfl 2 rfl ?_
      refine V_iadd (pc := 57) (DCa dc_Mod_mendsOne_0 37 rfl) ?_
      refine V_iload_n (pc := 58) (DCa dc_Mod_mendsOne_0 38 rfl) rfl 3 rfl ?_
      refine Q_iastore (pc := 59) (DCa dc_Mod_mendsOne_0 39 rfl) (fun h12 => ?_)
      refine V_aload_n (pc := 60) (DCa dc_Mod_mendsOne_0 40 rfl) rfl 0 rfl ?_
      refine V_iload_n (pc := 61) (DCa dc_Mod_mendsOne_0 41 rfl) rfl 1 rfl ?_
      refine V_iload_n (pc := 62) (DCa dc_Mod_mendsOne_0 42 rfl) rfl 2 rfl ?_
      refine V_iload_n (pc := 63) (DCa dc_Mod_mendsOne_0 43 rfl) rfl 3 rfl ?_
      refine Q_callv (ci := 12) (st := []) (pc := 64) (DCa dc_Mod_mendsOne_0 44 rfl) (sp_Mod_goesThere F _ _ _ _ _) ce_Mod_goesThere ml_12_393 rfl rfl ⟨Nat.le_of_ble_eq_true rfl, Nat.le_of_ble_eq_true rfl⟩ rfl (Nat.le_of_ble_eq_true rfl) (fun r13 h14 => ?_)
      refine V_iload_n (pc := 67) (DCa dc_Mod_mendsOne_0 45 rfl) rfl 3 rfl ?_
      exact V_ireturn (pc := 68) (DCa dc_Mod_mendsOne_0 46 rfl) rfl
theorem sp_Mod_mendsOne (F : Nat) (l0 l1 l2 : Int) (h : Hp) : Sp yX12_mendsOne cX12_mendsOne 4 (some (.int)) 4 89 [(2, l0), (0, l1), (0, l2)] h (Mod_mendsOne F l0 l1 l2 h) := Sp_of (by decide +kernel) rfl rfl (Nat.le_of_ble_eq_true rfl) (v_Mod_mendsOne F l0 l1 l2 h)

-- TideRakesModel.isSeen
def Mod_isSeen (F : Nat) (l0 l1 l2 : Int) (h : Hp) : Option (Int × Hp) :=
  gf h l0 112 63 fun v1 =>
  al h v1 0 l1 fun v2 =>
  if v2 = (-2) then
    (rz 0 h)
  else
    (gf h l0 112 63 fun v3 =>
    al h v3 0 l1 fun v4 =>
    if l2 < v4 then
      (rz 0 h)
    else
      (gf h l0 112 63 fun v5 =>
      al h v5 0 (w32 (16 + l1)) fun v6 =>
      if l2 < v6 then
        (rz 0 h)
      else
        (gf h l0 112 63 fun v7 =>
        al h v7 0 (w32 (8 + l1)) fun v8 =>
        if v8 = 0 then
          (gf h l0 112 63 fun v9 =>
          al h v9 0 l1 fun v10 =>
          iv h l0 112 (Mod_isCovered F l0 l1 v10 l2 h) fun r11 h12 =>
          if r11 = 0 then
            (rz 1 h12)
          else
            (rz 0 h12))
        else
          (rz 0 h))))

theorem dc_Mod_isSeen_0 : ∀ q ∈ ([(0, .aload_n 0, 1), (1, .getfield 155, 3), (4, .iload_n 1, 1), (5, .iaload, 1), (6, .bipush (-2), 2), (8, .if_icmp .eq 57, 3), (11, .aload_n 0, 1), (12, .getfield 155, 3), (15, .iload_n 1, 1), (16, .iaload, 1), (17, .iload_n 2, 1), (18, .if_icmp .gt 47, 3), (21, .aload_n 0, 1), (22, .getfield 155, 3), (25, .bipush 16, 2), (27, .iload_n 1, 1), (28, .iadd, 1), (29, .iaload, 1), (30, .iload_n 2, 1), (31, .if_icmp .gt 34, 3), (34, .aload_n 0, 1), (35, .getfield 155, 3), (38, .bipush 8, 2), (40, .iload_n 1, 1), (41, .iadd, 1), (42, .iaload, 1), (43, .ifCond .ne 22, 3), (46, .aload_n 0, 1), (47, .iload_n 1, 1), (48, .aload_n 0, 1), (49, .getfield 155, 3), (52, .iload_n 1, 1), (53, .iaload, 1), (54, .iload_n 2, 1), (55, .invokevirtual 387, 3), (58, .ifCond .ne 7, 3), (61, .iconst 1, 1), (62, .goto 4, 3), (65, .iconst 0, 1), (66, .ireturn, 1)] : List (Nat × Instr × Nat)), decode cX12_isSeen q.1 = .ok (q.2.1, q.2.2) := by decide +kernel
abbrev X_Mod_isSeen : MX := (cX12_isSeen, RX12, "isSeen", 3, (some (.boolean)), 2, 44)
theorem v_Mod_isSeen (F : Nat) (l0 l1 l2 : Int) (h : Hp) : V X_Mod_isSeen 0 [(0, 2, l0), (1, 0, l1), (2, 0, l2)] [] h (Mod_isSeen F l0 l1 l2 h) := by
  unfold Mod_isSeen
  refine V_aload_n (pc := 0) (DCa dc_Mod_isSeen_0 0 rfl) rfl 0 rfl ?_
  refine Q_getf (k := 63) (pc := 1) (DCa dc_Mod_isSeen_0 1 rfl) cls_12 (Nat.le_of_ble_eq_true rfl) fl_12_155 rfl rfl rfl (fun v1 => ?_)
  refine V_iload_n (pc := 4) (DCa dc_Mod_isSeen_0 2 rfl) rfl 1 rfl ?_
  refine Q_iaload (pc := 5) (DCa dc_Mod_isSeen_0 3 rfl) (fun v2 => ?_)
  refine V_bipush (pc := 6) (DCa dc_Mod_isSeen_0 4 rfl) (by decide) ?_
  refine V_icmp_eq (tgt := 65) (pc := 8) (DCa dc_Mod_isSeen_0 5 rfl) (by decide) (fun _ => ?_) (fun _ => ?_)
  · refine V_iconst (pc := 65) (DCa dc_Mod_isSeen_0 38 rfl) (by decide) ?_
    exact V_zreturn (pc := 66) (DCa dc_Mod_isSeen_0 39 rfl) rfl
  · refine V_aload_n (pc := 11) (DCa dc_Mod_isSeen_0 6 rfl) rfl 0 rfl ?_
    refine Q_getf (k := 63) (pc := 12) (DCa dc_Mod_isSeen_0 7 rfl) cls_12 (Nat.le_of_ble_eq_true rfl) fl_12_155 rfl rfl rfl (fun v3 => ?_)
    refine V_iload_n (pc := 15) (DCa dc_Mod_isSeen_0 8 rfl) rfl 1 rfl ?_
    refine Q_iaload (pc := 16) (DCa dc_Mod_isSeen_0 9 rfl) (fun v4 => ?_)
    refine V_iload_n (pc := 17) (DCa dc_Mod_isSeen_0 10 rfl) rfl 2 rfl ?_
    refine V_icmp_gt (tgt := 65) (pc := 18) (DCa dc_Mod_isSeen_0 11 rfl) (by decide) (fun _ => ?_) (fun _ => ?_)
    · refine V_iconst (pc := 65) (DCa dc_Mod_isSeen_0 38 rfl) (by decide) ?_
      exact V_zreturn (pc := 66) (DCa dc_Mod_isSeen_0 39 rfl) rfl
    · refine V_aload_n (pc := 21) (DCa dc_Mod_isSeen_0 12 rfl) rfl 0 rfl ?_
      refine Q_getf (k := 63) (pc := 22) (DCa dc_Mod_isSeen_0 13 rfl) cls_12 (Nat.le_of_ble_eq_true rfl) fl_12_155 rfl rfl rfl (fun v5 => ?_)
      refine V_bipush (pc := 25) (DCa dc_Mod_isSeen_0 14 rfl) (by decide) ?_
      refine V_iload_n (pc := 27) (DCa dc_Mod_isSeen_0 15 rfl) rfl 1 rfl ?_
      refine V_iadd (pc := 28) (DCa dc_Mod_isSeen_0 16 rfl) ?_
      refine Q_iaload (pc := 29) (DCa dc_Mod_isSeen_0 17 rfl) (fun v6 => ?_)
      refine V_iload_n (pc := 30) (DCa dc_Mod_isSeen_0 18 rfl) rfl 2 rfl ?_
      refine V_icmp_gt (tgt := 65) (pc := 31) (DCa dc_Mod_isSeen_0 19 rfl) (by decide) (fun _ => ?_) (fun _ => ?_)
      · refine V_iconst (pc := 65) (DCa dc_Mod_isSeen_0 38 rfl) (by decide) ?_
        exact V_zreturn (pc := 66) (DCa dc_Mod_isSeen_0 39 rfl) rfl
      · refine V_aload_n (pc := 34) (DCa dc_Mod_isSeen_0 20 rfl) rfl 0 rfl ?_
        refine Q_getf (k := 63) (pc := 35) (DCa dc_Mod_isSeen_0 21 rfl) cls_12 (Nat.le_of_ble_eq_true rfl) fl_12_155 rfl rfl rfl (fun v7 => ?_)
        refine V_bipush (pc := 38) (DCa dc_Mod_isSeen_0 22 rfl) (by decide) ?_
        refine V_iload_n (pc := 40) (DCa dc_Mod_isSeen_0 23 rfl) rfl 1 rfl ?_
        refine V_iadd (pc := 41) (DCa dc_Mod_isSeen_0 24 rfl) ?_
        refine Q_iaload (pc := 42) (DCa dc_Mod_isSeen_0 25 rfl) (fun v8 => ?_)
        refine V_if_ne (tgt := 65) (pc := 43) (DCa dc_Mod_isSeen_0 26 rfl) (by decide) (fun _ => ?_) (fun _ => ?_)
        · refine V_aload_n (pc := 46) (DCa dc_Mod_isSeen_0 27 rfl) rfl 0 rfl ?_
          refine V_iload_n (pc := 47) (DCa dc_Mod_isSeen_0 28 rfl) rfl 1 rfl ?_
          refine V_aload_n (pc := 48) (DCa dc_Mod_isSeen_0 29 rfl) rfl 0 rfl ?_
          refine Q_getf (k := 63) (pc := 49) (DCa dc_Mod_isSeen_0 30 rfl) cls_12 (Nat.le_of_ble_eq_true rfl) fl_12_155 rfl rfl rfl (fun v9 => ?_)
          refine V_iload_n (pc := 52) (DCa dc_Mod_isSeen_0 31 rfl) rfl 1 rfl ?_
          refine Q_iaload (pc := 53) (DCa dc_Mod_isSeen_0 32 rfl) (fun v10 => ?_)
          refine V_iload_n (pc := 54) (DCa dc_Mod_isSeen_0 33 rfl) rfl 2 rfl ?_
          refine Q_callv (ci := 12) (st := []) (pc := 55) (DCa dc_Mod_isSeen_0 34 rfl) (sp_Mod_isCovered F _ _ _ _ _) ce_Mod_isCovered ml_12_387 rfl rfl ⟨Nat.le_of_ble_eq_true rfl, Nat.le_of_ble_eq_true rfl⟩ rfl (Nat.le_of_ble_eq_true rfl) (fun r11 h12 => ?_)
          refine V_if_ne (tgt := 65) (pc := 58) (DCa dc_Mod_isSeen_0 35 rfl) (by decide) (fun _ => ?_) (fun _ => ?_)
          · refine V_iconst (pc := 61) (DCa dc_Mod_isSeen_0 36 rfl) (by decide) ?_
            refine V_goto (tgt := 66) (pc := 62) (DCa dc_Mod_isSeen_0 37 rfl) (by decide) ?_
            exact V_zreturn (pc := 66) (DCa dc_Mod_isSeen_0 39 rfl) rfl
          · refine V_iconst (pc := 65) (DCa dc_Mod_isSeen_0 38 rfl) (by decide) ?_
            exact V_zreturn (pc := 66) (DCa dc_Mod_isSeen_0 39 rfl) rfl
        · refine V_iconst (pc := 65) (DCa dc_Mod_isSeen_0 38 rfl) (by decide) ?_
          exact V_zreturn (pc := 66) (DCa dc_Mod_isSeen_0 39 rfl) rfl
theorem sp_Mod_isSeen (F : Nat) (l0 l1 l2 : Int) (h : Hp) : Sp yX12_isSeen cX12_isSeen 3 (some (.boolean)) 2 44 [(2, l0), (0, l1), (0, l2)] h (Mod_isSeen F l0 l1 l2 h) := Sp_of (by decide +kernel) rfl rfl (Nat.le_of_ble_eq_true rfl) (v_Mod_isSeen F l0 l1 l2 h)

-- TideRakesModel.photoOf
def Mod_photoOf_L4s (F : Nat)  (R4 : Int → Int → Int → Int → Hp → Option (Int × Hp)) (l0 l1 l2 l3 : Int) (h : Hp) : Option (Int × Hp) :=
  gf h l0 112 22 fun v1 =>
  gf h l0 112 18 fun v2 =>
  al h v1 0 v2 fun v3 =>
  if l3 < v3 then
    (iv h l0 112 (Mod_isSeen F l0 l3 l1 h) fun r4 h5 =>
    if r4 = 0 then
      (R4 l0 l1 l2 (w32 (l3 + 1)) h5)
    else
      (gf h5 l0 112 25 fun v6 =>
      gf h5 l0 112 18 fun v7 =>
      al h5 v6 0 (w32 ((w32 (8 * v7)) + l3)) fun v8 =>
      lt (w32 (l2 + v8)) fun x9 =>
      R4 l0 l1 x9 (w32 (l3 + 1)) h5))
  else
    (gf h l0 112 53 fun v10 =>
    al h v10 0 l1 fun v11 =>
    some (w32 (l2 * v11), h))
def Mod_photoOf_L4 (F : Nat)  : Nat → Int → Int → Int → Int → Hp → Option (Int × Hp)
  | 0 => fun _ _ _ _ _ => none
  | n + 1 => Mod_photoOf_L4s F  (Mod_photoOf_L4 F  n)
def Mod_photoOf (F : Nat) (l0 l1 : Int) (h : Hp) : Option (Int × Hp) :=
  Mod_photoOf_L4 F F l0 l1 0 0 h

theorem dc_Mod_photoOf_0 : ∀ q ∈ ([(0, .iconst 0, 1), (1, .istore_n 2, 1), (2, .iconst 0, 1), (3, .istore_n 3, 1), (4, .iload_n 3, 1), (5, .aload_n 0, 1), (6, .getfield 43, 3), (9, .aload_n 0, 1), (10, .getfield 281, 3), (13, .iaload, 1), (14, .if_icmp .ge 35, 3), (17, .aload_n 0, 1), (18, .iload_n 3, 1), (19, .iload_n 1, 1), (20, .invokevirtual 397, 3), (23, .ifCond .eq 20, 3), (26, .iload_n 2, 1), (27, .aload_n 0, 1), (28, .getfield 52, 3), (31, .bipush 8, 2), (33, .aload_n 0, 1), (34, .getfield 281, 3), (37, .imul, 1), (38, .iload_n 3, 1), (39, .iadd, 1), (40, .iaload, 1), (41, .iadd, 1), (42, .istore_n 2, 1), (43, .iinc 3 1, 3), (46, .goto (-42), 3), (49, .iload_n 2, 1), (50, .aload_n 0, 1), (51, .getfield 125, 3), (54, .iload_n 1, 1), (55, .iaload, 1), (56, .imul, 1), (57, .ireturn, 1)] : List (Nat × Instr × Nat)), decode cX12_photoOf q.1 = .ok (q.2.1, q.2.2) := by decide +kernel
abbrev X_Mod_photoOf : MX := (cX12_photoOf, RX12, "photoOf", 4, (some (.int)), 3, 66)
theorem v_Mod_photoOf_L4s (F : Nat)  (R4 : Int → Int → Int → Int → Hp → Option (Int × Hp)) (hR4 : ∀ (l0 l1 l2 l3 : Int) (h : Hp), V X_Mod_photoOf 4 [(0, 2, l0), (1, 0, l1), (2, 0, l2), (3, 0, l3)] [] h (R4 l0 l1 l2 l3 h)) (l0 l1 l2 l3 : Int) (h : Hp) : V X_Mod_photoOf 4 [(0, 2, l0), (1, 0, l1), (2, 0, l2), (3, 0, l3)] [] h (Mod_photoOf_L4s F  R4 l0 l1 l2 l3 h) := by
  unfold Mod_photoOf_L4s
  refine V_iload_n (pc := 4) (DCa dc_Mod_photoOf_0 4 rfl) rfl 3 rfl ?_
  refine V_aload_n (pc := 5) (DCa dc_Mod_photoOf_0 5 rfl) rfl 0 rfl ?_
  refine Q_getf (k := 22) (pc := 6) (DCa dc_Mod_photoOf_0 6 rfl) cls_12 (Nat.le_of_ble_eq_true rfl) fl_12_43 rfl rfl rfl (fun v1 => ?_)
  refine V_aload_n (pc := 9) (DCa dc_Mod_photoOf_0 7 rfl) rfl 0 rfl ?_
  refine Q_getf (k := 18) (pc := 10) (DCa dc_Mod_photoOf_0 8 rfl) cls_12 (Nat.le_of_ble_eq_true rfl) fl_12_281 rfl rfl rfl (fun v2 => ?_)
  refine Q_iaload (pc := 13) (DCa dc_Mod_photoOf_0 9 rfl) (fun v3 => ?_)
  refine V_icmp_ge (tgt := 49) (pc := 14) (DCa dc_Mod_photoOf_0 10 rfl) (by decide) (fun _ => ?_) (fun _ => ?_)
  · refine V_aload_n (pc := 17) (DCa dc_Mod_photoOf_0 11 rfl) rfl 0 rfl ?_
    refine V_iload_n (pc := 18) (DCa dc_Mod_photoOf_0 12 rfl) rfl 3 rfl ?_
    refine V_iload_n (pc := 19) (DCa dc_Mod_photoOf_0 13 rfl) rfl 1 rfl ?_
    refine Q_callv (ci := 12) (st := []) (pc := 20) (DCa dc_Mod_photoOf_0 14 rfl) (sp_Mod_isSeen F _ _ _ _) ce_Mod_isSeen ml_12_397 rfl rfl ⟨Nat.le_of_ble_eq_true rfl, Nat.le_of_ble_eq_true rfl⟩ rfl (Nat.le_of_ble_eq_true rfl) (fun r4 h5 => ?_)
    refine V_if_eq (tgt := 43) (pc := 23) (DCa dc_Mod_photoOf_0 15 rfl) (by decide) (fun _ => ?_) (fun _ => ?_)
    · refine V_iinc (ls' := [(0, 2, l0), (1, 0, l1), (2, 0, l2), (3, 0, w32 (l3 + 1))]) (pc := 43) (DCa dc_Mod_photoOf_0 28 rfl) (Nat.le_of_ble_eq_true rfl) (by decide) 3 rfl rfl ?_
      refine V_goto (tgt := 4) (pc := 46) (DCa dc_Mod_photoOf_0 29 rfl) (by decide) ?_
      exact hR4 _ _ _ _ _
    · refine V_iload_n (pc := 26) (DCa dc_Mod_photoOf_0 16 rfl) rfl 2 rfl ?_
      refine V_aload_n (pc := 27) (DCa dc_Mod_photoOf_0 17 rfl) rfl 0 rfl ?_
      refine Q_getf (k := 25) (pc := 28) (DCa dc_Mod_photoOf_0 18 rfl) cls_12 (Nat.le_of_ble_eq_true rfl) fl_12_52 rfl rfl rfl (fun v6 => ?_)
      refine V_bipush (pc := 31) (DCa dc_Mod_photoOf_0 19 rfl) (by decide) ?_
      refine V_aload_n (pc := 33) (DCa dc_Mod_photoOf_0 20 rfl) rfl 0 rfl ?_
      refine Q_getf (k := 18) (pc := 34) (DCa dc_Mod_photoOf_0 21 rfl) cls_12 (Nat.le_of_ble_eq_true rfl) fl_12_281 rfl rfl rfl (fun v7 => ?_)
      refine V_imul (pc := 37) (DCa dc_Mod_photoOf_0 22 rfl) ?_
      refine V_iload_n (pc := 38) (DCa dc_Mod_photoOf_0 23 rfl) rfl 3 rfl ?_
      refine V_iadd (pc := 39) (DCa dc_Mod_photoOf_0 24 rfl) ?_
      refine Q_iaload (pc := 40) (DCa dc_Mod_photoOf_0 25 rfl) (fun v8 => ?_)
      refine V_iadd (pc := 41) (DCa dc_Mod_photoOf_0 26 rfl) ?_
      refine Q_lt (fun x9 => ?_)
      refine V_istore_n (ls' := [(0, 2, l0), (1, 0, l1), (2, 0, x9), (3, 0, l3)]) (pc := 42) (DCa dc_Mod_photoOf_0 27 rfl) rfl (Nat.le_of_ble_eq_true rfl) rfl ?_
      refine V_iinc (ls' := [(0, 2, l0), (1, 0, l1), (2, 0, x9), (3, 0, w32 (l3 + 1))]) (pc := 43) (DCa dc_Mod_photoOf_0 28 rfl) (Nat.le_of_ble_eq_true rfl) (by decide) 3 rfl rfl ?_
      refine V_goto (tgt := 4) (pc := 46) (DCa dc_Mod_photoOf_0 29 rfl) (by decide) ?_
      exact hR4 _ _ _ _ _
  · refine V_iload_n (pc := 49) (DCa dc_Mod_photoOf_0 30 rfl) rfl 2 rfl ?_
    refine V_aload_n (pc := 50) (DCa dc_Mod_photoOf_0 31 rfl) rfl 0 rfl ?_
    refine Q_getf (k := 53) (pc := 51) (DCa dc_Mod_photoOf_0 32 rfl) cls_12 (Nat.le_of_ble_eq_true rfl) fl_12_125 rfl rfl rfl (fun v10 => ?_)
    refine V_iload_n (pc := 54) (DCa dc_Mod_photoOf_0 33 rfl) rfl 1 rfl ?_
    refine Q_iaload (pc := 55) (DCa dc_Mod_photoOf_0 34 rfl) (fun v11 => ?_)
    refine V_imul (pc := 56) (DCa dc_Mod_photoOf_0 35 rfl) ?_
    exact V_ireturn (pc := 57) (DCa dc_Mod_photoOf_0 36 rfl) rfl
theorem v_Mod_photoOf_L4 (F : Nat)  (n : Nat) : ∀ (l0 l1 l2 l3 : Int) (h : Hp), V X_Mod_photoOf 4 [(0, 2, l0), (1, 0, l1), (2, 0, l2), (3, 0, l3)] [] h (Mod_photoOf_L4 F  n l0 l1 l2 l3 h) := by
  induction n with
  | zero => intros; exact V_none
  | succ n ih => exact fun l0 l1 l2 l3 h => v_Mod_photoOf_L4s F  _ ih l0 l1 l2 l3 h
theorem v_Mod_photoOf (F : Nat) (l0 l1 : Int) (h : Hp) : V X_Mod_photoOf 0 [(0, 2, l0), (1, 0, l1)] [] h (Mod_photoOf F l0 l1 h) := by
  unfold Mod_photoOf
  refine V_iconst (pc := 0) (DCa dc_Mod_photoOf_0 0 rfl) (by decide) ?_
  refine V_istore_n (ls' := [(0, 2, l0), (1, 0, l1), (2, 0, 0)]) (pc := 1) (DCa dc_Mod_photoOf_0 1 rfl) rfl (Nat.le_of_ble_eq_true rfl) rfl ?_
  refine V_iconst (pc := 2) (DCa dc_Mod_photoOf_0 2 rfl) (by decide) ?_
  refine V_istore_n (ls' := [(0, 2, l0), (1, 0, l1), (2, 0, 0), (3, 0, 0)]) (pc := 3) (DCa dc_Mod_photoOf_0 3 rfl) rfl (Nat.le_of_ble_eq_true rfl) rfl ?_
  exact v_Mod_photoOf_L4 F F _ _ _ _ _
theorem sp_Mod_photoOf (F : Nat) (l0 l1 : Int) (h : Hp) : Sp yX12_photoOf cX12_photoOf 4 (some (.int)) 3 66 [(2, l0), (0, l1)] h (Mod_photoOf F l0 l1 h) := Sp_of (by decide +kernel) rfl rfl (Nat.le_of_ble_eq_true rfl) (v_Mod_photoOf F l0 l1 h)

-- TideRakesModel.part
def Mod_part (F : Nat) (l0 l1 l2 : Int) (h : Hp) : Option (Int × Hp) :=
  iv h l0 112 (Mod_isPart F l0 l1 h) fun r1 h2 =>
  if r1 = 0 then
    (some ((-10000), h2))
  else
    (tsw l2 0 6 (fun i => match i with
      | 0 => (gf h2 l0 112 58 fun v3 =>
      al h2 v3 0 l1 fun v4 =>
      some (v4, h2))
      | 1 => (gf h2 l0 112 62 fun v5 =>
      al h2 v5 0 l1 fun v6 =>
      some (v6, h2))
      | 2 => (gf h2 l0 112 62 fun v7 =>
      al h2 v7 0 (w32 (8 + l1)) fun v8 =>
      some (v8, h2))
      | 3 => (gf h2 l0 112 25 fun v9 =>
      gf h2 l0 112 18 fun v10 =>
      al h2 v9 0 (w32 ((w32 (8 * v10)) + l1)) fun v11 =>
      some (v11, h2))
      | 4 => (gf h2 l0 112 26 fun v12 =>
      gf h2 l0 112 18 fun v13 =>
      al h2 v12 0 (w32 ((w32 (8 * v13)) + l1)) fun v14 =>
      some (v14, h2))
      | _ => (gf h2 l0 112 62 fun v15 =>
      al h2 v15 0 (w32 (24 + l1)) fun v16 =>
      some (v16, h2)))
      (some ((-10000), h2)))

theorem dc_Mod_part_0 : ∀ q ∈ ([(0, .aload_n 0, 1), (1, .iload_n 1, 1), (2, .invokevirtual 400, 3), (5, .ifCond .ne 7, 3), (8, .sipush (-10000), 3), (11, .ireturn, 1), (12, .iload_n 2, 1), (13, .tableswitch 103 0 5 #[39, 46, 53, 63, 78, 93], 39), (52, .aload_n 0, 1), (53, .getfield 140, 3), (56, .iload_n 1, 1), (57, .iaload, 1), (58, .ireturn, 1), (59, .aload_n 0, 1), (60, .getfield 152, 3), (63, .iload_n 1, 1), (64, .iaload, 1), (65, .ireturn, 1), (66, .aload_n 0, 1), (67, .getfield 152, 3), (70, .bipush 8, 2), (72, .iload_n 1, 1), (73, .iadd, 1), (74, .iaload, 1), (75, .ireturn, 1), (76, .aload_n 0, 1), (77, .getfield 52, 3), (80, .bipush 8, 2), (82, .aload_n 0, 1), (83, .getfield 281, 3), (86, .imul, 1), (87, .iload_n 1, 1), (88, .iadd, 1), (89, .iaload, 1), (90, .ireturn, 1), (91, .aload_n 0, 1), (92, .getfield 55, 3), (95, .bipush 8, 2), (97, .aload_n 0, 1), (98, .getfield 281, 3), (101, .imul, 1), (102, .iload_n 1, 1), (103, .iadd, 1), (104, .iaload, 1), (105, .ireturn, 1), (106, .aload_n 0, 1), (107, .getfield 152, 3), (110, .bipush 24, 2), (112, .iload_n 1, 1), (113, .iadd, 1)] : List (Nat × Instr × Nat)), decode cX12_part q.1 = .ok (q.2.1, q.2.2) := by decide +kernel
theorem dc_Mod_part_1 : ∀ q ∈ ([(114, .iaload, 1), (115, .ireturn, 1), (116, .sipush (-10000), 3), (119, .ireturn, 1)] : List (Nat × Instr × Nat)), decode cX12_part q.1 = .ok (q.2.1, q.2.2) := by decide +kernel
abbrev X_Mod_part : MX := (cX12_part, RX12, "part", 3, (some (.int)), 3, 63)
theorem v_Mod_part (F : Nat) (l0 l1 l2 : Int) (h : Hp) : V X_Mod_part 0 [(0, 2, l0), (1, 0, l1), (2, 0, l2)] [] h (Mod_part F l0 l1 l2 h) := by
  unfold Mod_part
  refine V_aload_n (pc := 0) (DCa dc_Mod_part_0 0 rfl) rfl 0 rfl ?_
  refine V_iload_n (pc := 1) (DCa dc_Mod_part_0 1 rfl) rfl 1 rfl ?_
  refine Q_callv (ci := 12) (st := []) (pc := 2) (DCa dc_Mod_part_0 2 rfl) (sp_Mod_isPart F _ _ _) ce_Mod_isPart ml_12_400 rfl rfl ⟨Nat.le_of_ble_eq_true rfl, Nat.le_of_ble_eq_true rfl⟩ rfl (Nat.le_of_ble_eq_true rfl) (fun r1 h2 => ?_)
  refine V_if_ne (tgt := 12) (pc := 5) (DCa dc_Mod_part_0 3 rfl) (by decide) (fun _ => ?_) (fun _ => ?_)
  · refine V_sipush (pc := 8) (DCa dc_Mod_part_0 4 rfl) (by decide) ?_
    exact V_ireturn (pc := 11) (DCa dc_Mod_part_0 5 rfl) rfl
  · refine V_iload_n (pc := 12) (DCa dc_Mod_part_0 6 rfl) rfl 2 rfl ?_
    refine V_table (tgt := 116) (pc := 13) (DCa dc_Mod_part_0 7 rfl) (by decide) (by decide) ?_ (fun i hi _ => ?_)
    · refine V_sipush (pc := 116) (DCa dc_Mod_part_1 2 rfl) (by decide) ?_
      exact V_ireturn (pc := 119) (DCa dc_Mod_part_1 3 rfl) rfl
    · match i, hi with
      | 0, _ =>
        refine ⟨_, 52, rfl, by decide, ?_⟩
        refine V_aload_n (pc := 52) (DCa dc_Mod_part_0 8 rfl) rfl 0 rfl ?_
        refine Q_getf (k := 58) (pc := 53) (DCa dc_Mod_part_0 9 rfl) cls_12 (Nat.le_of_ble_eq_true rfl) fl_12_140 rfl rfl rfl (fun v3 => ?_)
        refine V_iload_n (pc := 56) (DCa dc_Mod_part_0 10 rfl) rfl 1 rfl ?_
        refine Q_iaload (pc := 57) (DCa dc_Mod_part_0 11 rfl) (fun v4 => ?_)
        exact V_ireturn (pc := 58) (DCa dc_Mod_part_0 12 rfl) rfl
      | 1, _ =>
        refine ⟨_, 59, rfl, by decide, ?_⟩
        refine V_aload_n (pc := 59) (DCa dc_Mod_part_0 13 rfl) rfl 0 rfl ?_
        refine Q_getf (k := 62) (pc := 60) (DCa dc_Mod_part_0 14 rfl) cls_12 (Nat.le_of_ble_eq_true rfl) fl_12_152 rfl rfl rfl (fun v5 => ?_)
        refine V_iload_n (pc := 63) (DCa dc_Mod_part_0 15 rfl) rfl 1 rfl ?_
        refine Q_iaload (pc := 64) (DCa dc_Mod_part_0 16 rfl) (fun v6 => ?_)
        exact V_ireturn (pc := 65) (DCa dc_Mod_part_0 17 rfl) rfl
      | 2, _ =>
        refine ⟨_, 66, rfl, by decide, ?_⟩
        refine V_aload_n (pc := 66) (DCa dc_Mod_part_0 18 rfl) rfl 0 rfl ?_
        refine Q_getf (k := 62) (pc := 67) (DCa dc_Mod_part_0 19 rfl) cls_12 (Nat.le_of_ble_eq_true rfl) fl_12_152 rfl rfl rfl (fun v7 => ?_)
        refine V_bipush (pc := 70) (DCa dc_Mod_part_0 20 rfl) (by decide) ?_
        refine V_iload_n (pc := 72) (DCa dc_Mod_part_0 21 rfl) rfl 1 rfl ?_
        refine V_iadd (pc := 73) (DCa dc_Mod_part_0 22 rfl) ?_
        refine Q_iaload (pc := 74) (DCa dc_Mod_part_0 23 rfl) (fun v8 => ?_)
        exact V_ireturn (pc := 75) (DCa dc_Mod_part_0 24 rfl) rfl
      | 3, _ =>
        refine ⟨_, 76, rfl, by decide, ?_⟩
        refine V_aload_n (pc := 76) (DCa dc_Mod_part_0 25 rfl) rfl 0 rfl ?_
        refine Q_getf (k := 25) (pc := 77) (DCa dc_Mod_part_0 26 rfl) cls_12 (Nat.le_of_ble_eq_true rfl) fl_12_52 rfl rfl rfl (fun v9 => ?_)
        refine V_bipush (pc := 80) (DCa dc_Mod_part_0 27 rfl) (by decide) ?_
        refine V_aload_n (pc := 82) (DCa dc_Mod_part_0 28 rfl) rfl 0 rfl ?_
        refine Q_getf (k := 18) (pc := 83) (DCa dc_Mod_part_0 29 rfl) cls_12 (Nat.le_of_ble_eq_true rfl) fl_12_281 rfl rfl rfl (fun v10 => ?_)
        refine V_imul (pc := 86) (DCa dc_Mod_part_0 30 rfl) ?_
        refine V_iload_n (pc := 87) (DCa dc_Mod_part_0 31 rfl) rfl 1 rfl ?_
        refine V_iadd (pc := 88) (DCa dc_Mod_part_0 32 rfl) ?_
        refine Q_iaload (pc := 89) (DCa dc_Mod_part_0 33 rfl) (fun v11 => ?_)
        exact V_ireturn (pc := 90) (DCa dc_Mod_part_0 34 rfl) rfl
      | 4, _ =>
        refine ⟨_, 91, rfl, by decide, ?_⟩
        refine V_aload_n (pc := 91) (DCa dc_Mod_part_0 35 rfl) rfl 0 rfl ?_
        refine Q_getf (k := 26) (pc := 92) (DCa dc_Mod_part_0 36 rfl) cls_12 (Nat.le_of_ble_eq_true rfl) fl_12_55 rfl rfl rfl (fun v12 => ?_)
        refine V_bipush (pc := 95) (DCa dc_Mod_part_0 37 rfl) (by decide) ?_
        refine V_aload_n (pc := 97) (DCa dc_Mod_part_0 38 rfl) rfl 0 rfl ?_
        refine Q_getf (k := 18) (pc := 98) (DCa dc_Mod_part_0 39 rfl) cls_12 (Nat.le_of_ble_eq_true rfl) fl_12_281 rfl rfl rfl (fun v13 => ?_)
        refine V_imul (pc := 101) (DCa dc_Mod_part_0 40 rfl) ?_
        refine V_iload_n (pc := 102) (DCa dc_Mod_part_0 41 rfl) rfl 1 rfl ?_
        refine V_iadd (pc := 103) (DCa dc_Mod_part_0 42 rfl) ?_
        refine Q_iaload (pc := 104) (DCa dc_Mod_part_0 43 rfl) (fun v14 => ?_)
        exact V_ireturn (pc := 105) (DCa dc_Mod_part_0 44 rfl) rfl
      | 5, _ =>
        refine ⟨_, 106, rfl, by decide, ?_⟩
        refine V_aload_n (pc := 106) (DCa dc_Mod_part_0 45 rfl) rfl 0 rfl ?_
        refine Q_getf (k := 62) (pc := 107) (DCa dc_Mod_part_0 46 rfl) cls_12 (Nat.le_of_ble_eq_true rfl) fl_12_152 rfl rfl rfl (fun v15 => ?_)
        refine V_bipush (pc := 110) (DCa dc_Mod_part_0 47 rfl) (by decide) ?_
        refine V_iload_n (pc := 112) (DCa dc_Mod_part_0 48 rfl) rfl 1 rfl ?_
        refine V_iadd (pc := 113) (DCa dc_Mod_part_0 49 rfl) ?_
        refine Q_iaload (pc := 114) (DCa dc_Mod_part_1 0 rfl) (fun v16 => ?_)
        exact V_ireturn (pc := 115) (DCa dc_Mod_part_1 1 rfl) rfl
      | k + 6, hi => exact absurd hi (by omega)
theorem sp_Mod_part (F : Nat) (l0 l1 l2 : Int) (h : Hp) : Sp yX12_part cX12_part 3 (some (.int)) 3 63 [(2, l0), (0, l1), (0, l2)] h (Mod_part F l0 l1 l2 h) := Sp_of (by decide +kernel) rfl rfl (Nat.le_of_ble_eq_true rfl) (v_Mod_part F l0 l1 l2 h)

-- TideRakesModel.worker
def Mod_worker (F : Nat) (l0 l1 l2 : Int) (h : Hp) : Option (Int × Hp) :=
  iv h l0 112 (Mod_isWorker F l0 l1 h) fun r1 h2 =>
  if r1 = 0 then
    (some ((-1), h2))
  else
    (tsw l2 0 5 (fun i => match i with
      | 0 => (gf h2 l0 112 62 fun v3 =>
      al h2 v3 0 (w32 (32 + l1)) fun v4 =>
      some (v4, h2))
      | 1 => (gf h2 l0 112 62 fun v5 =>
      al h2 v5 0 (w32 (35 + l1)) fun v6 =>
      some (v6, h2))
      | 2 => (gf h2 l0 112 62 fun v7 =>
      al h2 v7 0 (w32 (38 + l1)) fun v8 =>
      some (v8, h2))
      | 3 => (gf h2 l0 112 30 fun v9 =>
      gf h2 l0 112 18 fun v10 =>
      al h2 v9 0 (w32 ((w32 (3 * v10)) + l1)) fun v11 =>
      some (v11, h2))
      | _ => (gf h2 l0 112 62 fun v12 =>
      al h2 v12 0 (w32 (41 + l1)) fun v13 =>
      some (v13, h2)))
      (some ((-1), h2)))

theorem dc_Mod_worker_0 : ∀ q ∈ ([(0, .aload_n 0, 1), (1, .iload_n 1, 1), (2, .invokevirtual 403, 3), (5, .ifCond .ne 5, 3), (8, .iconst (-1), 1), (9, .ireturn, 1), (10, .iload_n 2, 1), (11, .tableswitch 87 0 4 #[33, 43, 53, 63, 77], 33), (44, .aload_n 0, 1), (45, .getfield 152, 3), (48, .bipush 32, 2), (50, .iload_n 1, 1), (51, .iadd, 1), (52, .iaload, 1), (53, .ireturn, 1), (54, .aload_n 0, 1), (55, .getfield 152, 3), (58, .bipush 35, 2), (60, .iload_n 1, 1), (61, .iadd, 1), (62, .iaload, 1), (63, .ireturn, 1), (64, .aload_n 0, 1), (65, .getfield 152, 3), (68, .bipush 38, 2), (70, .iload_n 1, 1), (71, .iadd, 1), (72, .iaload, 1), (73, .ireturn, 1), (74, .aload_n 0, 1), (75, .getfield 67, 3), (78, .iconst 3, 1), (79, .aload_n 0, 1), (80, .getfield 281, 3), (83, .imul, 1), (84, .iload_n 1, 1), (85, .iadd, 1), (86, .iaload, 1), (87, .ireturn, 1), (88, .aload_n 0, 1), (89, .getfield 152, 3), (92, .bipush 41, 2), (94, .iload_n 1, 1), (95, .iadd, 1), (96, .iaload, 1), (97, .ireturn, 1), (98, .iconst (-1), 1), (99, .ireturn, 1)] : List (Nat × Instr × Nat)), decode cX12_worker q.1 = .ok (q.2.1, q.2.2) := by decide +kernel
abbrev X_Mod_worker : MX := (cX12_worker, RX12, "worker", 3, (some (.int)), 3, 63)
theorem v_Mod_worker (F : Nat) (l0 l1 l2 : Int) (h : Hp) : V X_Mod_worker 0 [(0, 2, l0), (1, 0, l1), (2, 0, l2)] [] h (Mod_worker F l0 l1 l2 h) := by
  unfold Mod_worker
  refine V_aload_n (pc := 0) (DCa dc_Mod_worker_0 0 rfl) rfl 0 rfl ?_
  refine V_iload_n (pc := 1) (DCa dc_Mod_worker_0 1 rfl) rfl 1 rfl ?_
  refine Q_callv (ci := 12) (st := []) (pc := 2) (DCa dc_Mod_worker_0 2 rfl) (sp_Mod_isWorker F _ _ _) ce_Mod_isWorker ml_12_403 rfl rfl ⟨Nat.le_of_ble_eq_true rfl, Nat.le_of_ble_eq_true rfl⟩ rfl (Nat.le_of_ble_eq_true rfl) (fun r1 h2 => ?_)
  refine V_if_ne (tgt := 10) (pc := 5) (DCa dc_Mod_worker_0 3 rfl) (by decide) (fun _ => ?_) (fun _ => ?_)
  · refine V_iconst (pc := 8) (DCa dc_Mod_worker_0 4 rfl) (by decide) ?_
    exact V_ireturn (pc := 9) (DCa dc_Mod_worker_0 5 rfl) rfl
  · refine V_iload_n (pc := 10) (DCa dc_Mod_worker_0 6 rfl) rfl 2 rfl ?_
    refine V_table (tgt := 98) (pc := 11) (DCa dc_Mod_worker_0 7 rfl) (by decide) (by decide) ?_ (fun i hi _ => ?_)
    · refine V_iconst (pc := 98) (DCa dc_Mod_worker_0 46 rfl) (by decide) ?_
      exact V_ireturn (pc := 99) (DCa dc_Mod_worker_0 47 rfl) rfl
    · match i, hi with
      | 0, _ =>
        refine ⟨_, 44, rfl, by decide, ?_⟩
        refine V_aload_n (pc := 44) (DCa dc_Mod_worker_0 8 rfl) rfl 0 rfl ?_
        refine Q_getf (k := 62) (pc := 45) (DCa dc_Mod_worker_0 9 rfl) cls_12 (Nat.le_of_ble_eq_true rfl) fl_12_152 rfl rfl rfl (fun v3 => ?_)
        refine V_bipush (pc := 48) (DCa dc_Mod_worker_0 10 rfl) (by decide) ?_
        refine V_iload_n (pc := 50) (DCa dc_Mod_worker_0 11 rfl) rfl 1 rfl ?_
        refine V_iadd (pc := 51) (DCa dc_Mod_worker_0 12 rfl) ?_
        refine Q_iaload (pc := 52) (DCa dc_Mod_worker_0 13 rfl) (fun v4 => ?_)
        exact V_ireturn (pc := 53) (DCa dc_Mod_worker_0 14 rfl) rfl
      | 1, _ =>
        refine ⟨_, 54, rfl, by decide, ?_⟩
        refine V_aload_n (pc := 54) (DCa dc_Mod_worker_0 15 rfl) rfl 0 rfl ?_
        refine Q_getf (k := 62) (pc := 55) (DCa dc_Mod_worker_0 16 rfl) cls_12 (Nat.le_of_ble_eq_true rfl) fl_12_152 rfl rfl rfl (fun v5 => ?_)
        refine V_bipush (pc := 58) (DCa dc_Mod_worker_0 17 rfl) (by decide) ?_
        refine V_iload_n (pc := 60) (DCa dc_Mod_worker_0 18 rfl) rfl 1 rfl ?_
        refine V_iadd (pc := 61) (DCa dc_Mod_worker_0 19 rfl) ?_
        refine Q_iaload (pc := 62) (DCa dc_Mod_worker_0 20 rfl) (fun v6 => ?_)
        exact V_ireturn (pc := 63) (DCa dc_Mod_worker_0 21 rfl) rfl
      | 2, _ =>
        refine ⟨_, 64, rfl, by decide, ?_⟩
        refine V_aload_n (pc := 64) (DCa dc_Mod_worker_0 22 rfl) rfl 0 rfl ?_
        refine Q_getf (k := 62) (pc := 65) (DCa dc_Mod_worker_0 23 rfl) cls_12 (Nat.le_of_ble_eq_true rfl) fl_12_152 rfl rfl rfl (fun v7 => ?_)
        refine V_bipush (pc := 68) (DCa dc_Mod_worker_0 24 rfl) (by decide) ?_
        refine V_iload_n (pc := 70) (DCa dc_Mod_worker_0 25 rfl) rfl 1 rfl ?_
        refine V_iadd (pc := 71) (DCa dc_Mod_worker_0 26 rfl) ?_
        refine Q_iaload (pc := 72) (DCa dc_Mod_worker_0 27 rfl) (fun v8 => ?_)
        exact V_ireturn (pc := 73) (DCa dc_Mod_worker_0 28 rfl) rfl
      | 3, _ =>
        refine ⟨_, 74, rfl, by decide, ?_⟩
        refine V_aload_n (pc := 74) (DCa dc_Mod_worker_0 29 rfl) rfl 0 rfl ?_
        refine Q_getf (k := 30) (pc := 75) (DCa dc_Mod_worker_0 30 rfl) cls_12 (Nat.le_of_ble_eq_true rfl) fl_12_67 rfl rfl rfl (fun v9 => ?_)
        refine V_iconst (pc := 78) (DCa dc_Mod_worker_0 31 rfl) (by decide) ?_
        refine V_aload_n (pc := 79) (DCa dc_Mod_worker_0 32 rfl) rfl 0 rfl ?_
        refine Q_getf (k := 18) (pc := 80) (DCa dc_Mod_worker_0 33 rfl) cls_12 (Nat.le_of_ble_eq_true rfl) fl_12_281 rfl rfl rfl (fun v10 => ?_)
        refine V_imul (pc := 83) (DCa dc_Mod_worker_0 34 rfl) ?_
        refine V_iload_n (pc := 84) (DCa dc_Mod_worker_0 35 rfl) rfl 1 rfl ?_
        refine V_iadd (pc := 85) (DCa dc_Mod_worker_0 36 rfl) ?_
        refine Q_iaload (pc := 86) (DCa dc_Mod_worker_0 37 rfl) (fun v11 => ?_)
        exact V_ireturn (pc := 87) (DCa dc_Mod_worker_0 38 rfl) rfl
      | 4, _ =>
        refine ⟨_, 88, rfl, by decide, ?_⟩
        refine V_aload_n (pc := 88) (DCa dc_Mod_worker_0 39 rfl) rfl 0 rfl ?_
        refine Q_getf (k := 62) (pc := 89) (DCa dc_Mod_worker_0 40 rfl) cls_12 (Nat.le_of_ble_eq_true rfl) fl_12_152 rfl rfl rfl (fun v12 => ?_)
        refine V_bipush (pc := 92) (DCa dc_Mod_worker_0 41 rfl) (by decide) ?_
        refine V_iload_n (pc := 94) (DCa dc_Mod_worker_0 42 rfl) rfl 1 rfl ?_
        refine V_iadd (pc := 95) (DCa dc_Mod_worker_0 43 rfl) ?_
        refine Q_iaload (pc := 96) (DCa dc_Mod_worker_0 44 rfl) (fun v13 => ?_)
        exact V_ireturn (pc := 97) (DCa dc_Mod_worker_0 45 rfl) rfl
      | k + 5, hi => exact absurd hi (by omega)
theorem sp_Mod_worker (F : Nat) (l0 l1 l2 : Int) (h : Hp) : Sp yX12_worker cX12_worker 3 (some (.int)) 3 63 [(2, l0), (0, l1), (0, l2)] h (Mod_worker F l0 l1 l2 h) := Sp_of (by decide +kernel) rfl rfl (Nat.le_of_ble_eq_true rfl) (v_Mod_worker F l0 l1 l2 h)

-- TideRakesModel.isMinute
def Mod_isMinute (F : Nat) (l0 : Int) (h : Hp) : Option (Int × Hp) :=
  cl (Mod_in F l0 0 599 h) fun r1 h2 =>
  rz r1 h2

theorem dc_Mod_isMinute_0 : ∀ q ∈ ([(0, .iload_n 0, 1), (1, .iconst 0, 1), (2, .sipush 599, 3), (5, .invokestatic 355, 3), (8, .ireturn, 1)] : List (Nat × Instr × Nat)), decode cX12_isMinute q.1 = .ok (q.2.1, q.2.2) := by decide +kernel
abbrev X_Mod_isMinute : MX := (cX12_isMinute, RX12, "isMinute", 1, (some (.boolean)), 2, 42)
theorem v_Mod_isMinute (F : Nat) (l0 : Int) (h : Hp) : V X_Mod_isMinute 0 [(0, 0, l0)] [] h (Mod_isMinute F l0 h) := by
  unfold Mod_isMinute
  refine V_iload_n (pc := 0) (DCa dc_Mod_isMinute_0 0 rfl) rfl 0 rfl ?_
  refine V_iconst (pc := 1) (DCa dc_Mod_isMinute_0 1 rfl) (by decide) ?_
  refine V_sipush (pc := 2) (DCa dc_Mod_isMinute_0 2 rfl) (by decide) ?_
  refine Q_calls (st := []) (pc := 5) (DCa dc_Mod_isMinute_0 3 rfl) (sp_Mod_in F _ _ _ _) ce_Mod_in ml_12_355 rfl ⟨Nat.le_of_ble_eq_true rfl, Nat.le_of_ble_eq_true rfl⟩ rfl (Nat.le_of_ble_eq_true rfl) (fun r1 h2 => ?_)
  exact V_zreturn (pc := 8) (DCa dc_Mod_isMinute_0 4 rfl) rfl
theorem sp_Mod_isMinute (F : Nat) (l0 : Int) (h : Hp) : Sp yX12_isMinute cX12_isMinute 1 (some (.boolean)) 2 42 [(0, l0)] h (Mod_isMinute F l0 h) := Sp_of (by decide +kernel) rfl rfl (Nat.le_of_ble_eq_true rfl) (v_Mod_isMinute F l0 h)

-- TideRakesModel.minute
def Mod_minute (F : Nat) (l0 l1 l2 : Int) (h : Hp) : Option (Int × Hp) :=
  cl (Mod_isMinute F l1 h) fun r1 h2 =>
  if r1 = 0 then
    (some ((-10000), h2))
  else
    (cl (Mod_in F l2 0 1 h2) fun r3 h4 =>
    if r3 = 0 then
      (some ((-10000), h4))
    else
      (if l2 = 0 then
        (gf h4 l0 112 52 fun v5 =>
        al h4 v5 0 l1 fun v6 =>
        some (v6, h4))
      else
        (gf h4 l0 112 53 fun v7 =>
        al h4 v7 0 l1 fun v8 =>
        some (v8, h4))))

theorem dc_Mod_minute_0 : ∀ q ∈ ([(0, .iload_n 1, 1), (1, .invokestatic 406, 3), (4, .ifCond .eq 12, 3), (7, .iload_n 2, 1), (8, .iconst 0, 1), (9, .iconst 1, 1), (10, .invokestatic 355, 3), (13, .ifCond .ne 7, 3), (16, .sipush (-10000), 3), (19, .ireturn, 1), (20, .iload_n 2, 1), (21, .ifCond .ne 12, 3), (24, .aload_n 0, 1), (25, .getfield 122, 3), (28, .iload_n 1, 1), (29, .iaload, 1), (30, .goto 9, 3), (33, .aload_n 0, 1), (34, .getfield 125, 3), (37, .iload_n 1, 1), (38, .iaload, 1), (39, .ireturn, 1)] : List (Nat × Instr × Nat)), decode cX12_minute q.1 = .ok (q.2.1, q.2.2) := by decide +kernel
abbrev X_Mod_minute : MX := (cX12_minute, RX12, "minute", 3, (some (.int)), 3, 62)
theorem v_Mod_minute (F : Nat) (l0 l1 l2 : Int) (h : Hp) : V X_Mod_minute 0 [(0, 2, l0), (1, 0, l1), (2, 0, l2)] [] h (Mod_minute F l0 l1 l2 h) := by
  unfold Mod_minute
  refine V_iload_n (pc := 0) (DCa dc_Mod_minute_0 0 rfl) rfl 1 rfl ?_
  refine Q_calls (st := []) (pc := 1) (DCa dc_Mod_minute_0 1 rfl) (sp_Mod_isMinute F _ _) ce_Mod_isMinute ml_12_406 rfl ⟨Nat.le_of_ble_eq_true rfl, Nat.le_of_ble_eq_true rfl⟩ rfl (Nat.le_of_ble_eq_true rfl) (fun r1 h2 => ?_)
  refine V_if_eq (tgt := 16) (pc := 4) (DCa dc_Mod_minute_0 2 rfl) (by decide) (fun _ => ?_) (fun _ => ?_)
  · refine V_sipush (pc := 16) (DCa dc_Mod_minute_0 8 rfl) (by decide) ?_
    exact V_ireturn (pc := 19) (DCa dc_Mod_minute_0 9 rfl) rfl
  · refine V_iload_n (pc := 7) (DCa dc_Mod_minute_0 3 rfl) rfl 2 rfl ?_
    refine V_iconst (pc := 8) (DCa dc_Mod_minute_0 4 rfl) (by decide) ?_
    refine V_iconst (pc := 9) (DCa dc_Mod_minute_0 5 rfl) (by decide) ?_
    refine Q_calls (st := []) (pc := 10) (DCa dc_Mod_minute_0 6 rfl) (sp_Mod_in F _ _ _ _) ce_Mod_in ml_12_355 rfl ⟨Nat.le_of_ble_eq_true rfl, Nat.le_of_ble_eq_true rfl⟩ rfl (Nat.le_of_ble_eq_true rfl) (fun r3 h4 => ?_)
    refine V_if_ne (tgt := 20) (pc := 13) (DCa dc_Mod_minute_0 7 rfl) (by decide) (fun _ => ?_) (fun _ => ?_)
    · refine V_sipush (pc := 16) (DCa dc_Mod_minute_0 8 rfl) (by decide) ?_
      exact V_ireturn (pc := 19) (DCa dc_Mod_minute_0 9 rfl) rfl
    · refine V_iload_n (pc := 20) (DCa dc_Mod_minute_0 10 rfl) rfl 2 rfl ?_
      refine V_if_ne (tgt := 33) (pc := 21) (DCa dc_Mod_minute_0 11 rfl) (by decide) (fun _ => ?_) (fun _ => ?_)
      · refine V_aload_n (pc := 24) (DCa dc_Mod_minute_0 12 rfl) rfl 0 rfl ?_
        refine Q_getf (k := 52) (pc := 25) (DCa dc_Mod_minute_0 13 rfl) cls_12 (Nat.le_of_ble_eq_true rfl) fl_12_122 rfl rfl rfl (fun v5 => ?_)
        refine V_iload_n (pc := 28) (DCa dc_Mod_minute_0 14 rfl) rfl 1 rfl ?_
        refine Q_iaload (pc := 29) (DCa dc_Mod_minute_0 15 rfl) (fun v6 => ?_)
        refine V_goto (tgt := 39) (pc := 30) (DCa dc_Mod_minute_0 16 rfl) (by decide) ?_
        exact V_ireturn (pc := 39) (DCa dc_Mod_minute_0 21 rfl) rfl
      · refine V_aload_n (pc := 33) (DCa dc_Mod_minute_0 17 rfl) rfl 0 rfl ?_
        refine Q_getf (k := 53) (pc := 34) (DCa dc_Mod_minute_0 18 rfl) cls_12 (Nat.le_of_ble_eq_true rfl) fl_12_125 rfl rfl rfl (fun v7 => ?_)
        refine V_iload_n (pc := 37) (DCa dc_Mod_minute_0 19 rfl) rfl 1 rfl ?_
        refine Q_iaload (pc := 38) (DCa dc_Mod_minute_0 20 rfl) (fun v8 => ?_)
        exact V_ireturn (pc := 39) (DCa dc_Mod_minute_0 21 rfl) rfl
theorem sp_Mod_minute (F : Nat) (l0 l1 l2 : Int) (h : Hp) : Sp yX12_minute cX12_minute 3 (some (.int)) 3 62 [(2, l0), (0, l1), (0, l2)] h (Mod_minute F l0 l1 l2 h) := Sp_of (by decide +kernel) rfl rfl (Nat.le_of_ble_eq_true rfl) (v_Mod_minute F l0 l1 l2 h)

-- TideRakesModel.free
def Mod_free (F : Nat) (l0 l1 l2 : Int) (h : Hp) : Option (Int × Hp) :=
  iv h l0 112 (Mod_isPart F l0 l1 h) fun r1 h2 =>
  if r1 = 0 then
    (some ((-1), h2))
  else
    (cl (Mod_isMinute F l2 h2) fun r3 h4 =>
    if r3 = 0 then
      (some ((-1), h4))
    else
      (gf h4 l0 112 59 fun v5 =>
      al h4 v5 0 (w32 ((w32 (600 * l1)) + l2)) fun v6 =>
      some (v6, h4)))

theorem dc_Mod_free_0 : ∀ q ∈ ([(0, .aload_n 0, 1), (1, .iload_n 1, 1), (2, .invokevirtual 400, 3), (5, .ifCond .eq 25, 3), (8, .iload_n 2, 1), (9, .invokestatic 406, 3), (12, .ifCond .eq 18, 3), (15, .aload_n 0, 1), (16, .getfield 143, 3), (19, .sipush 600, 3), (22, .iload_n 1, 1), (23, .imul, 1), (24, .iload_n 2, 1), (25, .iadd, 1), (26, .iaload, 1), (27, .goto 4, 3), (30, .iconst (-1), 1), (31, .ireturn, 1)] : List (Nat × Instr × Nat)), decode cX12_free q.1 = .ok (q.2.1, q.2.2) := by decide +kernel
abbrev X_Mod_free : MX := (cX12_free, RX12, "free", 3, (some (.int)), 3, 63)
theorem v_Mod_free (F : Nat) (l0 l1 l2 : Int) (h : Hp) : V X_Mod_free 0 [(0, 2, l0), (1, 0, l1), (2, 0, l2)] [] h (Mod_free F l0 l1 l2 h) := by
  unfold Mod_free
  refine V_aload_n (pc := 0) (DCa dc_Mod_free_0 0 rfl) rfl 0 rfl ?_
  refine V_iload_n (pc := 1) (DCa dc_Mod_free_0 1 rfl) rfl 1 rfl ?_
  refine Q_callv (ci := 12) (st := []) (pc := 2) (DCa dc_Mod_free_0 2 rfl) (sp_Mod_isPart F _ _ _) ce_Mod_isPart ml_12_400 rfl rfl ⟨Nat.le_of_ble_eq_true rfl, Nat.le_of_ble_eq_true rfl⟩ rfl (Nat.le_of_ble_eq_true rfl) (fun r1 h2 => ?_)
  refine V_if_eq (tgt := 30) (pc := 5) (DCa dc_Mod_free_0 3 rfl) (by decide) (fun _ => ?_) (fun _ => ?_)
  · refine V_iconst (pc := 30) (DCa dc_Mod_free_0 16 rfl) (by decide) ?_
    exact V_ireturn (pc := 31) (DCa dc_Mod_free_0 17 rfl) rfl
  · refine V_iload_n (pc := 8) (DCa dc_Mod_free_0 4 rfl) rfl 2 rfl ?_
    refine Q_calls (st := []) (pc := 9) (DCa dc_Mod_free_0 5 rfl) (sp_Mod_isMinute F _ _) ce_Mod_isMinute ml_12_406 rfl ⟨Nat.le_of_ble_eq_true rfl, Nat.le_of_ble_eq_true rfl⟩ rfl (Nat.le_of_ble_eq_true rfl) (fun r3 h4 => ?_)
    refine V_if_eq (tgt := 30) (pc := 12) (DCa dc_Mod_free_0 6 rfl) (by decide) (fun _ => ?_) (fun _ => ?_)
    · refine V_iconst (pc := 30) (DCa dc_Mod_free_0 16 rfl) (by decide) ?_
      exact V_ireturn (pc := 31) (DCa dc_Mod_free_0 17 rfl) rfl
    · refine V_aload_n (pc := 15) (DCa dc_Mod_free_0 7 rfl) rfl 0 rfl ?_
      refine Q_getf (k := 59) (pc := 16) (DCa dc_Mod_free_0 8 rfl) cls_12 (Nat.le_of_ble_eq_true rfl) fl_12_143 rfl rfl rfl (fun v5 => ?_)
      refine V_sipush (pc := 19) (DCa dc_Mod_free_0 9 rfl) (by decide) ?_
      refine V_iload_n (pc := 22) (DCa dc_Mod_free_0 10 rfl) rfl 1 rfl ?_
      refine V_imul (pc := 23) (DCa dc_Mod_free_0 11 rfl) ?_
      refine V_iload_n (pc := 24) (DCa dc_Mod_free_0 12 rfl) rfl 2 rfl ?_
      refine V_iadd (pc := 25) (DCa dc_Mod_free_0 13 rfl) ?_
      refine Q_iaload (pc := 26) (DCa dc_Mod_free_0 14 rfl) (fun v6 => ?_)
      refine V_goto (tgt := 31) (pc := 27) (DCa dc_Mod_free_0 15 rfl) (by decide) ?_
      exact V_ireturn (pc := 31) (DCa dc_Mod_free_0 17 rfl) rfl
theorem sp_Mod_free (F : Nat) (l0 l1 l2 : Int) (h : Hp) : Sp yX12_free cX12_free 3 (some (.int)) 3 63 [(2, l0), (0, l1), (0, l2)] h (Mod_free F l0 l1 l2 h) := Sp_of (by decide +kernel) rfl rfl (Nat.le_of_ble_eq_true rfl) (v_Mod_free F l0 l1 l2 h)

-- TideRakesModel.dog
def Mod_dog (F : Nat) (l0 l1 l2 : Int) (h : Hp) : Option (Int × Hp) :=
  iv h l0 112 (Mod_isPart F l0 l1 h) fun r1 h2 =>
  if r1 = 0 then
    (some ((-1), h2))
  else
    (cl (Mod_isMinute F l2 h2) fun r3 h4 =>
    if r3 = 0 then
      (some ((-1), h4))
    else
      (gf h4 l0 112 54 fun v5 =>
      al h4 v5 0 (w32 ((w32 (600 * l1)) + l2)) fun v6 =>
      some (v6, h4)))

theorem dc_Mod_dog_0 : ∀ q ∈ ([(0, .aload_n 0, 1), (1, .iload_n 1, 1), (2, .invokevirtual 400, 3), (5, .ifCond .eq 25, 3), (8, .iload_n 2, 1), (9, .invokestatic 406, 3), (12, .ifCond .eq 18, 3), (15, .aload_n 0, 1), (16, .getfield 128, 3), (19, .sipush 600, 3), (22, .iload_n 1, 1), (23, .imul, 1), (24, .iload_n 2, 1), (25, .iadd, 1), (26, .iaload, 1), (27, .goto 4, 3), (30, .iconst (-1), 1), (31, .ireturn, 1)] : List (Nat × Instr × Nat)), decode cX12_dog q.1 = .ok (q.2.1, q.2.2) := by decide +kernel
abbrev X_Mod_dog : MX := (cX12_dog, RX12, "dog", 3, (some (.int)), 3, 63)
theorem v_Mod_dog (F : Nat) (l0 l1 l2 : Int) (h : Hp) : V X_Mod_dog 0 [(0, 2, l0), (1, 0, l1), (2, 0, l2)] [] h (Mod_dog F l0 l1 l2 h) := by
  unfold Mod_dog
  refine V_aload_n (pc := 0) (DCa dc_Mod_dog_0 0 rfl) rfl 0 rfl ?_
  refine V_iload_n (pc := 1) (DCa dc_Mod_dog_0 1 rfl) rfl 1 rfl ?_
  refine Q_callv (ci := 12) (st := []) (pc := 2) (DCa dc_Mod_dog_0 2 rfl) (sp_Mod_isPart F _ _ _) ce_Mod_isPart ml_12_400 rfl rfl ⟨Nat.le_of_ble_eq_true rfl, Nat.le_of_ble_eq_true rfl⟩ rfl (Nat.le_of_ble_eq_true rfl) (fun r1 h2 => ?_)
  refine V_if_eq (tgt := 30) (pc := 5) (DCa dc_Mod_dog_0 3 rfl) (by decide) (fun _ => ?_) (fun _ => ?_)
  · refine V_iconst (pc := 30) (DCa dc_Mod_dog_0 16 rfl) (by decide) ?_
    exact V_ireturn (pc := 31) (DCa dc_Mod_dog_0 17 rfl) rfl
  · refine V_iload_n (pc := 8) (DCa dc_Mod_dog_0 4 rfl) rfl 2 rfl ?_
    refine Q_calls (st := []) (pc := 9) (DCa dc_Mod_dog_0 5 rfl) (sp_Mod_isMinute F _ _) ce_Mod_isMinute ml_12_406 rfl ⟨Nat.le_of_ble_eq_true rfl, Nat.le_of_ble_eq_true rfl⟩ rfl (Nat.le_of_ble_eq_true rfl) (fun r3 h4 => ?_)
    refine V_if_eq (tgt := 30) (pc := 12) (DCa dc_Mod_dog_0 6 rfl) (by decide) (fun _ => ?_) (fun _ => ?_)
    · refine V_iconst (pc := 30) (DCa dc_Mod_dog_0 16 rfl) (by decide) ?_
      exact V_ireturn (pc := 31) (DCa dc_Mod_dog_0 17 rfl) rfl
    · refine V_aload_n (pc := 15) (DCa dc_Mod_dog_0 7 rfl) rfl 0 rfl ?_
      refine Q_getf (k := 54) (pc := 16) (DCa dc_Mod_dog_0 8 rfl) cls_12 (Nat.le_of_ble_eq_true rfl) fl_12_128 rfl rfl rfl (fun v5 => ?_)
      refine V_sipush (pc := 19) (DCa dc_Mod_dog_0 9 rfl) (by decide) ?_
      refine V_iload_n (pc := 22) (DCa dc_Mod_dog_0 10 rfl) rfl 1 rfl ?_
      refine V_imul (pc := 23) (DCa dc_Mod_dog_0 11 rfl) ?_
      refine V_iload_n (pc := 24) (DCa dc_Mod_dog_0 12 rfl) rfl 2 rfl ?_
      refine V_iadd (pc := 25) (DCa dc_Mod_dog_0 13 rfl) ?_
      refine Q_iaload (pc := 26) (DCa dc_Mod_dog_0 14 rfl) (fun v6 => ?_)
      refine V_goto (tgt := 31) (pc := 27) (DCa dc_Mod_dog_0 15 rfl) (by decide) ?_
      exact V_ireturn (pc := 31) (DCa dc_Mod_dog_0 17 rfl) rfl
theorem sp_Mod_dog (F : Nat) (l0 l1 l2 : Int) (h : Hp) : Sp yX12_dog cX12_dog 3 (some (.int)) 3 63 [(2, l0), (0, l1), (0, l2)] h (Mod_dog F l0 l1 l2 h) := Sp_of (by decide +kernel) rfl rfl (Nat.le_of_ble_eq_true rfl) (v_Mod_dog F l0 l1 l2 h)

-- TideRakesModel.when
def Mod_when (F : Nat) (l0 l1 l2 : Int) (h : Hp) : Option (Int × Hp) :=
  iv h l0 112 (Mod_isPart F l0 l1 h) fun r1 h2 =>
  if r1 = 0 then
    (some ((-1), h2))
  else
    (cl (Mod_isMinute F l2 h2) fun r3 h4 =>
    if r3 = 0 then
      (some ((-1), h4))
    else
      (iv h4 l0 112 (Mod_firstFrom F l0 l1 l2 h4) fun r5 h6 =>
      some (r5, h6)))

theorem dc_Mod_when_0 : ∀ q ∈ ([(0, .aload_n 0, 1), (1, .iload_n 1, 1), (2, .invokevirtual 400, 3), (5, .ifCond .eq 19, 3), (8, .iload_n 2, 1), (9, .invokestatic 406, 3), (12, .ifCond .eq 12, 3), (15, .aload_n 0, 1), (16, .iload_n 1, 1), (17, .iload_n 2, 1), (18, .invokevirtual 390, 3), (21, .goto 4, 3), (24, .iconst (-1), 1), (25, .ireturn, 1)] : List (Nat × Instr × Nat)), decode cX12_when q.1 = .ok (q.2.1, q.2.2) := by decide +kernel
abbrev X_Mod_when : MX := (cX12_when, RX12, "when", 3, (some (.int)), 3, 63)
theorem v_Mod_when (F : Nat) (l0 l1 l2 : Int) (h : Hp) : V X_Mod_when 0 [(0, 2, l0), (1, 0, l1), (2, 0, l2)] [] h (Mod_when F l0 l1 l2 h) := by
  unfold Mod_when
  refine V_aload_n (pc := 0) (DCa dc_Mod_when_0 0 rfl) rfl 0 rfl ?_
  refine V_iload_n (pc := 1) (DCa dc_Mod_when_0 1 rfl) rfl 1 rfl ?_
  refine Q_callv (ci := 12) (st := []) (pc := 2) (DCa dc_Mod_when_0 2 rfl) (sp_Mod_isPart F _ _ _) ce_Mod_isPart ml_12_400 rfl rfl ⟨Nat.le_of_ble_eq_true rfl, Nat.le_of_ble_eq_true rfl⟩ rfl (Nat.le_of_ble_eq_true rfl) (fun r1 h2 => ?_)
  refine V_if_eq (tgt := 24) (pc := 5) (DCa dc_Mod_when_0 3 rfl) (by decide) (fun _ => ?_) (fun _ => ?_)
  · refine V_iconst (pc := 24) (DCa dc_Mod_when_0 12 rfl) (by decide) ?_
    exact V_ireturn (pc := 25) (DCa dc_Mod_when_0 13 rfl) rfl
  · refine V_iload_n (pc := 8) (DCa dc_Mod_when_0 4 rfl) rfl 2 rfl ?_
    refine Q_calls (st := []) (pc := 9) (DCa dc_Mod_when_0 5 rfl) (sp_Mod_isMinute F _ _) ce_Mod_isMinute ml_12_406 rfl ⟨Nat.le_of_ble_eq_true rfl, Nat.le_of_ble_eq_true rfl⟩ rfl (Nat.le_of_ble_eq_true rfl) (fun r3 h4 => ?_)
    refine V_if_eq (tgt := 24) (pc := 12) (DCa dc_Mod_when_0 6 rfl) (by decide) (fun _ => ?_) (fun _ => ?_)
    · refine V_iconst (pc := 24) (DCa dc_Mod_when_0 12 rfl) (by decide) ?_
      exact V_ireturn (pc := 25) (DCa dc_Mod_when_0 13 rfl) rfl
    · refine V_aload_n (pc := 15) (DCa dc_Mod_when_0 7 rfl) rfl 0 rfl ?_
      refine V_iload_n (pc := 16) (DCa dc_Mod_when_0 8 rfl) rfl 1 rfl ?_
      refine V_iload_n (pc := 17) (DCa dc_Mod_when_0 9 rfl) rfl 2 rfl ?_
      refine Q_callv (ci := 12) (st := []) (pc := 18) (DCa dc_Mod_when_0 10 rfl) (sp_Mod_firstFrom F _ _ _ _) ce_Mod_firstFrom ml_12_390 rfl rfl ⟨Nat.le_of_ble_eq_true rfl, Nat.le_of_ble_eq_true rfl⟩ rfl (Nat.le_of_ble_eq_true rfl) (fun r5 h6 => ?_)
      refine V_goto (tgt := 25) (pc := 21) (DCa dc_Mod_when_0 11 rfl) (by decide) ?_
      exact V_ireturn (pc := 25) (DCa dc_Mod_when_0 13 rfl) rfl
theorem sp_Mod_when (F : Nat) (l0 l1 l2 : Int) (h : Hp) : Sp yX12_when cX12_when 3 (some (.int)) 3 63 [(2, l0), (0, l1), (0, l2)] h (Mod_when F l0 l1 l2 h) := Sp_of (by decide +kernel) rfl rfl (Nat.le_of_ble_eq_true rfl) (v_Mod_when F l0 l1 l2 h)

-- TideRakesModel.stays
def Mod_stays_L19s (F : Nat)  (R19 : Int → Int → Int → Int → Hp → Option (Int × Hp)) (l0 l1 l2 l3 : Int) (h : Hp) : Option (Int × Hp) :=
  if (w32 (l2 + l3)) < 600 then
    (gf h l0 112 59 fun v5 =>
    al h v5 0 (w32 ((w32 ((w32 (600 * l1)) + l2)) + l3)) fun v6 =>
    if 0 < v6 then
      (R19 l0 l1 l2 (w32 (l3 + 1)) h)
    else
      (some (l3, h)))
  else
    (some (l3, h))
def Mod_stays_L19 (F : Nat)  : Nat → Int → Int → Int → Int → Hp → Option (Int × Hp)
  | 0 => fun _ _ _ _ _ => none
  | n + 1 => Mod_stays_L19s F  (Mod_stays_L19 F  n)
def Mod_stays (F : Nat) (l0 l1 l2 : Int) (h : Hp) : Option (Int × Hp) :=
  iv h l0 112 (Mod_isPart F l0 l1 h) fun r1 h2 =>
  if r1 = 0 then
    (some ((-1), h2))
  else
    (cl (Mod_isMinute F l2 h2) fun r3 h4 =>
    if r3 = 0 then
      (some ((-1), h4))
    else
      (Mod_stays_L19 F F l0 l1 l2 0 h4))

theorem dc_Mod_stays_0 : ∀ q ∈ ([(0, .aload_n 0, 1), (1, .iload_n 1, 1), (2, .invokevirtual 400, 3), (5, .ifCond .eq 10, 3), (8, .iload_n 2, 1), (9, .invokestatic 406, 3), (12, .ifCond .ne 5, 3), (15, .iconst (-1), 1), (16, .ireturn, 1), (17, .iconst 0, 1), (18, .istore_n 3, 1), (19, .iload_n 2, 1), (20, .iload_n 3, 1), (21, .iadd, 1), (22, .sipush 600, 3), (25, .if_icmp .ge 26, 3), (28, .aload_n 0, 1), (29, .getfield 143, 3), (32, .sipush 600, 3), (35, .iload_n 1, 1), (36, .imul, 1), (37, .iload_n 2, 1), (38, .iadd, 1), (39, .iload_n 3, 1), (40, .iadd, 1), (41, .iaload, 1), (42, .ifCond .le 9, 3), (45, .iinc 3 1, 3), (48, .goto (-29), 3), (51, .iload_n 3, 1), (52, .ireturn, 1)] : List (Nat × Instr × Nat)), decode cX12_stays q.1 = .ok (q.2.1, q.2.2) := by decide +kernel
abbrev X_Mod_stays : MX := (cX12_stays, RX12, "stays", 4, (some (.int)), 3, 63)
theorem v_Mod_stays_L19s (F : Nat)  (R19 : Int → Int → Int → Int → Hp → Option (Int × Hp)) (hR19 : ∀ (l0 l1 l2 l3 : Int) (h : Hp), V X_Mod_stays 19 [(0, 2, l0), (1, 0, l1), (2, 0, l2), (3, 0, l3)] [] h (R19 l0 l1 l2 l3 h)) (l0 l1 l2 l3 : Int) (h : Hp) : V X_Mod_stays 19 [(0, 2, l0), (1, 0, l1), (2, 0, l2), (3, 0, l3)] [] h (Mod_stays_L19s F  R19 l0 l1 l2 l3 h) := by
  unfold Mod_stays_L19s
  refine V_iload_n (pc := 19) (DCa dc_Mod_stays_0 11 rfl) rfl 2 rfl ?_
  refine V_iload_n (pc := 20) (DCa dc_Mod_stays_0 12 rfl) rfl 3 rfl ?_
  refine V_iadd (pc := 21) (DCa dc_Mod_stays_0 13 rfl) ?_
  refine V_sipush (pc := 22) (DCa dc_Mod_stays_0 14 rfl) (by decide) ?_
  refine V_icmp_ge (tgt := 51) (pc := 25) (DCa dc_Mod_stays_0 15 rfl) (by decide) (fun _ => ?_) (fun _ => ?_)
  · refine V_aload_n (pc := 28) (DCa dc_Mod_stays_0 16 rfl) rfl 0 rfl ?_
    refine Q_getf (k := 59) (pc := 29) (DCa dc_Mod_stays_0 17 rfl) cls_12 (Nat.le_of_ble_eq_true rfl) fl_12_143 rfl rfl rfl (fun v5 => ?_)
    refine V_sipush (pc := 32) (DCa dc_Mod_stays_0 18 rfl) (by decide) ?_
    refine V_iload_n (pc := 35) (DCa dc_Mod_stays_0 19 rfl) rfl 1 rfl ?_
    refine V_imul (pc := 36) (DCa dc_Mod_stays_0 20 rfl) ?_
    refine V_iload_n (pc := 37) (DCa dc_Mod_stays_0 21 rfl) rfl 2 rfl ?_
    refine V_iadd (pc := 38) (DCa dc_Mod_stays_0 22 rfl) ?_
    refine V_iload_n (pc := 39) (DCa dc_Mod_stays_0 23 rfl) rfl 3 rfl ?_
    refine V_iadd (pc := 40) (DCa dc_Mod_stays_0 24 rfl) ?_
    refine Q_iaload (pc := 41) (DCa dc_Mod_stays_0 25 rfl) (fun v6 => ?_)
    refine V_if_le (tgt := 51) (pc := 42) (DCa dc_Mod_stays_0 26 rfl) (by decide) (fun _ => ?_) (fun _ => ?_)
    · refine V_iinc (ls' := [(0, 2, l0), (1, 0, l1), (2, 0, l2), (3, 0, w32 (l3 + 1))]) (pc := 45) (DCa dc_Mod_stays_0 27 rfl) (Nat.le_of_ble_eq_true rfl) (by decide) 3 rfl rfl ?_
      refine V_goto (tgt := 19) (pc := 48) (DCa dc_Mod_stays_0 28 rfl) (by decide) ?_
      exact hR19 _ _ _ _ _
    · refine V_iload_n (pc := 51) (DCa dc_Mod_stays_0 29 rfl) rfl 3 rfl ?_
      exact V_ireturn (pc := 52) (DCa dc_Mod_stays_0 30 rfl) rfl
  · refine V_iload_n (pc := 51) (DCa dc_Mod_stays_0 29 rfl) rfl 3 rfl ?_
    exact V_ireturn (pc := 52) (DCa dc_Mod_stays_0 30 rfl) rfl
theorem v_Mod_stays_L19 (F : Nat)  (n : Nat) : ∀ (l0 l1 l2 l3 : Int) (h : Hp), V X_Mod_stays 19 [(0, 2, l0), (1, 0, l1), (2, 0, l2), (3, 0, l3)] [] h (Mod_stays_L19 F  n l0 l1 l2 l3 h) := by
  induction n with
  | zero => intros; exact V_none
  | succ n ih => exact fun l0 l1 l2 l3 h => v_Mod_stays_L19s F  _ ih l0 l1 l2 l3 h
theorem v_Mod_stays (F : Nat) (l0 l1 l2 : Int) (h : Hp) : V X_Mod_stays 0 [(0, 2, l0), (1, 0, l1), (2, 0, l2)] [] h (Mod_stays F l0 l1 l2 h) := by
  unfold Mod_stays
  refine V_aload_n (pc := 0) (DCa dc_Mod_stays_0 0 rfl) rfl 0 rfl ?_
  refine V_iload_n (pc := 1) (DCa dc_Mod_stays_0 1 rfl) rfl 1 rfl ?_
  refine Q_callv (ci := 12) (st := []) (pc := 2) (DCa dc_Mod_stays_0 2 rfl) (sp_Mod_isPart F _ _ _) ce_Mod_isPart ml_12_400 rfl rfl ⟨Nat.le_of_ble_eq_true rfl, Nat.le_of_ble_eq_true rfl⟩ rfl (Nat.le_of_ble_eq_true rfl) (fun r1 h2 => ?_)
  refine V_if_eq (tgt := 15) (pc := 5) (DCa dc_Mod_stays_0 3 rfl) (by decide) (fun _ => ?_) (fun _ => ?_)
  · refine V_iconst (pc := 15) (DCa dc_Mod_stays_0 7 rfl) (by decide) ?_
    exact V_ireturn (pc := 16) (DCa dc_Mod_stays_0 8 rfl) rfl
  · refine V_iload_n (pc := 8) (DCa dc_Mod_stays_0 4 rfl) rfl 2 rfl ?_
    refine Q_calls (st := []) (pc := 9) (DCa dc_Mod_stays_0 5 rfl) (sp_Mod_isMinute F _ _) ce_Mod_isMinute ml_12_406 rfl ⟨Nat.le_of_ble_eq_true rfl, Nat.le_of_ble_eq_true rfl⟩ rfl (Nat.le_of_ble_eq_true rfl) (fun r3 h4 => ?_)
    refine V_if_ne (tgt := 17) (pc := 12) (DCa dc_Mod_stays_0 6 rfl) (by decide) (fun _ => ?_) (fun _ => ?_)
    · refine V_iconst (pc := 15) (DCa dc_Mod_stays_0 7 rfl) (by decide) ?_
      exact V_ireturn (pc := 16) (DCa dc_Mod_stays_0 8 rfl) rfl
    · refine V_iconst (pc := 17) (DCa dc_Mod_stays_0 9 rfl) (by decide) ?_
      refine V_istore_n (ls' := [(0, 2, l0), (1, 0, l1), (2, 0, l2), (3, 0, 0)]) (pc := 18) (DCa dc_Mod_stays_0 10 rfl) rfl (Nat.le_of_ble_eq_true rfl) rfl ?_
      exact v_Mod_stays_L19 F F _ _ _ _ _
theorem sp_Mod_stays (F : Nat) (l0 l1 l2 : Int) (h : Hp) : Sp yX12_stays cX12_stays 4 (some (.int)) 3 63 [(2, l0), (0, l1), (0, l2)] h (Mod_stays F l0 l1 l2 h) := Sp_of (by decide +kernel) rfl rfl (Nat.le_of_ble_eq_true rfl) (v_Mod_stays F l0 l1 l2 h)

-- TideRakesModel.window
def Mod_window_B55 (F : Nat)  (l3 l5 l6 : Int) (h : Hp) : Option (Int × Hp) :=
  if l3 = 0 then
    (some (l5, h))
  else
    (some (w32 ((w32 (l5 + l6)) - 1), h))
def Mod_window_B80 (F : Nat) (R21 : Int → Int → Int → Int → Int → Int → Hp → Option (Int × Hp)) (l0 l1 l2 l3 l4 l5 l6 : Int) (h : Hp) : Option (Int × Hp) :=
  if 0 < l6 then
    (lt (w32 (l5 + l6)) fun x5 =>
    R21 l0 l1 l2 l3 l4 x5 h)
  else
    (lt (w32 (l5 + 1)) fun x6 =>
    R21 l0 l1 l2 l3 l4 x6 h)
def Mod_window_B72 (F : Nat) (R21 : Int → Int → Int → Int → Int → Int → Hp → Option (Int × Hp)) (l0 l1 l2 l3 l4 l5 l6 : Int) (h : Hp) : Option (Int × Hp) :=
  if 0 < l6 then
    (Mod_window_B80 F R21 l0 l1 l2 l3 (w32 (l4 + 1)) l5 l6 h)
  else
    (Mod_window_B80 F R21 l0 l1 l2 l3 l4 l5 l6 h)
def Mod_window_B99 (F : Nat)  (l2 l4 : Int) (h : Hp) : Option (Int × Hp) :=
  if l2 = (-1) then
    (some (l4, h))
  else
    (some ((-1), h))
def Mod_window_L21s (F : Nat)  (R21 : Int → Int → Int → Int → Int → Int → Hp → Option (Int × Hp)) (l0 l1 l2 l3 l4 l5 : Int) (h : Hp) : Option (Int × Hp) :=
  if l5 < 600 then
    (gf h l0 112 60 fun v3 =>
    al h v3 0 (w32 ((w32 (600 * l1)) + l5)) fun v4 =>
    if 0 < v4 then
      (if l4 = l2 then
        (Mod_window_B55 F l3 l5 v4 h)
      else
        (Mod_window_B72 F R21 l0 l1 l2 l3 l4 l5 v4 h))
    else
      (Mod_window_B72 F R21 l0 l1 l2 l3 l4 l5 v4 h))
  else
    (Mod_window_B99 F l2 l4 h)
def Mod_window_L21 (F : Nat)  : Nat → Int → Int → Int → Int → Int → Int → Hp → Option (Int × Hp)
  | 0 => fun _ _ _ _ _ _ _ => none
  | n + 1 => Mod_window_L21s F  (Mod_window_L21 F  n)
def Mod_window (F : Nat) (l0 l1 l2 l3 : Int) (h : Hp) : Option (Int × Hp) :=
  iv h l0 112 (Mod_isPart F l0 l1 h) fun r1 h2 =>
  if r1 = 0 then
    (some ((-1), h2))
  else
    (if l2 < (-1) then
      (some ((-1), h2))
    else
      (Mod_window_L21 F F l0 l1 l2 l3 0 0 h2))

theorem dc_Mod_window_0 : ∀ q ∈ ([(0, .aload_n 0, 1), (1, .iload_n 1, 1), (2, .invokevirtual 400, 3), (5, .ifCond .eq 8, 3), (8, .iload_n 2, 1), (9, .iconst (-1), 1), (10, .if_icmp .ge 5, 3), (13, .iconst (-1), 1), (14, .ireturn, 1), (15, .iconst 0, 1), (16, .istore 4, 2), (18, .iconst 0, 1), (19, .istore 5, 2), (21, .iload 5, 2), (23, .sipush 600, 3), (26, .if_icmp .ge 73, 3), (29, .aload_n 0, 1), (30, .getfield 146, 3), (33, .sipush 600, 3), (36, .iload_n 1, 1), (37, .imul, 1), (38, .iload 5, 2), (40, .iadd, 1), (41, .iaload, 1), (42, .istore 6, 2), (44, .iload 6, 2), (46, .ifCond .le 26, 3), (49, .iload 4, 2), (51, .iload_n 2, 1), (52, .if_icmp .ne 20, 3), (55, .iload_n 3, 1), (56, .ifCond .eq 13, 3), (59, .iload 5, 2), (61, .iload 6, 2), (63, .iadd, 1), (64, .iconst 1, 1), (65, .isub, 1), (66, .goto 5, 3), (69, .iload 5, 2), (71, .ireturn, 1), (72, .iload 6, 2), (74, .ifCond .le 6, 3), (77, .iinc 4 1, 3), (80, .iload 5, 2), (82, .iload 6, 2), (84, .ifCond .le 8, 3), (87, .iload 6, 2), (89, .goto 4, 3), (92, .iconst 1, 1), (93, .iadd, 1)] : List (Nat × Instr × Nat)), decode cX12_window q.1 = .ok (q.2.1, q.2.2) := by decide +kernel
theorem dc_Mod_window_1 : ∀ q ∈ ([(94, .istore 5, 2), (96, .goto (-75), 3), (99, .iload_n 2, 1), (100, .iconst (-1), 1), (101, .if_icmp .ne 8, 3), (104, .iload 4, 2), (106, .goto 4, 3), (109, .iconst (-1), 1), (110, .ireturn, 1)] : List (Nat × Instr × Nat)), decode cX12_window q.1 = .ok (q.2.1, q.2.2) := by decide +kernel
abbrev X_Mod_window : MX := (cX12_window, RX12, "window", 7, (some (.int)), 3, 63)
theorem v_Mod_window_B55 (F : Nat)  (l3 l5 l6 : Int) (h : Hp) : V X_Mod_window 55 [(3, 0, l3), (5, 0, l5), (6, 0, l6)] [] h (Mod_window_B55 F  l3 l5 l6 h) := by
  unfold Mod_window_B55
  refine V_iload_n (pc := 55) (DCa dc_Mod_window_0 30 rfl) rfl 0 rfl ?_
  refine V_if_eq (tgt := 69) (pc := 56) (DCa dc_Mod_window_0 31 rfl) (by decide) (fun _ => ?_) (fun _ => ?_)
  · refine V_iload (pc := 69) (DCa dc_Mod_window_0 38 rfl) 1 rfl ?_
    exact V_ireturn (pc := 71) (DCa dc_Mod_window_0 39 rfl) rfl
  · refine V_iload (pc := 59) (DCa dc_Mod_window_0 32 rfl) 1 rfl ?_
    refine V_iload (pc := 61) (DCa dc_Mod_window_0 33 rfl) 2 rfl ?_
    refine V_iadd (pc := 63) (DCa dc_Mod_window_0 34 rfl) ?_
    refine V_iconst (pc := 64) (DCa dc_Mod_window_0 35 rfl) (by decide) ?_
    refine V_isub (pc := 65) (DCa dc_Mod_window_0 36 rfl) ?_
    refine V_goto (tgt := 71) (pc := 66) (DCa dc_Mod_window_0 37 rfl) (by decide) ?_
    exact V_ireturn (pc := 71) (DCa dc_Mod_window_0 39 rfl) rfl
theorem v_Mod_window_B80 (F : Nat) (R21 : Int → Int → Int → Int → Int → Int → Hp → Option (Int × Hp)) (hR21 : ∀ (l0 l1 l2 l3 l4 l5 : Int) (h : Hp), V X_Mod_window 21 [(0, 2, l0), (1, 0, l1), (2, 0, l2), (3, 0, l3), (4, 0, l4), (5, 0, l5)] [] h (R21 l0 l1 l2 l3 l4 l5 h)) (l0 l1 l2 l3 l4 l5 l6 : Int) (h : Hp) : V X_Mod_window 80 [(0, 2, l0), (1, 0, l1), (2, 0, l2), (3, 0, l3), (4, 0, l4), (5, 0, l5), (6, 0, l6)] [] h (Mod_window_B80 F R21 l0 l1 l2 l3 l4 l5 l6 h) := by
  unfold Mod_window_B80
  refine V_iload (pc := 80) (DCa dc_Mod_window_0 43 rfl) 5 rfl ?_
  refine V_iload (pc := 82) (DCa dc_Mod_window_0 44 rfl) 6 rfl ?_
  refine V_if_le (tgt := 92) (pc := 84) (DCa dc_Mod_window_0 45 rfl) (by decide) (fun _ => ?_) (fun _ => ?_)
  · refine V_iload (pc := 87) (DCa dc_Mod_window_0 46 rfl) 6 rfl ?_
    refine V_goto (tgt := 93) (pc := 89) (DCa dc_Mod_window_0 47 rfl) (by decide) ?_
    refine V_iadd (pc := 93) (DCa dc_Mod_window_0 49 rfl) ?_
    refine Q_lt (fun x5 => ?_)
    refine V_istore (ls' := [(0, 2, l0), (1, 0, l1), (2, 0, l2), (3, 0, l3), (4, 0, l4), (5, 0, x5), (6, 0, l6)]) (pc := 94) (DCa dc_Mod_window_1 0 rfl) (Nat.le_of_ble_eq_true rfl) rfl ?_
    refine V_goto (tgt := 21) (pc := 96) (DCa dc_Mod_window_1 1 rfl) (by decide) ?_
    refine V_pick [0, 1, 2, 3, 4, 5] rfl ?_
    exact hR21 _ _ _ _ _ _ _
  · refine V_iconst (pc := 92) (DCa dc_Mod_window_0 48 rfl) (by decide) ?_
    refine V_iadd (pc := 93) (DCa dc_Mod_window_0 49 rfl) ?_
    refine Q_lt (fun x6 => ?_)
    refine V_istore (ls' := [(0, 2, l0), (1, 0, l1), (2, 0, l2), (3, 0, l3), (4, 0, l4), (5, 0, x6), (6, 0, l6)]) (pc := 94) (DCa dc_Mod_window_1 0 rfl) (Nat.le_of_ble_eq_true rfl) rfl ?_
    refine V_goto (tgt := 21) (pc := 96) (DCa dc_Mod_window_1 1 rfl) (by decide) ?_
    refine V_pick [0, 1, 2, 3, 4, 5] rfl ?_
    exact hR21 _ _ _ _ _ _ _
theorem v_Mod_window_B72 (F : Nat) (R21 : Int → Int → Int → Int → Int → Int → Hp → Option (Int × Hp)) (hR21 : ∀ (l0 l1 l2 l3 l4 l5 : Int) (h : Hp), V X_Mod_window 21 [(0, 2, l0), (1, 0, l1), (2, 0, l2), (3, 0, l3), (4, 0, l4), (5, 0, l5)] [] h (R21 l0 l1 l2 l3 l4 l5 h)) (l0 l1 l2 l3 l4 l5 l6 : Int) (h : Hp) : V X_Mod_window 72 [(0, 2, l0), (1, 0, l1), (2, 0, l2), (3, 0, l3), (4, 0, l4), (5, 0, l5), (6, 0, l6)] [] h (Mod_window_B72 F R21 l0 l1 l2 l3 l4 l5 l6 h) := by
  unfold Mod_window_B72
  refine V_iload (pc := 72) (DCa dc_Mod_window_0 40 rfl) 6 rfl ?_
  refine V_if_le (tgt := 80) (pc := 74) (DCa dc_Mod_window_0 41 rfl) (by decide) (fun _ => ?_) (fun _ => ?_)
  · refine V_iinc (ls' := [(0, 2, l0), (1, 0, l1), (2, 0, l2), (3, 0, l3), (4, 0, w32 (l4 + 1)), (5, 0, l5), (6, 0, l6)]) (pc := 77) (DCa dc_Mod_window_0 42 rfl) (Nat.le_of_ble_eq_true rfl) (by decide) 4 rfl rfl ?_
    exact v_Mod_window_B80 F R21 hR21 _ _ _ _ _ _ _ _
  · exact v_Mod_window_B80 F R21 hR21 _ _ _ _ _ _ _ _
theorem v_Mod_window_B99 (F : Nat)  (l2 l4 : Int) (h : Hp) : V X_Mod_window 99 [(2, 0, l2), (4, 0, l4)] [] h (Mod_window_B99 F  l2 l4 h) := by
  unfold Mod_window_B99
  refine V_iload_n (pc := 99) (DCa dc_Mod_window_1 2 rfl) rfl 0 rfl ?_
  refine V_iconst (pc := 100) (DCa dc_Mod_window_1 3 rfl) (by decide) ?_
  refine V_icmp_ne (tgt := 109) (pc := 101) (DCa dc_Mod_window_1 4 rfl) (by decide) (fun _ => ?_) (fun _ => ?_)
  · refine V_iload (pc := 104) (DCa dc_Mod_window_1 5 rfl) 1 rfl ?_
    refine V_goto (tgt := 110) (pc := 106) (DCa dc_Mod_window_1 6 rfl) (by decide) ?_
    exact V_ireturn (pc := 110) (DCa dc_Mod_window_1 8 rfl) rfl
  · refine V_iconst (pc := 109) (DCa dc_Mod_window_1 7 rfl) (by decide) ?_
    exact V_ireturn (pc := 110) (DCa dc_Mod_window_1 8 rfl) rfl
theorem v_Mod_window_L21s (F : Nat)  (R21 : Int → Int → Int → Int → Int → Int → Hp → Option (Int × Hp)) (hR21 : ∀ (l0 l1 l2 l3 l4 l5 : Int) (h : Hp), V X_Mod_window 21 [(0, 2, l0), (1, 0, l1), (2, 0, l2), (3, 0, l3), (4, 0, l4), (5, 0, l5)] [] h (R21 l0 l1 l2 l3 l4 l5 h)) (l0 l1 l2 l3 l4 l5 : Int) (h : Hp) : V X_Mod_window 21 [(0, 2, l0), (1, 0, l1), (2, 0, l2), (3, 0, l3), (4, 0, l4), (5, 0, l5)] [] h (Mod_window_L21s F  R21 l0 l1 l2 l3 l4 l5 h) := by
  unfold Mod_window_L21s
  refine V_iload (pc := 21) (DCa dc_Mod_window_0 13 rfl) 5 rfl ?_
  refine V_sipush (pc := 23) (DCa dc_Mod_window_0 14 rfl) (by decide) ?_
  refine V_icmp_ge (tgt := 99) (pc := 26) (DCa dc_Mod_window_0 15 rfl) (by decide) (fun _ => ?_) (fun _ => ?_)
  · refine V_aload_n (pc := 29) (DCa dc_Mod_window_0 16 rfl) rfl 0 rfl ?_
    refine Q_getf (k := 60) (pc := 30) (DCa dc_Mod_window_0 17 rfl) cls_12 (Nat.le_of_ble_eq_true rfl) fl_12_146 rfl rfl rfl (fun v3 => ?_)
    refine V_sipush (pc := 33) (DCa dc_Mod_window_0 18 rfl) (by decide) ?_
    refine V_iload_n (pc := 36) (DCa dc_Mod_window_0 19 rfl) rfl 1 rfl ?_
    refine V_imul (pc := 37) (DCa dc_Mod_window_0 20 rfl) ?_
    refine V_iload (pc := 38) (DCa dc_Mod_window_0 21 rfl) 5 rfl ?_
    refine V_iadd (pc := 40) (DCa dc_Mod_window_0 22 rfl) ?_
    refine Q_iaload (pc := 41) (DCa dc_Mod_window_0 23 rfl) (fun v4 => ?_)
    refine V_istore (ls' := [(0, 2, l0), (1, 0, l1), (2, 0, l2), (3, 0, l3), (4, 0, l4), (5, 0, l5), (6, 0, v4)]) (pc := 42) (DCa dc_Mod_window_0 24 rfl) (Nat.le_of_ble_eq_true rfl) rfl ?_
    refine V_iload (pc := 44) (DCa dc_Mod_window_0 25 rfl) 6 rfl ?_
    refine V_if_le (tgt := 72) (pc := 46) (DCa dc_Mod_window_0 26 rfl) (by decide) (fun _ => ?_) (fun _ => ?_)
    · refine V_iload (pc := 49) (DCa dc_Mod_window_0 27 rfl) 4 rfl ?_
      refine V_iload_n (pc := 51) (DCa dc_Mod_window_0 28 rfl) rfl 2 rfl ?_
      refine V_icmp_ne (tgt := 72) (pc := 52) (DCa dc_Mod_window_0 29 rfl) (by decide) (fun _ => ?_) (fun _ => ?_)
      · refine V_pick [3, 5, 6] rfl ?_
        exact v_Mod_window_B55 F _ _ _ _
      · exact v_Mod_window_B72 F R21 hR21 _ _ _ _ _ _ _ _
    · exact v_Mod_window_B72 F R21 hR21 _ _ _ _ _ _ _ _
  · refine V_pick [2, 4] rfl ?_
    exact v_Mod_window_B99 F _ _ _
theorem v_Mod_window_L21 (F : Nat)  (n : Nat) : ∀ (l0 l1 l2 l3 l4 l5 : Int) (h : Hp), V X_Mod_window 21 [(0, 2, l0), (1, 0, l1), (2, 0, l2), (3, 0, l3), (4, 0, l4), (5, 0, l5)] [] h (Mod_window_L21 F  n l0 l1 l2 l3 l4 l5 h) := by
  induction n with
  | zero => intros; exact V_none
  | succ n ih => exact fun l0 l1 l2 l3 l4 l5 h => v_Mod_window_L21s F  _ ih l0 l1 l2 l3 l4 l5 h
theorem v_Mod_window (F : Nat) (l0 l1 l2 l3 : Int) (h : Hp) : V X_Mod_window 0 [(0, 2, l0), (1, 0, l1), (2, 0, l2), (3, 0, l3)] [] h (Mod_window F l0 l1 l2 l3 h) := by
  unfold Mod_window
  refine V_aload_n (pc := 0) (DCa dc_Mod_window_0 0 rfl) rfl 0 rfl ?_
  refine V_iload_n (pc := 1) (DCa dc_Mod_window_0 1 rfl) rfl 1 rfl ?_
  refine Q_callv (ci := 12) (st := []) (pc := 2) (DCa dc_Mod_window_0 2 rfl) (sp_Mod_isPart F _ _ _) ce_Mod_isPart ml_12_400 rfl rfl ⟨Nat.le_of_ble_eq_true rfl, Nat.le_of_ble_eq_true rfl⟩ rfl (Nat.le_of_ble_eq_true rfl) (fun r1 h2 => ?_)
  refine V_if_eq (tgt := 13) (pc := 5) (DCa dc_Mod_window_0 3 rfl) (by decide) (fun _ => ?_) (fun _ => ?_)
  · refine V_iconst (pc := 13) (DCa dc_Mod_window_0 7 rfl) (by decide) ?_
    exact V_ireturn (pc := 14) (DCa dc_Mod_window_0 8 rfl) rfl
  · refine V_iload_n (pc := 8) (DCa dc_Mod_window_0 4 rfl) rfl 2 rfl ?_
    refine V_iconst (pc := 9) (DCa dc_Mod_window_0 5 rfl) (by decide) ?_
    refine V_icmp_ge (tgt := 15) (pc := 10) (DCa dc_Mod_window_0 6 rfl) (by decide) (fun _ => ?_) (fun _ => ?_)
    · refine V_iconst (pc := 13) (DCa dc_Mod_window_0 7 rfl) (by decide) ?_
      exact V_ireturn (pc := 14) (DCa dc_Mod_window_0 8 rfl) rfl
    · refine V_iconst (pc := 15) (DCa dc_Mod_window_0 9 rfl) (by decide) ?_
      refine V_istore (ls' := [(0, 2, l0), (1, 0, l1), (2, 0, l2), (3, 0, l3), (4, 0, 0)]) (pc := 16) (DCa dc_Mod_window_0 10 rfl) (Nat.le_of_ble_eq_true rfl) rfl ?_
      refine V_iconst (pc := 18) (DCa dc_Mod_window_0 11 rfl) (by decide) ?_
      refine V_istore (ls' := [(0, 2, l0), (1, 0, l1), (2, 0, l2), (3, 0, l3), (4, 0, 0), (5, 0, 0)]) (pc := 19) (DCa dc_Mod_window_0 12 rfl) (Nat.le_of_ble_eq_true rfl) rfl ?_
      exact v_Mod_window_L21 F F _ _ _ _ _ _ _
theorem sp_Mod_window (F : Nat) (l0 l1 l2 l3 : Int) (h : Hp) : Sp yX12_window cX12_window 7 (some (.int)) 3 63 [(2, l0), (0, l1), (0, l2), (0, l3)] h (Mod_window F l0 l1 l2 l3 h) := Sp_of (by decide +kernel) rfl rfl (Nat.le_of_ble_eq_true rfl) (v_Mod_window F l0 l1 l2 l3 h)

-- TideRakesModel.keeps
def Mod_keeps_B170 (F : Nat)  (l0 : Int) (h : Hp) : Option (Int × Hp) :=
  gf h l0 112 63 fun v29 =>
  al h v29 0 44 fun v30 =>
  as h v29 0 44 (w32 (v30 + 1)) fun h31 =>
  iv h31 l0 112 (Mod_keepsRow F l0 h31) fun r32 h33 =>
  some (0, h33)
def Mod_keeps_B94 (F : Nat)  (l0 l1 l2 l3 : Int) (h : Hp) : Option (Int × Hp) :=
  gf h l0 112 64 fun v13 =>
  pf h l0 112 64 (w32 (v13 + 1)) fun h14 =>
  gf h14 l0 112 63 fun v15 =>
  al h14 v15 0 44 fun v16 =>
  if v16 < 30 then
    (gf h14 l0 112 63 fun v17 =>
    gf h14 l0 112 63 fun v18 =>
    al h14 v18 0 44 fun v19 =>
    as h14 v17 0 (w32 (45 + (w32 (3 * v19)))) l1 fun h20 =>
    gf h20 l0 112 63 fun v21 =>
    gf h20 l0 112 63 fun v22 =>
    al h20 v22 0 44 fun v23 =>
    as h20 v21 0 (w32 (46 + (w32 (3 * v23)))) l2 fun h24 =>
    gf h24 l0 112 63 fun v25 =>
    gf h24 l0 112 63 fun v26 =>
    al h24 v26 0 44 fun v27 =>
    as h24 v25 0 (w32 (47 + (w32 (3 * v27)))) l3 fun h28 =>
    Mod_keeps_B170 F l0 h28)
  else
    (Mod_keeps_B170 F l0 h14)
def Mod_keeps_L57s (F : Nat)  (R57 : Int → Int → Int → Int → Int → Hp → Option (Int × Hp)) (l0 l1 l2 l3 l4 : Int) (h : Hp) : Option (Int × Hp) :=
  if l4 < 140 then
    (gf h l0 112 65 fun v8 =>
    gf h l0 112 64 fun v9 =>
    gf h l0 112 62 fun v10 =>
    al h v10 0 l4 fun v11 =>
    as h v8 0 (w32 ((w32 (140 * v9)) + l4)) v11 fun h12 =>
    R57 l0 l1 l2 l3 (w32 (l4 + 1)) h12)
  else
    (Mod_keeps_B94 F l0 l1 l2 l3 h)
def Mod_keeps_L57 (F : Nat)  : Nat → Int → Int → Int → Int → Int → Hp → Option (Int × Hp)
  | 0 => fun _ _ _ _ _ _ => none
  | n + 1 => Mod_keeps_L57s F  (Mod_keeps_L57 F  n)
def Mod_keeps_L12s (F : Nat)  (R12 : Int → Int → Int → Int → Int → Hp → Option (Int × Hp)) (l0 l1 l2 l3 l4 : Int) (h : Hp) : Option (Int × Hp) :=
  if l4 < 5460 then
    (gf h l0 112 65 fun v2 =>
    gf h l0 112 65 fun v3 =>
    al h v3 0 (w32 (l4 + 140)) fun v4 =>
    as h v2 0 l4 v4 fun h5 =>
    R12 l0 l1 l2 l3 (w32 (l4 + 1)) h5)
  else
    (gf h l0 112 64 fun v6 =>
    pf h l0 112 64 (w32 (v6 - 1)) fun h7 =>
    Mod_keeps_L57 F F l0 l1 l2 l3 0 h7)
def Mod_keeps_L12 (F : Nat)  : Nat → Int → Int → Int → Int → Int → Hp → Option (Int × Hp)
  | 0 => fun _ _ _ _ _ _ => none
  | n + 1 => Mod_keeps_L12s F  (Mod_keeps_L12 F  n)
def Mod_keeps (F : Nat) (l0 l1 l2 l3 : Int) (h : Hp) : Option (Int × Hp) :=
  gf h l0 112 64 fun v1 =>
  if v1 = 40 then
    (Mod_keeps_L12 F F l0 l1 l2 l3 0 h)
  else
    (Mod_keeps_L57 F F l0 l1 l2 l3 0 h)

theorem dc_Mod_keeps_0 : ∀ q ∈ ([(0, .aload_n 0, 1), (1, .getfield 299, 3), (4, .bipush 40, 2), (6, .if_icmp .ne 48, 3), (9, .iconst 0, 1), (10, .istore 4, 2), (12, .iload 4, 2), (14, .sipush 5460, 3), (17, .if_icmp .ge 27, 3), (20, .aload_n 0, 1), (21, .getfield 158, 3), (24, .iload 4, 2), (26, .aload_n 0, 1), (27, .getfield 158, 3), (30, .iload 4, 2), (32, .sipush 140, 3), (35, .iadd, 1), (36, .iaload, 1), (37, .iastore, 1), (38, .iinc 4 1, 3), (41, .goto (-29), 3), (44, .aload_n 0, 1), (45, .dup, 1), (46, .getfield 299, 3), (49, .iconst 1, 1), (50, .isub, 1), (51, .putfield 299, 3), (54, .iconst 0, 1), (55, .istore 4, 2), (57, .iload 4, 2), (59, .sipush 140, 3), (62, .if_icmp .ge 32, 3), (65, .aload_n 0, 1), (66, .getfield 158, 3), (69, .sipush 140, 3), (72, .aload_n 0, 1), (73, .getfield 299, 3), (76, .imul, 1), (77, .iload 4, 2), (79, .iadd, 1), (80, .aload_n 0, 1), (81, .getfield 152, 3), (84, .iload 4, 2), (86, .iaload, 1), (87, .iastore, 1), (88, .iinc 4 1, 3), (91, .goto (-34), 3), (94, .aload_n 0, 1), (95, .dup, 1), (96, .getfield 299, 3)] : List (Nat × Instr × Nat)), decode cX12_keeps q.1 = .ok (q.2.1, q.2.2) := by decide +kernel
theorem dc_Mod_keeps_1 : ∀ q ∈ ([(99, .iconst 1, 1), (100, .iadd, 1), (101, .putfield 299, 3), (104, .aload_n 0, 1), (105, .getfield 155, 3), (108, .bipush 44, 2), (110, .iaload, 1), (111, .bipush 30, 2), (113, .if_icmp .ge 57, 3), (116, .aload_n 0, 1), (117, .getfield 155, 3), (120, .bipush 45, 2), (122, .iconst 3, 1), (123, .aload_n 0, 1), (124, .getfield 155, 3), (127, .bipush 44, 2), (129, .iaload, 1), (130, .imul, 1), (131, .iadd, 1), (132, .iload_n 1, 1), (133, .iastore, 1), (134, .aload_n 0, 1), (135, .getfield 155, 3), (138, .bipush 46, 2), (140, .iconst 3, 1), (141, .aload_n 0, 1), (142, .getfield 155, 3), (145, .bipush 44, 2), (147, .iaload, 1), (148, .imul, 1), (149, .iadd, 1), (150, .iload_n 2, 1), (151, .iastore, 1), (152, .aload_n 0, 1), (153, .getfield 155, 3), (156, .bipush 47, 2), (158, .iconst 3, 1), (159, .aload_n 0, 1), (160, .getfield 155, 3), (163, .bipush 44, 2), (165, .iaload, 1), (166, .imul, 1), (167, .iadd, 1), (168, .iload_n 3, 1), (169, .iastore, 1), (170, .aload_n 0, 1), (171, .getfield 155, 3), (174, .bipush 44, 2), (176, .dup2, 1), (177, .iaload, 1)] : List (Nat × Instr × Nat)), decode cX12_keeps q.1 = .ok (q.2.1, q.2.2) := by decide +kernel
theorem dc_Mod_keeps_2 : ∀ q ∈ ([(178, .iconst 1, 1), (179, .iadd, 1), (180, .iastore, 1), (181, .aload_n 0, 1), (182, .invokevirtual 211, 3), (185, .return_, 1)] : List (Nat × Instr × Nat)), decode cX12_keeps q.1 = .ok (q.2.1, q.2.2) := by decide +kernel
abbrev X_Mod_keeps : MX := (cX12_keeps, RX12, "keeps", 5, none, 2, 41)
theorem v_Mod_keeps_B170 (F : Nat)  (l0 : Int) (h : Hp) : V X_Mod_keeps 170 [(0, 2, l0)] [] h (Mod_keeps_B170 F  l0 h) := by
  unfold Mod_keeps_B170
  refine V_aload_n (pc := 170) (DCa dc_Mod_keeps_1 45 rfl) rfl 0 rfl ?_
  refine Q_getf (k := 63) (pc := 171) (DCa dc_Mod_keeps_1 46 rfl) cls_12 (Nat.le_of_ble_eq_true rfl) fl_12_155 rfl rfl rfl (fun v29 => ?_)
  refine V_bipush (pc := 174) (DCa dc_Mod_keeps_1 47 rfl) (by decide) ?_
  refine V_dup2 (pc := 176) (DCa dc_Mod_keeps_1 48 rfl) rfl rfl ?_
  refine Q_iaload (pc := 177) (DCa dc_Mod_keeps_1 49 rfl) (fun v30 => ?_)
  refine V_iconst (pc := 178) (DCa dc_Mod_keeps_2 0 rfl) (by decide) ?_
  refine V_iadd (pc := 179) (DCa dc_Mod_keeps_2 1 rfl) ?_
  refine Q_iastore (pc := 180) (DCa dc_Mod_keeps_2 2 rfl) (fun h31 => ?_)
  refine V_aload_n (pc := 181) (DCa dc_Mod_keeps_2 3 rfl) rfl 0 rfl ?_
  refine Q_callv (ci := 12) (st := []) (pc := 182) (DCa dc_Mod_keeps_2 4 rfl) (sp_Mod_keepsRow F _ _) ce_Mod_keepsRow ml_12_211 rfl rfl ⟨Nat.le_of_ble_eq_true rfl, Nat.le_of_ble_eq_true rfl⟩ rfl (Nat.le_of_ble_eq_true rfl) (fun r32 h33 => ?_)
  exact V_return (pc := 185) (DCa dc_Mod_keeps_2 5 rfl) rfl
theorem v_Mod_keeps_B94 (F : Nat)  (l0 l1 l2 l3 : Int) (h : Hp) : V X_Mod_keeps 94 [(0, 2, l0), (1, 0, l1), (2, 0, l2), (3, 0, l3)] [] h (Mod_keeps_B94 F  l0 l1 l2 l3 h) := by
  unfold Mod_keeps_B94
  refine V_aload_n (pc := 94) (DCa dc_Mod_keeps_0 47 rfl) rfl 0 rfl ?_
  refine V_dup (pc := 95) (DCa dc_Mod_keeps_0 48 rfl) rfl ?_
  refine Q_getf (k := 64) (pc := 96) (DCa dc_Mod_keeps_0 49 rfl) cls_12 (Nat.le_of_ble_eq_true rfl) fl_12_299 rfl rfl rfl (fun v13 => ?_)
  refine V_iconst (pc := 99) (DCa dc_Mod_keeps_1 0 rfl) (by decide) ?_
  refine V_iadd (pc := 100) (DCa dc_Mod_keeps_1 1 rfl) ?_
  refine Q_putf (k := 64) (pc := 101) (DCa dc_Mod_keeps_1 2 rfl) cls_12 (Nat.le_of_ble_eq_true rfl) fl_12_299 rfl rfl rfl (Or.inl rfl) (Or.inl ⟨rfl, rfl⟩) (fun h14 => ?_)
  refine V_aload_n (pc := 104) (DCa dc_Mod_keeps_1 3 rfl) rfl 0 rfl ?_
  refine Q_getf (k := 63) (pc := 105) (DCa dc_Mod_keeps_1 4 rfl) cls_12 (Nat.le_of_ble_eq_true rfl) fl_12_155 rfl rfl rfl (fun v15 => ?_)
  refine V_bipush (pc := 108) (DCa dc_Mod_keeps_1 5 rfl) (by decide) ?_
  refine Q_iaload (pc := 110) (DCa dc_Mod_keeps_1 6 rfl) (fun v16 => ?_)
  refine V_bipush (pc := 111) (DCa dc_Mod_keeps_1 7 rfl) (by decide) ?_
  refine V_icmp_ge (tgt := 170) (pc := 113) (DCa dc_Mod_keeps_1 8 rfl) (by decide) (fun _ => ?_) (fun _ => ?_)
  · refine V_aload_n (pc := 116) (DCa dc_Mod_keeps_1 9 rfl) rfl 0 rfl ?_
    refine Q_getf (k := 63) (pc := 117) (DCa dc_Mod_keeps_1 10 rfl) cls_12 (Nat.le_of_ble_eq_true rfl) fl_12_155 rfl rfl rfl (fun v17 => ?_)
    refine V_bipush (pc := 120) (DCa dc_Mod_keeps_1 11 rfl) (by decide) ?_
    refine V_iconst (pc := 122) (DCa dc_Mod_keeps_1 12 rfl) (by decide) ?_
    refine V_aload_n (pc := 123) (DCa dc_Mod_keeps_1 13 rfl) rfl 0 rfl ?_
    refine Q_getf (k := 63) (pc := 124) (DCa dc_Mod_keeps_1 14 rfl) cls_12 (Nat.le_of_ble_eq_true rfl) fl_12_155 rfl rfl rfl (fun v18 => ?_)
    refine V_bipush (pc := 127) (DCa dc_Mod_keeps_1 15 rfl) (by decide) ?_
    refine Q_iaload (pc := 129) (DCa dc_Mod_keeps_1 16 rfl) (fun v19 => ?_)
    refine V_imul (pc := 130) (DCa dc_Mod_keeps_1 17 rfl) ?_
    refine V_iadd (pc := 131) (DCa dc_Mod_keeps_1 18 rfl) ?_
    refine V_iload_n (pc := 132) (DCa dc_Mod_keeps_1 19 rfl) rfl 1 rfl ?_
    refine Q_iastore (pc := 133) (DCa dc_Mod_keeps_1 20 rfl) (fun h20 => ?_)
    refine V_aload_n (pc := 134) (DCa dc_Mod_keeps_1 21 rfl) rfl 0 rfl ?_
    refine Q_getf (k := 63) (pc := 135) (DCa dc_Mod_keeps_1 22 rfl) cls_12 (Nat.le_of_ble_eq_true rfl) fl_12_155 rfl rfl rfl (fun v21 => ?_)
    refine V_bipush (pc := 138) (DCa dc_Mod_keeps_1 23 rfl) (by decide) ?_
    refine V_iconst (pc := 140) (DCa dc_Mod_keeps_1 24 rfl) (by decide) ?_
    refine V_aload_n (pc := 141) (DCa dc_Mod_keeps_1 25 rfl) rfl 0 rfl ?_
    refine Q_getf (k := 63) (pc := 142) (DCa dc_Mod_keeps_1 26 rfl) cls_12 (Nat.le_of_ble_eq_true rfl) fl_12_155 rfl rfl rfl (fun v22 => ?_)
    refine V_bipush (pc := 145) (DCa dc_Mod_keeps_1 27 rfl) (by decide) ?_
    refine Q_iaload (pc := 147) (DCa dc_Mod_keeps_1 28 rfl) (fun v23 => ?_)
    refine V_imul (pc := 148) (DCa dc_Mod_keeps_1 29 rfl) ?_
    refine V_iadd (pc := 149) (DCa dc_Mod_keeps_1 30 rfl) ?_
    refine V_iload_n (pc := 150) (DCa dc_Mod_keeps_1 31 rfl) rfl 2 rfl ?_
    refine Q_iastore (pc := 151) (DCa dc_Mod_keeps_1 32 rfl) (fun h24 => ?_)
    refine V_aload_n (pc := 152) (DCa dc_Mod_keeps_1 33 rfl) rfl 0 rfl ?_
    refine Q_getf (k := 63) (pc := 153) (DCa dc_Mod_keeps_1 34 rfl) cls_12 (Nat.le_of_ble_eq_true rfl) fl_12_155 rfl rfl rfl (fun v25 => ?_)
    refine V_bipush (pc := 156) (DCa dc_Mod_keeps_1 35 rfl) (by decide) ?_
    refine V_iconst (pc := 158) (DCa dc_Mod_keeps_1 36 rfl) (by decide) ?_
    refine V_aload_n (pc := 159) (DCa dc_Mod_keeps_1 37 rfl) rfl 0 rfl ?_
    refine Q_getf (k := 63) (pc := 160) (DCa dc_Mod_keeps_1 38 rfl) cls_12 (Nat.le_of_ble_eq_true rfl) fl_12_155 rfl rfl rfl (fun v26 => ?_)
    refine V_bipush (pc := 163) (DCa dc_Mod_keeps_1 39 rfl) (by decide) ?_
    refine Q_iaload (pc := 165) (DCa dc_Mod_keeps_1 40 rfl) (fun v27 => ?_)
    refine V_imul (pc := 166) (DCa dc_Mod_keeps_1 41 rfl) ?_
    refine V_iadd (pc := 167) (DCa dc_Mod_keeps_1 42 rfl) ?_
    refine V_iload_n (pc := 168) (DCa dc_Mod_keeps_1 43 rfl) rfl 3 rfl ?_
    refine Q_iastore (pc := 169) (DCa dc_Mod_keeps_1 44 rfl) (fun h28 => ?_)
    refine V_pick [0] rfl ?_
    exact v_Mod_keeps_B170 F _ _
  · refine V_pick [0] rfl ?_
    exact v_Mod_keeps_B170 F _ _
theorem v_Mod_keeps_L57s (F : Nat)  (R57 : Int → Int → Int → Int → Int → Hp → Option (Int × Hp)) (hR57 : ∀ (l0 l1 l2 l3 l4 : Int) (h : Hp), V X_Mod_keeps 57 [(0, 2, l0), (1, 0, l1), (2, 0, l2), (3, 0, l3), (4, 0, l4)] [] h (R57 l0 l1 l2 l3 l4 h)) (l0 l1 l2 l3 l4 : Int) (h : Hp) : V X_Mod_keeps 57 [(0, 2, l0), (1, 0, l1), (2, 0, l2), (3, 0, l3), (4, 0, l4)] [] h (Mod_keeps_L57s F  R57 l0 l1 l2 l3 l4 h) := by
  unfold Mod_keeps_L57s
  refine V_iload (pc := 57) (DCa dc_Mod_keeps_0 29 rfl) 4 rfl ?_
  refine V_sipush (pc := 59) (DCa dc_Mod_keeps_0 30 rfl) (by decide) ?_
  refine V_icmp_ge (tgt := 94) (pc := 62) (DCa dc_Mod_keeps_0 31 rfl) (by decide) (fun _ => ?_) (fun _ => ?_)
  · refine V_aload_n (pc := 65) (DCa dc_Mod_keeps_0 32 rfl) rfl 0 rfl ?_
    refine Q_getf (k := 65) (pc := 66) (DCa dc_Mod_keeps_0 33 rfl) cls_12 (Nat.le_of_ble_eq_true rfl) fl_12_158 rfl rfl rfl (fun v8 => ?_)
    refine V_sipush (pc := 69) (DCa dc_Mod_keeps_0 34 rfl) (by decide) ?_
    refine V_aload_n (pc := 72) (DCa dc_Mod_keeps_0 35 rfl) rfl 0 rfl ?_
    refine Q_getf (k := 64) (pc := 73) (DCa dc_Mod_keeps_0 36 rfl) cls_12 (Nat.le_of_ble_eq_true rfl) fl_12_299 rfl rfl rfl (fun v9 => ?_)
    refine V_imul (pc := 76) (DCa dc_Mod_keeps_0 37 rfl) ?_
    refine V_iload (pc := 77) (DCa dc_Mod_keeps_0 38 rfl) 4 rfl ?_
    refine V_iadd (pc := 79) (DCa dc_Mod_keeps_0 39 rfl) ?_
    refine V_aload_n (pc := 80) (DCa dc_Mod_keeps_0 40 rfl) rfl 0 rfl ?_
    refine Q_getf (k := 62) (pc := 81) (DCa dc_Mod_keeps_0 41 rfl) cls_12 (Nat.le_of_ble_eq_true rfl) fl_12_152 rfl rfl rfl (fun v10 => ?_)
    refine V_iload (pc := 84) (DCa dc_Mod_keeps_0 42 rfl) 4 rfl ?_
    refine Q_iaload (pc := 86) (DCa dc_Mod_keeps_0 43 rfl) (fun v11 => ?_)
    refine Q_iastore (pc := 87) (DCa dc_Mod_keeps_0 44 rfl) (fun h12 => ?_)
    refine V_iinc (ls' := [(0, 2, l0), (1, 0, l1), (2, 0, l2), (3, 0, l3), (4, 0, w32 (l4 + 1))]) (pc := 88) (DCa dc_Mod_keeps_0 45 rfl) (Nat.le_of_ble_eq_true rfl) (by decide) 4 rfl rfl ?_
    refine V_goto (tgt := 57) (pc := 91) (DCa dc_Mod_keeps_0 46 rfl) (by decide) ?_
    exact hR57 _ _ _ _ _ _
  · refine V_pick [0, 1, 2, 3] rfl ?_
    exact v_Mod_keeps_B94 F _ _ _ _ _
theorem v_Mod_keeps_L57 (F : Nat)  (n : Nat) : ∀ (l0 l1 l2 l3 l4 : Int) (h : Hp), V X_Mod_keeps 57 [(0, 2, l0), (1, 0, l1), (2, 0, l2), (3, 0, l3), (4, 0, l4)] [] h (Mod_keeps_L57 F  n l0 l1 l2 l3 l4 h) := by
  induction n with
  | zero => intros; exact V_none
  | succ n ih => exact fun l0 l1 l2 l3 l4 h => v_Mod_keeps_L57s F  _ ih l0 l1 l2 l3 l4 h
theorem v_Mod_keeps_L12s (F : Nat)  (R12 : Int → Int → Int → Int → Int → Hp → Option (Int × Hp)) (hR12 : ∀ (l0 l1 l2 l3 l4 : Int) (h : Hp), V X_Mod_keeps 12 [(0, 2, l0), (1, 0, l1), (2, 0, l2), (3, 0, l3), (4, 0, l4)] [] h (R12 l0 l1 l2 l3 l4 h)) (l0 l1 l2 l3 l4 : Int) (h : Hp) : V X_Mod_keeps 12 [(0, 2, l0), (1, 0, l1), (2, 0, l2), (3, 0, l3), (4, 0, l4)] [] h (Mod_keeps_L12s F  R12 l0 l1 l2 l3 l4 h) := by
  unfold Mod_keeps_L12s
  refine V_iload (pc := 12) (DCa dc_Mod_keeps_0 6 rfl) 4 rfl ?_
  refine V_sipush (pc := 14) (DCa dc_Mod_keeps_0 7 rfl) (by decide) ?_
  refine V_icmp_ge (tgt := 44) (pc := 17) (DCa dc_Mod_keeps_0 8 rfl) (by decide) (fun _ => ?_) (fun _ => ?_)
  · refine V_aload_n (pc := 20) (DCa dc_Mod_keeps_0 9 rfl) rfl 0 rfl ?_
    refine Q_getf (k := 65) (pc := 21) (DCa dc_Mod_keeps_0 10 rfl) cls_12 (Nat.le_of_ble_eq_true rfl) fl_12_158 rfl rfl rfl (fun v2 => ?_)
    refine V_iload (pc := 24) (DCa dc_Mod_keeps_0 11 rfl) 4 rfl ?_
    refine V_aload_n (pc := 26) (DCa dc_Mod_keeps_0 12 rfl) rfl 0 rfl ?_
    refine Q_getf (k := 65) (pc := 27) (DCa dc_Mod_keeps_0 13 rfl) cls_12 (Nat.le_of_ble_eq_true rfl) fl_12_158 rfl rfl rfl (fun v3 => ?_)
    refine V_iload (pc := 30) (DCa dc_Mod_keeps_0 14 rfl) 4 rfl ?_
    refine V_sipush (pc := 32) (DCa dc_Mod_keeps_0 15 rfl) (by decide) ?_
    refine V_iadd (pc := 35) (DCa dc_Mod_keeps_0 16 rfl) ?_
    refine Q_iaload (pc := 36) (DCa dc_Mod_keeps_0 17 rfl) (fun v4 => ?_)
    refine Q_iastore (pc := 37) (DCa dc_Mod_keeps_0 18 rfl) (fun h5 => ?_)
    refine V_iinc (ls' := [(0, 2, l0), (1, 0, l1), (2, 0, l2), (3, 0, l3), (4, 0, w32 (l4 + 1))]) (pc := 38) (DCa dc_Mod_keeps_0 19 rfl) (Nat.le_of_ble_eq_true rfl) (by decide) 4 rfl rfl ?_
    refine V_goto (tgt := 12) (pc := 41) (DCa dc_Mod_keeps_0 20 rfl) (by decide) ?_
    exact hR12 _ _ _ _ _ _
  · refine V_aload_n (pc := 44) (DCa dc_Mod_keeps_0 21 rfl) rfl 0 rfl ?_
    refine V_dup (pc := 45) (DCa dc_Mod_keeps_0 22 rfl) rfl ?_
    refine Q_getf (k := 64) (pc := 46) (DCa dc_Mod_keeps_0 23 rfl) cls_12 (Nat.le_of_ble_eq_true rfl) fl_12_299 rfl rfl rfl (fun v6 => ?_)
    refine V_iconst (pc := 49) (DCa dc_Mod_keeps_0 24 rfl) (by decide) ?_
    refine V_isub (pc := 50) (DCa dc_Mod_keeps_0 25 rfl) ?_
    refine Q_putf (k := 64) (pc := 51) (DCa dc_Mod_keeps_0 26 rfl) cls_12 (Nat.le_of_ble_eq_true rfl) fl_12_299 rfl rfl rfl (Or.inl rfl) (Or.inl ⟨rfl, rfl⟩) (fun h7 => ?_)
    refine V_iconst (pc := 54) (DCa dc_Mod_keeps_0 27 rfl) (by decide) ?_
    refine V_istore (ls' := [(0, 2, l0), (1, 0, l1), (2, 0, l2), (3, 0, l3), (4, 0, 0)]) (pc := 55) (DCa dc_Mod_keeps_0 28 rfl) (Nat.le_of_ble_eq_true rfl) rfl ?_
    exact v_Mod_keeps_L57 F F _ _ _ _ _ _
theorem v_Mod_keeps_L12 (F : Nat)  (n : Nat) : ∀ (l0 l1 l2 l3 l4 : Int) (h : Hp), V X_Mod_keeps 12 [(0, 2, l0), (1, 0, l1), (2, 0, l2), (3, 0, l3), (4, 0, l4)] [] h (Mod_keeps_L12 F  n l0 l1 l2 l3 l4 h) := by
  induction n with
  | zero => intros; exact V_none
  | succ n ih => exact fun l0 l1 l2 l3 l4 h => v_Mod_keeps_L12s F  _ ih l0 l1 l2 l3 l4 h
theorem v_Mod_keeps (F : Nat) (l0 l1 l2 l3 : Int) (h : Hp) : V X_Mod_keeps 0 [(0, 2, l0), (1, 0, l1), (2, 0, l2), (3, 0, l3)] [] h (Mod_keeps F l0 l1 l2 l3 h) := by
  unfold Mod_keeps
  refine V_aload_n (pc := 0) (DCa dc_Mod_keeps_0 0 rfl) rfl 0 rfl ?_
  refine Q_getf (k := 64) (pc := 1) (DCa dc_Mod_keeps_0 1 rfl) cls_12 (Nat.le_of_ble_eq_true rfl) fl_12_299 rfl rfl rfl (fun v1 => ?_)
  refine V_bipush (pc := 4) (DCa dc_Mod_keeps_0 2 rfl) (by decide) ?_
  refine V_icmp_ne (tgt := 54) (pc := 6) (DCa dc_Mod_keeps_0 3 rfl) (by decide) (fun _ => ?_) (fun _ => ?_)
  · refine V_iconst (pc := 9) (DCa dc_Mod_keeps_0 4 rfl) (by decide) ?_
    refine V_istore (ls' := [(0, 2, l0), (1, 0, l1), (2, 0, l2), (3, 0, l3), (4, 0, 0)]) (pc := 10) (DCa dc_Mod_keeps_0 5 rfl) (Nat.le_of_ble_eq_true rfl) rfl ?_
    exact v_Mod_keeps_L12 F F _ _ _ _ _ _
  · refine V_iconst (pc := 54) (DCa dc_Mod_keeps_0 27 rfl) (by decide) ?_
    refine V_istore (ls' := [(0, 2, l0), (1, 0, l1), (2, 0, l2), (3, 0, l3), (4, 0, 0)]) (pc := 55) (DCa dc_Mod_keeps_0 28 rfl) (Nat.le_of_ble_eq_true rfl) rfl ?_
    exact v_Mod_keeps_L57 F F _ _ _ _ _ _
theorem sp_Mod_keeps (F : Nat) (l0 l1 l2 l3 : Int) (h : Hp) : Sp yX12_keeps cX12_keeps 5 none 2 41 [(2, l0), (0, l1), (0, l2), (0, l3)] h (Mod_keeps F l0 l1 l2 l3 h) := Sp_of (by decide +kernel) rfl rfl (Nat.le_of_ble_eq_true rfl) (v_Mod_keeps F l0 l1 l2 l3 h)

-- TideRakesModel.send
def Mod_send (F : Nat) (l0 l1 l2 : Int) (h : Hp) : Option (Int × Hp) :=
  iv h l0 112 (Mod_isWorker F l0 l1 h) fun r1 h2 =>
  if r1 = 0 then
    (some ((-1), h2))
  else
    (iv h2 l0 112 (Mod_isPart F l0 l2 h2) fun r3 h4 =>
    if r3 = 0 then
      (some ((-1), h4))
    else
      (iv h4 l0 112 (Mod_copies F l0 h4) fun r5 h6 =>
      iv h6 l0 112 (Mod_sends F l0 l1 l2 h6) fun r7 h8 =>
      if r7 < 0 then
        (some (r7, h8))
      else
        (iv h8 l0 112 (Mod_keeps F l0 0 l1 l2 h8) fun r9 h10 =>
        some (r7, h10))))

theorem dc_Mod_send_0 : ∀ q ∈ ([(0, .aload_n 0, 1), (1, .iload_n 1, 1), (2, .invokevirtual 403, 3), (5, .ifCond .eq 11, 3), (8, .aload_n 0, 1), (9, .iload_n 2, 1), (10, .invokevirtual 400, 3), (13, .ifCond .ne 5, 3), (16, .iconst (-1), 1), (17, .ireturn, 1), (18, .aload_n 0, 1), (19, .invokevirtual 409, 3), (22, .aload_n 0, 1), (23, .iload_n 1, 1), (24, .iload_n 2, 1), (25, .invokevirtual 412, 3), (28, .istore_n 3, 1), (29, .iload_n 3, 1), (30, .ifCond .lt 10, 3), (33, .aload_n 0, 1), (34, .iconst 0, 1), (35, .iload_n 1, 1), (36, .iload_n 2, 1), (37, .invokevirtual 415, 3), (40, .iload_n 3, 1), (41, .ireturn, 1)] : List (Nat × Instr × Nat)), decode cX12_send q.1 = .ok (q.2.1, q.2.2) := by decide +kernel
abbrev X_Mod_send : MX := (cX12_send, RX12, "send", 4, (some (.int)), 5, 114)
theorem v_Mod_send (F : Nat) (l0 l1 l2 : Int) (h : Hp) : V X_Mod_send 0 [(0, 2, l0), (1, 0, l1), (2, 0, l2)] [] h (Mod_send F l0 l1 l2 h) := by
  unfold Mod_send
  refine V_aload_n (pc := 0) (DCa dc_Mod_send_0 0 rfl) rfl 0 rfl ?_
  refine V_iload_n (pc := 1) (DCa dc_Mod_send_0 1 rfl) rfl 1 rfl ?_
  refine Q_callv (ci := 12) (st := []) (pc := 2) (DCa dc_Mod_send_0 2 rfl) (sp_Mod_isWorker F _ _ _) ce_Mod_isWorker ml_12_403 rfl rfl ⟨Nat.le_of_ble_eq_true rfl, Nat.le_of_ble_eq_true rfl⟩ rfl (Nat.le_of_ble_eq_true rfl) (fun r1 h2 => ?_)
  refine V_if_eq (tgt := 16) (pc := 5) (DCa dc_Mod_send_0 3 rfl) (by decide) (fun _ => ?_) (fun _ => ?_)
  · refine V_iconst (pc := 16) (DCa dc_Mod_send_0 8 rfl) (by decide) ?_
    exact V_ireturn (pc := 17) (DCa dc_Mod_send_0 9 rfl) rfl
  · refine V_aload_n (pc := 8) (DCa dc_Mod_send_0 4 rfl) rfl 0 rfl ?_
    refine V_iload_n (pc := 9) (DCa dc_Mod_send_0 5 rfl) rfl 2 rfl ?_
    refine Q_callv (ci := 12) (st := []) (pc := 10) (DCa dc_Mod_send_0 6 rfl) (sp_Mod_isPart F _ _ _) ce_Mod_isPart ml_12_400 rfl rfl ⟨Nat.le_of_ble_eq_true rfl, Nat.le_of_ble_eq_true rfl⟩ rfl (Nat.le_of_ble_eq_true rfl) (fun r3 h4 => ?_)
    refine V_if_ne (tgt := 18) (pc := 13) (DCa dc_Mod_send_0 7 rfl) (by decide) (fun _ => ?_) (fun _ => ?_)
    · refine V_iconst (pc := 16) (DCa dc_Mod_send_0 8 rfl) (by decide) ?_
      exact V_ireturn (pc := 17) (DCa dc_Mod_send_0 9 rfl) rfl
    · refine V_aload_n (pc := 18) (DCa dc_Mod_send_0 10 rfl) rfl 0 rfl ?_
      refine Q_callv (ci := 12) (st := []) (pc := 19) (DCa dc_Mod_send_0 11 rfl) (sp_Mod_copies F _ _) ce_Mod_copies ml_12_409 rfl rfl ⟨Nat.le_of_ble_eq_true rfl, Nat.le_of_ble_eq_true rfl⟩ rfl (Nat.le_of_ble_eq_true rfl) (fun r5 h6 => ?_)
      refine V_aload_n (pc := 22) (DCa dc_Mod_send_0 12 rfl) rfl 0 rfl ?_
      refine V_iload_n (pc := 23) (DCa dc_Mod_send_0 13 rfl) rfl 1 rfl ?_
      refine V_iload_n (pc := 24) (DCa dc_Mod_send_0 14 rfl) rfl 2 rfl ?_
      refine Q_callv (ci := 12) (st := []) (pc := 25) (DCa dc_Mod_send_0 15 rfl) (sp_Mod_sends F _ _ _ _) ce_Mod_sends ml_12_412 rfl rfl ⟨Nat.le_of_ble_eq_true rfl, Nat.le_of_ble_eq_true rfl⟩ rfl (Nat.le_of_ble_eq_true rfl) (fun r7 h8 => ?_)
      refine V_istore_n (ls' := [(0, 2, l0), (1, 0, l1), (2, 0, l2), (3, 0, r7)]) (pc := 28) (DCa dc_Mod_send_0 16 rfl) rfl (Nat.le_of_ble_eq_true rfl) rfl ?_
      refine V_iload_n (pc := 29) (DCa dc_Mod_send_0 17 rfl) rfl 3 rfl ?_
      refine V_if_lt (tgt := 40) (pc := 30) (DCa dc_Mod_send_0 18 rfl) (by decide) (fun _ => ?_) (fun _ => ?_)
      · refine V_iload_n (pc := 40) (DCa dc_Mod_send_0 24 rfl) rfl 3 rfl ?_
        exact V_ireturn (pc := 41) (DCa dc_Mod_send_0 25 rfl) rfl
      · refine V_aload_n (pc := 33) (DCa dc_Mod_send_0 19 rfl) rfl 0 rfl ?_
        refine V_iconst (pc := 34) (DCa dc_Mod_send_0 20 rfl) (by decide) ?_
        refine V_iload_n (pc := 35) (DCa dc_Mod_send_0 21 rfl) rfl 1 rfl ?_
        refine V_iload_n (pc := 36) (DCa dc_Mod_send_0 22 rfl) rfl 2 rfl ?_
        refine Q_callv (ci := 12) (st := []) (pc := 37) (DCa dc_Mod_send_0 23 rfl) (sp_Mod_keeps F _ _ _ _ _) ce_Mod_keeps ml_12_415 rfl rfl ⟨Nat.le_of_ble_eq_true rfl, Nat.le_of_ble_eq_true rfl⟩ rfl (Nat.le_of_ble_eq_true rfl) (fun r9 h10 => ?_)
        refine V_iload_n (pc := 40) (DCa dc_Mod_send_0 24 rfl) rfl 3 rfl ?_
        exact V_ireturn (pc := 41) (DCa dc_Mod_send_0 25 rfl) rfl
theorem sp_Mod_send (F : Nat) (l0 l1 l2 : Int) (h : Hp) : Sp yX12_send cX12_send 4 (some (.int)) 5 114 [(2, l0), (0, l1), (0, l2)] h (Mod_send F l0 l1 l2 h) := Sp_of (by decide +kernel) rfl rfl (Nat.le_of_ble_eq_true rfl) (v_Mod_send F l0 l1 l2 h)

-- TideRakesModel.cross
def Mod_cross (F : Nat) (l0 l1 : Int) (h : Hp) : Option (Int × Hp) :=
  iv h l0 112 (Mod_isPart F l0 l1 h) fun r1 h2 =>
  if r1 = 0 then
    (rz 0 h2)
  else
    (iv h2 l0 112 (Mod_copies F l0 h2) fun r3 h4 =>
    iv h4 l0 112 (Mod_crosses F l0 l1 h4) fun r5 h6 =>
    if r5 = 0 then
      (rz 0 h6)
    else
      (iv h6 l0 112 (Mod_keeps F l0 1 0 l1 h6) fun r7 h8 =>
      rz 1 h8))

theorem dc_Mod_cross_0 : ∀ q ∈ ([(0, .aload_n 0, 1), (1, .iload_n 1, 1), (2, .invokevirtual 400, 3), (5, .ifCond .ne 5, 3), (8, .iconst 0, 1), (9, .ireturn, 1), (10, .aload_n 0, 1), (11, .invokevirtual 409, 3), (14, .aload_n 0, 1), (15, .iload_n 1, 1), (16, .invokevirtual 418, 3), (19, .ifCond .ne 5, 3), (22, .iconst 0, 1), (23, .ireturn, 1), (24, .aload_n 0, 1), (25, .iconst 1, 1), (26, .iconst 0, 1), (27, .iload_n 1, 1), (28, .invokevirtual 415, 3), (31, .iconst 1, 1), (32, .ireturn, 1)] : List (Nat × Instr × Nat)), decode cX12_cross q.1 = .ok (q.2.1, q.2.2) := by decide +kernel
abbrev X_Mod_cross : MX := (cX12_cross, RX12, "cross", 2, (some (.boolean)), 3, 65)
theorem v_Mod_cross (F : Nat) (l0 l1 : Int) (h : Hp) : V X_Mod_cross 0 [(0, 2, l0), (1, 0, l1)] [] h (Mod_cross F l0 l1 h) := by
  unfold Mod_cross
  refine V_aload_n (pc := 0) (DCa dc_Mod_cross_0 0 rfl) rfl 0 rfl ?_
  refine V_iload_n (pc := 1) (DCa dc_Mod_cross_0 1 rfl) rfl 1 rfl ?_
  refine Q_callv (ci := 12) (st := []) (pc := 2) (DCa dc_Mod_cross_0 2 rfl) (sp_Mod_isPart F _ _ _) ce_Mod_isPart ml_12_400 rfl rfl ⟨Nat.le_of_ble_eq_true rfl, Nat.le_of_ble_eq_true rfl⟩ rfl (Nat.le_of_ble_eq_true rfl) (fun r1 h2 => ?_)
  refine V_if_ne (tgt := 10) (pc := 5) (DCa dc_Mod_cross_0 3 rfl) (by decide) (fun _ => ?_) (fun _ => ?_)
  · refine V_iconst (pc := 8) (DCa dc_Mod_cross_0 4 rfl) (by decide) ?_
    exact V_zreturn (pc := 9) (DCa dc_Mod_cross_0 5 rfl) rfl
  · refine V_aload_n (pc := 10) (DCa dc_Mod_cross_0 6 rfl) rfl 0 rfl ?_
    refine Q_callv (ci := 12) (st := []) (pc := 11) (DCa dc_Mod_cross_0 7 rfl) (sp_Mod_copies F _ _) ce_Mod_copies ml_12_409 rfl rfl ⟨Nat.le_of_ble_eq_true rfl, Nat.le_of_ble_eq_true rfl⟩ rfl (Nat.le_of_ble_eq_true rfl) (fun r3 h4 => ?_)
    refine V_aload_n (pc := 14) (DCa dc_Mod_cross_0 8 rfl) rfl 0 rfl ?_
    refine V_iload_n (pc := 15) (DCa dc_Mod_cross_0 9 rfl) rfl 1 rfl ?_
    refine Q_callv (ci := 12) (st := []) (pc := 16) (DCa dc_Mod_cross_0 10 rfl) (sp_Mod_crosses F _ _ _) ce_Mod_crosses ml_12_418 rfl rfl ⟨Nat.le_of_ble_eq_true rfl, Nat.le_of_ble_eq_true rfl⟩ rfl (Nat.le_of_ble_eq_true rfl) (fun r5 h6 => ?_)
    refine V_if_ne (tgt := 24) (pc := 19) (DCa dc_Mod_cross_0 11 rfl) (by decide) (fun _ => ?_) (fun _ => ?_)
    · refine V_iconst (pc := 22) (DCa dc_Mod_cross_0 12 rfl) (by decide) ?_
      exact V_zreturn (pc := 23) (DCa dc_Mod_cross_0 13 rfl) rfl
    · refine V_aload_n (pc := 24) (DCa dc_Mod_cross_0 14 rfl) rfl 0 rfl ?_
      refine V_iconst (pc := 25) (DCa dc_Mod_cross_0 15 rfl) (by decide) ?_
      refine V_iconst (pc := 26) (DCa dc_Mod_cross_0 16 rfl) (by decide) ?_
      refine V_iload_n (pc := 27) (DCa dc_Mod_cross_0 17 rfl) rfl 1 rfl ?_
      refine Q_callv (ci := 12) (st := []) (pc := 28) (DCa dc_Mod_cross_0 18 rfl) (sp_Mod_keeps F _ _ _ _ _) ce_Mod_keeps ml_12_415 rfl rfl ⟨Nat.le_of_ble_eq_true rfl, Nat.le_of_ble_eq_true rfl⟩ rfl (Nat.le_of_ble_eq_true rfl) (fun r7 h8 => ?_)
      refine V_iconst (pc := 31) (DCa dc_Mod_cross_0 19 rfl) (by decide) ?_
      exact V_zreturn (pc := 32) (DCa dc_Mod_cross_0 20 rfl) rfl
theorem sp_Mod_cross (F : Nat) (l0 l1 : Int) (h : Hp) : Sp yX12_cross cX12_cross 2 (some (.boolean)) 3 65 [(2, l0), (0, l1)] h (Mod_cross F l0 l1 h) := Sp_of (by decide +kernel) rfl rfl (Nat.le_of_ble_eq_true rfl) (v_Mod_cross F l0 l1 h)

-- TideRakesModel.mend
def Mod_mend (F : Nat) (l0 l1 l2 : Int) (h : Hp) : Option (Int × Hp) :=
  iv h l0 112 (Mod_isWorker F l0 l1 h) fun r1 h2 =>
  if r1 = 0 then
    (some ((-1), h2))
  else
    (iv h2 l0 112 (Mod_isPart F l0 l2 h2) fun r3 h4 =>
    if r3 = 0 then
      (some ((-1), h4))
    else
      (iv h4 l0 112 (Mod_copies F l0 h4) fun r5 h6 =>
      iv h6 l0 112 (Mod_mendsOne F l0 l1 l2 h6) fun r7 h8 =>
      if r7 < 0 then
        (some (r7, h8))
      else
        (iv h8 l0 112 (Mod_keeps F l0 2 l1 l2 h8) fun r9 h10 =>
        some (r7, h10))))

theorem dc_Mod_mend_0 : ∀ q ∈ ([(0, .aload_n 0, 1), (1, .iload_n 1, 1), (2, .invokevirtual 403, 3), (5, .ifCond .eq 11, 3), (8, .aload_n 0, 1), (9, .iload_n 2, 1), (10, .invokevirtual 400, 3), (13, .ifCond .ne 5, 3), (16, .iconst (-1), 1), (17, .ireturn, 1), (18, .aload_n 0, 1), (19, .invokevirtual 409, 3), (22, .aload_n 0, 1), (23, .iload_n 1, 1), (24, .iload_n 2, 1), (25, .invokevirtual 421, 3), (28, .istore_n 3, 1), (29, .iload_n 3, 1), (30, .ifCond .lt 10, 3), (33, .aload_n 0, 1), (34, .iconst 2, 1), (35, .iload_n 1, 1), (36, .iload_n 2, 1), (37, .invokevirtual 415, 3), (40, .iload_n 3, 1), (41, .ireturn, 1)] : List (Nat × Instr × Nat)), decode cX12_mend q.1 = .ok (q.2.1, q.2.2) := by decide +kernel
abbrev X_Mod_mend : MX := (cX12_mend, RX12, "mend", 4, (some (.int)), 5, 112)
theorem v_Mod_mend (F : Nat) (l0 l1 l2 : Int) (h : Hp) : V X_Mod_mend 0 [(0, 2, l0), (1, 0, l1), (2, 0, l2)] [] h (Mod_mend F l0 l1 l2 h) := by
  unfold Mod_mend
  refine V_aload_n (pc := 0) (DCa dc_Mod_mend_0 0 rfl) rfl 0 rfl ?_
  refine V_iload_n (pc := 1) (DCa dc_Mod_mend_0 1 rfl) rfl 1 rfl ?_
  refine Q_callv (ci := 12) (st := []) (pc := 2) (DCa dc_Mod_mend_0 2 rfl) (sp_Mod_isWorker F _ _ _) ce_Mod_isWorker ml_12_403 rfl rfl ⟨Nat.le_of_ble_eq_true rfl, Nat.le_of_ble_eq_true rfl⟩ rfl (Nat.le_of_ble_eq_true rfl) (fun r1 h2 => ?_)
  refine V_if_eq (tgt := 16) (pc := 5) (DCa dc_Mod_mend_0 3 rfl) (by decide) (fun _ => ?_) (fun _ => ?_)
  · refine V_iconst (pc := 16) (DCa dc_Mod_mend_0 8 rfl) (by decide) ?_
    exact V_ireturn (pc := 17) (DCa dc_Mod_mend_0 9 rfl) rfl
  · refine V_aload_n (pc := 8) (DCa dc_Mod_mend_0 4 rfl) rfl 0 rfl ?_
    refine V_iload_n (pc := 9) (DCa dc_Mod_mend_0 5 rfl) rfl 2 rfl ?_
    refine Q_callv (ci := 12) (st := []) (pc := 10) (DCa dc_Mod_mend_0 6 rfl) (sp_Mod_isPart F _ _ _) ce_Mod_isPart ml_12_400 rfl rfl ⟨Nat.le_of_ble_eq_true rfl, Nat.le_of_ble_eq_true rfl⟩ rfl (Nat.le_of_ble_eq_true rfl) (fun r3 h4 => ?_)
    refine V_if_ne (tgt := 18) (pc := 13) (DCa dc_Mod_mend_0 7 rfl) (by decide) (fun _ => ?_) (fun _ => ?_)
    · refine V_iconst (pc := 16) (DCa dc_Mod_mend_0 8 rfl) (by decide) ?_
      exact V_ireturn (pc := 17) (DCa dc_Mod_mend_0 9 rfl) rfl
    · refine V_aload_n (pc := 18) (DCa dc_Mod_mend_0 10 rfl) rfl 0 rfl ?_
      refine Q_callv (ci := 12) (st := []) (pc := 19) (DCa dc_Mod_mend_0 11 rfl) (sp_Mod_copies F _ _) ce_Mod_copies ml_12_409 rfl rfl ⟨Nat.le_of_ble_eq_true rfl, Nat.le_of_ble_eq_true rfl⟩ rfl (Nat.le_of_ble_eq_true rfl) (fun r5 h6 => ?_)
      refine V_aload_n (pc := 22) (DCa dc_Mod_mend_0 12 rfl) rfl 0 rfl ?_
      refine V_iload_n (pc := 23) (DCa dc_Mod_mend_0 13 rfl) rfl 1 rfl ?_
      refine V_iload_n (pc := 24) (DCa dc_Mod_mend_0 14 rfl) rfl 2 rfl ?_
      refine Q_callv (ci := 12) (st := []) (pc := 25) (DCa dc_Mod_mend_0 15 rfl) (sp_Mod_mendsOne F _ _ _ _) ce_Mod_mendsOne ml_12_421 rfl rfl ⟨Nat.le_of_ble_eq_true rfl, Nat.le_of_ble_eq_true rfl⟩ rfl (Nat.le_of_ble_eq_true rfl) (fun r7 h8 => ?_)
      refine V_istore_n (ls' := [(0, 2, l0), (1, 0, l1), (2, 0, l2), (3, 0, r7)]) (pc := 28) (DCa dc_Mod_mend_0 16 rfl) rfl (Nat.le_of_ble_eq_true rfl) rfl ?_
      refine V_iload_n (pc := 29) (DCa dc_Mod_mend_0 17 rfl) rfl 3 rfl ?_
      refine V_if_lt (tgt := 40) (pc := 30) (DCa dc_Mod_mend_0 18 rfl) (by decide) (fun _ => ?_) (fun _ => ?_)
      · refine V_iload_n (pc := 40) (DCa dc_Mod_mend_0 24 rfl) rfl 3 rfl ?_
        exact V_ireturn (pc := 41) (DCa dc_Mod_mend_0 25 rfl) rfl
      · refine V_aload_n (pc := 33) (DCa dc_Mod_mend_0 19 rfl) rfl 0 rfl ?_
        refine V_iconst (pc := 34) (DCa dc_Mod_mend_0 20 rfl) (by decide) ?_
        refine V_iload_n (pc := 35) (DCa dc_Mod_mend_0 21 rfl) rfl 1 rfl ?_
        refine V_iload_n (pc := 36) (DCa dc_Mod_mend_0 22 rfl) rfl 2 rfl ?_
        refine Q_callv (ci := 12) (st := []) (pc := 37) (DCa dc_Mod_mend_0 23 rfl) (sp_Mod_keeps F _ _ _ _ _) ce_Mod_keeps ml_12_415 rfl rfl ⟨Nat.le_of_ble_eq_true rfl, Nat.le_of_ble_eq_true rfl⟩ rfl (Nat.le_of_ble_eq_true rfl) (fun r9 h10 => ?_)
        refine V_iload_n (pc := 40) (DCa dc_Mod_mend_0 24 rfl) rfl 3 rfl ?_
        exact V_ireturn (pc := 41) (DCa dc_Mod_mend_0 25 rfl) rfl
theorem sp_Mod_mend (F : Nat) (l0 l1 l2 : Int) (h : Hp) : Sp yX12_mend cX12_mend 4 (some (.int)) 5 112 [(2, l0), (0, l1), (0, l2)] h (Mod_mend F l0 l1 l2 h) := Sp_of (by decide +kernel) rfl rfl (Nat.le_of_ble_eq_true rfl) (v_Mod_mend F l0 l1 l2 h)

-- TideRakesModel.undo
def Mod_undo_L21s (F : Nat)  (R21 : Int → Int → Hp → Option (Int × Hp)) (l0 l1 : Int) (h : Hp) : Option (Int × Hp) :=
  if l1 < 140 then
    (gf h l0 112 62 fun v4 =>
    gf h l0 112 65 fun v5 =>
    gf h l0 112 64 fun v6 =>
    al h v5 0 (w32 ((w32 (140 * v6)) + l1)) fun v7 =>
    as h v4 0 l1 v7 fun h8 =>
    R21 l0 (w32 (l1 + 1)) h8)
  else
    (rz 1 h)
def Mod_undo_L21 (F : Nat)  : Nat → Int → Int → Hp → Option (Int × Hp)
  | 0 => fun _ _ _ => none
  | n + 1 => Mod_undo_L21s F  (Mod_undo_L21 F  n)
def Mod_undo (F : Nat) (l0 : Int) (h : Hp) : Option (Int × Hp) :=
  gf h l0 112 64 fun v1 =>
  if v1 = 0 then
    (rz 0 h)
  else
    (gf h l0 112 64 fun v2 =>
    pf h l0 112 64 (w32 (v2 - 1)) fun h3 =>
    Mod_undo_L21 F F l0 0 h3)

theorem dc_Mod_undo_0 : ∀ q ∈ ([(0, .aload_n 0, 1), (1, .getfield 299, 3), (4, .ifCond .ne 5, 3), (7, .iconst 0, 1), (8, .ireturn, 1), (9, .aload_n 0, 1), (10, .dup, 1), (11, .getfield 299, 3), (14, .iconst 1, 1), (15, .isub, 1), (16, .putfield 299, 3), (19, .iconst 0, 1), (20, .istore_n 1, 1), (21, .iload_n 1, 1), (22, .sipush 140, 3), (25, .if_icmp .ge 30, 3), (28, .aload_n 0, 1), (29, .getfield 152, 3), (32, .iload_n 1, 1), (33, .aload_n 0, 1), (34, .getfield 158, 3), (37, .sipush 140, 3), (40, .aload_n 0, 1), (41, .getfield 299, 3), (44, .imul, 1), (45, .iload_n 1, 1), (46, .iadd, 1), (47, .iaload, 1), (48, .iastore, 1), (49, .iinc 1 1, 3), (52, .goto (-31), 3), (55, .iconst 1, 1), (56, .ireturn, 1)] : List (Nat × Instr × Nat)), decode cX12_undo q.1 = .ok (q.2.1, q.2.2) := by decide +kernel
abbrev X_Mod_undo : MX := (cX12_undo, RX12, "undo", 2, (some (.boolean)), 1, 20)
theorem v_Mod_undo_L21s (F : Nat)  (R21 : Int → Int → Hp → Option (Int × Hp)) (hR21 : ∀ (l0 l1 : Int) (h : Hp), V X_Mod_undo 21 [(0, 2, l0), (1, 0, l1)] [] h (R21 l0 l1 h)) (l0 l1 : Int) (h : Hp) : V X_Mod_undo 21 [(0, 2, l0), (1, 0, l1)] [] h (Mod_undo_L21s F  R21 l0 l1 h) := by
  unfold Mod_undo_L21s
  refine V_iload_n (pc := 21) (DCa dc_Mod_undo_0 13 rfl) rfl 1 rfl ?_
  refine V_sipush (pc := 22) (DCa dc_Mod_undo_0 14 rfl) (by decide) ?_
  refine V_icmp_ge (tgt := 55) (pc := 25) (DCa dc_Mod_undo_0 15 rfl) (by decide) (fun _ => ?_) (fun _ => ?_)
  · refine V_aload_n (pc := 28) (DCa dc_Mod_undo_0 16 rfl) rfl 0 rfl ?_
    refine Q_getf (k := 62) (pc := 29) (DCa dc_Mod_undo_0 17 rfl) cls_12 (Nat.le_of_ble_eq_true rfl) fl_12_152 rfl rfl rfl (fun v4 => ?_)
    refine V_iload_n (pc := 32) (DCa dc_Mod_undo_0 18 rfl) rfl 1 rfl ?_
    refine V_aload_n (pc := 33) (DCa dc_Mod_undo_0 19 rfl) rfl 0 rfl ?_
    refine Q_getf (k := 65) (pc := 34) (DCa dc_Mod_undo_0 20 rfl) cls_12 (Nat.le_of_ble_eq_true rfl) fl_12_158 rfl rfl rfl (fun v5 => ?_)
    refine V_sipush (pc := 37) (DCa dc_Mod_undo_0 21 rfl) (by decide) ?_
    refine V_aload_n (pc := 40) (DCa dc_Mod_undo_0 22 rfl) rfl 0 rfl ?_
    refine Q_getf (k := 64) (pc := 41) (DCa dc_Mod_undo_0 23 rfl) cls_12 (Nat.le_of_ble_eq_true rfl) fl_12_299 rfl rfl rfl (fun v6 => ?_)
    refine V_imul (pc := 44) (DCa dc_Mod_undo_0 24 rfl) ?_
    refine V_iload_n (pc := 45) (DCa dc_Mod_undo_0 25 rfl) rfl 1 rfl ?_
    refine V_iadd (pc := 46) (DCa dc_Mod_undo_0 26 rfl) ?_
    refine Q_iaload (pc := 47) (DCa dc_Mod_undo_0 27 rfl) (fun v7 => ?_)
    refine Q_iastore (pc := 48) (DCa dc_Mod_undo_0 28 rfl) (fun h8 => ?_)
    refine V_iinc (ls' := [(0, 2, l0), (1, 0, w32 (l1 + 1))]) (pc := 49) (DCa dc_Mod_undo_0 29 rfl) (Nat.le_of_ble_eq_true rfl) (by decide) 1 rfl rfl ?_
    refine V_goto (tgt := 21) (pc := 52) (DCa dc_Mod_undo_0 30 rfl) (by decide) ?_
    exact hR21 _ _ _
  · refine V_iconst (pc := 55) (DCa dc_Mod_undo_0 31 rfl) (by decide) ?_
    exact V_zreturn (pc := 56) (DCa dc_Mod_undo_0 32 rfl) rfl
theorem v_Mod_undo_L21 (F : Nat)  (n : Nat) : ∀ (l0 l1 : Int) (h : Hp), V X_Mod_undo 21 [(0, 2, l0), (1, 0, l1)] [] h (Mod_undo_L21 F  n l0 l1 h) := by
  induction n with
  | zero => intros; exact V_none
  | succ n ih => exact fun l0 l1 h => v_Mod_undo_L21s F  _ ih l0 l1 h
theorem v_Mod_undo (F : Nat) (l0 : Int) (h : Hp) : V X_Mod_undo 0 [(0, 2, l0)] [] h (Mod_undo F l0 h) := by
  unfold Mod_undo
  refine V_aload_n (pc := 0) (DCa dc_Mod_undo_0 0 rfl) rfl 0 rfl ?_
  refine Q_getf (k := 64) (pc := 1) (DCa dc_Mod_undo_0 1 rfl) cls_12 (Nat.le_of_ble_eq_true rfl) fl_12_299 rfl rfl rfl (fun v1 => ?_)
  refine V_if_ne (tgt := 9) (pc := 4) (DCa dc_Mod_undo_0 2 rfl) (by decide) (fun _ => ?_) (fun _ => ?_)
  · refine V_iconst (pc := 7) (DCa dc_Mod_undo_0 3 rfl) (by decide) ?_
    exact V_zreturn (pc := 8) (DCa dc_Mod_undo_0 4 rfl) rfl
  · refine V_aload_n (pc := 9) (DCa dc_Mod_undo_0 5 rfl) rfl 0 rfl ?_
    refine V_dup (pc := 10) (DCa dc_Mod_undo_0 6 rfl) rfl ?_
    refine Q_getf (k := 64) (pc := 11) (DCa dc_Mod_undo_0 7 rfl) cls_12 (Nat.le_of_ble_eq_true rfl) fl_12_299 rfl rfl rfl (fun v2 => ?_)
    refine V_iconst (pc := 14) (DCa dc_Mod_undo_0 8 rfl) (by decide) ?_
    refine V_isub (pc := 15) (DCa dc_Mod_undo_0 9 rfl) ?_
    refine Q_putf (k := 64) (pc := 16) (DCa dc_Mod_undo_0 10 rfl) cls_12 (Nat.le_of_ble_eq_true rfl) fl_12_299 rfl rfl rfl (Or.inl rfl) (Or.inl ⟨rfl, rfl⟩) (fun h3 => ?_)
    refine V_iconst (pc := 19) (DCa dc_Mod_undo_0 11 rfl) (by decide) ?_
    refine V_istore_n (ls' := [(0, 2, l0), (1, 0, 0)]) (pc := 20) (DCa dc_Mod_undo_0 12 rfl) rfl (Nat.le_of_ble_eq_true rfl) rfl ?_
    exact v_Mod_undo_L21 F F _ _ _
theorem sp_Mod_undo (F : Nat) (l0 : Int) (h : Hp) : Sp yX12_undo cX12_undo 2 (some (.boolean)) 1 20 [(2, l0)] h (Mod_undo F l0 h) := Sp_of (by decide +kernel) rfl rfl (Nat.le_of_ble_eq_true rfl) (v_Mod_undo F l0 h)

-- TideRakesModel.seen
def Mod_seen_L17s (F : Nat)  (R17 : Int → Int → Int → Int → Hp → Option (Int × Hp)) (l0 l1 l2 l3 : Int) (h : Hp) : Option (Int × Hp) :=
  gf h l0 112 22 fun v5 =>
  gf h l0 112 18 fun v6 =>
  al h v5 0 v6 fun v7 =>
  if l3 < v7 then
    (iv h l0 112 (Mod_isSeen F l0 l3 l1 h) fun r8 h9 =>
    if r8 = 0 then
      (R17 l0 l1 l2 (w32 (l3 + 1)) h9)
    else
      (lt (ior l2 (ishl 1 l3)) fun x10 =>
      R17 l0 l1 x10 (w32 (l3 + 1)) h9))
  else
    (some (l2, h))
def Mod_seen_L17 (F : Nat)  : Nat → Int → Int → Int → Int → Hp → Option (Int × Hp)
  | 0 => fun _ _ _ _ _ => none
  | n + 1 => Mod_seen_L17s F  (Mod_seen_L17 F  n)
def Mod_seen (F : Nat) (l0 l1 : Int) (h : Hp) : Option (Int × Hp) :=
  cl (Mod_isMinute F l1 h) fun r1 h2 =>
  if r1 = 0 then
    (some ((-1), h2))
  else
    (iv h2 l0 112 (Mod_copies F l0 h2) fun r3 h4 =>
    Mod_seen_L17 F F l0 l1 0 0 h4)

theorem dc_Mod_seen_0 : ∀ q ∈ ([(0, .iload_n 1, 1), (1, .invokestatic 406, 3), (4, .ifCond .ne 5, 3), (7, .iconst (-1), 1), (8, .ireturn, 1), (9, .aload_n 0, 1), (10, .invokevirtual 409, 3), (13, .iconst 0, 1), (14, .istore_n 2, 1), (15, .iconst 0, 1), (16, .istore_n 3, 1), (17, .iload_n 3, 1), (18, .aload_n 0, 1), (19, .getfield 43, 3), (22, .aload_n 0, 1), (23, .getfield 281, 3), (26, .iaload, 1), (27, .if_icmp .ge 24, 3), (30, .aload_n 0, 1), (31, .iload_n 3, 1), (32, .iload_n 1, 1), (33, .invokevirtual 397, 3), (36, .ifCond .eq 9, 3), (39, .iload_n 2, 1), (40, .iconst 1, 1), (41, .iload_n 3, 1), (42, .ishl, 1), (43, .ior, 1), (44, .istore_n 2, 1), (45, .iinc 3 1, 3), (48, .goto (-31), 3), (51, .iload_n 2, 1), (52, .ireturn, 1)] : List (Nat × Instr × Nat)), decode cX12_seen q.1 = .ok (q.2.1, q.2.2) := by decide +kernel
abbrev X_Mod_seen : MX := (cX12_seen, RX12, "seen", 4, (some (.int)), 3, 66)
theorem v_Mod_seen_L17s (F : Nat)  (R17 : Int → Int → Int → Int → Hp → Option (Int × Hp)) (hR17 : ∀ (l0 l1 l2 l3 : Int) (h : Hp), V X_Mod_seen 17 [(0, 2, l0), (1, 0, l1), (2, 0, l2), (3, 0, l3)] [] h (R17 l0 l1 l2 l3 h)) (l0 l1 l2 l3 : Int) (h : Hp) : V X_Mod_seen 17 [(0, 2, l0), (1, 0, l1), (2, 0, l2), (3, 0, l3)] [] h (Mod_seen_L17s F  R17 l0 l1 l2 l3 h) := by
  unfold Mod_seen_L17s
  refine V_iload_n (pc := 17) (DCa dc_Mod_seen_0 11 rfl) rfl 3 rfl ?_
  refine V_aload_n (pc := 18) (DCa dc_Mod_seen_0 12 rfl) rfl 0 rfl ?_
  refine Q_getf (k := 22) (pc := 19) (DCa dc_Mod_seen_0 13 rfl) cls_12 (Nat.le_of_ble_eq_true rfl) fl_12_43 rfl rfl rfl (fun v5 => ?_)
  refine V_aload_n (pc := 22) (DCa dc_Mod_seen_0 14 rfl) rfl 0 rfl ?_
  refine Q_getf (k := 18) (pc := 23) (DCa dc_Mod_seen_0 15 rfl) cls_12 (Nat.le_of_ble_eq_true rfl) fl_12_281 rfl rfl rfl (fun v6 => ?_)
  refine Q_iaload (pc := 26) (DCa dc_Mod_seen_0 16 rfl) (fun v7 => ?_)
  refine V_icmp_ge (tgt := 51) (pc := 27) (DCa dc_Mod_seen_0 17 rfl) (by decide) (fun _ => ?_) (fun _ => ?_)
  · refine V_aload_n (pc := 30) (DCa dc_Mod_seen_0 18 rfl) rfl 0 rfl ?_
    refine V_iload_n (pc := 31) (DCa dc_Mod_seen_0 19 rfl) rfl 3 rfl ?_
    refine V_iload_n (pc := 32) (DCa dc_Mod_seen_0 20 rfl) rfl 1 rfl ?_
    refine Q_callv (ci := 12) (st := []) (pc := 33) (DCa dc_Mod_seen_0 21 rfl) (sp_Mod_isSeen F _ _ _ _) ce_Mod_isSeen ml_12_397 rfl rfl ⟨Nat.le_of_ble_eq_true rfl, Nat.le_of_ble_eq_true rfl⟩ rfl (Nat.le_of_ble_eq_true rfl) (fun r8 h9 => ?_)
    refine V_if_eq (tgt := 45) (pc := 36) (DCa dc_Mod_seen_0 22 rfl) (by decide) (fun _ => ?_) (fun _ => ?_)
    · refine V_iinc (ls' := [(0, 2, l0), (1, 0, l1), (2, 0, l2), (3, 0, w32 (l3 + 1))]) (pc := 45) (DCa dc_Mod_seen_0 29 rfl) (Nat.le_of_ble_eq_true rfl) (by decide) 3 rfl rfl ?_
      refine V_goto (tgt := 17) (pc := 48) (DCa dc_Mod_seen_0 30 rfl) (by decide) ?_
      exact hR17 _ _ _ _ _
    · refine V_iload_n (pc := 39) (DCa dc_Mod_seen_0 23 rfl) rfl 2 rfl ?_
      refine V_iconst (pc := 40) (DCa dc_Mod_seen_0 24 rfl) (by decide) ?_
      refine V_iload_n (pc := 41) (DCa dc_Mod_seen_0 25 rfl) rfl 3 rfl ?_
      refine V_ishl (pc := 42) (DCa dc_Mod_seen_0 26 rfl) ?_
      refine V_ior (pc := 43) (DCa dc_Mod_seen_0 27 rfl) ?_
      refine Q_lt (fun x10 => ?_)
      refine V_istore_n (ls' := [(0, 2, l0), (1, 0, l1), (2, 0, x10), (3, 0, l3)]) (pc := 44) (DCa dc_Mod_seen_0 28 rfl) rfl (Nat.le_of_ble_eq_true rfl) rfl ?_
      refine V_iinc (ls' := [(0, 2, l0), (1, 0, l1), (2, 0, x10), (3, 0, w32 (l3 + 1))]) (pc := 45) (DCa dc_Mod_seen_0 29 rfl) (Nat.le_of_ble_eq_true rfl) (by decide) 3 rfl rfl ?_
      refine V_goto (tgt := 17) (pc := 48) (DCa dc_Mod_seen_0 30 rfl) (by decide) ?_
      exact hR17 _ _ _ _ _
  · refine V_iload_n (pc := 51) (DCa dc_Mod_seen_0 31 rfl) rfl 2 rfl ?_
    exact V_ireturn (pc := 52) (DCa dc_Mod_seen_0 32 rfl) rfl
theorem v_Mod_seen_L17 (F : Nat)  (n : Nat) : ∀ (l0 l1 l2 l3 : Int) (h : Hp), V X_Mod_seen 17 [(0, 2, l0), (1, 0, l1), (2, 0, l2), (3, 0, l3)] [] h (Mod_seen_L17 F  n l0 l1 l2 l3 h) := by
  induction n with
  | zero => intros; exact V_none
  | succ n ih => exact fun l0 l1 l2 l3 h => v_Mod_seen_L17s F  _ ih l0 l1 l2 l3 h
theorem v_Mod_seen (F : Nat) (l0 l1 : Int) (h : Hp) : V X_Mod_seen 0 [(0, 2, l0), (1, 0, l1)] [] h (Mod_seen F l0 l1 h) := by
  unfold Mod_seen
  refine V_iload_n (pc := 0) (DCa dc_Mod_seen_0 0 rfl) rfl 1 rfl ?_
  refine Q_calls (st := []) (pc := 1) (DCa dc_Mod_seen_0 1 rfl) (sp_Mod_isMinute F _ _) ce_Mod_isMinute ml_12_406 rfl ⟨Nat.le_of_ble_eq_true rfl, Nat.le_of_ble_eq_true rfl⟩ rfl (Nat.le_of_ble_eq_true rfl) (fun r1 h2 => ?_)
  refine V_if_ne (tgt := 9) (pc := 4) (DCa dc_Mod_seen_0 2 rfl) (by decide) (fun _ => ?_) (fun _ => ?_)
  · refine V_iconst (pc := 7) (DCa dc_Mod_seen_0 3 rfl) (by decide) ?_
    exact V_ireturn (pc := 8) (DCa dc_Mod_seen_0 4 rfl) rfl
  · refine V_aload_n (pc := 9) (DCa dc_Mod_seen_0 5 rfl) rfl 0 rfl ?_
    refine Q_callv (ci := 12) (st := []) (pc := 10) (DCa dc_Mod_seen_0 6 rfl) (sp_Mod_copies F _ _) ce_Mod_copies ml_12_409 rfl rfl ⟨Nat.le_of_ble_eq_true rfl, Nat.le_of_ble_eq_true rfl⟩ rfl (Nat.le_of_ble_eq_true rfl) (fun r3 h4 => ?_)
    refine V_iconst (pc := 13) (DCa dc_Mod_seen_0 7 rfl) (by decide) ?_
    refine V_istore_n (ls' := [(0, 2, l0), (1, 0, l1), (2, 0, 0)]) (pc := 14) (DCa dc_Mod_seen_0 8 rfl) rfl (Nat.le_of_ble_eq_true rfl) rfl ?_
    refine V_iconst (pc := 15) (DCa dc_Mod_seen_0 9 rfl) (by decide) ?_
    refine V_istore_n (ls' := [(0, 2, l0), (1, 0, l1), (2, 0, 0), (3, 0, 0)]) (pc := 16) (DCa dc_Mod_seen_0 10 rfl) rfl (Nat.le_of_ble_eq_true rfl) rfl ?_
    exact v_Mod_seen_L17 F F _ _ _ _ _
theorem sp_Mod_seen (F : Nat) (l0 l1 : Int) (h : Hp) : Sp yX12_seen cX12_seen 4 (some (.int)) 3 66 [(2, l0), (0, l1)] h (Mod_seen F l0 l1 h) := Sp_of (by decide +kernel) rfl rfl (Nat.le_of_ble_eq_true rfl) (v_Mod_seen F l0 l1 h)
