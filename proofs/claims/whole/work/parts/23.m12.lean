theorem ce_Str_length : CEt yJ0_length_8abf5 cJ0_length_8abf5 1 (some (.int)) 0 := ⟨rfl, tb1 161 rfl rfl, tb1 159 rfl rfl, tb1 160 rfl rfl, tb1 5 rfl rfl, ⟨by decide +kernel, by decide +kernel, by decide +kernel⟩⟩
theorem ce_Str_coder : CEt yJ0_coder_7d493 cJ0_coder_7d493 1 (some (.byte)) 0 := ⟨rfl, tb1 165 rfl rfl, tb1 163 rfl rfl, tb1 164 rfl rfl, tb1 5 rfl rfl, ⟨by decide +kernel, by decide +kernel, by decide +kernel⟩⟩
theorem ce_Str_isLatin1 : CEt yJ0_isLatin1_aae02 cJ0_isLatin1_aae02 1 (some (.boolean)) 0 := ⟨rfl, tb1 175 rfl rfl, tb1 173 rfl rfl, tb1 174 rfl rfl, tb1 5 rfl rfl, ⟨by decide +kernel, by decide +kernel, by decide +kernel⟩⟩
theorem ce_Str_charAt : CEt yJ0_charAt_5068e cJ0_charAt_5068e 2 (some (.char)) 1 := ⟨rfl, tb1 171 rfl rfl, tb1 169 rfl rfl, tb1 170 rfl rfl, tb1 5 rfl rfl, ⟨by decide +kernel, by decide +kernel, by decide +kernel⟩⟩
theorem ce_Str_checkIndex : CEs yJ0_checkIndex_df160 cJ0_checkIndex_df160 2 none 2 := ⟨tb1 181 rfl rfl, tb1 180 rfl rfl, tb1 5 rfl rfl, ⟨by decide +kernel, by decide +kernel, by decide +kernel⟩⟩
theorem ce_Str_indexOf : CEt yJ0_indexOf_0f7a4 cJ0_indexOf_0f7a4 2 (some (.int)) 1 := ⟨rfl, tb4 25 rfl rfl, tb4 23 rfl rfl, tb4 24 rfl rfl, tb1 5 rfl rfl, ⟨by decide +kernel, by decide +kernel, by decide +kernel⟩⟩
theorem ce_Str_indexOf2 : CEt yJ0_indexOf_7cf53 cJ0_indexOf_7cf53 3 (some (.int)) 2 := ⟨rfl, tb4 29 rfl rfl, tb4 27 rfl rfl, tb4 28 rfl rfl, tb1 5 rfl rfl, ⟨by decide +kernel, by decide +kernel, by decide +kernel⟩⟩
theorem ce_Lat_charAt : CEs yJ1_charAt_3b067 cJ1_charAt_3b067 2 (some (.char)) 2 := ⟨tb1 178 rfl rfl, tb1 177 rfl rfl, tb1 6 rfl rfl, ⟨by decide +kernel, by decide +kernel, by decide +kernel⟩⟩
theorem ce_Lat_canEncode : CEs yJ1_canEncode_9a6ad cJ1_canEncode_9a6ad 1 (some (.boolean)) 1 := ⟨tb4 36 rfl rfl, tb4 35 rfl rfl, tb1 6 rfl rfl, ⟨by decide +kernel, by decide +kernel, by decide +kernel⟩⟩
theorem ce_Lat_indexOf : CEs yJ1_indexOf_4cfef cJ1_indexOf_4cfef 4 (some (.int)) 4 := ⟨tb4 33 rfl rfl, tb4 32 rfl rfl, tb1 6 rfl rfl, ⟨by decide +kernel, by decide +kernel, by decide +kernel⟩⟩
theorem ce_Lat_indexOfChar : CEs yJ1_indexOfChar_4cfef cJ1_indexOfChar_4cfef 6 (some (.int)) 4 := ⟨tb4 41 rfl rfl, tb4 40 rfl rfl, tb1 6 rfl rfl, ⟨by decide +kernel, by decide +kernel, by decide +kernel⟩⟩
theorem ce_Prec_checkIndex : CEs yJ3_checkIndex_8e157 cJ3_checkIndex_8e157 3 (some (.int)) 3 := ⟨tb1 186 rfl rfl, tb1 185 rfl rfl, tb1 7 rfl rfl, ⟨by decide +kernel, by decide +kernel, by decide +kernel⟩⟩
theorem ac_n : Cond.native arraycopyName ∈ lwg := tb6 64 rfl rfl
theorem ac_s : Cond.static arraycopyName ∈ lwg := tb6 63 rfl rfl
theorem ac_i : Cond.initialized "java/lang/System" ∈ lwg := tb1 22 rfl rfl

-- java/lang/String.isLatin1
def Str_isLatin1 (F : Nat) (l0 : Int) (h : Hp) : Option (Int × Hp) :=
  lt 1 fun x1 =>
  if x1 = 0 then
    (rz 0 h)
  else
    (gsc l0 fun v2 =>
    if v2 = 0 then
      (rz 1 h)
    else
      (rz 0 h))

theorem dc_Str_isLatin1_0 : ∀ q ∈ ([(0, .getstatic 38, 3), (3, .ifCond .eq 14, 3), (6, .aload_n 0, 1), (7, .getfield 15, 3), (10, .ifCond .ne 7, 3), (13, .iconst 1, 1), (14, .goto 4, 3), (17, .iconst 0, 1), (18, .ireturn, 1)] : List (Nat × Instr × Nat)), decode cJ0_isLatin1_aae02 q.1 = .ok (q.2.1, q.2.2) := by decide +kernel
abbrev X_Str_isLatin1 : MX := (cJ0_isLatin1_aae02, RJ0, "isLatin1", 1, (some (.boolean)), 1, 40)
theorem v_Str_isLatin1 (F : Nat) (l0 : Int) (h : Hp) : V X_Str_isLatin1 0 [(0, 2, l0)] [] h (Str_isLatin1 F l0 h) := by
  unfold Str_isLatin1
  refine V_gscs (pc := 0) (DCa dc_Str_isLatin1_0 0 rfl) (tb1 166 rfl rfl) ?_
  refine Q_lt (fun x1 => ?_)
  refine V_if_eq (tgt := 17) (pc := 3) (DCa dc_Str_isLatin1_0 1 rfl) (by decide) (fun _ => ?_) (fun _ => ?_)
  · refine V_iconst (pc := 17) (DCa dc_Str_isLatin1_0 7 rfl) (by decide) ?_
    exact V_zreturn (pc := 18) (DCa dc_Str_isLatin1_0 8 rfl) rfl
  · refine V_aload_n (pc := 6) (DCa dc_Str_isLatin1_0 2 rfl) rfl 0 rfl ?_
    refine Q_gsc (pc := 7) (DCa dc_Str_isLatin1_0 3 rfl) (tb9 73 rfl rfl) (fun v2 => ?_)
    refine V_if_ne (tgt := 17) (pc := 10) (DCa dc_Str_isLatin1_0 4 rfl) (by decide) (fun _ => ?_) (fun _ => ?_)
    · refine V_iconst (pc := 13) (DCa dc_Str_isLatin1_0 5 rfl) (by decide) ?_
      refine V_goto (tgt := 18) (pc := 14) (DCa dc_Str_isLatin1_0 6 rfl) (by decide) ?_
      exact V_zreturn (pc := 18) (DCa dc_Str_isLatin1_0 8 rfl) rfl
    · refine V_iconst (pc := 17) (DCa dc_Str_isLatin1_0 7 rfl) (by decide) ?_
      exact V_zreturn (pc := 18) (DCa dc_Str_isLatin1_0 8 rfl) rfl
theorem sp_Str_isLatin1 (F : Nat) (l0 : Int) (h : Hp) : Sp yJ0_isLatin1_aae02 cJ0_isLatin1_aae02 1 (some (.boolean)) 1 40 [(2, l0)] h (Str_isLatin1 F l0 h) := Sp_of (by decide +kernel) rfl rfl (Nat.le_of_ble_eq_true rfl) (v_Str_isLatin1 F l0 h)

-- jdk/internal/util/Preconditions.checkIndex
def Prec_checkIndex_B9 (F : Nat)  (l0 l1 l2 : Int) (h : Hp) : Option (Int × Hp) :=
  none
def Prec_checkIndex (F : Nat) (l0 l1 l2 : Int) (h : Hp) : Option (Int × Hp) :=
  if l0 < 0 then
    (Prec_checkIndex_B9 F l0 l1 l2 h)
  else
    (if l0 < l1 then
      (some (l0, h))
    else
      (Prec_checkIndex_B9 F l0 l1 l2 h))

theorem dc_Prec_checkIndex_0 : ∀ q ∈ ([(0, .iload_n 0, 1), (1, .ifCond .lt 8, 3), (4, .iload_n 0, 1), (5, .iload_n 1, 1), (6, .if_icmp .lt 10, 3), (9, .aload_n 2, 1), (10, .iload_n 0, 1), (11, .iload_n 1, 1), (12, .invokestatic 95, 3), (15, .athrow, 1), (16, .iload_n 0, 1), (17, .ireturn, 1)] : List (Nat × Instr × Nat)), decode cJ3_checkIndex_8e157 q.1 = .ok (q.2.1, q.2.2) := by decide +kernel
abbrev X_Prec_checkIndex : MX := (cJ3_checkIndex_8e157, RJ3, "checkIndex", 3, (some (.int)), 1, 40)
theorem v_Prec_checkIndex_B9 (F : Nat)  (l0 l1 l2 : Int) (h : Hp) : V X_Prec_checkIndex 9 [(0, 0, l0), (1, 0, l1), (2, 2, l2)] [] h (Prec_checkIndex_B9 F  l0 l1 l2 h) := by
  unfold Prec_checkIndex_B9
  exact V_none
theorem v_Prec_checkIndex (F : Nat) (l0 l1 l2 : Int) (h : Hp) : V X_Prec_checkIndex 0 [(0, 0, l0), (1, 0, l1), (2, 2, l2)] [] h (Prec_checkIndex F l0 l1 l2 h) := by
  unfold Prec_checkIndex
  refine V_iload_n (pc := 0) (DCa dc_Prec_checkIndex_0 0 rfl) rfl 0 rfl ?_
  refine V_if_lt (tgt := 9) (pc := 1) (DCa dc_Prec_checkIndex_0 1 rfl) (by decide) (fun _ => ?_) (fun _ => ?_)
  · exact v_Prec_checkIndex_B9 F _ _ _ _
  · refine V_iload_n (pc := 4) (DCa dc_Prec_checkIndex_0 2 rfl) rfl 0 rfl ?_
    refine V_iload_n (pc := 5) (DCa dc_Prec_checkIndex_0 3 rfl) rfl 1 rfl ?_
    refine V_icmp_lt (tgt := 16) (pc := 6) (DCa dc_Prec_checkIndex_0 4 rfl) (by decide) (fun _ => ?_) (fun _ => ?_)
    · refine V_iload_n (pc := 16) (DCa dc_Prec_checkIndex_0 10 rfl) rfl 0 rfl ?_
      exact V_ireturn (pc := 17) (DCa dc_Prec_checkIndex_0 11 rfl) rfl
    · exact v_Prec_checkIndex_B9 F _ _ _ _
theorem sp_Prec_checkIndex (F : Nat) (l0 l1 l2 : Int) (h : Hp) : Sp yJ3_checkIndex_8e157 cJ3_checkIndex_8e157 3 (some (.int)) 1 40 [(0, l0), (0, l1), (2, l2)] h (Prec_checkIndex F l0 l1 l2 h) := Sp_of (by decide +kernel) rfl rfl (Nat.le_of_ble_eq_true rfl) (v_Prec_checkIndex F l0 l1 l2 h)

-- java/lang/String.checkIndex
def Str_checkIndex (F : Nat) (l0 l1 : Int) (h : Hp) : Option (Int × Hp) :=
  cl (Prec_checkIndex F l0 l1 (-6) h) fun r1 h2 =>
  some (0, h2)

theorem dc_Str_checkIndex_0 : ∀ q ∈ ([(0, .iload_n 0, 1), (1, .iload_n 1, 1), (2, .getstatic 1053, 3), (5, .invokestatic 1059, 3), (8, .pop, 1), (9, .return_, 1)] : List (Nat × Instr × Nat)), decode cJ0_checkIndex_df160 q.1 = .ok (q.2.1, q.2.2) := by decide +kernel
abbrev X_Str_checkIndex : MX := (cJ0_checkIndex_df160, RJ0, "checkIndex", 2, none, 2, 62)
theorem v_Str_checkIndex (F : Nat) (l0 l1 : Int) (h : Hp) : V X_Str_checkIndex 0 [(0, 0, l0), (1, 0, l1)] [] h (Str_checkIndex F l0 l1 h) := by
  unfold Str_checkIndex
  refine V_iload_n (pc := 0) (DCa dc_Str_checkIndex_0 0 rfl) rfl 0 rfl ?_
  refine V_iload_n (pc := 1) (DCa dc_Str_checkIndex_0 1 rfl) rfl 1 rfl ?_
  refine V_gssf (pc := 2) (DCa dc_Str_checkIndex_0 2 rfl) (tb1 182 rfl rfl) ?_
  refine Q_calls (st := []) (pc := 5) (DCa dc_Str_checkIndex_0 3 rfl) (sp_Prec_checkIndex F _ _ _ _) ce_Prec_checkIndex (tb1 184 rfl rfl) rfl ⟨Nat.le_of_ble_eq_true rfl, Nat.le_of_ble_eq_true rfl⟩ rfl (Nat.le_of_ble_eq_true rfl) (fun r1 h2 => ?_)
  refine V_pop (pc := 8) (DCa dc_Str_checkIndex_0 4 rfl) rfl ?_
  exact V_return (pc := 9) (DCa dc_Str_checkIndex_0 5 rfl) rfl
theorem sp_Str_checkIndex (F : Nat) (l0 l1 : Int) (h : Hp) : Sp yJ0_checkIndex_df160 cJ0_checkIndex_df160 2 none 2 62 [(0, l0), (0, l1)] h (Str_checkIndex F l0 l1 h) := Sp_of (by decide +kernel) rfl rfl (Nat.le_of_ble_eq_true rfl) (v_Str_checkIndex F l0 l1 h)

-- java/lang/StringLatin1.charAt
def Lat_charAt (F : Nat) (l0 l1 : Int) (h : Hp) : Option (Int × Hp) :=
  sln l0 fun v1 =>
  cl (Str_checkIndex F l1 v1 h) fun r2 h3 =>
  sal l0 l1 fun v4 =>
  rc (i2c (iand v4 255)) h3

theorem dc_Lat_charAt_0 : ∀ q ∈ ([(0, .iload_n 1, 1), (1, .aload_n 0, 1), (2, .arraylength, 1), (3, .invokestatic 9, 3), (6, .aload_n 0, 1), (7, .iload_n 1, 1), (8, .baload, 1), (9, .sipush 255, 3), (12, .iand, 1), (13, .i2c, 1), (14, .ireturn, 1)] : List (Nat × Instr × Nat)), decode cJ1_charAt_3b067 q.1 = .ok (q.2.1, q.2.2) := by decide +kernel
abbrev X_Lat_charAt : MX := (cJ1_charAt_3b067, RJ1, "charAt", 2, (some (.char)), 3, 83)
theorem v_Lat_charAt (F : Nat) (l0 l1 : Int) (h : Hp) : V X_Lat_charAt 0 [(0, 2, l0), (1, 0, l1)] [] h (Lat_charAt F l0 l1 h) := by
  unfold Lat_charAt
  refine V_iload_n (pc := 0) (DCa dc_Lat_charAt_0 0 rfl) rfl 1 rfl ?_
  refine V_aload_n (pc := 1) (DCa dc_Lat_charAt_0 1 rfl) rfl 0 rfl ?_
  refine Q_sln (pc := 2) (DCa dc_Lat_charAt_0 2 rfl) (fun v1 => ?_)
  refine Q_calls (st := []) (pc := 3) (DCa dc_Lat_charAt_0 3 rfl) (sp_Str_checkIndex F _ _ _) ce_Str_checkIndex (tb1 179 rfl rfl) rfl ⟨Nat.le_of_ble_eq_true rfl, Nat.le_of_ble_eq_true rfl⟩ rfl (Nat.le_of_ble_eq_true rfl) (fun r2 h3 => ?_)
  refine V_aload_n (pc := 6) (DCa dc_Lat_charAt_0 4 rfl) rfl 0 rfl ?_
  refine V_iload_n (pc := 7) (DCa dc_Lat_charAt_0 5 rfl) rfl 1 rfl ?_
  refine Q_sal (pc := 8) (DCa dc_Lat_charAt_0 6 rfl) (fun v4 => ?_)
  refine V_sipush (pc := 9) (DCa dc_Lat_charAt_0 7 rfl) (by decide) ?_
  refine V_iand (pc := 12) (DCa dc_Lat_charAt_0 8 rfl) ?_
  refine V_i2c (pc := 13) (DCa dc_Lat_charAt_0 9 rfl) ?_
  exact V_creturn (pc := 14) (DCa dc_Lat_charAt_0 10 rfl) rfl
theorem sp_Lat_charAt (F : Nat) (l0 l1 : Int) (h : Hp) : Sp yJ1_charAt_3b067 cJ1_charAt_3b067 2 (some (.char)) 3 83 [(2, l0), (0, l1)] h (Lat_charAt F l0 l1 h) := Sp_of (by decide +kernel) rfl rfl (Nat.le_of_ble_eq_true rfl) (v_Lat_charAt F l0 l1 h)

-- java/lang/String.charAt
def Str_charAt (F : Nat) (l0 l1 : Int) (h : Hp) : Option (Int × Hp) :=
  ivs l0 (Str_isLatin1 F l0 h) fun r1 h2 =>
  if r1 = 0 then
    (none)
  else
    (gsv l0 fun v3 =>
    cl (Lat_charAt F v3 l1 h2) fun r4 h5 =>
    rc r4 h5)

theorem dc_Str_charAt_0 : ∀ q ∈ ([(0, .aload_n 0, 1), (1, .invokevirtual 492, 3), (4, .ifCond .eq 12, 3), (7, .aload_n 0, 1), (8, .getfield 9, 3), (11, .iload_n 1, 1), (12, .invokestatic 495, 3), (15, .ireturn, 1), (16, .aload_n 0, 1), (17, .getfield 9, 3), (20, .iload_n 1, 1), (21, .invokestatic 498, 3), (24, .ireturn, 1)] : List (Nat × Instr × Nat)), decode cJ0_charAt_5068e q.1 = .ok (q.2.1, q.2.2) := by decide +kernel
abbrev X_Str_charAt : MX := (cJ0_charAt_5068e, RJ0, "charAt", 2, (some (.char)), 4, 104)
theorem v_Str_charAt (F : Nat) (l0 l1 : Int) (h : Hp) : V X_Str_charAt 0 [(0, 2, l0), (1, 0, l1)] [] h (Str_charAt F l0 l1 h) := by
  unfold Str_charAt
  refine V_aload_n (pc := 0) (DCa dc_Str_charAt_0 0 rfl) rfl 0 rfl ?_
  refine Q_callt (st := []) (pc := 1) (DCa dc_Str_charAt_0 1 rfl) (sp_Str_isLatin1 F _ _) ce_Str_isLatin1 (tb1 172 rfl rfl) rfl ⟨Nat.le_of_ble_eq_true rfl, Nat.le_of_ble_eq_true rfl⟩ rfl (Nat.le_of_ble_eq_true rfl) (fun r1 h2 => ?_)
  refine V_if_eq (tgt := 16) (pc := 4) (DCa dc_Str_charAt_0 2 rfl) (by decide) (fun _ => ?_) (fun _ => ?_)
  · exact V_none
  · refine V_aload_n (pc := 7) (DCa dc_Str_charAt_0 3 rfl) rfl 0 rfl ?_
    refine Q_gsv (pc := 8) (DCa dc_Str_charAt_0 4 rfl) (tb9 72 rfl rfl) (fun v3 => ?_)
    refine V_iload_n (pc := 11) (DCa dc_Str_charAt_0 5 rfl) rfl 1 rfl ?_
    refine Q_calls (st := []) (pc := 12) (DCa dc_Str_charAt_0 6 rfl) (sp_Lat_charAt F _ _ _) ce_Lat_charAt (tb1 176 rfl rfl) rfl ⟨Nat.le_of_ble_eq_true rfl, Nat.le_of_ble_eq_true rfl⟩ rfl (Nat.le_of_ble_eq_true rfl) (fun r4 h5 => ?_)
    exact V_creturn (pc := 15) (DCa dc_Str_charAt_0 7 rfl) rfl
theorem sp_Str_charAt (F : Nat) (l0 l1 : Int) (h : Hp) : Sp yJ0_charAt_5068e cJ0_charAt_5068e 2 (some (.char)) 4 104 [(2, l0), (0, l1)] h (Str_charAt F l0 l1 h) := Sp_of (by decide +kernel) rfl rfl (Nat.le_of_ble_eq_true rfl) (v_Str_charAt F l0 l1 h)

-- java/lang/String.coder
def Str_coder (F : Nat) (l0 : Int) (h : Hp) : Option (Int × Hp) :=
  lt 1 fun x1 =>
  if x1 = 0 then
    (if 1 = 0 ∨ 1 = 1 then some (1, h) else none)
  else
    (gsc l0 fun v2 =>
    if v2 = 0 ∨ v2 = 1 then some (v2, h) else none)

theorem dc_Str_coder_0 : ∀ q ∈ ([(0, .getstatic 38, 3), (3, .ifCond .eq 10, 3), (6, .aload_n 0, 1), (7, .getfield 15, 3), (10, .goto 4, 3), (13, .iconst 1, 1), (14, .ireturn, 1)] : List (Nat × Instr × Nat)), decode cJ0_coder_7d493 q.1 = .ok (q.2.1, q.2.2) := by decide +kernel
abbrev X_Str_coder : MX := (cJ0_coder_7d493, RJ0, "coder", 1, (some (.byte)), 1, 40)
theorem v_Str_coder (F : Nat) (l0 : Int) (h : Hp) : V X_Str_coder 0 [(0, 2, l0)] [] h (Str_coder F l0 h) := by
  unfold Str_coder
  refine V_gscs (pc := 0) (DCa dc_Str_coder_0 0 rfl) (tb1 166 rfl rfl) ?_
  refine Q_lt (fun x1 => ?_)
  refine V_if_eq (tgt := 13) (pc := 3) (DCa dc_Str_coder_0 1 rfl) (by decide) (fun _ => ?_) (fun _ => ?_)
  · refine V_iconst (pc := 13) (DCa dc_Str_coder_0 5 rfl) (by decide) ?_
    exact V_breturn (pc := 14) (DCa dc_Str_coder_0 6 rfl) rfl
  · refine V_aload_n (pc := 6) (DCa dc_Str_coder_0 2 rfl) rfl 0 rfl ?_
    refine Q_gsc (pc := 7) (DCa dc_Str_coder_0 3 rfl) (tb9 73 rfl rfl) (fun v2 => ?_)
    refine V_goto (tgt := 14) (pc := 10) (DCa dc_Str_coder_0 4 rfl) (by decide) ?_
    exact V_breturn (pc := 14) (DCa dc_Str_coder_0 6 rfl) rfl
theorem sp_Str_coder (F : Nat) (l0 : Int) (h : Hp) : Sp yJ0_coder_7d493 cJ0_coder_7d493 1 (some (.byte)) 1 40 [(2, l0)] h (Str_coder F l0 h) := Sp_of (by decide +kernel) rfl rfl (Nat.le_of_ble_eq_true rfl) (v_Str_coder F l0 h)

-- java/lang/String.length
def Str_length (F : Nat) (l0 : Int) (h : Hp) : Option (Int × Hp) :=
  gsv l0 fun v1 =>
  sln v1 fun v2 =>
  ivs l0 (Str_coder F l0 h) fun r3 h4 =>
  some (ishr v2 r3, h4)

theorem dc_Str_length_0 : ∀ q ∈ ([(0, .aload_n 0, 1), (1, .getfield 9, 3), (4, .arraylength, 1), (5, .aload_n 0, 1), (6, .invokevirtual 335, 3), (9, .ishr, 1), (10, .ireturn, 1)] : List (Nat × Instr × Nat)), decode cJ0_length_8abf5 q.1 = .ok (q.2.1, q.2.2) := by decide +kernel
abbrev X_Str_length : MX := (cJ0_length_8abf5, RJ0, "length", 1, (some (.int)), 2, 60)
theorem v_Str_length (F : Nat) (l0 : Int) (h : Hp) : V X_Str_length 0 [(0, 2, l0)] [] h (Str_length F l0 h) := by
  unfold Str_length
  refine V_aload_n (pc := 0) (DCa dc_Str_length_0 0 rfl) rfl 0 rfl ?_
  refine Q_gsv (pc := 1) (DCa dc_Str_length_0 1 rfl) (tb9 72 rfl rfl) (fun v1 => ?_)
  refine Q_sln (pc := 4) (DCa dc_Str_length_0 2 rfl) (fun v2 => ?_)
  refine V_aload_n (pc := 5) (DCa dc_Str_length_0 3 rfl) rfl 0 rfl ?_
  refine Q_callt (st := [(0, v2)]) (pc := 6) (DCa dc_Str_length_0 4 rfl) (sp_Str_coder F _ _) ce_Str_coder (tb1 162 rfl rfl) rfl ⟨Nat.le_of_ble_eq_true rfl, Nat.le_of_ble_eq_true rfl⟩ rfl (Nat.le_of_ble_eq_true rfl) (fun r3 h4 => ?_)
  refine V_ishr (pc := 9) (DCa dc_Str_length_0 5 rfl) ?_
  exact V_ireturn (pc := 10) (DCa dc_Str_length_0 6 rfl) rfl
theorem sp_Str_length (F : Nat) (l0 : Int) (h : Hp) : Sp yJ0_length_8abf5 cJ0_length_8abf5 1 (some (.int)) 2 60 [(2, l0)] h (Str_length F l0 h) := Sp_of (by decide +kernel) rfl rfl (Nat.le_of_ble_eq_true rfl) (v_Str_length F l0 h)

-- TideRakes$Reader.<init>
def Read_init_L62s (F : Nat)  (R62 : Int → Int → Int → Hp → Option (Int × Hp)) (l0 l1 l2 : Int) (h : Hp) : Option (Int × Hp) :=
  ivs (-2) (Str_length F (-2) h) fun r21 h22 =>
  if l2 < r21 then
    (ivs (-2) (Str_charAt F (-2) l2 h22) fun r23 h24 =>
    if r23 = 32 then
      (R62 l0 (w32 (l1 + 1)) (w32 (l2 + 1)) h24)
    else
      (if l1 < 18 then
        (gf h24 l0 103 0 fun v25 =>
        gf h24 l0 103 0 fun v26 =>
        al h24 v26 3 l1 fun v27 =>
        cl (Read_withLetter F v27 r23 h24) fun r28 h29 =>
        as h29 v25 3 l1 r28 fun h30 =>
        R62 l0 l1 (w32 (l2 + 1)) h30)
      else
        (R62 l0 l1 (w32 (l2 + 1)) h24)))
  else
    (some (0, h22))
def Read_init_L62 (F : Nat)  : Nat → Int → Int → Int → Hp → Option (Int × Hp)
  | 0 => fun _ _ _ _ => none
  | n + 1 => Read_init_L62s F  (Read_init_L62 F  n)
def Read_init (F : Nat) (l0 : Int) (h : Hp) : Option (Int × Hp) :=
  vc h l0 103 <|
  na h 3 18 fun v1 h2 =>
  pf h2 l0 103 0 v1 fun h3 =>
  na h3 0 402 fun v4 h5 =>
  pf h5 l0 103 1 v4 fun h6 =>
  na h6 3 402 fun v7 h8 =>
  pf h8 l0 103 2 v7 fun h9 =>
  na h9 0 402 fun v10 h11 =>
  pf h11 l0 103 3 v10 fun h12 =>
  na h12 3 11 fun v13 h14 =>
  pf h14 l0 103 4 v13 fun h15 =>
  no h15 106 15 fun v16 h17 =>
  iv h17 v16 106 (Scri_init F v16 h17) fun r18 h19 =>
  pf h19 l0 103 5 v16 fun h20 =>
  Read_init_L62 F F l0 0 0 h20

theorem dc_Read_init_0 : ∀ q ∈ ([(0, .aload_n 0, 1), (1, .invokespecial 3, 3), (4, .aload_n 0, 1), (5, .bipush 18, 2), (7, .newarray .long, 2), (9, .putfield 11, 3), (12, .aload_n 0, 1), (13, .sipush 402, 3), (16, .newarray .int, 2), (18, .putfield 15, 3), (21, .aload_n 0, 1), (22, .sipush 402, 3), (25, .newarray .long, 2), (27, .putfield 19, 3), (30, .aload_n 0, 1), (31, .sipush 402, 3), (34, .newarray .int, 2), (36, .putfield 22, 3), (39, .aload_n 0, 1), (40, .bipush 11, 2), (42, .newarray .long, 2), (44, .putfield 25, 3), (47, .aload_n 0, 1), (48, .new 28, 3), (51, .dup, 1), (52, .invokespecial 30, 3), (55, .putfield 31, 3), (58, .iconst 0, 1), (59, .istore_n 1, 1), (60, .iconst 0, 1), (61, .istore_n 2, 1), (62, .iload_n 2, 1), (63, .ldc 35, 2), (65, .invokevirtual 37, 3), (68, .if_icmp .ge 50, 3), (71, .ldc 35, 2), (73, .iload_n 2, 1), (74, .invokevirtual 43, 3), (77, .istore_n 3, 1), (78, .iload_n 3, 1), (79, .bipush 32, 2), (81, .if_icmp .ne 9, 3), (84, .iinc 1 1, 3), (87, .goto 25, 3), (90, .iload_n 1, 1), (91, .bipush 18, 2), (93, .if_icmp .ge 19, 3), (96, .aload_n 0, 1), (97, .getfield 11, 3), (100, .iload_n 1, 1)] : List (Nat × Instr × Nat)), decode cX3_init q.1 = .ok (q.2.1, q.2.2) := by decide +kernel
theorem dc_Read_init_1 : ∀ q ∈ ([(101, .aload_n 0, 1), (102, .getfield 11, 3), (105, .iload_n 1, 1), (106, .laload, 1), (107, .iload_n 3, 1), (108, .invokestatic 47, 3), (111, .lastore, 1), (112, .iinc 2 1, 3), (115, .goto (-53), 3), (118, .return_, 1)] : List (Nat × Instr × Nat)), decode cX3_init q.1 = .ok (q.2.1, q.2.2) := by decide +kernel
abbrev X_Read_init : MX := (cX3_init, RX3, "<init>", 4, none, 5, 125)
theorem v_Read_init_L62s (F : Nat)  (R62 : Int → Int → Int → Hp → Option (Int × Hp)) (hR62 : ∀ (l0 l1 l2 : Int) (h : Hp), V X_Read_init 62 [(0, 2, l0), (1, 0, l1), (2, 0, l2)] [] h (R62 l0 l1 l2 h)) (l0 l1 l2 : Int) (h : Hp) : V X_Read_init 62 [(0, 2, l0), (1, 0, l1), (2, 0, l2)] [] h (Read_init_L62s F  R62 l0 l1 l2 h) := by
  unfold Read_init_L62s
  refine V_iload_n (pc := 62) (DCa dc_Read_init_0 31 rfl) rfl 2 rfl ?_
  refine V_ldcS (b := -2) (by decide) (pc := 63) (DCa dc_Read_init_0 32 rfl) rfl ?_
  refine Q_callt (st := [(0, l2)]) (pc := 65) (DCa dc_Read_init_0 33 rfl) (sp_Str_length F _ _) ce_Str_length (tb1 158 rfl rfl) rfl ⟨Nat.le_of_ble_eq_true rfl, Nat.le_of_ble_eq_true rfl⟩ rfl (Nat.le_of_ble_eq_true rfl) (fun r21 h22 => ?_)
  refine V_icmp_ge (tgt := 118) (pc := 68) (DCa dc_Read_init_0 34 rfl) (by decide) (fun _ => ?_) (fun _ => ?_)
  · refine V_ldcS (b := -2) (by decide) (pc := 71) (DCa dc_Read_init_0 35 rfl) rfl ?_
    refine V_iload_n (pc := 73) (DCa dc_Read_init_0 36 rfl) rfl 2 rfl ?_
    refine Q_callt (st := []) (pc := 74) (DCa dc_Read_init_0 37 rfl) (sp_Str_charAt F _ _ _) ce_Str_charAt (tb1 168 rfl rfl) rfl ⟨Nat.le_of_ble_eq_true rfl, Nat.le_of_ble_eq_true rfl⟩ rfl (Nat.le_of_ble_eq_true rfl) (fun r23 h24 => ?_)
    refine V_istore_n (ls' := [(0, 2, l0), (1, 0, l1), (2, 0, l2), (3, 0, r23)]) (pc := 77) (DCa dc_Read_init_0 38 rfl) rfl (Nat.le_of_ble_eq_true rfl) rfl ?_
    refine V_iload_n (pc := 78) (DCa dc_Read_init_0 39 rfl) rfl 3 rfl ?_
    refine V_bipush (pc := 79) (DCa dc_Read_init_0 40 rfl) (by decide) ?_
    refine V_icmp_ne (tgt := 90) (pc := 81) (DCa dc_Read_init_0 41 rfl) (by decide) (fun _ => ?_) (fun _ => ?_)
    · refine V_iinc (ls' := [(0, 2, l0), (1, 0, w32 (l1 + 1)), (2, 0, l2), (3, 0, r23)]) (pc := 84) (DCa dc_Read_init_0 42 rfl) (Nat.le_of_ble_eq_true rfl) (by decide) 1 rfl rfl ?_
      refine V_goto (tgt := 112) (pc := 87) (DCa dc_Read_init_0 43 rfl) (by decide) ?_
      refine V_iinc (ls' := [(0, 2, l0), (1, 0, w32 (l1 + 1)), (2, 0, w32 (l2 + 1)), (3, 0, r23)]) (pc := 112) (DCa dc_Read_init_1 7 rfl) (Nat.le_of_ble_eq_true rfl) (by decide) 2 rfl rfl ?_
      refine V_goto (tgt := 62) (pc := 115) (DCa dc_Read_init_1 8 rfl) (by decide) ?_
      refine V_pick [0, 1, 2] rfl ?_
      exact hR62 _ _ _ _
    · refine V_iload_n (pc := 90) (DCa dc_Read_init_0 44 rfl) rfl 1 rfl ?_
      refine V_bipush (pc := 91) (DCa dc_Read_init_0 45 rfl) (by decide) ?_
      refine V_icmp_ge (tgt := 112) (pc := 93) (DCa dc_Read_init_0 46 rfl) (by decide) (fun _ => ?_) (fun _ => ?_)
      · refine V_aload_n (pc := 96) (DCa dc_Read_init_0 47 rfl) rfl 0 rfl ?_
        refine Q_getf (k := 0) (pc := 97) (DCa dc_Read_init_0 48 rfl) cls_3 (Nat.le_of_ble_eq_true rfl) fl_3_11 rfl rfl rfl (fun v25 => ?_)
        refine V_iload_n (pc := 100) (DCa dc_Read_init_0 49 rfl) rfl 1 rfl ?_
        refine V_aload_n (pc := 101) (DCa dc_Read_init_1 0 rfl) rfl 0 rfl ?_
        refine Q_getf (k := 0) (pc := 102) (DCa dc_Read_init_1 1 rfl) cls_3 (Nat.le_of_ble_eq_true rfl) fl_3_11 rfl rfl rfl (fun v26 => ?_)
        refine V_iload_n (pc := 105) (DCa dc_Read_init_1 2 rfl) rfl 1 rfl ?_
        refine Q_laload (pc := 106) (DCa dc_Read_init_1 3 rfl) (fun v27 => ?_)
        refine V_iload_n (pc := 107) (DCa dc_Read_init_1 4 rfl) rfl 3 rfl ?_
        refine Q_calls (st := [(0, l1), (2, v25)]) (pc := 108) (DCa dc_Read_init_1 5 rfl) (sp_Read_withLetter F _ _ _) ce_Read_withLetter ml_3_47 rfl ⟨Nat.le_of_ble_eq_true rfl, Nat.le_of_ble_eq_true rfl⟩ rfl (Nat.le_of_ble_eq_true rfl) (fun r28 h29 => ?_)
        refine Q_lastore (pc := 111) (DCa dc_Read_init_1 6 rfl) (fun h30 => ?_)
        refine V_iinc (ls' := [(0, 2, l0), (1, 0, l1), (2, 0, w32 (l2 + 1)), (3, 0, r23)]) (pc := 112) (DCa dc_Read_init_1 7 rfl) (Nat.le_of_ble_eq_true rfl) (by decide) 2 rfl rfl ?_
        refine V_goto (tgt := 62) (pc := 115) (DCa dc_Read_init_1 8 rfl) (by decide) ?_
        refine V_pick [0, 1, 2] rfl ?_
        exact hR62 _ _ _ _
      · refine V_iinc (ls' := [(0, 2, l0), (1, 0, l1), (2, 0, w32 (l2 + 1)), (3, 0, r23)]) (pc := 112) (DCa dc_Read_init_1 7 rfl) (Nat.le_of_ble_eq_true rfl) (by decide) 2 rfl rfl ?_
        refine V_goto (tgt := 62) (pc := 115) (DCa dc_Read_init_1 8 rfl) (by decide) ?_
        refine V_pick [0, 1, 2] rfl ?_
        exact hR62 _ _ _ _
  · exact V_return (pc := 118) (DCa dc_Read_init_1 9 rfl) rfl
theorem v_Read_init_L62 (F : Nat)  (n : Nat) : ∀ (l0 l1 l2 : Int) (h : Hp), V X_Read_init 62 [(0, 2, l0), (1, 0, l1), (2, 0, l2)] [] h (Read_init_L62 F  n l0 l1 l2 h) := by
  induction n with
  | zero => intros; exact V_none
  | succ n ih => exact fun l0 l1 l2 h => v_Read_init_L62s F  _ ih l0 l1 l2 h
theorem v_Read_init (F : Nat) (l0 : Int) (h : Hp) : V X_Read_init 0 [(0, 2, l0)] [] h (Read_init F l0 h) := by
  unfold Read_init
  refine V_aload_n (pc := 0) (DCa dc_Read_init_0 0 rfl) rfl 0 rfl ?_
  refine Q_objinit (pc := 1) (DCa dc_Read_init_0 1 rfl) (tb1 36 rfl rfl) oi_i oi_c ⟨Nat.le_of_ble_eq_true rfl, Nat.le_of_ble_eq_true rfl⟩ ?_
  refine V_aload_n (pc := 4) (DCa dc_Read_init_0 2 rfl) rfl 0 rfl ?_
  refine V_bipush (pc := 5) (DCa dc_Read_init_0 3 rfl) (by decide) ?_
  refine Q_newa (pc := 7) (DCa dc_Read_init_0 4 rfl) nas_3 (fun v1 h2 => ?_)
  refine Q_putf (k := 0) (pc := 9) (DCa dc_Read_init_0 5 rfl) cls_3 (Nat.le_of_ble_eq_true rfl) fl_3_11 rfl rfl rfl (Or.inr ⟨rfl, rfl, rfl⟩) (Or.inr ⟨Or.inr ⟨_, rfl⟩, rfl⟩) (fun h3 => ?_)
  refine V_aload_n (pc := 12) (DCa dc_Read_init_0 6 rfl) rfl 0 rfl ?_
  refine V_sipush (pc := 13) (DCa dc_Read_init_0 7 rfl) (by decide) ?_
  refine Q_newa (pc := 16) (DCa dc_Read_init_0 8 rfl) nas_0 (fun v4 h5 => ?_)
  refine Q_putf (k := 1) (pc := 18) (DCa dc_Read_init_0 9 rfl) cls_3 (Nat.le_of_ble_eq_true rfl) fl_3_15 rfl rfl rfl (Or.inr ⟨rfl, rfl, rfl⟩) (Or.inr ⟨Or.inr ⟨_, rfl⟩, rfl⟩) (fun h6 => ?_)
  refine V_aload_n (pc := 21) (DCa dc_Read_init_0 10 rfl) rfl 0 rfl ?_
  refine V_sipush (pc := 22) (DCa dc_Read_init_0 11 rfl) (by decide) ?_
  refine Q_newa (pc := 25) (DCa dc_Read_init_0 12 rfl) nas_3 (fun v7 h8 => ?_)
  refine Q_putf (k := 2) (pc := 27) (DCa dc_Read_init_0 13 rfl) cls_3 (Nat.le_of_ble_eq_true rfl) fl_3_19 rfl rfl rfl (Or.inr ⟨rfl, rfl, rfl⟩) (Or.inr ⟨Or.inr ⟨_, rfl⟩, rfl⟩) (fun h9 => ?_)
  refine V_aload_n (pc := 30) (DCa dc_Read_init_0 14 rfl) rfl 0 rfl ?_
  refine V_sipush (pc := 31) (DCa dc_Read_init_0 15 rfl) (by decide) ?_
  refine Q_newa (pc := 34) (DCa dc_Read_init_0 16 rfl) nas_0 (fun v10 h11 => ?_)
  refine Q_putf (k := 3) (pc := 36) (DCa dc_Read_init_0 17 rfl) cls_3 (Nat.le_of_ble_eq_true rfl) fl_3_22 rfl rfl rfl (Or.inr ⟨rfl, rfl, rfl⟩) (Or.inr ⟨Or.inr ⟨_, rfl⟩, rfl⟩) (fun h12 => ?_)
  refine V_aload_n (pc := 39) (DCa dc_Read_init_0 18 rfl) rfl 0 rfl ?_
  refine V_bipush (pc := 40) (DCa dc_Read_init_0 19 rfl) (by decide) ?_
  refine Q_newa (pc := 42) (DCa dc_Read_init_0 20 rfl) nas_3 (fun v13 h14 => ?_)
  refine Q_putf (k := 4) (pc := 44) (DCa dc_Read_init_0 21 rfl) cls_3 (Nat.le_of_ble_eq_true rfl) fl_3_25 rfl rfl rfl (Or.inr ⟨rfl, rfl, rfl⟩) (Or.inr ⟨Or.inr ⟨_, rfl⟩, rfl⟩) (fun h15 => ?_)
  refine V_aload_n (pc := 47) (DCa dc_Read_init_0 22 rfl) rfl 0 rfl ?_
  refine Q_new (pc := 48) (DCa dc_Read_init_0 23 rfl) cls_6 (tb1 37 rfl rfl) rfl rfl (fun v16 h17 => ?_)
  refine V_dup (pc := 51) (DCa dc_Read_init_0 24 rfl) rfl ?_
  refine Q_calliN (ci := 6) (host := "TideRakes") (st := [(2, v16), (2, l0)]) (pc := 52) (DCa dc_Read_init_0 25 rfl) (sp_Scri_init F _ _) ce_Scri_init (by decide +kernel) rfl rfl ⟨Nat.le_of_ble_eq_true rfl, Nat.le_of_ble_eq_true rfl⟩ rfl (Nat.le_of_ble_eq_true rfl) (fun r18 h19 => ?_)
  refine Q_putf (k := 5) (pc := 55) (DCa dc_Read_init_0 26 rfl) cls_3 (Nat.le_of_ble_eq_true rfl) fl_3_31 rfl rfl rfl (Or.inl rfl) (Or.inr ⟨Or.inl ⟨_, rfl⟩, rfl⟩) (fun h20 => ?_)
  refine V_iconst (pc := 58) (DCa dc_Read_init_0 27 rfl) (by decide) ?_
  refine V_istore_n (ls' := [(0, 2, l0), (1, 0, 0)]) (pc := 59) (DCa dc_Read_init_0 28 rfl) rfl (Nat.le_of_ble_eq_true rfl) rfl ?_
  refine V_iconst (pc := 60) (DCa dc_Read_init_0 29 rfl) (by decide) ?_
  refine V_istore_n (ls' := [(0, 2, l0), (1, 0, 0), (2, 0, 0)]) (pc := 61) (DCa dc_Read_init_0 30 rfl) rfl (Nat.le_of_ble_eq_true rfl) rfl ?_
  exact v_Read_init_L62 F F _ _ _ _
theorem sp_Read_init (F : Nat) (l0 : Int) (h : Hp) : Sp yX3_init cX3_init 4 none 5 125 [(2, l0)] h (Read_init F l0 h) := Sp_of (by decide +kernel) rfl rfl (Nat.le_of_ble_eq_true rfl) (v_Read_init F l0 h)

-- java/lang/StringLatin1.canEncode
def Lat_canEncode (F : Nat) (l0 : Int) (h : Hp) : Option (Int × Hp) :=
  if l0 < 0 then
    (rz 0 h)
  else
    (if 255 < l0 then
      (rz 0 h)
    else
      (rz 1 h))

theorem dc_Lat_canEncode_0 : ∀ q ∈ ([(0, .iload_n 0, 1), (1, .ifCond .lt 14, 3), (4, .iload_n 0, 1), (5, .sipush 255, 3), (8, .if_icmp .gt 7, 3), (11, .iconst 1, 1), (12, .goto 4, 3), (15, .iconst 0, 1), (16, .ireturn, 1)] : List (Nat × Instr × Nat)), decode cJ1_canEncode_9a6ad q.1 = .ok (q.2.1, q.2.2) := by decide +kernel
abbrev X_Lat_canEncode : MX := (cJ1_canEncode_9a6ad, RJ1, "canEncode", 1, (some (.boolean)), 1, 40)
theorem v_Lat_canEncode (F : Nat) (l0 : Int) (h : Hp) : V X_Lat_canEncode 0 [(0, 0, l0)] [] h (Lat_canEncode F l0 h) := by
  unfold Lat_canEncode
  refine V_iload_n (pc := 0) (DCa dc_Lat_canEncode_0 0 rfl) rfl 0 rfl ?_
  refine V_if_lt (tgt := 15) (pc := 1) (DCa dc_Lat_canEncode_0 1 rfl) (by decide) (fun _ => ?_) (fun _ => ?_)
  · refine V_iconst (pc := 15) (DCa dc_Lat_canEncode_0 7 rfl) (by decide) ?_
    exact V_zreturn (pc := 16) (DCa dc_Lat_canEncode_0 8 rfl) rfl
  · refine V_iload_n (pc := 4) (DCa dc_Lat_canEncode_0 2 rfl) rfl 0 rfl ?_
    refine V_sipush (pc := 5) (DCa dc_Lat_canEncode_0 3 rfl) (by decide) ?_
    refine V_icmp_gt (tgt := 15) (pc := 8) (DCa dc_Lat_canEncode_0 4 rfl) (by decide) (fun _ => ?_) (fun _ => ?_)
    · refine V_iconst (pc := 15) (DCa dc_Lat_canEncode_0 7 rfl) (by decide) ?_
      exact V_zreturn (pc := 16) (DCa dc_Lat_canEncode_0 8 rfl) rfl
    · refine V_iconst (pc := 11) (DCa dc_Lat_canEncode_0 5 rfl) (by decide) ?_
      refine V_goto (tgt := 16) (pc := 12) (DCa dc_Lat_canEncode_0 6 rfl) (by decide) ?_
      exact V_zreturn (pc := 16) (DCa dc_Lat_canEncode_0 8 rfl) rfl
theorem sp_Lat_canEncode (F : Nat) (l0 : Int) (h : Hp) : Sp yJ1_canEncode_9a6ad cJ1_canEncode_9a6ad 1 (some (.boolean)) 1 40 [(0, l0)] h (Lat_canEncode F l0 h) := Sp_of (by decide +kernel) rfl rfl (Nat.le_of_ble_eq_true rfl) (v_Lat_canEncode F l0 h)

-- java/lang/StringLatin1.indexOfChar
def Lat_indexOfChar_L7s (F : Nat)  (R7 : Int → Int → Int → Int → Hp → Option (Int × Hp)) (l0 l3 l4 l5 : Int) (h : Hp) : Option (Int × Hp) :=
  if l5 < l3 then
    (sal l0 l5 fun v2 =>
    if v2 = l4 then
      (some (l5, h))
    else
      (R7 l0 l3 l4 (w32 (l5 + 1)) h))
  else
    (some ((-1), h))
def Lat_indexOfChar_L7 (F : Nat)  : Nat → Int → Int → Int → Int → Hp → Option (Int × Hp)
  | 0 => fun _ _ _ _ _ => none
  | n + 1 => Lat_indexOfChar_L7s F  (Lat_indexOfChar_L7 F  n)
def Lat_indexOfChar (F : Nat) (l0 l1 l2 l3 : Int) (h : Hp) : Option (Int × Hp) :=
  lt (i2b l1) fun x1 =>
  Lat_indexOfChar_L7 F F l0 l3 x1 l2 h

theorem dc_Lat_indexOfChar_0 : ∀ q ∈ ([(0, .iload_n 1, 1), (1, .i2b, 1), (2, .istore 4, 2), (4, .iload_n 2, 1), (5, .istore 5, 2), (7, .iload 5, 2), (9, .iload_n 3, 1), (10, .if_icmp .ge 21, 3), (13, .aload_n 0, 1), (14, .iload 5, 2), (16, .baload, 1), (17, .iload 4, 2), (19, .if_icmp .ne 6, 3), (22, .iload 5, 2), (24, .ireturn, 1), (25, .iinc 5 1, 3), (28, .goto (-21), 3), (31, .iconst (-1), 1), (32, .ireturn, 1)] : List (Nat × Instr × Nat)), decode cJ1_indexOfChar_4cfef q.1 = .ok (q.2.1, q.2.2) := by decide +kernel
abbrev X_Lat_indexOfChar : MX := (cJ1_indexOfChar_4cfef, RJ1, "indexOfChar", 6, (some (.int)), 1, 40)
theorem v_Lat_indexOfChar_L7s (F : Nat)  (R7 : Int → Int → Int → Int → Hp → Option (Int × Hp)) (hR7 : ∀ (l0 l3 l4 l5 : Int) (h : Hp), V X_Lat_indexOfChar 7 [(0, 2, l0), (3, 0, l3), (4, 0, l4), (5, 0, l5)] [] h (R7 l0 l3 l4 l5 h)) (l0 l3 l4 l5 : Int) (h : Hp) : V X_Lat_indexOfChar 7 [(0, 2, l0), (3, 0, l3), (4, 0, l4), (5, 0, l5)] [] h (Lat_indexOfChar_L7s F  R7 l0 l3 l4 l5 h) := by
  unfold Lat_indexOfChar_L7s
  refine V_iload (pc := 7) (DCa dc_Lat_indexOfChar_0 5 rfl) 3 rfl ?_
  refine V_iload_n (pc := 9) (DCa dc_Lat_indexOfChar_0 6 rfl) rfl 1 rfl ?_
  refine V_icmp_ge (tgt := 31) (pc := 10) (DCa dc_Lat_indexOfChar_0 7 rfl) (by decide) (fun _ => ?_) (fun _ => ?_)
  · refine V_aload_n (pc := 13) (DCa dc_Lat_indexOfChar_0 8 rfl) rfl 0 rfl ?_
    refine V_iload (pc := 14) (DCa dc_Lat_indexOfChar_0 9 rfl) 3 rfl ?_
    refine Q_sal (pc := 16) (DCa dc_Lat_indexOfChar_0 10 rfl) (fun v2 => ?_)
    refine V_iload (pc := 17) (DCa dc_Lat_indexOfChar_0 11 rfl) 2 rfl ?_
    refine V_icmp_ne (tgt := 25) (pc := 19) (DCa dc_Lat_indexOfChar_0 12 rfl) (by decide) (fun _ => ?_) (fun _ => ?_)
    · refine V_iload (pc := 22) (DCa dc_Lat_indexOfChar_0 13 rfl) 3 rfl ?_
      exact V_ireturn (pc := 24) (DCa dc_Lat_indexOfChar_0 14 rfl) rfl
    · refine V_iinc (ls' := [(0, 2, l0), (3, 0, l3), (4, 0, l4), (5, 0, w32 (l5 + 1))]) (pc := 25) (DCa dc_Lat_indexOfChar_0 15 rfl) (Nat.le_of_ble_eq_true rfl) (by decide) 3 rfl rfl ?_
      refine V_goto (tgt := 7) (pc := 28) (DCa dc_Lat_indexOfChar_0 16 rfl) (by decide) ?_
      exact hR7 _ _ _ _ _
  · refine V_iconst (pc := 31) (DCa dc_Lat_indexOfChar_0 17 rfl) (by decide) ?_
    exact V_ireturn (pc := 32) (DCa dc_Lat_indexOfChar_0 18 rfl) rfl
theorem v_Lat_indexOfChar_L7 (F : Nat)  (n : Nat) : ∀ (l0 l3 l4 l5 : Int) (h : Hp), V X_Lat_indexOfChar 7 [(0, 2, l0), (3, 0, l3), (4, 0, l4), (5, 0, l5)] [] h (Lat_indexOfChar_L7 F  n l0 l3 l4 l5 h) := by
  induction n with
  | zero => intros; exact V_none
  | succ n ih => exact fun l0 l3 l4 l5 h => v_Lat_indexOfChar_L7s F  _ ih l0 l3 l4 l5 h
theorem v_Lat_indexOfChar (F : Nat) (l0 l1 l2 l3 : Int) (h : Hp) : V X_Lat_indexOfChar 0 [(0, 2, l0), (1, 0, l1), (2, 0, l2), (3, 0, l3)] [] h (Lat_indexOfChar F l0 l1 l2 l3 h) := by
  unfold Lat_indexOfChar
  refine V_iload_n (pc := 0) (DCa dc_Lat_indexOfChar_0 0 rfl) rfl 1 rfl ?_
  refine V_i2b (pc := 1) (DCa dc_Lat_indexOfChar_0 1 rfl) ?_
  refine Q_lt (fun x1 => ?_)
  refine V_istore (ls' := [(0, 2, l0), (1, 0, l1), (2, 0, l2), (3, 0, l3), (4, 0, x1)]) (pc := 2) (DCa dc_Lat_indexOfChar_0 2 rfl) (Nat.le_of_ble_eq_true rfl) rfl ?_
  refine V_iload_n (pc := 4) (DCa dc_Lat_indexOfChar_0 3 rfl) rfl 2 rfl ?_
  refine V_istore (ls' := [(0, 2, l0), (1, 0, l1), (2, 0, l2), (3, 0, l3), (4, 0, x1), (5, 0, l2)]) (pc := 5) (DCa dc_Lat_indexOfChar_0 4 rfl) (Nat.le_of_ble_eq_true rfl) rfl ?_
  refine V_pick [0, 3, 4, 5] rfl ?_
  exact v_Lat_indexOfChar_L7 F F _ _ _ _ _
theorem sp_Lat_indexOfChar (F : Nat) (l0 l1 l2 l3 : Int) (h : Hp) : Sp yJ1_indexOfChar_4cfef cJ1_indexOfChar_4cfef 6 (some (.int)) 1 40 [(2, l0), (0, l1), (0, l2), (0, l3)] h (Lat_indexOfChar F l0 l1 l2 l3 h) := Sp_of (by decide +kernel) rfl rfl (Nat.le_of_ble_eq_true rfl) (v_Lat_indexOfChar F l0 l1 l2 l3 h)

-- java/lang/StringLatin1.indexOf
def Lat_indexOf (F : Nat) (l0 l1 l2 l3 : Int) (h : Hp) : Option (Int × Hp) :=
  cl (Lat_canEncode F l1 h) fun r1 h2 =>
  if r1 = 0 then
    (some ((-1), h2))
  else
    (lt (imax l2 0) fun r3 =>
    sln l0 fun v4 =>
    lt (imin l3 v4) fun r5 =>
    if r3 < r5 then
      (cl (Lat_indexOfChar F l0 l1 r3 r5 h2) fun r6 h7 =>
      some (r6, h7))
    else
      (some ((-1), h2)))

theorem dc_Lat_indexOf_0 : ∀ q ∈ ([(0, .iload_n 1, 1), (1, .invokestatic 88, 3), (4, .ifCond .ne 5, 3), (7, .iconst (-1), 1), (8, .ireturn, 1), (9, .iload_n 2, 1), (10, .iconst 0, 1), (11, .invokestatic 92, 3), (14, .istore_n 2, 1), (15, .iload_n 3, 1), (16, .aload_n 0, 1), (17, .arraylength, 1), (18, .invokestatic 38, 3), (21, .istore_n 3, 1), (22, .iload_n 2, 1), (23, .iload_n 3, 1), (24, .if_icmp .lt 5, 3), (27, .iconst (-1), 1), (28, .ireturn, 1), (29, .aload_n 0, 1), (30, .iload_n 1, 1), (31, .iload_n 2, 1), (32, .iload_n 3, 1), (33, .invokestatic 95, 3), (36, .ireturn, 1)] : List (Nat × Instr × Nat)), decode cJ1_indexOf_4cfef q.1 = .ok (q.2.1, q.2.2) := by decide +kernel
abbrev X_Lat_indexOf : MX := (cJ1_indexOf_4cfef, RJ1, "indexOf", 4, (some (.int)), 2, 65)
theorem v_Lat_indexOf (F : Nat) (l0 l1 l2 l3 : Int) (h : Hp) : V X_Lat_indexOf 0 [(0, 2, l0), (1, 0, l1), (2, 0, l2), (3, 0, l3)] [] h (Lat_indexOf F l0 l1 l2 l3 h) := by
  unfold Lat_indexOf
  refine V_iload_n (pc := 0) (DCa dc_Lat_indexOf_0 0 rfl) rfl 1 rfl ?_
  refine Q_calls (st := []) (pc := 1) (DCa dc_Lat_indexOf_0 1 rfl) (sp_Lat_canEncode F _ _) ce_Lat_canEncode (tb4 34 rfl rfl) rfl ⟨Nat.le_of_ble_eq_true rfl, Nat.le_of_ble_eq_true rfl⟩ rfl (Nat.le_of_ble_eq_true rfl) (fun r1 h2 => ?_)
  refine V_if_ne (tgt := 9) (pc := 4) (DCa dc_Lat_indexOf_0 2 rfl) (by decide) (fun _ => ?_) (fun _ => ?_)
  · refine V_iconst (pc := 7) (DCa dc_Lat_indexOf_0 3 rfl) (by decide) ?_
    exact V_ireturn (pc := 8) (DCa dc_Lat_indexOf_0 4 rfl) rfl
  · refine V_iload_n (pc := 9) (DCa dc_Lat_indexOf_0 5 rfl) rfl 2 rfl ?_
    refine V_iconst (pc := 10) (DCa dc_Lat_indexOf_0 6 rfl) (by decide) ?_
    refine V_mmax (pc := 11) (DCa dc_Lat_indexOf_0 7 rfl) (tb4 37 rfl rfl) mt_smax mt_i mt_cmax ⟨Nat.le_of_ble_eq_true rfl, Nat.le_of_ble_eq_true rfl⟩ ?_
    refine Q_lt (fun r3 => ?_)
    refine V_istore_n (ls' := [(0, 2, l0), (1, 0, l1), (2, 0, r3), (3, 0, l3)]) (pc := 14) (DCa dc_Lat_indexOf_0 8 rfl) rfl (Nat.le_of_ble_eq_true rfl) rfl ?_
    refine V_iload_n (pc := 15) (DCa dc_Lat_indexOf_0 9 rfl) rfl 3 rfl ?_
    refine V_aload_n (pc := 16) (DCa dc_Lat_indexOf_0 10 rfl) rfl 0 rfl ?_
    refine Q_sln (pc := 17) (DCa dc_Lat_indexOf_0 11 rfl) (fun v4 => ?_)
    refine V_mmin (pc := 18) (DCa dc_Lat_indexOf_0 12 rfl) (tb4 38 rfl rfl) mt_smin mt_i mt_cmin ⟨Nat.le_of_ble_eq_true rfl, Nat.le_of_ble_eq_true rfl⟩ ?_
    refine Q_lt (fun r5 => ?_)
    refine V_istore_n (ls' := [(0, 2, l0), (1, 0, l1), (2, 0, r3), (3, 0, r5)]) (pc := 21) (DCa dc_Lat_indexOf_0 13 rfl) rfl (Nat.le_of_ble_eq_true rfl) rfl ?_
    refine V_iload_n (pc := 22) (DCa dc_Lat_indexOf_0 14 rfl) rfl 2 rfl ?_
    refine V_iload_n (pc := 23) (DCa dc_Lat_indexOf_0 15 rfl) rfl 3 rfl ?_
    refine V_icmp_lt (tgt := 29) (pc := 24) (DCa dc_Lat_indexOf_0 16 rfl) (by decide) (fun _ => ?_) (fun _ => ?_)
    · refine V_aload_n (pc := 29) (DCa dc_Lat_indexOf_0 19 rfl) rfl 0 rfl ?_
      refine V_iload_n (pc := 30) (DCa dc_Lat_indexOf_0 20 rfl) rfl 1 rfl ?_
      refine V_iload_n (pc := 31) (DCa dc_Lat_indexOf_0 21 rfl) rfl 2 rfl ?_
      refine V_iload_n (pc := 32) (DCa dc_Lat_indexOf_0 22 rfl) rfl 3 rfl ?_
      refine Q_calls (st := []) (pc := 33) (DCa dc_Lat_indexOf_0 23 rfl) (sp_Lat_indexOfChar F _ _ _ _ _) ce_Lat_indexOfChar (tb4 39 rfl rfl) rfl ⟨Nat.le_of_ble_eq_true rfl, Nat.le_of_ble_eq_true rfl⟩ rfl (Nat.le_of_ble_eq_true rfl) (fun r6 h7 => ?_)
      exact V_ireturn (pc := 36) (DCa dc_Lat_indexOf_0 24 rfl) rfl
    · refine V_iconst (pc := 27) (DCa dc_Lat_indexOf_0 17 rfl) (by decide) ?_
      exact V_ireturn (pc := 28) (DCa dc_Lat_indexOf_0 18 rfl) rfl
theorem sp_Lat_indexOf (F : Nat) (l0 l1 l2 l3 : Int) (h : Hp) : Sp yJ1_indexOf_4cfef cJ1_indexOf_4cfef 4 (some (.int)) 2 65 [(2, l0), (0, l1), (0, l2), (0, l3)] h (Lat_indexOf F l0 l1 l2 l3 h) := Sp_of (by decide +kernel) rfl rfl (Nat.le_of_ble_eq_true rfl) (v_Lat_indexOf F l0 l1 l2 l3 h)

-- java/lang/String.indexOf
def Str_indexOf2 (F : Nat) (l0 l1 l2 : Int) (h : Hp) : Option (Int × Hp) :=
  ivs l0 (Str_isLatin1 F l0 h) fun r1 h2 =>
  if r1 = 0 then
    (none)
  else
    (gsv l0 fun v3 =>
    ivs l0 (Str_length F l0 h2) fun r4 h5 =>
    cl (Lat_indexOf F v3 l1 l2 r4 h5) fun r6 h7 =>
    some (r6, h7))

theorem dc_Str_indexOf2_0 : ∀ q ∈ ([(0, .aload_n 0, 1), (1, .invokevirtual 492, 3), (4, .ifCond .eq 19, 3), (7, .aload_n 0, 1), (8, .getfield 9, 3), (11, .iload_n 1, 1), (12, .iload_n 2, 1), (13, .aload_n 0, 1), (14, .invokevirtual 505, 3), (17, .invokestatic 637, 3), (20, .goto 16, 3), (23, .aload_n 0, 1), (24, .getfield 9, 3), (27, .iload_n 1, 1), (28, .iload_n 2, 1), (29, .aload_n 0, 1), (30, .invokevirtual 505, 3), (33, .invokestatic 640, 3), (36, .ireturn, 1)] : List (Nat × Instr × Nat)), decode cJ0_indexOf_7cf53 q.1 = .ok (q.2.1, q.2.2) := by decide +kernel
abbrev X_Str_indexOf2 : MX := (cJ0_indexOf_7cf53, RJ0, "indexOf", 3, (some (.int)), 3, 88)
theorem v_Str_indexOf2 (F : Nat) (l0 l1 l2 : Int) (h : Hp) : V X_Str_indexOf2 0 [(0, 2, l0), (1, 0, l1), (2, 0, l2)] [] h (Str_indexOf2 F l0 l1 l2 h) := by
  unfold Str_indexOf2
  refine V_aload_n (pc := 0) (DCa dc_Str_indexOf2_0 0 rfl) rfl 0 rfl ?_
  refine Q_callt (st := []) (pc := 1) (DCa dc_Str_indexOf2_0 1 rfl) (sp_Str_isLatin1 F _ _) ce_Str_isLatin1 (tb1 172 rfl rfl) rfl ⟨Nat.le_of_ble_eq_true rfl, Nat.le_of_ble_eq_true rfl⟩ rfl (Nat.le_of_ble_eq_true rfl) (fun r1 h2 => ?_)
  refine V_if_eq (tgt := 23) (pc := 4) (DCa dc_Str_indexOf2_0 2 rfl) (by decide) (fun _ => ?_) (fun _ => ?_)
  · exact V_none
  · refine V_aload_n (pc := 7) (DCa dc_Str_indexOf2_0 3 rfl) rfl 0 rfl ?_
    refine Q_gsv (pc := 8) (DCa dc_Str_indexOf2_0 4 rfl) (tb9 72 rfl rfl) (fun v3 => ?_)
    refine V_iload_n (pc := 11) (DCa dc_Str_indexOf2_0 5 rfl) rfl 1 rfl ?_
    refine V_iload_n (pc := 12) (DCa dc_Str_indexOf2_0 6 rfl) rfl 2 rfl ?_
    refine V_aload_n (pc := 13) (DCa dc_Str_indexOf2_0 7 rfl) rfl 0 rfl ?_
    refine Q_callt (st := [(0, l2), (0, l1), (2, v3)]) (pc := 14) (DCa dc_Str_indexOf2_0 8 rfl) (sp_Str_length F _ _) ce_Str_length (tb4 30 rfl rfl) rfl ⟨Nat.le_of_ble_eq_true rfl, Nat.le_of_ble_eq_true rfl⟩ rfl (Nat.le_of_ble_eq_true rfl) (fun r4 h5 => ?_)
    refine Q_calls (st := []) (pc := 17) (DCa dc_Str_indexOf2_0 9 rfl) (sp_Lat_indexOf F _ _ _ _ _) ce_Lat_indexOf (tb4 31 rfl rfl) rfl ⟨Nat.le_of_ble_eq_true rfl, Nat.le_of_ble_eq_true rfl⟩ rfl (Nat.le_of_ble_eq_true rfl) (fun r6 h7 => ?_)
    refine V_goto (tgt := 36) (pc := 20) (DCa dc_Str_indexOf2_0 10 rfl) (by decide) ?_
    exact V_ireturn (pc := 36) (DCa dc_Str_indexOf2_0 18 rfl) rfl
theorem sp_Str_indexOf2 (F : Nat) (l0 l1 l2 : Int) (h : Hp) : Sp yJ0_indexOf_7cf53 cJ0_indexOf_7cf53 3 (some (.int)) 3 88 [(2, l0), (0, l1), (0, l2)] h (Str_indexOf2 F l0 l1 l2 h) := Sp_of (by decide +kernel) rfl rfl (Nat.le_of_ble_eq_true rfl) (v_Str_indexOf2 F l0 l1 l2 h)

-- java/lang/String.indexOf
def Str_indexOf (F : Nat) (l0 l1 : Int) (h : Hp) : Option (Int × Hp) :=
  ivs l0 (Str_indexOf2 F l0 l1 0 h) fun r1 h2 =>
  some (r1, h2)

theorem dc_Str_indexOf_0 : ∀ q ∈ ([(0, .aload_n 0, 1), (1, .iload_n 1, 1), (2, .iconst 0, 1), (3, .invokevirtual 633, 3), (6, .ireturn, 1)] : List (Nat × Instr × Nat)), decode cJ0_indexOf_0f7a4 q.1 = .ok (q.2.1, q.2.2) := by decide +kernel
abbrev X_Str_indexOf : MX := (cJ0_indexOf_0f7a4, RJ0, "indexOf", 2, (some (.int)), 4, 110)
theorem v_Str_indexOf (F : Nat) (l0 l1 : Int) (h : Hp) : V X_Str_indexOf 0 [(0, 2, l0), (1, 0, l1)] [] h (Str_indexOf F l0 l1 h) := by
  unfold Str_indexOf
  refine V_aload_n (pc := 0) (DCa dc_Str_indexOf_0 0 rfl) rfl 0 rfl ?_
  refine V_iload_n (pc := 1) (DCa dc_Str_indexOf_0 1 rfl) rfl 1 rfl ?_
  refine V_iconst (pc := 2) (DCa dc_Str_indexOf_0 2 rfl) (by decide) ?_
  refine Q_callt (st := []) (pc := 3) (DCa dc_Str_indexOf_0 3 rfl) (sp_Str_indexOf2 F _ _ _ _) ce_Str_indexOf2 (tb4 26 rfl rfl) rfl ⟨Nat.le_of_ble_eq_true rfl, Nat.le_of_ble_eq_true rfl⟩ rfl (Nat.le_of_ble_eq_true rfl) (fun r1 h2 => ?_)
  exact V_ireturn (pc := 6) (DCa dc_Str_indexOf_0 4 rfl) rfl
theorem sp_Str_indexOf (F : Nat) (l0 l1 : Int) (h : Hp) : Sp yJ0_indexOf_0f7a4 cJ0_indexOf_0f7a4 2 (some (.int)) 4 110 [(2, l0), (0, l1)] h (Str_indexOf F l0 l1 h) := Sp_of (by decide +kernel) rfl rfl (Nat.le_of_ble_eq_true rfl) (v_Str_indexOf F l0 l1 h)

-- TideRakes$Reader.split
def Read_split_B146 (F : Nat) (R8 : Int → Int → Int → Int → Int → Hp → Option (Int × Hp)) (l0 l1 l2 l3 l4 l5 : Int) (h : Hp) : Option (Int × Hp) :=
  lt (imax (w32 (l5 + 1)) l4) fun r35 =>
  R8 l0 l1 l2 l3 r35 h
def Read_split_B113 (F : Nat) (R8 : Int → Int → Int → Int → Int → Hp → Option (Int × Hp)) (l0 l1 l2 l3 l4 l5 s0 : Int) (h : Hp) : Option (Int × Hp) :=
  gf h l0 103 1 fun v27 =>
  if s0 = 0 then
    (as h v27 0 l3 21 fun h28 =>
    gf h28 l0 103 3 fun v29 =>
    as h28 v29 0 l3 l5 fun h30 =>
    Read_split_B146 F R8 l0 l1 l2 (w32 (l3 + 1)) l4 l5 h30)
  else
    (al h l1 1 l5 fun v31 =>
    as h v27 0 l3 v31 fun h32 =>
    gf h32 l0 103 3 fun v33 =>
    as h32 v33 0 l3 l5 fun h34 =>
    Read_split_B146 F R8 l0 l1 l2 (w32 (l3 + 1)) l4 l5 h34)
def Read_split_B160 (F : Nat)  (l0 l2 l3 : Int) (h : Hp) : Option (Int × Hp) :=
  gf h l0 103 1 fun v23 =>
  as h v23 0 l3 20 fun h24 =>
  gf h24 l0 103 3 fun v25 =>
  as h24 v25 0 l3 l2 fun h26 =>
  some (0, h26)
def Read_split_L8s (F : Nat)  (R8 : Int → Int → Int → Int → Int → Hp → Option (Int × Hp)) (l0 l1 l2 l3 l5 : Int) (h : Hp) : Option (Int × Hp) :=
  if l5 < l2 then
    (if 400 < l3 then
      (Read_split_B160 F l0 l2 l3 h)
    else
      (lt (w32 (l5 + 1)) fun x1 =>
      al h l1 1 l5 fun v2 =>
      cl (Read_isBlank F v2 h) fun r3 h4 =>
      if r3 = 0 then
        (al h4 l1 1 l5 fun v5 =>
        cl (Read_isLetter F v5 h4) fun r6 h7 =>
        if r6 = 0 then
          (al h7 l1 1 l5 fun v8 =>
          cl (Read_isDigit F v8 h7) fun r9 h10 =>
          if r9 = 0 then
            (al h10 l1 1 l5 fun v11 =>
            if 0 < v11 then
              (al h10 l1 1 l5 fun v12 =>
              ivs (-4) (Str_indexOf F (-4) (i2c v12) h10) fun r13 h14 =>
              if r13 < 0 then
                (Read_split_B113 F R8 l0 l1 l2 l3 x1 l5 0 h14)
              else
                (Read_split_B113 F R8 l0 l1 l2 l3 x1 l5 1 h14))
            else
              (Read_split_B113 F R8 l0 l1 l2 l3 x1 l5 0 h10))
          else
            (iv h10 l0 103 (Read_takeDigits F l0 l1 l5 l2 l3 h10) fun r15 h16 =>
            gf h16 l0 103 3 fun v17 =>
            as h16 v17 0 l3 l5 fun h18 =>
            Read_split_B146 F R8 l0 l1 l2 (w32 (l3 + 1)) r15 l5 h18))
        else
          (iv h7 l0 103 (Read_takeLetters F l0 l1 l5 l2 l3 h7) fun r19 h20 =>
          gf h20 l0 103 3 fun v21 =>
          as h20 v21 0 l3 l5 fun h22 =>
          Read_split_B146 F R8 l0 l1 l2 (w32 (l3 + 1)) r19 l5 h22))
      else
        (Read_split_B146 F R8 l0 l1 l2 l3 x1 l5 h4)))
  else
    (Read_split_B160 F l0 l2 l3 h)
def Read_split_L8 (F : Nat)  : Nat → Int → Int → Int → Int → Int → Hp → Option (Int × Hp)
  | 0 => fun _ _ _ _ _ _ => none
  | n + 1 => Read_split_L8s F  (Read_split_L8 F  n)
def Read_split (F : Nat) (l0 l1 l2 : Int) (h : Hp) : Option (Int × Hp) :=
  Read_split_L8 F F l0 l1 l2 0 0 h

theorem dc_Read_split_0 : ∀ q ∈ ([(0, .iconst 0, 1), (1, .istore_n 3, 1), (2, .iconst 0, 1), (3, .istore 4, 2), (5, .iconst 0, 1), (6, .istore 5, 2), (8, .iload 5, 2), (10, .iload_n 2, 1), (11, .if_icmp .ge 149, 3), (14, .iload_n 3, 1), (15, .sipush 400, 3), (18, .if_icmp .gt 142, 3), (21, .iload 5, 2), (23, .iconst 1, 1), (24, .iadd, 1), (25, .istore 4, 2), (27, .aload_n 1, 1), (28, .iload 5, 2), (30, .baload, 1), (31, .invokestatic 80, 3), (34, .ifCond .eq 6, 3), (37, .goto 109, 3), (40, .aload_n 1, 1), (41, .iload 5, 2), (43, .baload, 1), (44, .invokestatic 84, 3), (47, .ifCond .eq 17, 3), (50, .aload_n 0, 1), (51, .aload_n 1, 1), (52, .iload 5, 2), (54, .iload_n 2, 1), (55, .iload_n 3, 1), (56, .invokevirtual 87, 3), (59, .istore 4, 2), (61, .goto 74, 3), (64, .aload_n 1, 1), (65, .iload 5, 2), (67, .baload, 1), (68, .invokestatic 91, 3), (71, .ifCond .eq 17, 3), (74, .aload_n 0, 1), (75, .aload_n 1, 1), (76, .iload 5, 2), (78, .iload_n 2, 1), (79, .iload_n 3, 1), (80, .invokevirtual 94, 3), (83, .istore 4, 2), (85, .goto 50, 3), (88, .aload_n 1, 1), (89, .iload 5, 2)] : List (Nat × Instr × Nat)), decode cX3_split q.1 = .ok (q.2.1, q.2.2) := by decide +kernel
theorem dc_Read_split_1 : ∀ q ∈ ([(91, .baload, 1), (92, .ifCond .le 20, 3), (95, .ldc 97, 2), (97, .aload_n 1, 1), (98, .iload 5, 2), (100, .baload, 1), (101, .i2c, 1), (102, .invokevirtual 99, 3), (105, .ifCond .lt 7, 3), (108, .iconst 1, 1), (109, .goto 4, 3), (112, .iconst 0, 1), (113, .istore 6, 2), (115, .aload_n 0, 1), (116, .getfield 15, 3), (119, .iload_n 3, 1), (120, .iload 6, 2), (122, .ifCond .eq 10, 3), (125, .aload_n 1, 1), (126, .iload 5, 2), (128, .baload, 1), (129, .goto 5, 3), (132, .bipush 21, 2), (134, .iastore, 1), (135, .aload_n 0, 1), (136, .getfield 22, 3), (139, .iload_n 3, 1), (140, .iload 5, 2), (142, .iastore, 1), (143, .iinc 3 1, 3), (146, .iload 5, 2), (148, .iconst 1, 1), (149, .iadd, 1), (150, .iload 4, 2), (152, .invokestatic 103, 3), (155, .istore 5, 2), (157, .goto (-149), 3), (160, .aload_n 0, 1), (161, .getfield 15, 3), (164, .iload_n 3, 1), (165, .bipush 20, 2), (167, .iastore, 1), (168, .aload_n 0, 1), (169, .getfield 22, 3), (172, .iload_n 3, 1), (173, .iload_n 2, 1), (174, .iastore, 1), (175, .return_, 1)] : List (Nat × Instr × Nat)), decode cX3_split q.1 = .ok (q.2.1, q.2.2) := by decide +kernel
abbrev X_Read_split : MX := (cX3_split, RX3, "split", 7, none, 5, 131)
theorem v_Read_split_B146 (F : Nat) (R8 : Int → Int → Int → Int → Int → Hp → Option (Int × Hp)) (hR8 : ∀ (l0 l1 l2 l3 l5 : Int) (h : Hp), V X_Read_split 8 [(0, 2, l0), (1, 2, l1), (2, 0, l2), (3, 0, l3), (5, 0, l5)] [] h (R8 l0 l1 l2 l3 l5 h)) (l0 l1 l2 l3 l4 l5 : Int) (h : Hp) : V X_Read_split 146 [(0, 2, l0), (1, 2, l1), (2, 0, l2), (3, 0, l3), (4, 0, l4), (5, 0, l5)] [] h (Read_split_B146 F R8 l0 l1 l2 l3 l4 l5 h) := by
  unfold Read_split_B146
  refine V_iload (pc := 146) (DCa dc_Read_split_1 30 rfl) 5 rfl ?_
  refine V_iconst (pc := 148) (DCa dc_Read_split_1 31 rfl) (by decide) ?_
  refine V_iadd (pc := 149) (DCa dc_Read_split_1 32 rfl) ?_
  refine V_iload (pc := 150) (DCa dc_Read_split_1 33 rfl) 4 rfl ?_
  refine V_mmax (pc := 152) (DCa dc_Read_split_1 34 rfl) (tb4 77 rfl rfl) mt_smax mt_i mt_cmax ⟨Nat.le_of_ble_eq_true rfl, Nat.le_of_ble_eq_true rfl⟩ ?_
  refine Q_lt (fun r35 => ?_)
  refine V_istore (ls' := [(0, 2, l0), (1, 2, l1), (2, 0, l2), (3, 0, l3), (4, 0, l4), (5, 0, r35)]) (pc := 155) (DCa dc_Read_split_1 35 rfl) (Nat.le_of_ble_eq_true rfl) rfl ?_
  refine V_goto (tgt := 8) (pc := 157) (DCa dc_Read_split_1 36 rfl) (by decide) ?_
  refine V_pick [0, 1, 2, 3, 5] rfl ?_
  exact hR8 _ _ _ _ _ _
theorem v_Read_split_B113 (F : Nat) (R8 : Int → Int → Int → Int → Int → Hp → Option (Int × Hp)) (hR8 : ∀ (l0 l1 l2 l3 l5 : Int) (h : Hp), V X_Read_split 8 [(0, 2, l0), (1, 2, l1), (2, 0, l2), (3, 0, l3), (5, 0, l5)] [] h (R8 l0 l1 l2 l3 l5 h)) (l0 l1 l2 l3 l4 l5 s0 : Int) (h : Hp) : V X_Read_split 113 [(0, 2, l0), (1, 2, l1), (2, 0, l2), (3, 0, l3), (4, 0, l4), (5, 0, l5)] [(0, s0)] h (Read_split_B113 F R8 l0 l1 l2 l3 l4 l5 s0 h) := by
  unfold Read_split_B113
  refine V_istore (ls' := [(0, 2, l0), (1, 2, l1), (2, 0, l2), (3, 0, l3), (4, 0, l4), (5, 0, l5), (6, 0, s0)]) (pc := 113) (DCa dc_Read_split_1 12 rfl) (Nat.le_of_ble_eq_true rfl) rfl ?_
  refine V_aload_n (pc := 115) (DCa dc_Read_split_1 13 rfl) rfl 0 rfl ?_
  refine Q_getf (k := 1) (pc := 116) (DCa dc_Read_split_1 14 rfl) cls_3 (Nat.le_of_ble_eq_true rfl) fl_3_15 rfl rfl rfl (fun v27 => ?_)
  refine V_iload_n (pc := 119) (DCa dc_Read_split_1 15 rfl) rfl 3 rfl ?_
  refine V_iload (pc := 120) (DCa dc_Read_split_1 16 rfl) 6 rfl ?_
  refine V_if_eq (tgt := 132) (pc := 122) (DCa dc_Read_split_1 17 rfl) (by decide) (fun _ => ?_) (fun _ => ?_)
  · refine V_bipush (pc := 132) (DCa dc_Read_split_1 22 rfl) (by decide) ?_
    refine Q_iastore (pc := 134) (DCa dc_Read_split_1 23 rfl) (fun h28 => ?_)
    refine V_aload_n (pc := 135) (DCa dc_Read_split_1 24 rfl) rfl 0 rfl ?_
    refine Q_getf (k := 3) (pc := 136) (DCa dc_Read_split_1 25 rfl) cls_3 (Nat.le_of_ble_eq_true rfl) fl_3_22 rfl rfl rfl (fun v29 => ?_)
    refine V_iload_n (pc := 139) (DCa dc_Read_split_1 26 rfl) rfl 3 rfl ?_
    refine V_iload (pc := 140) (DCa dc_Read_split_1 27 rfl) 5 rfl ?_
    refine Q_iastore (pc := 142) (DCa dc_Read_split_1 28 rfl) (fun h30 => ?_)
    refine V_iinc (ls' := [(0, 2, l0), (1, 2, l1), (2, 0, l2), (3, 0, w32 (l3 + 1)), (4, 0, l4), (5, 0, l5), (6, 0, s0)]) (pc := 143) (DCa dc_Read_split_1 29 rfl) (Nat.le_of_ble_eq_true rfl) (by decide) 3 rfl rfl ?_
    refine V_pick [0, 1, 2, 3, 4, 5] rfl ?_
    exact v_Read_split_B146 F R8 hR8 _ _ _ _ _ _ _
  · refine V_aload_n (pc := 125) (DCa dc_Read_split_1 18 rfl) rfl 1 rfl ?_
    refine V_iload (pc := 126) (DCa dc_Read_split_1 19 rfl) 5 rfl ?_
    refine Q_baload (pc := 128) (DCa dc_Read_split_1 20 rfl) (fun v31 => ?_)
    refine V_goto (tgt := 134) (pc := 129) (DCa dc_Read_split_1 21 rfl) (by decide) ?_
    refine Q_iastore (pc := 134) (DCa dc_Read_split_1 23 rfl) (fun h32 => ?_)
    refine V_aload_n (pc := 135) (DCa dc_Read_split_1 24 rfl) rfl 0 rfl ?_
    refine Q_getf (k := 3) (pc := 136) (DCa dc_Read_split_1 25 rfl) cls_3 (Nat.le_of_ble_eq_true rfl) fl_3_22 rfl rfl rfl (fun v33 => ?_)
    refine V_iload_n (pc := 139) (DCa dc_Read_split_1 26 rfl) rfl 3 rfl ?_
    refine V_iload (pc := 140) (DCa dc_Read_split_1 27 rfl) 5 rfl ?_
    refine Q_iastore (pc := 142) (DCa dc_Read_split_1 28 rfl) (fun h34 => ?_)
    refine V_iinc (ls' := [(0, 2, l0), (1, 2, l1), (2, 0, l2), (3, 0, w32 (l3 + 1)), (4, 0, l4), (5, 0, l5), (6, 0, s0)]) (pc := 143) (DCa dc_Read_split_1 29 rfl) (Nat.le_of_ble_eq_true rfl) (by decide) 3 rfl rfl ?_
    refine V_pick [0, 1, 2, 3, 4, 5] rfl ?_
    exact v_Read_split_B146 F R8 hR8 _ _ _ _ _ _ _
theorem v_Read_split_B160 (F : Nat)  (l0 l2 l3 : Int) (h : Hp) : V X_Read_split 160 [(0, 2, l0), (2, 0, l2), (3, 0, l3)] [] h (Read_split_B160 F  l0 l2 l3 h) := by
  unfold Read_split_B160
  refine V_aload_n (pc := 160) (DCa dc_Read_split_1 37 rfl) rfl 0 rfl ?_
  refine Q_getf (k := 1) (pc := 161) (DCa dc_Read_split_1 38 rfl) cls_3 (Nat.le_of_ble_eq_true rfl) fl_3_15 rfl rfl rfl (fun v23 => ?_)
  refine V_iload_n (pc := 164) (DCa dc_Read_split_1 39 rfl) rfl 2 rfl ?_
  refine V_bipush (pc := 165) (DCa dc_Read_split_1 40 rfl) (by decide) ?_
  refine Q_iastore (pc := 167) (DCa dc_Read_split_1 41 rfl) (fun h24 => ?_)
  refine V_aload_n (pc := 168) (DCa dc_Read_split_1 42 rfl) rfl 0 rfl ?_
  refine Q_getf (k := 3) (pc := 169) (DCa dc_Read_split_1 43 rfl) cls_3 (Nat.le_of_ble_eq_true rfl) fl_3_22 rfl rfl rfl (fun v25 => ?_)
  refine V_iload_n (pc := 172) (DCa dc_Read_split_1 44 rfl) rfl 2 rfl ?_
  refine V_iload_n (pc := 173) (DCa dc_Read_split_1 45 rfl) rfl 1 rfl ?_
  refine Q_iastore (pc := 174) (DCa dc_Read_split_1 46 rfl) (fun h26 => ?_)
  exact V_return (pc := 175) (DCa dc_Read_split_1 47 rfl) rfl
theorem v_Read_split_L8s (F : Nat)  (R8 : Int → Int → Int → Int → Int → Hp → Option (Int × Hp)) (hR8 : ∀ (l0 l1 l2 l3 l5 : Int) (h : Hp), V X_Read_split 8 [(0, 2, l0), (1, 2, l1), (2, 0, l2), (3, 0, l3), (5, 0, l5)] [] h (R8 l0 l1 l2 l3 l5 h)) (l0 l1 l2 l3 l5 : Int) (h : Hp) : V X_Read_split 8 [(0, 2, l0), (1, 2, l1), (2, 0, l2), (3, 0, l3), (5, 0, l5)] [] h (Read_split_L8s F  R8 l0 l1 l2 l3 l5 h) := by
  unfold Read_split_L8s
  refine V_iload (pc := 8) (DCa dc_Read_split_0 6 rfl) 4 rfl ?_
  refine V_iload_n (pc := 10) (DCa dc_Read_split_0 7 rfl) rfl 2 rfl ?_
  refine V_icmp_ge (tgt := 160) (pc := 11) (DCa dc_Read_split_0 8 rfl) (by decide) (fun _ => ?_) (fun _ => ?_)
  · refine V_iload_n (pc := 14) (DCa dc_Read_split_0 9 rfl) rfl 3 rfl ?_
    refine V_sipush (pc := 15) (DCa dc_Read_split_0 10 rfl) (by decide) ?_
    refine V_icmp_gt (tgt := 160) (pc := 18) (DCa dc_Read_split_0 11 rfl) (by decide) (fun _ => ?_) (fun _ => ?_)
    · refine V_pick [0, 2, 3] rfl ?_
      exact v_Read_split_B160 F _ _ _ _
    · refine V_iload (pc := 21) (DCa dc_Read_split_0 12 rfl) 4 rfl ?_
      refine V_iconst (pc := 23) (DCa dc_Read_split_0 13 rfl) (by decide) ?_
      refine V_iadd (pc := 24) (DCa dc_Read_split_0 14 rfl) ?_
      refine Q_lt (fun x1 => ?_)
      refine V_istore (ls' := [(0, 2, l0), (1, 2, l1), (2, 0, l2), (3, 0, l3), (4, 0, x1), (5, 0, l5)]) (pc := 25) (DCa dc_Read_split_0 15 rfl) (Nat.le_of_ble_eq_true rfl) rfl ?_
      refine V_aload_n (pc := 27) (DCa dc_Read_split_0 16 rfl) rfl 1 rfl ?_
      refine V_iload (pc := 28) (DCa dc_Read_split_0 17 rfl) 5 rfl ?_
      refine Q_baload (pc := 30) (DCa dc_Read_split_0 18 rfl) (fun v2 => ?_)
      refine Q_calls (st := []) (pc := 31) (DCa dc_Read_split_0 19 rfl) (sp_Read_isBlank F _ _) ce_Read_isBlank ml_3_80 rfl ⟨Nat.le_of_ble_eq_true rfl, Nat.le_of_ble_eq_true rfl⟩ rfl (Nat.le_of_ble_eq_true rfl) (fun r3 h4 => ?_)
      refine V_if_eq (tgt := 40) (pc := 34) (DCa dc_Read_split_0 20 rfl) (by decide) (fun _ => ?_) (fun _ => ?_)
      · refine V_aload_n (pc := 40) (DCa dc_Read_split_0 22 rfl) rfl 1 rfl ?_
        refine V_iload (pc := 41) (DCa dc_Read_split_0 23 rfl) 5 rfl ?_
        refine Q_baload (pc := 43) (DCa dc_Read_split_0 24 rfl) (fun v5 => ?_)
        refine Q_calls (st := []) (pc := 44) (DCa dc_Read_split_0 25 rfl) (sp_Read_isLetter F _ _) ce_Read_isLetter ml_3_84 rfl ⟨Nat.le_of_ble_eq_true rfl, Nat.le_of_ble_eq_true rfl⟩ rfl (Nat.le_of_ble_eq_true rfl) (fun r6 h7 => ?_)
        refine V_if_eq (tgt := 64) (pc := 47) (DCa dc_Read_split_0 26 rfl) (by decide) (fun _ => ?_) (fun _ => ?_)
        · refine V_aload_n (pc := 64) (DCa dc_Read_split_0 35 rfl) rfl 1 rfl ?_
          refine V_iload (pc := 65) (DCa dc_Read_split_0 36 rfl) 5 rfl ?_
          refine Q_baload (pc := 67) (DCa dc_Read_split_0 37 rfl) (fun v8 => ?_)
          refine Q_calls (st := []) (pc := 68) (DCa dc_Read_split_0 38 rfl) (sp_Read_isDigit F _ _) ce_Read_isDigit ml_3_91 rfl ⟨Nat.le_of_ble_eq_true rfl, Nat.le_of_ble_eq_true rfl⟩ rfl (Nat.le_of_ble_eq_true rfl) (fun r9 h10 => ?_)
          refine V_if_eq (tgt := 88) (pc := 71) (DCa dc_Read_split_0 39 rfl) (by decide) (fun _ => ?_) (fun _ => ?_)
          · refine V_aload_n (pc := 88) (DCa dc_Read_split_0 48 rfl) rfl 1 rfl ?_
            refine V_iload (pc := 89) (DCa dc_Read_split_0 49 rfl) 5 rfl ?_
            refine Q_baload (pc := 91) (DCa dc_Read_split_1 0 rfl) (fun v11 => ?_)
            refine V_if_le (tgt := 112) (pc := 92) (DCa dc_Read_split_1 1 rfl) (by decide) (fun _ => ?_) (fun _ => ?_)
            · refine V_ldcS (b := -4) (by decide) (pc := 95) (DCa dc_Read_split_1 2 rfl) rfl ?_
              refine V_aload_n (pc := 97) (DCa dc_Read_split_1 3 rfl) rfl 1 rfl ?_
              refine V_iload (pc := 98) (DCa dc_Read_split_1 4 rfl) 5 rfl ?_
              refine Q_baload (pc := 100) (DCa dc_Read_split_1 5 rfl) (fun v12 => ?_)
              refine V_i2c (pc := 101) (DCa dc_Read_split_1 6 rfl) ?_
              refine Q_callt (st := []) (pc := 102) (DCa dc_Read_split_1 7 rfl) (sp_Str_indexOf F _ _ _) ce_Str_indexOf (tb4 22 rfl rfl) rfl ⟨Nat.le_of_ble_eq_true rfl, Nat.le_of_ble_eq_true rfl⟩ rfl (Nat.le_of_ble_eq_true rfl) (fun r13 h14 => ?_)
              refine V_if_lt (tgt := 112) (pc := 105) (DCa dc_Read_split_1 8 rfl) (by decide) (fun _ => ?_) (fun _ => ?_)
              · refine V_iconst (pc := 112) (DCa dc_Read_split_1 11 rfl) (by decide) ?_
                exact v_Read_split_B113 F R8 hR8 _ _ _ _ _ _ _ _
              · refine V_iconst (pc := 108) (DCa dc_Read_split_1 9 rfl) (by decide) ?_
                refine V_goto (tgt := 113) (pc := 109) (DCa dc_Read_split_1 10 rfl) (by decide) ?_
                exact v_Read_split_B113 F R8 hR8 _ _ _ _ _ _ _ _
            · refine V_iconst (pc := 112) (DCa dc_Read_split_1 11 rfl) (by decide) ?_
              exact v_Read_split_B113 F R8 hR8 _ _ _ _ _ _ _ _
          · refine V_aload_n (pc := 74) (DCa dc_Read_split_0 40 rfl) rfl 0 rfl ?_
            refine V_aload_n (pc := 75) (DCa dc_Read_split_0 41 rfl) rfl 1 rfl ?_
            refine V_iload (pc := 76) (DCa dc_Read_split_0 42 rfl) 5 rfl ?_
            refine V_iload_n (pc := 78) (DCa dc_Read_split_0 43 rfl) rfl 2 rfl ?_
            refine V_iload_n (pc := 79) (DCa dc_Read_split_0 44 rfl) rfl 3 rfl ?_
            refine Q_callv (ci := 3) (st := []) (pc := 80) (DCa dc_Read_split_0 45 rfl) (sp_Read_takeDigits F _ _ _ _ _ _) ce_Read_takeDigits ml_3_94 rfl rfl ⟨Nat.le_of_ble_eq_true rfl, Nat.le_of_ble_eq_true rfl⟩ rfl (Nat.le_of_ble_eq_true rfl) (fun r15 h16 => ?_)
            refine V_istore (ls' := [(0, 2, l0), (1, 2, l1), (2, 0, l2), (3, 0, l3), (4, 0, r15), (5, 0, l5)]) (pc := 83) (DCa dc_Read_split_0 46 rfl) (Nat.le_of_ble_eq_true rfl) rfl ?_
            refine V_goto (tgt := 135) (pc := 85) (DCa dc_Read_split_0 47 rfl) (by decide) ?_
            refine V_aload_n (pc := 135) (DCa dc_Read_split_1 24 rfl) rfl 0 rfl ?_
            refine Q_getf (k := 3) (pc := 136) (DCa dc_Read_split_1 25 rfl) cls_3 (Nat.le_of_ble_eq_true rfl) fl_3_22 rfl rfl rfl (fun v17 => ?_)
            refine V_iload_n (pc := 139) (DCa dc_Read_split_1 26 rfl) rfl 3 rfl ?_
            refine V_iload (pc := 140) (DCa dc_Read_split_1 27 rfl) 5 rfl ?_
            refine Q_iastore (pc := 142) (DCa dc_Read_split_1 28 rfl) (fun h18 => ?_)
            refine V_iinc (ls' := [(0, 2, l0), (1, 2, l1), (2, 0, l2), (3, 0, w32 (l3 + 1)), (4, 0, r15), (5, 0, l5)]) (pc := 143) (DCa dc_Read_split_1 29 rfl) (Nat.le_of_ble_eq_true rfl) (by decide) 3 rfl rfl ?_
            exact v_Read_split_B146 F R8 hR8 _ _ _ _ _ _ _
        · refine V_aload_n (pc := 50) (DCa dc_Read_split_0 27 rfl) rfl 0 rfl ?_
          refine V_aload_n (pc := 51) (DCa dc_Read_split_0 28 rfl) rfl 1 rfl ?_
          refine V_iload (pc := 52) (DCa dc_Read_split_0 29 rfl) 5 rfl ?_
          refine V_iload_n (pc := 54) (DCa dc_Read_split_0 30 rfl) rfl 2 rfl ?_
          refine V_iload_n (pc := 55) (DCa dc_Read_split_0 31 rfl) rfl 3 rfl ?_
          refine Q_callv (ci := 3) (st := []) (pc := 56) (DCa dc_Read_split_0 32 rfl) (sp_Read_takeLetters F _ _ _ _ _ _) ce_Read_takeLetters ml_3_87 rfl rfl ⟨Nat.le_of_ble_eq_true rfl, Nat.le_of_ble_eq_true rfl⟩ rfl (Nat.le_of_ble_eq_true rfl) (fun r19 h20 => ?_)
          refine V_istore (ls' := [(0, 2, l0), (1, 2, l1), (2, 0, l2), (3, 0, l3), (4, 0, r19), (5, 0, l5)]) (pc := 59) (DCa dc_Read_split_0 33 rfl) (Nat.le_of_ble_eq_true rfl) rfl ?_
          refine V_goto (tgt := 135) (pc := 61) (DCa dc_Read_split_0 34 rfl) (by decide) ?_
          refine V_aload_n (pc := 135) (DCa dc_Read_split_1 24 rfl) rfl 0 rfl ?_
          refine Q_getf (k := 3) (pc := 136) (DCa dc_Read_split_1 25 rfl) cls_3 (Nat.le_of_ble_eq_true rfl) fl_3_22 rfl rfl rfl (fun v21 => ?_)
          refine V_iload_n (pc := 139) (DCa dc_Read_split_1 26 rfl) rfl 3 rfl ?_
          refine V_iload (pc := 140) (DCa dc_Read_split_1 27 rfl) 5 rfl ?_
          refine Q_iastore (pc := 142) (DCa dc_Read_split_1 28 rfl) (fun h22 => ?_)
          refine V_iinc (ls' := [(0, 2, l0), (1, 2, l1), (2, 0, l2), (3, 0, w32 (l3 + 1)), (4, 0, r19), (5, 0, l5)]) (pc := 143) (DCa dc_Read_split_1 29 rfl) (Nat.le_of_ble_eq_true rfl) (by decide) 3 rfl rfl ?_
          exact v_Read_split_B146 F R8 hR8 _ _ _ _ _ _ _
      · refine V_goto (tgt := 146) (pc := 37) (DCa dc_Read_split_0 21 rfl) (by decide) ?_
        exact v_Read_split_B146 F R8 hR8 _ _ _ _ _ _ _
  · refine V_pick [0, 2, 3] rfl ?_
    exact v_Read_split_B160 F _ _ _ _
theorem v_Read_split_L8 (F : Nat)  (n : Nat) : ∀ (l0 l1 l2 l3 l5 : Int) (h : Hp), V X_Read_split 8 [(0, 2, l0), (1, 2, l1), (2, 0, l2), (3, 0, l3), (5, 0, l5)] [] h (Read_split_L8 F  n l0 l1 l2 l3 l5 h) := by
  induction n with
  | zero => intros; exact V_none
  | succ n ih => exact fun l0 l1 l2 l3 l5 h => v_Read_split_L8s F  _ ih l0 l1 l2 l3 l5 h
theorem v_Read_split (F : Nat) (l0 l1 l2 : Int) (h : Hp) : V X_Read_split 0 [(0, 2, l0), (1, 2, l1), (2, 0, l2)] [] h (Read_split F l0 l1 l2 h) := by
  unfold Read_split
  refine V_iconst (pc := 0) (DCa dc_Read_split_0 0 rfl) (by decide) ?_
  refine V_istore_n (ls' := [(0, 2, l0), (1, 2, l1), (2, 0, l2), (3, 0, 0)]) (pc := 1) (DCa dc_Read_split_0 1 rfl) rfl (Nat.le_of_ble_eq_true rfl) rfl ?_
  refine V_iconst (pc := 2) (DCa dc_Read_split_0 2 rfl) (by decide) ?_
  refine V_istore (ls' := [(0, 2, l0), (1, 2, l1), (2, 0, l2), (3, 0, 0), (4, 0, 0)]) (pc := 3) (DCa dc_Read_split_0 3 rfl) (Nat.le_of_ble_eq_true rfl) rfl ?_
  refine V_iconst (pc := 5) (DCa dc_Read_split_0 4 rfl) (by decide) ?_
  refine V_istore (ls' := [(0, 2, l0), (1, 2, l1), (2, 0, l2), (3, 0, 0), (4, 0, 0), (5, 0, 0)]) (pc := 6) (DCa dc_Read_split_0 5 rfl) (Nat.le_of_ble_eq_true rfl) rfl ?_
  refine V_pick [0, 1, 2, 3, 5] rfl ?_
  exact v_Read_split_L8 F F _ _ _ _ _ _
theorem sp_Read_split (F : Nat) (l0 l1 l2 : Int) (h : Hp) : Sp yX3_split cX3_split 7 none 5 131 [(2, l0), (2, l1), (0, l2)] h (Read_split F l0 l1 l2 h) := Sp_of (by decide +kernel) rfl rfl (Nat.le_of_ble_eq_true rfl) (v_Read_split F l0 l1 l2 h)

-- TideRakes$Reader.readText
def Read_readText_B73 (F : Nat)  (l0 : Int) (h : Hp) : Option (Int × Hp) :=
  gf h l0 103 8 fun v16 =>
  if v16 = 0 then
    (gf h l0 103 10 fun v17 =>
    if v17 = 0 then
      (gf h l0 103 8 fun v18 =>
      some (v18, h))
    else
      (gf h l0 103 10 fun v19 =>
      pf h l0 103 8 v19 fun h20 =>
      gf h20 l0 103 11 fun v21 =>
      pf h20 l0 103 9 v21 fun h22 =>
      gf h22 l0 103 8 fun v23 =>
      some (v23, h22)))
  else
    (gf h l0 103 8 fun v24 =>
    some (v24, h))
def Read_readText_L35s (F : Nat)  (R35 : Int → Int → Hp → Option (Int × Hp)) (l0 l3 : Int) (h : Hp) : Option (Int × Hp) :=
  if 400 < l3 then
    (Read_readText_B73 F l0 h)
  else
    (gf h l0 103 8 fun v10 =>
    if v10 = 0 then
      (gf h l0 103 1 fun v11 =>
      gf h l0 103 7 fun v12 =>
      al h v11 0 v12 fun v13 =>
      if v13 = 20 then
        (Read_readText_B73 F l0 h)
      else
        (iv h l0 103 (Read_takeTell F l0 h) fun r14 h15 =>
        R35 l0 (w32 (l3 + 1)) h15))
    else
      (Read_readText_B73 F l0 h))
def Read_readText_L35 (F : Nat)  : Nat → Int → Int → Hp → Option (Int × Hp)
  | 0 => fun _ _ _ => none
  | n + 1 => Read_readText_L35s F  (Read_readText_L35 F  n)
def Read_readText (F : Nat) (l0 l1 l2 : Int) (h : Hp) : Option (Int × Hp) :=
  iv h l0 103 (Read_split F l0 l1 l2 h) fun r1 h2 =>
  gf h2 l0 103 5 fun v3 =>
  iv h2 v3 106 (Scri_clear F v3 h2) fun r4 h5 =>
  pf h5 l0 103 6 0 fun h6 =>
  pf h6 l0 103 7 0 fun h7 =>
  pf h7 l0 103 8 0 fun h8 =>
  pf h8 l0 103 10 0 fun h9 =>
  Read_readText_L35 F F l0 0 h9

theorem dc_Read_readText_0 : ∀ q ∈ ([(0, .aload_n 0, 1), (1, .aload_n 1, 1), (2, .iload_n 2, 1), (3, .invokevirtual 51, 3), (6, .aload_n 0, 1), (7, .getfield 31, 3), (10, .invokevirtual 55, 3), (13, .aload_n 0, 1), (14, .iconst 0, 1), (15, .putfield 58, 3), (18, .aload_n 0, 1), (19, .iconst 0, 1), (20, .putfield 62, 3), (23, .aload_n 0, 1), (24, .iconst 0, 1), (25, .putfield 65, 3), (28, .aload_n 0, 1), (29, .iconst 0, 1), (30, .putfield 68, 3), (33, .iconst 0, 1), (34, .istore_n 3, 1), (35, .iload_n 3, 1), (36, .sipush 400, 3), (39, .if_icmp .gt 34, 3), (42, .aload_n 0, 1), (43, .getfield 65, 3), (46, .ifCond .ne 27, 3), (49, .aload_n 0, 1), (50, .getfield 15, 3), (53, .aload_n 0, 1), (54, .getfield 62, 3), (57, .iaload, 1), (58, .bipush 20, 2), (60, .if_icmp .eq 13, 3), (63, .aload_n 0, 1), (64, .invokevirtual 71, 3), (67, .iinc 3 1, 3), (70, .goto (-35), 3), (73, .aload_n 0, 1), (74, .getfield 65, 3), (77, .ifCond .ne 26, 3), (80, .aload_n 0, 1), (81, .getfield 68, 3), (84, .ifCond .eq 19, 3), (87, .aload_n 0, 1), (88, .aload_n 0, 1), (89, .getfield 68, 3), (92, .putfield 65, 3), (95, .aload_n 0, 1), (96, .aload_n 0, 1)] : List (Nat × Instr × Nat)), decode cX3_readText q.1 = .ok (q.2.1, q.2.2) := by decide +kernel
theorem dc_Read_readText_1 : ∀ q ∈ ([(97, .getfield 74, 3), (100, .putfield 77, 3), (103, .aload_n 0, 1), (104, .getfield 65, 3), (107, .ireturn, 1)] : List (Nat × Instr × Nat)), decode cX3_readText q.1 = .ok (q.2.1, q.2.2) := by decide +kernel
abbrev X_Read_readText : MX := (cX3_readText, RX3, "readText", 4, (some (.int)), 51, 1508)
theorem v_Read_readText_B73 (F : Nat)  (l0 : Int) (h : Hp) : V X_Read_readText 73 [(0, 2, l0)] [] h (Read_readText_B73 F  l0 h) := by
  unfold Read_readText_B73
  refine V_aload_n (pc := 73) (DCa dc_Read_readText_0 38 rfl) rfl 0 rfl ?_
  refine Q_getf (k := 8) (pc := 74) (DCa dc_Read_readText_0 39 rfl) cls_3 (Nat.le_of_ble_eq_true rfl) fl_3_65 rfl rfl rfl (fun v16 => ?_)
  refine V_if_ne (tgt := 103) (pc := 77) (DCa dc_Read_readText_0 40 rfl) (by decide) (fun _ => ?_) (fun _ => ?_)
  · refine V_aload_n (pc := 80) (DCa dc_Read_readText_0 41 rfl) rfl 0 rfl ?_
    refine Q_getf (k := 10) (pc := 81) (DCa dc_Read_readText_0 42 rfl) cls_3 (Nat.le_of_ble_eq_true rfl) fl_3_68 rfl rfl rfl (fun v17 => ?_)
    refine V_if_eq (tgt := 103) (pc := 84) (DCa dc_Read_readText_0 43 rfl) (by decide) (fun _ => ?_) (fun _ => ?_)
    · refine V_aload_n (pc := 103) (DCa dc_Read_readText_1 2 rfl) rfl 0 rfl ?_
      refine Q_getf (k := 8) (pc := 104) (DCa dc_Read_readText_1 3 rfl) cls_3 (Nat.le_of_ble_eq_true rfl) fl_3_65 rfl rfl rfl (fun v18 => ?_)
      exact V_ireturn (pc := 107) (DCa dc_Read_readText_1 4 rfl) rfl
    · refine V_aload_n (pc := 87) (DCa dc_Read_readText_0 44 rfl) rfl 0 rfl ?_
      refine V_aload_n (pc := 88) (DCa dc_Read_readText_0 45 rfl) rfl 0 rfl ?_
      refine Q_getf (k := 10) (pc := 89) (DCa dc_Read_readText_0 46 rfl) cls_3 (Nat.le_of_ble_eq_true rfl) fl_3_68 rfl rfl rfl (fun v19 => ?_)
      refine Q_putf (k := 8) (pc := 92) (DCa dc_Read_readText_0 47 rfl) cls_3 (Nat.le_of_ble_eq_true rfl) fl_3_65 rfl rfl rfl (Or.inl rfl) (Or.inl ⟨rfl, rfl⟩) (fun h20 => ?_)
      refine V_aload_n (pc := 95) (DCa dc_Read_readText_0 48 rfl) rfl 0 rfl ?_
      refine V_aload_n (pc := 96) (DCa dc_Read_readText_0 49 rfl) rfl 0 rfl ?_
      refine Q_getf (k := 11) (pc := 97) (DCa dc_Read_readText_1 0 rfl) cls_3 (Nat.le_of_ble_eq_true rfl) fl_3_74 rfl rfl rfl (fun v21 => ?_)
      refine Q_putf (k := 9) (pc := 100) (DCa dc_Read_readText_1 1 rfl) cls_3 (Nat.le_of_ble_eq_true rfl) fl_3_77 rfl rfl rfl (Or.inl rfl) (Or.inl ⟨rfl, rfl⟩) (fun h22 => ?_)
      refine V_aload_n (pc := 103) (DCa dc_Read_readText_1 2 rfl) rfl 0 rfl ?_
      refine Q_getf (k := 8) (pc := 104) (DCa dc_Read_readText_1 3 rfl) cls_3 (Nat.le_of_ble_eq_true rfl) fl_3_65 rfl rfl rfl (fun v23 => ?_)
      exact V_ireturn (pc := 107) (DCa dc_Read_readText_1 4 rfl) rfl
  · refine V_aload_n (pc := 103) (DCa dc_Read_readText_1 2 rfl) rfl 0 rfl ?_
    refine Q_getf (k := 8) (pc := 104) (DCa dc_Read_readText_1 3 rfl) cls_3 (Nat.le_of_ble_eq_true rfl) fl_3_65 rfl rfl rfl (fun v24 => ?_)
    exact V_ireturn (pc := 107) (DCa dc_Read_readText_1 4 rfl) rfl
theorem v_Read_readText_L35s (F : Nat)  (R35 : Int → Int → Hp → Option (Int × Hp)) (hR35 : ∀ (l0 l3 : Int) (h : Hp), V X_Read_readText 35 [(0, 2, l0), (3, 0, l3)] [] h (R35 l0 l3 h)) (l0 l3 : Int) (h : Hp) : V X_Read_readText 35 [(0, 2, l0), (3, 0, l3)] [] h (Read_readText_L35s F  R35 l0 l3 h) := by
  unfold Read_readText_L35s
  refine V_iload_n (pc := 35) (DCa dc_Read_readText_0 21 rfl) rfl 1 rfl ?_
  refine V_sipush (pc := 36) (DCa dc_Read_readText_0 22 rfl) (by decide) ?_
  refine V_icmp_gt (tgt := 73) (pc := 39) (DCa dc_Read_readText_0 23 rfl) (by decide) (fun _ => ?_) (fun _ => ?_)
  · refine V_pick [0] rfl ?_
    exact v_Read_readText_B73 F _ _
  · refine V_aload_n (pc := 42) (DCa dc_Read_readText_0 24 rfl) rfl 0 rfl ?_
    refine Q_getf (k := 8) (pc := 43) (DCa dc_Read_readText_0 25 rfl) cls_3 (Nat.le_of_ble_eq_true rfl) fl_3_65 rfl rfl rfl (fun v10 => ?_)
    refine V_if_ne (tgt := 73) (pc := 46) (DCa dc_Read_readText_0 26 rfl) (by decide) (fun _ => ?_) (fun _ => ?_)
    · refine V_aload_n (pc := 49) (DCa dc_Read_readText_0 27 rfl) rfl 0 rfl ?_
      refine Q_getf (k := 1) (pc := 50) (DCa dc_Read_readText_0 28 rfl) cls_3 (Nat.le_of_ble_eq_true rfl) fl_3_15 rfl rfl rfl (fun v11 => ?_)
      refine V_aload_n (pc := 53) (DCa dc_Read_readText_0 29 rfl) rfl 0 rfl ?_
      refine Q_getf (k := 7) (pc := 54) (DCa dc_Read_readText_0 30 rfl) cls_3 (Nat.le_of_ble_eq_true rfl) fl_3_62 rfl rfl rfl (fun v12 => ?_)
      refine Q_iaload (pc := 57) (DCa dc_Read_readText_0 31 rfl) (fun v13 => ?_)
      refine V_bipush (pc := 58) (DCa dc_Read_readText_0 32 rfl) (by decide) ?_
      refine V_icmp_eq (tgt := 73) (pc := 60) (DCa dc_Read_readText_0 33 rfl) (by decide) (fun _ => ?_) (fun _ => ?_)
      · refine V_pick [0] rfl ?_
        exact v_Read_readText_B73 F _ _
      · refine V_aload_n (pc := 63) (DCa dc_Read_readText_0 34 rfl) rfl 0 rfl ?_
        refine Q_callv (ci := 3) (st := []) (pc := 64) (DCa dc_Read_readText_0 35 rfl) (sp_Read_takeTell F _ _) ce_Read_takeTell ml_3_71 rfl rfl ⟨Nat.le_of_ble_eq_true rfl, Nat.le_of_ble_eq_true rfl⟩ rfl (Nat.le_of_ble_eq_true rfl) (fun r14 h15 => ?_)
        refine V_iinc (ls' := [(0, 2, l0), (3, 0, w32 (l3 + 1))]) (pc := 67) (DCa dc_Read_readText_0 36 rfl) (Nat.le_of_ble_eq_true rfl) (by decide) 1 rfl rfl ?_
        refine V_goto (tgt := 35) (pc := 70) (DCa dc_Read_readText_0 37 rfl) (by decide) ?_
        exact hR35 _ _ _
    · refine V_pick [0] rfl ?_
      exact v_Read_readText_B73 F _ _
theorem v_Read_readText_L35 (F : Nat)  (n : Nat) : ∀ (l0 l3 : Int) (h : Hp), V X_Read_readText 35 [(0, 2, l0), (3, 0, l3)] [] h (Read_readText_L35 F  n l0 l3 h) := by
  induction n with
  | zero => intros; exact V_none
  | succ n ih => exact fun l0 l3 h => v_Read_readText_L35s F  _ ih l0 l3 h
theorem v_Read_readText (F : Nat) (l0 l1 l2 : Int) (h : Hp) : V X_Read_readText 0 [(0, 2, l0), (1, 2, l1), (2, 0, l2)] [] h (Read_readText F l0 l1 l2 h) := by
  unfold Read_readText
  refine V_aload_n (pc := 0) (DCa dc_Read_readText_0 0 rfl) rfl 0 rfl ?_
  refine V_aload_n (pc := 1) (DCa dc_Read_readText_0 1 rfl) rfl 1 rfl ?_
  refine V_iload_n (pc := 2) (DCa dc_Read_readText_0 2 rfl) rfl 2 rfl ?_
  refine Q_callv (ci := 3) (st := []) (pc := 3) (DCa dc_Read_readText_0 3 rfl) (sp_Read_split F _ _ _ _) ce_Read_split ml_3_51 rfl rfl ⟨Nat.le_of_ble_eq_true rfl, Nat.le_of_ble_eq_true rfl⟩ rfl (Nat.le_of_ble_eq_true rfl) (fun r1 h2 => ?_)
  refine V_aload_n (pc := 6) (DCa dc_Read_readText_0 4 rfl) rfl 0 rfl ?_
  refine Q_getf (k := 5) (pc := 7) (DCa dc_Read_readText_0 5 rfl) cls_3 (Nat.le_of_ble_eq_true rfl) fl_3_31 rfl rfl rfl (fun v3 => ?_)
  refine Q_callv (ci := 6) (st := []) (pc := 10) (DCa dc_Read_readText_0 6 rfl) (sp_Scri_clear F _ _) ce_Scri_clear ml_3_55 rfl rfl ⟨Nat.le_of_ble_eq_true rfl, Nat.le_of_ble_eq_true rfl⟩ rfl (Nat.le_of_ble_eq_true rfl) (fun r4 h5 => ?_)
  refine V_aload_n (pc := 13) (DCa dc_Read_readText_0 7 rfl) rfl 0 rfl ?_
  refine V_iconst (pc := 14) (DCa dc_Read_readText_0 8 rfl) (by decide) ?_
  refine Q_putf (k := 6) (pc := 15) (DCa dc_Read_readText_0 9 rfl) cls_3 (Nat.le_of_ble_eq_true rfl) fl_3_58 rfl rfl rfl (Or.inl rfl) (Or.inl ⟨rfl, rfl⟩) (fun h6 => ?_)
  refine V_aload_n (pc := 18) (DCa dc_Read_readText_0 10 rfl) rfl 0 rfl ?_
  refine V_iconst (pc := 19) (DCa dc_Read_readText_0 11 rfl) (by decide) ?_
  refine Q_putf (k := 7) (pc := 20) (DCa dc_Read_readText_0 12 rfl) cls_3 (Nat.le_of_ble_eq_true rfl) fl_3_62 rfl rfl rfl (Or.inl rfl) (Or.inl ⟨rfl, rfl⟩) (fun h7 => ?_)
  refine V_aload_n (pc := 23) (DCa dc_Read_readText_0 13 rfl) rfl 0 rfl ?_
  refine V_iconst (pc := 24) (DCa dc_Read_readText_0 14 rfl) (by decide) ?_
  refine Q_putf (k := 8) (pc := 25) (DCa dc_Read_readText_0 15 rfl) cls_3 (Nat.le_of_ble_eq_true rfl) fl_3_65 rfl rfl rfl (Or.inl rfl) (Or.inl ⟨rfl, rfl⟩) (fun h8 => ?_)
  refine V_aload_n (pc := 28) (DCa dc_Read_readText_0 16 rfl) rfl 0 rfl ?_
  refine V_iconst (pc := 29) (DCa dc_Read_readText_0 17 rfl) (by decide) ?_
  refine Q_putf (k := 10) (pc := 30) (DCa dc_Read_readText_0 18 rfl) cls_3 (Nat.le_of_ble_eq_true rfl) fl_3_68 rfl rfl rfl (Or.inl rfl) (Or.inl ⟨rfl, rfl⟩) (fun h9 => ?_)
  refine V_iconst (pc := 33) (DCa dc_Read_readText_0 19 rfl) (by decide) ?_
  refine V_istore_n (ls' := [(0, 2, l0), (1, 2, l1), (2, 0, l2), (3, 0, 0)]) (pc := 34) (DCa dc_Read_readText_0 20 rfl) rfl (Nat.le_of_ble_eq_true rfl) rfl ?_
  refine V_pick [0, 3] rfl ?_
  exact v_Read_readText_L35 F F _ _ _
theorem sp_Read_readText (F : Nat) (l0 l1 l2 : Int) (h : Hp) : Sp yX3_readText cX3_readText 4 (some (.int)) 51 1508 [(2, l0), (2, l1), (0, l2)] h (Read_readText F l0 l1 l2 h) := Sp_of (by decide +kernel) rfl rfl (Nat.le_of_ble_eq_true rfl) (v_Read_readText F l0 l1 l2 h)

-- TideRakes$Stand.copy
def Stan_copy_B90 (F : Nat)  (l0 l1 : Int) (h : Hp) : Option (Int × Hp) :=
  gf h l1 108 5 fun v23 =>
  gf h l0 108 5 fun v24 =>
  acp h v23 0 v24 0 30 fun h25 =>
  gf h25 l1 108 6 fun v26 =>
  gf h25 l0 108 6 fun v27 =>
  acp h25 v26 0 v27 0 30 fun h28 =>
  gf h28 l1 108 7 fun v29 =>
  gf h28 l0 108 7 fun v30 =>
  acp h28 v29 0 v30 0 30 fun h31 =>
  gf h31 l1 108 8 fun v32 =>
  pf h31 l0 108 8 v32 fun h33 =>
  some (0, h33)
def Stan_copy_L30s (F : Nat)  (R30 : Int → Int → Int → Hp → Option (Int × Hp)) (l0 l1 l2 : Int) (h : Hp) : Option (Int × Hp) :=
  if l2 < 8 then
    (gf h l0 108 1 fun v7 =>
    gf h l1 108 1 fun v8 =>
    al h v8 0 l2 fun v9 =>
    as h v7 0 l2 v9 fun h10 =>
    gf h10 l0 108 2 fun v11 =>
    gf h10 l1 108 2 fun v12 =>
    al h10 v12 0 l2 fun v13 =>
    as h10 v11 0 l2 v13 fun h14 =>
    gf h14 l0 108 3 fun v15 =>
    gf h14 l1 108 3 fun v16 =>
    al h14 v16 0 l2 fun v17 =>
    as h14 v15 0 l2 v17 fun h18 =>
    gf h18 l0 108 4 fun v19 =>
    gf h18 l1 108 4 fun v20 =>
    al h18 v20 2 l2 fun v21 =>
    az h18 v19 l2 v21 fun h22 =>
    R30 l0 l1 (w32 (l2 + 1)) h22)
  else
    (Stan_copy_B90 F l0 l1 h)
def Stan_copy_L30 (F : Nat)  : Nat → Int → Int → Int → Hp → Option (Int × Hp)
  | 0 => fun _ _ _ _ => none
  | n + 1 => Stan_copy_L30s F  (Stan_copy_L30 F  n)
def Stan_copy_L2s (F : Nat)  (R2 : Int → Int → Int → Hp → Option (Int × Hp)) (l0 l1 l2 : Int) (h : Hp) : Option (Int × Hp) :=
  if l2 < 3 then
    (gf h l0 108 0 fun v1 =>
    al h v1 7 l2 fun v2 =>
    gf h l1 108 0 fun v3 =>
    al h v3 7 l2 fun v4 =>
    iv h v2 110 (Walk_copy F v2 v4 h) fun r5 h6 =>
    R2 l0 l1 (w32 (l2 + 1)) h6)
  else
    (Stan_copy_L30 F F l0 l1 0 h)
def Stan_copy_L2 (F : Nat)  : Nat → Int → Int → Int → Hp → Option (Int × Hp)
  | 0 => fun _ _ _ _ => none
  | n + 1 => Stan_copy_L2s F  (Stan_copy_L2 F  n)
def Stan_copy (F : Nat) (l0 l1 : Int) (h : Hp) : Option (Int × Hp) :=
  Stan_copy_L2 F F l0 l1 0 h

theorem dc_Stan_copy_0 : ∀ q ∈ ([(0, .iconst 0, 1), (1, .istore_n 2, 1), (2, .iload_n 2, 1), (3, .iconst 3, 1), (4, .if_icmp .ge 24, 3), (7, .aload_n 0, 1), (8, .getfield 11, 3), (11, .iload_n 2, 1), (12, .aaload, 1), (13, .aload_n 1, 1), (14, .getfield 11, 3), (17, .iload_n 2, 1), (18, .aaload, 1), (19, .invokevirtual 49, 3), (22, .iinc 2 1, 3), (25, .goto (-23), 3), (28, .iconst 0, 1), (29, .istore_n 2, 1), (30, .iload_n 2, 1), (31, .bipush 8, 2), (33, .if_icmp .ge 57, 3), (36, .aload_n 0, 1), (37, .getfield 17, 3), (40, .iload_n 2, 1), (41, .aload_n 1, 1), (42, .getfield 17, 3), (45, .iload_n 2, 1), (46, .iaload, 1), (47, .iastore, 1), (48, .aload_n 0, 1), (49, .getfield 21, 3), (52, .iload_n 2, 1), (53, .aload_n 1, 1), (54, .getfield 21, 3), (57, .iload_n 2, 1), (58, .iaload, 1), (59, .iastore, 1), (60, .aload_n 0, 1), (61, .getfield 24, 3), (64, .iload_n 2, 1), (65, .aload_n 1, 1), (66, .getfield 24, 3), (69, .iload_n 2, 1), (70, .iaload, 1), (71, .iastore, 1), (72, .aload_n 0, 1), (73, .getfield 27, 3), (76, .iload_n 2, 1), (77, .aload_n 1, 1), (78, .getfield 27, 3)] : List (Nat × Instr × Nat)), decode cX8_copy q.1 = .ok (q.2.1, q.2.2) := by decide +kernel
theorem dc_Stan_copy_1 : ∀ q ∈ ([(81, .iload_n 2, 1), (82, .baload, 1), (83, .bastore, 1), (84, .iinc 2 1, 3), (87, .goto (-57), 3), (90, .aload_n 1, 1), (91, .getfield 31, 3), (94, .iconst 0, 1), (95, .aload_n 0, 1), (96, .getfield 31, 3), (99, .iconst 0, 1), (100, .bipush 30, 2), (102, .invokestatic 53, 3), (105, .aload_n 1, 1), (106, .getfield 34, 3), (109, .iconst 0, 1), (110, .aload_n 0, 1), (111, .getfield 34, 3), (114, .iconst 0, 1), (115, .bipush 30, 2), (117, .invokestatic 53, 3), (120, .aload_n 1, 1), (121, .getfield 37, 3), (124, .iconst 0, 1), (125, .aload_n 0, 1), (126, .getfield 37, 3), (129, .iconst 0, 1), (130, .bipush 30, 2), (132, .invokestatic 53, 3), (135, .aload_n 0, 1), (136, .aload_n 1, 1), (137, .getfield 45, 3), (140, .putfield 45, 3), (143, .return_, 1)] : List (Nat × Instr × Nat)), decode cX8_copy q.1 = .ok (q.2.1, q.2.2) := by decide +kernel
abbrev X_Stan_copy : MX := (cX8_copy, RX8, "copy", 3, none, 2, 41)
theorem v_Stan_copy_B90 (F : Nat)  (l0 l1 : Int) (h : Hp) : V X_Stan_copy 90 [(0, 2, l0), (1, 2, l1)] [] h (Stan_copy_B90 F  l0 l1 h) := by
  unfold Stan_copy_B90
  refine V_aload_n (pc := 90) (DCa dc_Stan_copy_1 5 rfl) rfl 1 rfl ?_
  refine Q_getf (k := 5) (pc := 91) (DCa dc_Stan_copy_1 6 rfl) cls_8 (Nat.le_of_ble_eq_true rfl) fl_8_31 rfl rfl rfl (fun v23 => ?_)
  refine V_iconst (pc := 94) (DCa dc_Stan_copy_1 7 rfl) (by decide) ?_
  refine V_aload_n (pc := 95) (DCa dc_Stan_copy_1 8 rfl) rfl 0 rfl ?_
  refine Q_getf (k := 5) (pc := 96) (DCa dc_Stan_copy_1 9 rfl) cls_8 (Nat.le_of_ble_eq_true rfl) fl_8_31 rfl rfl rfl (fun v24 => ?_)
  refine V_iconst (pc := 99) (DCa dc_Stan_copy_1 10 rfl) (by decide) ?_
  refine V_bipush (pc := 100) (DCa dc_Stan_copy_1 11 rfl) (by decide) ?_
  refine V_acp (pc := 102) (DCa dc_Stan_copy_1 12 rfl) (tb6 62 rfl rfl) ac_n ac_s ac_i ⟨Nat.le_of_ble_eq_true rfl, Nat.le_of_ble_eq_true rfl⟩ (fun h25 => ?_)
  refine V_aload_n (pc := 105) (DCa dc_Stan_copy_1 13 rfl) rfl 1 rfl ?_
  refine Q_getf (k := 6) (pc := 106) (DCa dc_Stan_copy_1 14 rfl) cls_8 (Nat.le_of_ble_eq_true rfl) fl_8_34 rfl rfl rfl (fun v26 => ?_)
  refine V_iconst (pc := 109) (DCa dc_Stan_copy_1 15 rfl) (by decide) ?_
  refine V_aload_n (pc := 110) (DCa dc_Stan_copy_1 16 rfl) rfl 0 rfl ?_
  refine Q_getf (k := 6) (pc := 111) (DCa dc_Stan_copy_1 17 rfl) cls_8 (Nat.le_of_ble_eq_true rfl) fl_8_34 rfl rfl rfl (fun v27 => ?_)
  refine V_iconst (pc := 114) (DCa dc_Stan_copy_1 18 rfl) (by decide) ?_
  refine V_bipush (pc := 115) (DCa dc_Stan_copy_1 19 rfl) (by decide) ?_
  refine V_acp (pc := 117) (DCa dc_Stan_copy_1 20 rfl) (tb6 62 rfl rfl) ac_n ac_s ac_i ⟨Nat.le_of_ble_eq_true rfl, Nat.le_of_ble_eq_true rfl⟩ (fun h28 => ?_)
  refine V_aload_n (pc := 120) (DCa dc_Stan_copy_1 21 rfl) rfl 1 rfl ?_
  refine Q_getf (k := 7) (pc := 121) (DCa dc_Stan_copy_1 22 rfl) cls_8 (Nat.le_of_ble_eq_true rfl) fl_8_37 rfl rfl rfl (fun v29 => ?_)
  refine V_iconst (pc := 124) (DCa dc_Stan_copy_1 23 rfl) (by decide) ?_
  refine V_aload_n (pc := 125) (DCa dc_Stan_copy_1 24 rfl) rfl 0 rfl ?_
  refine Q_getf (k := 7) (pc := 126) (DCa dc_Stan_copy_1 25 rfl) cls_8 (Nat.le_of_ble_eq_true rfl) fl_8_37 rfl rfl rfl (fun v30 => ?_)
  refine V_iconst (pc := 129) (DCa dc_Stan_copy_1 26 rfl) (by decide) ?_
  refine V_bipush (pc := 130) (DCa dc_Stan_copy_1 27 rfl) (by decide) ?_
  refine V_acp (pc := 132) (DCa dc_Stan_copy_1 28 rfl) (tb6 62 rfl rfl) ac_n ac_s ac_i ⟨Nat.le_of_ble_eq_true rfl, Nat.le_of_ble_eq_true rfl⟩ (fun h31 => ?_)
  refine V_aload_n (pc := 135) (DCa dc_Stan_copy_1 29 rfl) rfl 0 rfl ?_
  refine V_aload_n (pc := 136) (DCa dc_Stan_copy_1 30 rfl) rfl 1 rfl ?_
  refine Q_getf (k := 8) (pc := 137) (DCa dc_Stan_copy_1 31 rfl) cls_8 (Nat.le_of_ble_eq_true rfl) fl_8_45 rfl rfl rfl (fun v32 => ?_)
  refine Q_putf (k := 8) (pc := 140) (DCa dc_Stan_copy_1 32 rfl) cls_8 (Nat.le_of_ble_eq_true rfl) fl_8_45 rfl rfl rfl (Or.inl rfl) (Or.inl ⟨rfl, rfl⟩) (fun h33 => ?_)
  exact V_return (pc := 143) (DCa dc_Stan_copy_1 33 rfl) rfl
theorem v_Stan_copy_L30s (F : Nat)  (R30 : Int → Int → Int → Hp → Option (Int × Hp)) (hR30 : ∀ (l0 l1 l2 : Int) (h : Hp), V X_Stan_copy 30 [(0, 2, l0), (1, 2, l1), (2, 0, l2)] [] h (R30 l0 l1 l2 h)) (l0 l1 l2 : Int) (h : Hp) : V X_Stan_copy 30 [(0, 2, l0), (1, 2, l1), (2, 0, l2)] [] h (Stan_copy_L30s F  R30 l0 l1 l2 h) := by
  unfold Stan_copy_L30s
  refine V_iload_n (pc := 30) (DCa dc_Stan_copy_0 18 rfl) rfl 2 rfl ?_
  refine V_bipush (pc := 31) (DCa dc_Stan_copy_0 19 rfl) (by decide) ?_
  refine V_icmp_ge (tgt := 90) (pc := 33) (DCa dc_Stan_copy_0 20 rfl) (by decide) (fun _ => ?_) (fun _ => ?_)
  · refine V_aload_n (pc := 36) (DCa dc_Stan_copy_0 21 rfl) rfl 0 rfl ?_
    refine Q_getf (k := 1) (pc := 37) (DCa dc_Stan_copy_0 22 rfl) cls_8 (Nat.le_of_ble_eq_true rfl) fl_8_17 rfl rfl rfl (fun v7 => ?_)
    refine V_iload_n (pc := 40) (DCa dc_Stan_copy_0 23 rfl) rfl 2 rfl ?_
    refine V_aload_n (pc := 41) (DCa dc_Stan_copy_0 24 rfl) rfl 1 rfl ?_
    refine Q_getf (k := 1) (pc := 42) (DCa dc_Stan_copy_0 25 rfl) cls_8 (Nat.le_of_ble_eq_true rfl) fl_8_17 rfl rfl rfl (fun v8 => ?_)
    refine V_iload_n (pc := 45) (DCa dc_Stan_copy_0 26 rfl) rfl 2 rfl ?_
    refine Q_iaload (pc := 46) (DCa dc_Stan_copy_0 27 rfl) (fun v9 => ?_)
    refine Q_iastore (pc := 47) (DCa dc_Stan_copy_0 28 rfl) (fun h10 => ?_)
    refine V_aload_n (pc := 48) (DCa dc_Stan_copy_0 29 rfl) rfl 0 rfl ?_
    refine Q_getf (k := 2) (pc := 49) (DCa dc_Stan_copy_0 30 rfl) cls_8 (Nat.le_of_ble_eq_true rfl) fl_8_21 rfl rfl rfl (fun v11 => ?_)
    refine V_iload_n (pc := 52) (DCa dc_Stan_copy_0 31 rfl) rfl 2 rfl ?_
    refine V_aload_n (pc := 53) (DCa dc_Stan_copy_0 32 rfl) rfl 1 rfl ?_
    refine Q_getf (k := 2) (pc := 54) (DCa dc_Stan_copy_0 33 rfl) cls_8 (Nat.le_of_ble_eq_true rfl) fl_8_21 rfl rfl rfl (fun v12 => ?_)
    refine V_iload_n (pc := 57) (DCa dc_Stan_copy_0 34 rfl) rfl 2 rfl ?_
    refine Q_iaload (pc := 58) (DCa dc_Stan_copy_0 35 rfl) (fun v13 => ?_)
    refine Q_iastore (pc := 59) (DCa dc_Stan_copy_0 36 rfl) (fun h14 => ?_)
    refine V_aload_n (pc := 60) (DCa dc_Stan_copy_0 37 rfl) rfl 0 rfl ?_
    refine Q_getf (k := 3) (pc := 61) (DCa dc_Stan_copy_0 38 rfl) cls_8 (Nat.le_of_ble_eq_true rfl) fl_8_24 rfl rfl rfl (fun v15 => ?_)
    refine V_iload_n (pc := 64) (DCa dc_Stan_copy_0 39 rfl) rfl 2 rfl ?_
    refine V_aload_n (pc := 65) (DCa dc_Stan_copy_0 40 rfl) rfl 1 rfl ?_
    refine Q_getf (k := 3) (pc := 66) (DCa dc_Stan_copy_0 41 rfl) cls_8 (Nat.le_of_ble_eq_true rfl) fl_8_24 rfl rfl rfl (fun v16 => ?_)
    refine V_iload_n (pc := 69) (DCa dc_Stan_copy_0 42 rfl) rfl 2 rfl ?_
    refine Q_iaload (pc := 70) (DCa dc_Stan_copy_0 43 rfl) (fun v17 => ?_)
    refine Q_iastore (pc := 71) (DCa dc_Stan_copy_0 44 rfl) (fun h18 => ?_)
    refine V_aload_n (pc := 72) (DCa dc_Stan_copy_0 45 rfl) rfl 0 rfl ?_
    refine Q_getf (k := 4) (pc := 73) (DCa dc_Stan_copy_0 46 rfl) cls_8 (Nat.le_of_ble_eq_true rfl) fl_8_27 rfl rfl rfl (fun v19 => ?_)
    refine V_iload_n (pc := 76) (DCa dc_Stan_copy_0 47 rfl) rfl 2 rfl ?_
    refine V_aload_n (pc := 77) (DCa dc_Stan_copy_0 48 rfl) rfl 1 rfl ?_
    refine Q_getf (k := 4) (pc := 78) (DCa dc_Stan_copy_0 49 rfl) cls_8 (Nat.le_of_ble_eq_true rfl) fl_8_27 rfl rfl rfl (fun v20 => ?_)
    refine V_iload_n (pc := 81) (DCa dc_Stan_copy_1 0 rfl) rfl 2 rfl ?_
    refine Q_zaload (pc := 82) (DCa dc_Stan_copy_1 1 rfl) (fun v21 => ?_)
    refine Q_zastore (pc := 83) (DCa dc_Stan_copy_1 2 rfl) (fun h22 => ?_)
    refine V_iinc (ls' := [(0, 2, l0), (1, 2, l1), (2, 0, w32 (l2 + 1))]) (pc := 84) (DCa dc_Stan_copy_1 3 rfl) (Nat.le_of_ble_eq_true rfl) (by decide) 2 rfl rfl ?_
    refine V_goto (tgt := 30) (pc := 87) (DCa dc_Stan_copy_1 4 rfl) (by decide) ?_
    exact hR30 _ _ _ _
  · refine V_pick [0, 1] rfl ?_
    exact v_Stan_copy_B90 F _ _ _
theorem v_Stan_copy_L30 (F : Nat)  (n : Nat) : ∀ (l0 l1 l2 : Int) (h : Hp), V X_Stan_copy 30 [(0, 2, l0), (1, 2, l1), (2, 0, l2)] [] h (Stan_copy_L30 F  n l0 l1 l2 h) := by
  induction n with
  | zero => intros; exact V_none
  | succ n ih => exact fun l0 l1 l2 h => v_Stan_copy_L30s F  _ ih l0 l1 l2 h
theorem v_Stan_copy_L2s (F : Nat)  (R2 : Int → Int → Int → Hp → Option (Int × Hp)) (hR2 : ∀ (l0 l1 l2 : Int) (h : Hp), V X_Stan_copy 2 [(0, 2, l0), (1, 2, l1), (2, 0, l2)] [] h (R2 l0 l1 l2 h)) (l0 l1 l2 : Int) (h : Hp) : V X_Stan_copy 2 [(0, 2, l0), (1, 2, l1), (2, 0, l2)] [] h (Stan_copy_L2s F  R2 l0 l1 l2 h) := by
  unfold Stan_copy_L2s
  refine V_iload_n (pc := 2) (DCa dc_Stan_copy_0 2 rfl) rfl 2 rfl ?_
  refine V_iconst (pc := 3) (DCa dc_Stan_copy_0 3 rfl) (by decide) ?_
  refine V_icmp_ge (tgt := 28) (pc := 4) (DCa dc_Stan_copy_0 4 rfl) (by decide) (fun _ => ?_) (fun _ => ?_)
  · refine V_aload_n (pc := 7) (DCa dc_Stan_copy_0 5 rfl) rfl 0 rfl ?_
    refine Q_getf (k := 0) (pc := 8) (DCa dc_Stan_copy_0 6 rfl) cls_8 (Nat.le_of_ble_eq_true rfl) fl_8_11 rfl rfl rfl (fun v1 => ?_)
    refine V_iload_n (pc := 11) (DCa dc_Stan_copy_0 7 rfl) rfl 2 rfl ?_
    refine Q_aaload (pc := 12) (DCa dc_Stan_copy_0 8 rfl) (by decide) rfl rfl (fun v2 => ?_)
    refine V_aload_n (pc := 13) (DCa dc_Stan_copy_0 9 rfl) rfl 1 rfl ?_
    refine Q_getf (k := 0) (pc := 14) (DCa dc_Stan_copy_0 10 rfl) cls_8 (Nat.le_of_ble_eq_true rfl) fl_8_11 rfl rfl rfl (fun v3 => ?_)
    refine V_iload_n (pc := 17) (DCa dc_Stan_copy_0 11 rfl) rfl 2 rfl ?_
    refine Q_aaload (pc := 18) (DCa dc_Stan_copy_0 12 rfl) (by decide) rfl rfl (fun v4 => ?_)
    refine Q_callv (ci := 10) (st := []) (pc := 19) (DCa dc_Stan_copy_0 13 rfl) (sp_Walk_copy F _ _ _) ce_Walk_copy ml_8_49 rfl rfl ⟨Nat.le_of_ble_eq_true rfl, Nat.le_of_ble_eq_true rfl⟩ rfl (Nat.le_of_ble_eq_true rfl) (fun r5 h6 => ?_)
    refine V_iinc (ls' := [(0, 2, l0), (1, 2, l1), (2, 0, w32 (l2 + 1))]) (pc := 22) (DCa dc_Stan_copy_0 14 rfl) (Nat.le_of_ble_eq_true rfl) (by decide) 2 rfl rfl ?_
    refine V_goto (tgt := 2) (pc := 25) (DCa dc_Stan_copy_0 15 rfl) (by decide) ?_
    exact hR2 _ _ _ _
  · refine V_iconst (pc := 28) (DCa dc_Stan_copy_0 16 rfl) (by decide) ?_
    refine V_istore_n (ls' := [(0, 2, l0), (1, 2, l1), (2, 0, 0)]) (pc := 29) (DCa dc_Stan_copy_0 17 rfl) rfl (Nat.le_of_ble_eq_true rfl) rfl ?_
    exact v_Stan_copy_L30 F F _ _ _ _
theorem v_Stan_copy_L2 (F : Nat)  (n : Nat) : ∀ (l0 l1 l2 : Int) (h : Hp), V X_Stan_copy 2 [(0, 2, l0), (1, 2, l1), (2, 0, l2)] [] h (Stan_copy_L2 F  n l0 l1 l2 h) := by
  induction n with
  | zero => intros; exact V_none
  | succ n ih => exact fun l0 l1 l2 h => v_Stan_copy_L2s F  _ ih l0 l1 l2 h
theorem v_Stan_copy (F : Nat) (l0 l1 : Int) (h : Hp) : V X_Stan_copy 0 [(0, 2, l0), (1, 2, l1)] [] h (Stan_copy F l0 l1 h) := by
  unfold Stan_copy
  refine V_iconst (pc := 0) (DCa dc_Stan_copy_0 0 rfl) (by decide) ?_
  refine V_istore_n (ls' := [(0, 2, l0), (1, 2, l1), (2, 0, 0)]) (pc := 1) (DCa dc_Stan_copy_0 1 rfl) rfl (Nat.le_of_ble_eq_true rfl) rfl ?_
  exact v_Stan_copy_L2 F F _ _ _ _
theorem sp_Stan_copy (F : Nat) (l0 l1 : Int) (h : Hp) : Sp yX8_copy cX8_copy 3 none 2 41 [(2, l0), (2, l1)] h (Stan_copy F l0 l1 h) := Sp_of (by decide +kernel) rfl rfl (Nat.le_of_ble_eq_true rfl) (v_Stan_copy F l0 l1 h)

-- TideRakes.<init>
def Tide_init_B150 (F : Nat)  (l0 : Int) (h : Hp) : Option (Int × Hp) :=
  gf h l0 111 4 fun v56 =>
  gf h v56 107 0 fun v57 =>
  iv h v57 106 (Scri_clear F v57 h) fun r58 h59 =>
  iv h59 l0 111 (Tide_beginDay F l0 h59) fun r60 h61 =>
  some (0, h61)
def Tide_init_L126s (F : Nat)  (R126 : Int → Int → Hp → Option (Int × Hp)) (l0 l1 : Int) (h : Hp) : Option (Int × Hp) :=
  if l1 < 3 then
    (gf h l0 111 7 fun v50 =>
    no h 108 9 fun v51 h52 =>
    iv h52 v51 108 (Stan_init F v51 h52) fun r53 h54 =>
    ar h54 v50 6 l1 v51 108 fun h55 =>
    R126 l0 (w32 (l1 + 1)) h55)
  else
    (Tide_init_B150 F l0 h)
def Tide_init_L126 (F : Nat)  : Nat → Int → Int → Hp → Option (Int × Hp)
  | 0 => fun _ _ _ => none
  | n + 1 => Tide_init_L126s F  (Tide_init_L126 F  n)
def Tide_init (F : Nat) (l0 : Int) (h : Hp) : Option (Int × Hp) :=
  vc h l0 111 <|
  na h 1 2000 fun v1 h2 =>
  pf h2 l0 111 0 v1 fun h3 =>
  pf h3 l0 111 2 (-1) fun h4 =>
  no h4 103 12 fun v5 h6 =>
  iv h6 v5 103 (Read_init F v5 h6) fun r7 h8 =>
  pf h8 l0 111 3 v5 fun h9 =>
  no h9 107 7 fun v10 h11 =>
  iv h11 v10 107 (Shor_init F v10 h11) fun r12 h13 =>
  pf h13 l0 111 4 v10 fun h14 =>
  no h14 108 9 fun v15 h16 =>
  iv h16 v15 108 (Stan_init F v15 h16) fun r17 h18 =>
  pf h18 l0 111 5 v15 fun h19 =>
  no h19 101 3 fun v20 h21 =>
  iv h21 v20 101 (Past_init F v20 h21) fun r22 h23 =>
  pf h23 l0 111 6 v20 fun h24 =>
  na h24 6 3 fun v25 h26 =>
  pf h26 l0 111 7 v25 fun h27 =>
  na h27 2 3 fun v28 h29 =>
  pf h29 l0 111 8 v28 fun h30 =>
  no h30 102 10 fun v31 h32 =>
  iv h32 v31 102 (Plan_init F v31 h32) fun r33 h34 =>
  pf h34 l0 111 9 v31 fun h35 =>
  no h35 109 5 fun v36 h37 =>
  iv h37 v36 109 (Told_init F v36 h37) fun r38 h39 =>
  pf h39 l0 111 10 v36 fun h40 =>
  na h40 0 50 fun v41 h42 =>
  pf h42 l0 111 11 v41 fun h43 =>
  na h43 0 50 fun v44 h45 =>
  pf h45 l0 111 12 v44 fun h46 =>
  na h46 0 600 fun v47 h48 =>
  pf h48 l0 111 13 v47 fun h49 =>
  Tide_init_L126 F F l0 0 h49

theorem dc_Tide_init_0 : ∀ q ∈ ([(0, .aload_n 0, 1), (1, .invokespecial 1, 3), (4, .aload_n 0, 1), (5, .sipush 2000, 3), (8, .newarray .byte, 2), (10, .putfield 9, 3), (13, .aload_n 0, 1), (14, .iconst (-1), 1), (15, .putfield 13, 3), (18, .aload_n 0, 1), (19, .new 17, 3), (22, .dup, 1), (23, .invokespecial 19, 3), (26, .putfield 20, 3), (29, .aload_n 0, 1), (30, .new 24, 3), (33, .dup, 1), (34, .invokespecial 26, 3), (37, .putfield 27, 3), (40, .aload_n 0, 1), (41, .new 31, 3), (44, .dup, 1), (45, .invokespecial 33, 3), (48, .putfield 34, 3), (51, .aload_n 0, 1), (52, .new 38, 3), (55, .dup, 1), (56, .invokespecial 40, 3), (59, .putfield 41, 3), (62, .aload_n 0, 1), (63, .iconst 3, 1), (64, .anewarray 31, 3), (67, .putfield 45, 3), (70, .aload_n 0, 1), (71, .iconst 3, 1), (72, .newarray .boolean, 2), (74, .putfield 49, 3), (77, .aload_n 0, 1), (78, .new 53, 3), (81, .dup, 1), (82, .invokespecial 55, 3), (85, .putfield 56, 3), (88, .aload_n 0, 1), (89, .new 60, 3), (92, .dup, 1), (93, .invokespecial 62, 3), (96, .putfield 63, 3), (99, .aload_n 0, 1), (100, .bipush 50, 2), (102, .newarray .int, 2)] : List (Nat × Instr × Nat)), decode cX11_init q.1 = .ok (q.2.1, q.2.2) := by decide +kernel
theorem dc_Tide_init_1 : ∀ q ∈ ([(104, .putfield 67, 3), (107, .aload_n 0, 1), (108, .bipush 50, 2), (110, .newarray .int, 2), (112, .putfield 71, 3), (115, .aload_n 0, 1), (116, .sipush 600, 3), (119, .newarray .int, 2), (121, .putfield 74, 3), (124, .iconst 0, 1), (125, .istore_n 1, 1), (126, .iload_n 1, 1), (127, .iconst 3, 1), (128, .if_icmp .ge 22, 3), (131, .aload_n 0, 1), (132, .getfield 45, 3), (135, .iload_n 1, 1), (136, .new 31, 3), (139, .dup, 1), (140, .invokespecial 33, 3), (143, .aastore, 1), (144, .iinc 1 1, 3), (147, .goto (-21), 3), (150, .aload_n 0, 1), (151, .getfield 27, 3), (154, .getfield 77, 3), (157, .invokevirtual 81, 3), (160, .aload_n 0, 1), (161, .invokevirtual 86, 3), (164, .return_, 1)] : List (Nat × Instr × Nat)), decode cX11_init q.1 = .ok (q.2.1, q.2.2) := by decide +kernel
abbrev X_Tide_init : MX := (cX11_init, RX11, "<init>", 2, none, 8, 185)
theorem v_Tide_init_B150 (F : Nat)  (l0 : Int) (h : Hp) : V X_Tide_init 150 [(0, 2, l0)] [] h (Tide_init_B150 F  l0 h) := by
  unfold Tide_init_B150
  refine V_aload_n (pc := 150) (DCa dc_Tide_init_1 23 rfl) rfl 0 rfl ?_
  refine Q_getf (k := 4) (pc := 151) (DCa dc_Tide_init_1 24 rfl) cls_11 (Nat.le_of_ble_eq_true rfl) fl_11_27 rfl rfl rfl (fun v56 => ?_)
  refine Q_getf (k := 0) (pc := 154) (DCa dc_Tide_init_1 25 rfl) cls_7 (Nat.le_of_ble_eq_true rfl) fl_11_77 rfl rfl rfl (fun v57 => ?_)
  refine Q_callv (ci := 6) (st := []) (pc := 157) (DCa dc_Tide_init_1 26 rfl) (sp_Scri_clear F _ _) ce_Scri_clear ml_11_81 rfl rfl ⟨Nat.le_of_ble_eq_true rfl, Nat.le_of_ble_eq_true rfl⟩ rfl (Nat.le_of_ble_eq_true rfl) (fun r58 h59 => ?_)
  refine V_aload_n (pc := 160) (DCa dc_Tide_init_1 27 rfl) rfl 0 rfl ?_
  refine Q_callv (ci := 11) (st := []) (pc := 161) (DCa dc_Tide_init_1 28 rfl) (sp_Tide_beginDay F _ _) ce_Tide_beginDay ml_11_86 rfl rfl ⟨Nat.le_of_ble_eq_true rfl, Nat.le_of_ble_eq_true rfl⟩ rfl (Nat.le_of_ble_eq_true rfl) (fun r60 h61 => ?_)
  exact V_return (pc := 164) (DCa dc_Tide_init_1 29 rfl) rfl
theorem v_Tide_init_L126s (F : Nat)  (R126 : Int → Int → Hp → Option (Int × Hp)) (hR126 : ∀ (l0 l1 : Int) (h : Hp), V X_Tide_init 126 [(0, 2, l0), (1, 0, l1)] [] h (R126 l0 l1 h)) (l0 l1 : Int) (h : Hp) : V X_Tide_init 126 [(0, 2, l0), (1, 0, l1)] [] h (Tide_init_L126s F  R126 l0 l1 h) := by
  unfold Tide_init_L126s
  refine V_iload_n (pc := 126) (DCa dc_Tide_init_1 11 rfl) rfl 1 rfl ?_
  refine V_iconst (pc := 127) (DCa dc_Tide_init_1 12 rfl) (by decide) ?_
  refine V_icmp_ge (tgt := 150) (pc := 128) (DCa dc_Tide_init_1 13 rfl) (by decide) (fun _ => ?_) (fun _ => ?_)
  · refine V_aload_n (pc := 131) (DCa dc_Tide_init_1 14 rfl) rfl 0 rfl ?_
    refine Q_getf (k := 7) (pc := 132) (DCa dc_Tide_init_1 15 rfl) cls_11 (Nat.le_of_ble_eq_true rfl) fl_11_45 rfl rfl rfl (fun v50 => ?_)
    refine V_iload_n (pc := 135) (DCa dc_Tide_init_1 16 rfl) rfl 1 rfl ?_
    refine Q_new (pc := 136) (DCa dc_Tide_init_1 17 rfl) cls_8 (tb2 90 rfl rfl) rfl rfl (fun v51 h52 => ?_)
    refine V_dup (pc := 139) (DCa dc_Tide_init_1 18 rfl) rfl ?_
    refine Q_calli (ci := 8) (st := [(2, v51), (0, l1), (2, v50)]) (pc := 140) (DCa dc_Tide_init_1 19 rfl) (sp_Stan_init F _ _) ce_Stan_init ml_11_33 rfl rfl ⟨Nat.le_of_ble_eq_true rfl, Nat.le_of_ble_eq_true rfl⟩ rfl (Nat.le_of_ble_eq_true rfl) (fun r53 h54 => ?_)
    refine Q_aastore (pc := 143) (DCa dc_Tide_init_1 20 rfl) (by decide) rfl cls_8 rfl rfl (fun h55 => ?_)
    refine V_iinc (ls' := [(0, 2, l0), (1, 0, w32 (l1 + 1))]) (pc := 144) (DCa dc_Tide_init_1 21 rfl) (Nat.le_of_ble_eq_true rfl) (by decide) 1 rfl rfl ?_
    refine V_goto (tgt := 126) (pc := 147) (DCa dc_Tide_init_1 22 rfl) (by decide) ?_
    exact hR126 _ _ _
  · refine V_pick [0] rfl ?_
    exact v_Tide_init_B150 F _ _
theorem v_Tide_init_L126 (F : Nat)  (n : Nat) : ∀ (l0 l1 : Int) (h : Hp), V X_Tide_init 126 [(0, 2, l0), (1, 0, l1)] [] h (Tide_init_L126 F  n l0 l1 h) := by
  induction n with
  | zero => intros; exact V_none
  | succ n ih => exact fun l0 l1 h => v_Tide_init_L126s F  _ ih l0 l1 h
theorem v_Tide_init (F : Nat) (l0 : Int) (h : Hp) : V X_Tide_init 0 [(0, 2, l0)] [] h (Tide_init F l0 h) := by
  unfold Tide_init
  refine V_aload_n (pc := 0) (DCa dc_Tide_init_0 0 rfl) rfl 0 rfl ?_
  refine Q_objinit (pc := 1) (DCa dc_Tide_init_0 1 rfl) (tb1 28 rfl rfl) oi_i oi_c ⟨Nat.le_of_ble_eq_true rfl, Nat.le_of_ble_eq_true rfl⟩ ?_
  refine V_aload_n (pc := 4) (DCa dc_Tide_init_0 2 rfl) rfl 0 rfl ?_
  refine V_sipush (pc := 5) (DCa dc_Tide_init_0 3 rfl) (by decide) ?_
  refine Q_newa (pc := 8) (DCa dc_Tide_init_0 4 rfl) nas_1 (fun v1 h2 => ?_)
  refine Q_putf (k := 0) (pc := 10) (DCa dc_Tide_init_0 5 rfl) cls_11 (Nat.le_of_ble_eq_true rfl) fl_11_9 rfl rfl rfl (Or.inr ⟨rfl, rfl, rfl⟩) (Or.inr ⟨Or.inr ⟨_, rfl⟩, rfl⟩) (fun h3 => ?_)
  refine V_aload_n (pc := 13) (DCa dc_Tide_init_0 6 rfl) rfl 0 rfl ?_
  refine V_iconst (pc := 14) (DCa dc_Tide_init_0 7 rfl) (by decide) ?_
  refine Q_putf (k := 2) (pc := 15) (DCa dc_Tide_init_0 8 rfl) cls_11 (Nat.le_of_ble_eq_true rfl) fl_11_13 rfl rfl rfl (Or.inl rfl) (Or.inl ⟨rfl, rfl⟩) (fun h4 => ?_)
  refine V_aload_n (pc := 18) (DCa dc_Tide_init_0 9 rfl) rfl 0 rfl ?_
  refine Q_new (pc := 19) (DCa dc_Tide_init_0 10 rfl) cls_3 (tb1 31 rfl rfl) rfl rfl (fun v5 h6 => ?_)
  refine V_dup (pc := 22) (DCa dc_Tide_init_0 11 rfl) rfl ?_
  refine Q_calli (ci := 3) (st := [(2, v5), (2, l0)]) (pc := 23) (DCa dc_Tide_init_0 12 rfl) (sp_Read_init F _ _) ce_Read_init ml_11_19 rfl rfl ⟨Nat.le_of_ble_eq_true rfl, Nat.le_of_ble_eq_true rfl⟩ rfl (Nat.le_of_ble_eq_true rfl) (fun r7 h8 => ?_)
  refine Q_putf (k := 3) (pc := 26) (DCa dc_Tide_init_0 13 rfl) cls_11 (Nat.le_of_ble_eq_true rfl) fl_11_20 rfl rfl rfl (Or.inr ⟨rfl, rfl, rfl⟩) (Or.inr ⟨Or.inl ⟨_, rfl⟩, rfl⟩) (fun h9 => ?_)
  refine V_aload_n (pc := 29) (DCa dc_Tide_init_0 14 rfl) rfl 0 rfl ?_
  refine Q_new (pc := 30) (DCa dc_Tide_init_0 15 rfl) cls_7 (tb2 9 rfl rfl) rfl rfl (fun v10 h11 => ?_)
  refine V_dup (pc := 33) (DCa dc_Tide_init_0 16 rfl) rfl ?_
  refine Q_calli (ci := 7) (st := [(2, v10), (2, l0)]) (pc := 34) (DCa dc_Tide_init_0 17 rfl) (sp_Shor_init F _ _) ce_Shor_init ml_11_26 rfl rfl ⟨Nat.le_of_ble_eq_true rfl, Nat.le_of_ble_eq_true rfl⟩ rfl (Nat.le_of_ble_eq_true rfl) (fun r12 h13 => ?_)
  refine Q_putf (k := 4) (pc := 37) (DCa dc_Tide_init_0 18 rfl) cls_11 (Nat.le_of_ble_eq_true rfl) fl_11_27 rfl rfl rfl (Or.inr ⟨rfl, rfl, rfl⟩) (Or.inr ⟨Or.inl ⟨_, rfl⟩, rfl⟩) (fun h14 => ?_)
  refine V_aload_n (pc := 40) (DCa dc_Tide_init_0 19 rfl) rfl 0 rfl ?_
  refine Q_new (pc := 41) (DCa dc_Tide_init_0 20 rfl) cls_8 (tb2 90 rfl rfl) rfl rfl (fun v15 h16 => ?_)
  refine V_dup (pc := 44) (DCa dc_Tide_init_0 21 rfl) rfl ?_
  refine Q_calli (ci := 8) (st := [(2, v15), (2, l0)]) (pc := 45) (DCa dc_Tide_init_0 22 rfl) (sp_Stan_init F _ _) ce_Stan_init ml_11_33 rfl rfl ⟨Nat.le_of_ble_eq_true rfl, Nat.le_of_ble_eq_true rfl⟩ rfl (Nat.le_of_ble_eq_true rfl) (fun r17 h18 => ?_)
  refine Q_putf (k := 5) (pc := 48) (DCa dc_Tide_init_0 23 rfl) cls_11 (Nat.le_of_ble_eq_true rfl) fl_11_34 rfl rfl rfl (Or.inr ⟨rfl, rfl, rfl⟩) (Or.inr ⟨Or.inl ⟨_, rfl⟩, rfl⟩) (fun h19 => ?_)
  refine V_aload_n (pc := 51) (DCa dc_Tide_init_0 24 rfl) rfl 0 rfl ?_
  refine Q_new (pc := 52) (DCa dc_Tide_init_0 25 rfl) cls_1 (tb2 179 rfl rfl) rfl rfl (fun v20 h21 => ?_)
  refine V_dup (pc := 55) (DCa dc_Tide_init_0 26 rfl) rfl ?_
  refine Q_calliN (ci := 1) (host := "TideRakes") (st := [(2, v20), (2, l0)]) (pc := 56) (DCa dc_Tide_init_0 27 rfl) (sp_Past_init F _ _) ce_Past_init (by decide +kernel) rfl rfl ⟨Nat.le_of_ble_eq_true rfl, Nat.le_of_ble_eq_true rfl⟩ rfl (Nat.le_of_ble_eq_true rfl) (fun r22 h23 => ?_)
  refine Q_putf (k := 6) (pc := 59) (DCa dc_Tide_init_0 28 rfl) cls_11 (Nat.le_of_ble_eq_true rfl) fl_11_41 rfl rfl rfl (Or.inr ⟨rfl, rfl, rfl⟩) (Or.inr ⟨Or.inl ⟨_, rfl⟩, rfl⟩) (fun h24 => ?_)
  refine V_aload_n (pc := 62) (DCa dc_Tide_init_0 29 rfl) rfl 0 rfl ?_
  refine V_iconst (pc := 63) (DCa dc_Tide_init_0 30 rfl) (by decide) ?_
  refine Q_anewa (C := RX8) (pc := 64) (DCa dc_Tide_init_0 31 rfl) (by decide) rfl rfl (tb2 90 rfl rfl) (by decide +kernel) (fun v25 h26 => ?_)
  refine Q_putf (k := 7) (pc := 67) (DCa dc_Tide_init_0 32 rfl) cls_11 (Nat.le_of_ble_eq_true rfl) fl_11_45 rfl rfl rfl (Or.inr ⟨rfl, rfl, rfl⟩) (Or.inr ⟨Or.inr ⟨_, rfl⟩, rfl⟩) (fun h27 => ?_)
  refine V_aload_n (pc := 70) (DCa dc_Tide_init_0 33 rfl) rfl 0 rfl ?_
  refine V_iconst (pc := 71) (DCa dc_Tide_init_0 34 rfl) (by decide) ?_
  refine Q_newa (pc := 72) (DCa dc_Tide_init_0 35 rfl) nas_2 (fun v28 h29 => ?_)
  refine Q_putf (k := 8) (pc := 74) (DCa dc_Tide_init_0 36 rfl) cls_11 (Nat.le_of_ble_eq_true rfl) fl_11_49 rfl rfl rfl (Or.inr ⟨rfl, rfl, rfl⟩) (Or.inr ⟨Or.inr ⟨_, rfl⟩, rfl⟩) (fun h30 => ?_)
  refine V_aload_n (pc := 77) (DCa dc_Tide_init_0 37 rfl) rfl 0 rfl ?_
  refine Q_new (pc := 78) (DCa dc_Tide_init_0 38 rfl) cls_2 (tb2 197 rfl rfl) rfl rfl (fun v31 h32 => ?_)
  refine V_dup (pc := 81) (DCa dc_Tide_init_0 39 rfl) rfl ?_
  refine Q_calli (ci := 2) (st := [(2, v31), (2, l0)]) (pc := 82) (DCa dc_Tide_init_0 40 rfl) (sp_Plan_init F _ _) ce_Plan_init ml_11_55 rfl rfl ⟨Nat.le_of_ble_eq_true rfl, Nat.le_of_ble_eq_true rfl⟩ rfl (Nat.le_of_ble_eq_true rfl) (fun r33 h34 => ?_)
  refine Q_putf (k := 9) (pc := 85) (DCa dc_Tide_init_0 41 rfl) cls_11 (Nat.le_of_ble_eq_true rfl) fl_11_56 rfl rfl rfl (Or.inr ⟨rfl, rfl, rfl⟩) (Or.inr ⟨Or.inl ⟨_, rfl⟩, rfl⟩) (fun h35 => ?_)
  refine V_aload_n (pc := 88) (DCa dc_Tide_init_0 42 rfl) rfl 0 rfl ?_
  refine Q_new (pc := 89) (DCa dc_Tide_init_0 43 rfl) cls_9 (tb3 31 rfl rfl) rfl rfl (fun v36 h37 => ?_)
  refine V_dup (pc := 92) (DCa dc_Tide_init_0 44 rfl) rfl ?_
  refine Q_calliN (ci := 9) (host := "TideRakes") (st := [(2, v36), (2, l0)]) (pc := 93) (DCa dc_Tide_init_0 45 rfl) (sp_Told_init F _ _) ce_Told_init (by decide +kernel) rfl rfl ⟨Nat.le_of_ble_eq_true rfl, Nat.le_of_ble_eq_true rfl⟩ rfl (Nat.le_of_ble_eq_true rfl) (fun r38 h39 => ?_)
  refine Q_putf (k := 10) (pc := 96) (DCa dc_Tide_init_0 46 rfl) cls_11 (Nat.le_of_ble_eq_true rfl) fl_11_63 rfl rfl rfl (Or.inr ⟨rfl, rfl, rfl⟩) (Or.inr ⟨Or.inl ⟨_, rfl⟩, rfl⟩) (fun h40 => ?_)
  refine V_aload_n (pc := 99) (DCa dc_Tide_init_0 47 rfl) rfl 0 rfl ?_
  refine V_bipush (pc := 100) (DCa dc_Tide_init_0 48 rfl) (by decide) ?_
  refine Q_newa (pc := 102) (DCa dc_Tide_init_0 49 rfl) nas_0 (fun v41 h42 => ?_)
  refine Q_putf (k := 11) (pc := 104) (DCa dc_Tide_init_1 0 rfl) cls_11 (Nat.le_of_ble_eq_true rfl) fl_11_67 rfl rfl rfl (Or.inr ⟨rfl, rfl, rfl⟩) (Or.inr ⟨Or.inr ⟨_, rfl⟩, rfl⟩) (fun h43 => ?_)
  refine V_aload_n (pc := 107) (DCa dc_Tide_init_1 1 rfl) rfl 0 rfl ?_
  refine V_bipush (pc := 108) (DCa dc_Tide_init_1 2 rfl) (by decide) ?_
  refine Q_newa (pc := 110) (DCa dc_Tide_init_1 3 rfl) nas_0 (fun v44 h45 => ?_)
  refine Q_putf (k := 12) (pc := 112) (DCa dc_Tide_init_1 4 rfl) cls_11 (Nat.le_of_ble_eq_true rfl) fl_11_71 rfl rfl rfl (Or.inr ⟨rfl, rfl, rfl⟩) (Or.inr ⟨Or.inr ⟨_, rfl⟩, rfl⟩) (fun h46 => ?_)
  refine V_aload_n (pc := 115) (DCa dc_Tide_init_1 5 rfl) rfl 0 rfl ?_
  refine V_sipush (pc := 116) (DCa dc_Tide_init_1 6 rfl) (by decide) ?_
  refine Q_newa (pc := 119) (DCa dc_Tide_init_1 7 rfl) nas_0 (fun v47 h48 => ?_)
  refine Q_putf (k := 13) (pc := 121) (DCa dc_Tide_init_1 8 rfl) cls_11 (Nat.le_of_ble_eq_true rfl) fl_11_74 rfl rfl rfl (Or.inr ⟨rfl, rfl, rfl⟩) (Or.inr ⟨Or.inr ⟨_, rfl⟩, rfl⟩) (fun h49 => ?_)
  refine V_iconst (pc := 124) (DCa dc_Tide_init_1 9 rfl) (by decide) ?_
  refine V_istore_n (ls' := [(0, 2, l0), (1, 0, 0)]) (pc := 125) (DCa dc_Tide_init_1 10 rfl) rfl (Nat.le_of_ble_eq_true rfl) rfl ?_
  exact v_Tide_init_L126 F F _ _ _
theorem sp_Tide_init (F : Nat) (l0 : Int) (h : Hp) : Sp yX11_init cX11_init 2 none 8 185 [(2, l0)] h (Tide_init F l0 h) := Sp_of (by decide +kernel) rfl rfl (Nat.le_of_ble_eq_true rfl) (v_Tide_init F l0 h)

-- TideRakes.read
def Tide_read_B37 (F : Nat)  (l0 l1 s0 s1 : Int) (h : Hp) : Option (Int × Hp) :=
  pf h s1 111 2 s0 fun h9 =>
  if l1 = 0 then
    (gf h9 l0 111 4 fun v10 =>
    gf h9 v10 107 0 fun v11 =>
    gf h9 l0 111 4 fun v12 =>
    gf h9 l0 111 3 fun v13 =>
    gf h9 v13 103 5 fun v14 =>
    pf h9 v12 107 0 v14 fun h15 =>
    gf h15 l0 111 3 fun v16 =>
    pf h15 v16 103 5 v11 fun h17 =>
    iv h17 l0 111 (Tide_beginDay F l0 h17) fun r18 h19 =>
    some (l1, h19))
  else
    (some (l1, h9))
def Tide_read (F : Nat) (l0 : Int) (h : Hp) : Option (Int × Hp) :=
  gf h l0 111 3 fun v1 =>
  gf h l0 111 0 fun v2 =>
  gf h l0 111 1 fun v3 =>
  iv h v1 103 (Read_readText F v1 v2 v3 h) fun r4 h5 =>
  pf h5 l0 111 1 0 fun h6 =>
  if r4 = 0 then
    (Tide_read_B37 F l0 r4 (-1) l0 h6)
  else
    (gf h6 l0 111 3 fun v7 =>
    gf h6 v7 103 9 fun v8 =>
    Tide_read_B37 F l0 r4 v8 l0 h6)

theorem dc_Tide_read_0 : ∀ q ∈ ([(0, .aload_n 0, 1), (1, .getfield 20, 3), (4, .aload_n 0, 1), (5, .getfield 9, 3), (8, .aload_n 0, 1), (9, .getfield 89, 3), (12, .invokevirtual 96, 3), (15, .istore_n 1, 1), (16, .aload_n 0, 1), (17, .iconst 0, 1), (18, .putfield 89, 3), (21, .aload_n 0, 1), (22, .iload_n 1, 1), (23, .ifCond .ne 7, 3), (26, .iconst (-1), 1), (27, .goto 10, 3), (30, .aload_n 0, 1), (31, .getfield 20, 3), (34, .getfield 100, 3), (37, .putfield 13, 3), (40, .iload_n 1, 1), (41, .ifCond .ne 37, 3), (44, .aload_n 0, 1), (45, .getfield 27, 3), (48, .getfield 77, 3), (51, .astore_n 2, 1), (52, .aload_n 0, 1), (53, .getfield 27, 3), (56, .aload_n 0, 1), (57, .getfield 20, 3), (60, .getfield 101, 3), (63, .putfield 77, 3), (66, .aload_n 0, 1), (67, .getfield 20, 3), (70, .aload_n 2, 1), (71, .putfield 101, 3), (74, .aload_n 0, 1), (75, .invokevirtual 86, 3), (78, .iload_n 1, 1), (79, .ireturn, 1)] : List (Nat × Instr × Nat)), decode cX11_read q.1 = .ok (q.2.1, q.2.2) := by decide +kernel
abbrev X_Tide_read : MX := (cX11_read, RX11, "read", 3, (some (.int)), 52, 1531)
theorem v_Tide_read_B37 (F : Nat)  (l0 l1 s0 s1 : Int) (h : Hp) : V X_Tide_read 37 [(0, 2, l0), (1, 0, l1)] [(0, s0), (2, s1)] h (Tide_read_B37 F  l0 l1 s0 s1 h) := by
  unfold Tide_read_B37
  refine Q_putf (k := 2) (pc := 37) (DCa dc_Tide_read_0 19 rfl) cls_11 (Nat.le_of_ble_eq_true rfl) fl_11_13 rfl rfl rfl (Or.inl rfl) (Or.inl ⟨rfl, rfl⟩) (fun h9 => ?_)
  refine V_iload_n (pc := 40) (DCa dc_Tide_read_0 20 rfl) rfl 1 rfl ?_
  refine V_if_ne (tgt := 78) (pc := 41) (DCa dc_Tide_read_0 21 rfl) (by decide) (fun _ => ?_) (fun _ => ?_)
  · refine V_aload_n (pc := 44) (DCa dc_Tide_read_0 22 rfl) rfl 0 rfl ?_
    refine Q_getf (k := 4) (pc := 45) (DCa dc_Tide_read_0 23 rfl) cls_11 (Nat.le_of_ble_eq_true rfl) fl_11_27 rfl rfl rfl (fun v10 => ?_)
    refine Q_getf (k := 0) (pc := 48) (DCa dc_Tide_read_0 24 rfl) cls_7 (Nat.le_of_ble_eq_true rfl) fl_11_77 rfl rfl rfl (fun v11 => ?_)
    refine V_astore_n (ls' := [(0, 2, l0), (1, 0, l1), (2, 2, v11)]) (pc := 51) (DCa dc_Tide_read_0 25 rfl) rfl (Nat.le_of_ble_eq_true rfl) rfl ?_
    refine V_aload_n (pc := 52) (DCa dc_Tide_read_0 26 rfl) rfl 0 rfl ?_
    refine Q_getf (k := 4) (pc := 53) (DCa dc_Tide_read_0 27 rfl) cls_11 (Nat.le_of_ble_eq_true rfl) fl_11_27 rfl rfl rfl (fun v12 => ?_)
    refine V_aload_n (pc := 56) (DCa dc_Tide_read_0 28 rfl) rfl 0 rfl ?_
    refine Q_getf (k := 3) (pc := 57) (DCa dc_Tide_read_0 29 rfl) cls_11 (Nat.le_of_ble_eq_true rfl) fl_11_20 rfl rfl rfl (fun v13 => ?_)
    refine Q_getf (k := 5) (pc := 60) (DCa dc_Tide_read_0 30 rfl) cls_3 (Nat.le_of_ble_eq_true rfl) fl_11_101 rfl rfl rfl (fun v14 => ?_)
    refine Q_putf (k := 0) (pc := 63) (DCa dc_Tide_read_0 31 rfl) cls_7 (Nat.le_of_ble_eq_true rfl) fl_11_77 rfl rfl rfl (Or.inl rfl) (Or.inr ⟨Or.inl ⟨_, rfl⟩, rfl⟩) (fun h15 => ?_)
    refine V_aload_n (pc := 66) (DCa dc_Tide_read_0 32 rfl) rfl 0 rfl ?_
    refine Q_getf (k := 3) (pc := 67) (DCa dc_Tide_read_0 33 rfl) cls_11 (Nat.le_of_ble_eq_true rfl) fl_11_20 rfl rfl rfl (fun v16 => ?_)
    refine V_aload_n (pc := 70) (DCa dc_Tide_read_0 34 rfl) rfl 2 rfl ?_
    refine Q_putf (k := 5) (pc := 71) (DCa dc_Tide_read_0 35 rfl) cls_3 (Nat.le_of_ble_eq_true rfl) fl_11_101 rfl rfl rfl (Or.inl rfl) (Or.inr ⟨Or.inl ⟨_, rfl⟩, rfl⟩) (fun h17 => ?_)
    refine V_aload_n (pc := 74) (DCa dc_Tide_read_0 36 rfl) rfl 0 rfl ?_
    refine Q_callv (ci := 11) (st := []) (pc := 75) (DCa dc_Tide_read_0 37 rfl) (sp_Tide_beginDay F _ _) ce_Tide_beginDay ml_11_86 rfl rfl ⟨Nat.le_of_ble_eq_true rfl, Nat.le_of_ble_eq_true rfl⟩ rfl (Nat.le_of_ble_eq_true rfl) (fun r18 h19 => ?_)
    refine V_iload_n (pc := 78) (DCa dc_Tide_read_0 38 rfl) rfl 1 rfl ?_
    exact V_ireturn (pc := 79) (DCa dc_Tide_read_0 39 rfl) rfl
  · refine V_iload_n (pc := 78) (DCa dc_Tide_read_0 38 rfl) rfl 1 rfl ?_
    exact V_ireturn (pc := 79) (DCa dc_Tide_read_0 39 rfl) rfl
theorem v_Tide_read (F : Nat) (l0 : Int) (h : Hp) : V X_Tide_read 0 [(0, 2, l0)] [] h (Tide_read F l0 h) := by
  unfold Tide_read
  refine V_aload_n (pc := 0) (DCa dc_Tide_read_0 0 rfl) rfl 0 rfl ?_
  refine Q_getf (k := 3) (pc := 1) (DCa dc_Tide_read_0 1 rfl) cls_11 (Nat.le_of_ble_eq_true rfl) fl_11_20 rfl rfl rfl (fun v1 => ?_)
  refine V_aload_n (pc := 4) (DCa dc_Tide_read_0 2 rfl) rfl 0 rfl ?_
  refine Q_getf (k := 0) (pc := 5) (DCa dc_Tide_read_0 3 rfl) cls_11 (Nat.le_of_ble_eq_true rfl) fl_11_9 rfl rfl rfl (fun v2 => ?_)
  refine V_aload_n (pc := 8) (DCa dc_Tide_read_0 4 rfl) rfl 0 rfl ?_
  refine Q_getf (k := 1) (pc := 9) (DCa dc_Tide_read_0 5 rfl) cls_11 (Nat.le_of_ble_eq_true rfl) fl_11_89 rfl rfl rfl (fun v3 => ?_)
  refine Q_callv (ci := 3) (st := []) (pc := 12) (DCa dc_Tide_read_0 6 rfl) (sp_Read_readText F _ _ _ _) ce_Read_readText ml_11_96 rfl rfl ⟨Nat.le_of_ble_eq_true rfl, Nat.le_of_ble_eq_true rfl⟩ rfl (Nat.le_of_ble_eq_true rfl) (fun r4 h5 => ?_)
  refine V_istore_n (ls' := [(0, 2, l0), (1, 0, r4)]) (pc := 15) (DCa dc_Tide_read_0 7 rfl) rfl (Nat.le_of_ble_eq_true rfl) rfl ?_
  refine V_aload_n (pc := 16) (DCa dc_Tide_read_0 8 rfl) rfl 0 rfl ?_
  refine V_iconst (pc := 17) (DCa dc_Tide_read_0 9 rfl) (by decide) ?_
  refine Q_putf (k := 1) (pc := 18) (DCa dc_Tide_read_0 10 rfl) cls_11 (Nat.le_of_ble_eq_true rfl) fl_11_89 rfl rfl rfl (Or.inl rfl) (Or.inl ⟨rfl, rfl⟩) (fun h6 => ?_)
  refine V_aload_n (pc := 21) (DCa dc_Tide_read_0 11 rfl) rfl 0 rfl ?_
  refine V_iload_n (pc := 22) (DCa dc_Tide_read_0 12 rfl) rfl 1 rfl ?_
  refine V_if_ne (tgt := 30) (pc := 23) (DCa dc_Tide_read_0 13 rfl) (by decide) (fun _ => ?_) (fun _ => ?_)
  · refine V_iconst (pc := 26) (DCa dc_Tide_read_0 14 rfl) (by decide) ?_
    refine V_goto (tgt := 37) (pc := 27) (DCa dc_Tide_read_0 15 rfl) (by decide) ?_
    exact v_Tide_read_B37 F _ _ _ _ _
  · refine V_aload_n (pc := 30) (DCa dc_Tide_read_0 16 rfl) rfl 0 rfl ?_
    refine Q_getf (k := 3) (pc := 31) (DCa dc_Tide_read_0 17 rfl) cls_11 (Nat.le_of_ble_eq_true rfl) fl_11_20 rfl rfl rfl (fun v7 => ?_)
    refine Q_getf (k := 9) (pc := 34) (DCa dc_Tide_read_0 18 rfl) cls_3 (Nat.le_of_ble_eq_true rfl) fl_11_100 rfl rfl rfl (fun v8 => ?_)
    exact v_Tide_read_B37 F _ _ _ _ _
theorem sp_Tide_read (F : Nat) (l0 : Int) (h : Hp) : Sp yX11_read cX11_read 3 (some (.int)) 52 1531 [(2, l0)] h (Tide_read F l0 h) := Sp_of (by decide +kernel) rfl rfl (Nat.le_of_ble_eq_true rfl) (v_Tide_read F l0 h)

-- TideRakes.hold
def Tide_hold (F : Nat) (l0 l1 : Int) (h : Hp) : Option (Int × Hp) :=
  cl (Tide_isSlot F l1 h) fun r1 h2 =>
  if r1 = 0 then
    (rz 0 h2)
  else
    (gf h2 l0 111 7 fun v3 =>
    al h2 v3 6 l1 fun v4 =>
    gf h2 l0 111 5 fun v5 =>
    iv h2 v4 108 (Stan_copy F v4 v5 h2) fun r6 h7 =>
    gf h7 l0 111 8 fun v8 =>
    az h7 v8 l1 1 fun h9 =>
    rz 1 h9)

theorem dc_Tide_hold_0 : ∀ q ∈ ([(0, .iload_n 1, 1), (1, .invokestatic 284, 3), (4, .ifCond .ne 5, 3), (7, .iconst 0, 1), (8, .ireturn, 1), (9, .aload_n 0, 1), (10, .getfield 45, 3), (13, .iload_n 1, 1), (14, .aaload, 1), (15, .aload_n 0, 1), (16, .getfield 34, 3), (19, .invokevirtual 287, 3), (22, .aload_n 0, 1), (23, .getfield 49, 3), (26, .iload_n 1, 1), (27, .iconst 1, 1), (28, .bastore, 1), (29, .iconst 1, 1), (30, .ireturn, 1)] : List (Nat × Instr × Nat)), decode cX11_hold q.1 = .ok (q.2.1, q.2.2) := by decide +kernel
abbrev X_Tide_hold : MX := (cX11_hold, RX11, "hold", 2, (some (.boolean)), 3, 63)
theorem v_Tide_hold (F : Nat) (l0 l1 : Int) (h : Hp) : V X_Tide_hold 0 [(0, 2, l0), (1, 0, l1)] [] h (Tide_hold F l0 l1 h) := by
  unfold Tide_hold
  refine V_iload_n (pc := 0) (DCa dc_Tide_hold_0 0 rfl) rfl 1 rfl ?_
  refine Q_calls (st := []) (pc := 1) (DCa dc_Tide_hold_0 1 rfl) (sp_Tide_isSlot F _ _) ce_Tide_isSlot ml_11_284 rfl ⟨Nat.le_of_ble_eq_true rfl, Nat.le_of_ble_eq_true rfl⟩ rfl (Nat.le_of_ble_eq_true rfl) (fun r1 h2 => ?_)
  refine V_if_ne (tgt := 9) (pc := 4) (DCa dc_Tide_hold_0 2 rfl) (by decide) (fun _ => ?_) (fun _ => ?_)
  · refine V_iconst (pc := 7) (DCa dc_Tide_hold_0 3 rfl) (by decide) ?_
    exact V_zreturn (pc := 8) (DCa dc_Tide_hold_0 4 rfl) rfl
  · refine V_aload_n (pc := 9) (DCa dc_Tide_hold_0 5 rfl) rfl 0 rfl ?_
    refine Q_getf (k := 7) (pc := 10) (DCa dc_Tide_hold_0 6 rfl) cls_11 (Nat.le_of_ble_eq_true rfl) fl_11_45 rfl rfl rfl (fun v3 => ?_)
    refine V_iload_n (pc := 13) (DCa dc_Tide_hold_0 7 rfl) rfl 1 rfl ?_
    refine Q_aaload (pc := 14) (DCa dc_Tide_hold_0 8 rfl) (by decide) rfl rfl (fun v4 => ?_)
    refine V_aload_n (pc := 15) (DCa dc_Tide_hold_0 9 rfl) rfl 0 rfl ?_
    refine Q_getf (k := 5) (pc := 16) (DCa dc_Tide_hold_0 10 rfl) cls_11 (Nat.le_of_ble_eq_true rfl) fl_11_34 rfl rfl rfl (fun v5 => ?_)
    refine Q_callv (ci := 8) (st := []) (pc := 19) (DCa dc_Tide_hold_0 11 rfl) (sp_Stan_copy F _ _ _) ce_Stan_copy ml_11_287 rfl rfl ⟨Nat.le_of_ble_eq_true rfl, Nat.le_of_ble_eq_true rfl⟩ rfl (Nat.le_of_ble_eq_true rfl) (fun r6 h7 => ?_)
    refine V_aload_n (pc := 22) (DCa dc_Tide_hold_0 12 rfl) rfl 0 rfl ?_
    refine Q_getf (k := 8) (pc := 23) (DCa dc_Tide_hold_0 13 rfl) cls_11 (Nat.le_of_ble_eq_true rfl) fl_11_49 rfl rfl rfl (fun v8 => ?_)
    refine V_iload_n (pc := 26) (DCa dc_Tide_hold_0 14 rfl) rfl 1 rfl ?_
    refine V_iconst (pc := 27) (DCa dc_Tide_hold_0 15 rfl) (by decide) ?_
    refine Q_zastore (pc := 28) (DCa dc_Tide_hold_0 16 rfl) (fun h9 => ?_)
    refine V_iconst (pc := 29) (DCa dc_Tide_hold_0 17 rfl) (by decide) ?_
    exact V_zreturn (pc := 30) (DCa dc_Tide_hold_0 18 rfl) rfl
theorem sp_Tide_hold (F : Nat) (l0 l1 : Int) (h : Hp) : Sp yX11_hold cX11_hold 2 (some (.boolean)) 3 63 [(2, l0), (0, l1)] h (Tide_hold F l0 l1 h) := Sp_of (by decide +kernel) rfl rfl (Nat.le_of_ble_eq_true rfl) (v_Tide_hold F l0 l1 h)

-- TideRakes.restore
def Tide_restore (F : Nat) (l0 l1 : Int) (h : Hp) : Option (Int × Hp) :=
  cl (Tide_isSlot F l1 h) fun r1 h2 =>
  if r1 = 0 then
    (rz 0 h2)
  else
    (gf h2 l0 111 8 fun v3 =>
    al h2 v3 2 l1 fun v4 =>
    if v4 = 0 then
      (rz 0 h2)
    else
      (gf h2 l0 111 5 fun v5 =>
      gf h2 l0 111 7 fun v6 =>
      al h2 v6 6 l1 fun v7 =>
      iv h2 v5 108 (Stan_copy F v5 v7 h2) fun r8 h9 =>
      gf h9 l0 111 6 fun v10 =>
      pf h9 v10 101 2 0 fun h11 =>
      gf h11 l0 111 9 fun v12 =>
      iv h11 v12 102 (Plan_forgetRows F v12 h11) fun r13 h14 =>
      rz 1 h14))

theorem dc_Tide_restore_0 : ∀ q ∈ ([(0, .iload_n 1, 1), (1, .invokestatic 284, 3), (4, .ifCond .eq 12, 3), (7, .aload_n 0, 1), (8, .getfield 49, 3), (11, .iload_n 1, 1), (12, .baload, 1), (13, .ifCond .ne 5, 3), (16, .iconst 0, 1), (17, .ireturn, 1), (18, .aload_n 0, 1), (19, .getfield 34, 3), (22, .aload_n 0, 1), (23, .getfield 45, 3), (26, .iload_n 1, 1), (27, .aaload, 1), (28, .invokevirtual 287, 3), (31, .aload_n 0, 1), (32, .getfield 41, 3), (35, .iconst 0, 1), (36, .putfield 291, 3), (39, .aload_n 0, 1), (40, .getfield 56, 3), (43, .invokevirtual 191, 3), (46, .iconst 1, 1), (47, .ireturn, 1)] : List (Nat × Instr × Nat)), decode cX11_restore q.1 = .ok (q.2.1, q.2.2) := by decide +kernel
abbrev X_Tide_restore : MX := (cX11_restore, RX11, "restore", 2, (some (.boolean)), 3, 63)
theorem v_Tide_restore (F : Nat) (l0 l1 : Int) (h : Hp) : V X_Tide_restore 0 [(0, 2, l0), (1, 0, l1)] [] h (Tide_restore F l0 l1 h) := by
  unfold Tide_restore
  refine V_iload_n (pc := 0) (DCa dc_Tide_restore_0 0 rfl) rfl 1 rfl ?_
  refine Q_calls (st := []) (pc := 1) (DCa dc_Tide_restore_0 1 rfl) (sp_Tide_isSlot F _ _) ce_Tide_isSlot ml_11_284 rfl ⟨Nat.le_of_ble_eq_true rfl, Nat.le_of_ble_eq_true rfl⟩ rfl (Nat.le_of_ble_eq_true rfl) (fun r1 h2 => ?_)
  refine V_if_eq (tgt := 16) (pc := 4) (DCa dc_Tide_restore_0 2 rfl) (by decide) (fun _ => ?_) (fun _ => ?_)
  · refine V_iconst (pc := 16) (DCa dc_Tide_restore_0 8 rfl) (by decide) ?_
    exact V_zreturn (pc := 17) (DCa dc_Tide_restore_0 9 rfl) rfl
  · refine V_aload_n (pc := 7) (DCa dc_Tide_restore_0 3 rfl) rfl 0 rfl ?_
    refine Q_getf (k := 8) (pc := 8) (DCa dc_Tide_restore_0 4 rfl) cls_11 (Nat.le_of_ble_eq_true rfl) fl_11_49 rfl rfl rfl (fun v3 => ?_)
    refine V_iload_n (pc := 11) (DCa dc_Tide_restore_0 5 rfl) rfl 1 rfl ?_
    refine Q_zaload (pc := 12) (DCa dc_Tide_restore_0 6 rfl) (fun v4 => ?_)
    refine V_if_ne (tgt := 18) (pc := 13) (DCa dc_Tide_restore_0 7 rfl) (by decide) (fun _ => ?_) (fun _ => ?_)
    · refine V_iconst (pc := 16) (DCa dc_Tide_restore_0 8 rfl) (by decide) ?_
      exact V_zreturn (pc := 17) (DCa dc_Tide_restore_0 9 rfl) rfl
    · refine V_aload_n (pc := 18) (DCa dc_Tide_restore_0 10 rfl) rfl 0 rfl ?_
      refine Q_getf (k := 5) (pc := 19) (DCa dc_Tide_restore_0 11 rfl) cls_11 (Nat.le_of_ble_eq_true rfl) fl_11_34 rfl rfl rfl (fun v5 => ?_)
      refine V_aload_n (pc := 22) (DCa dc_Tide_restore_0 12 rfl) rfl 0 rfl ?_
      refine Q_getf (k := 7) (pc := 23) (DCa dc_Tide_restore_0 13 rfl) cls_11 (Nat.le_of_ble_eq_true rfl) fl_11_45 rfl rfl rfl (fun v6 => ?_)
      refine V_iload_n (pc := 26) (DCa dc_Tide_restore_0 14 rfl) rfl 1 rfl ?_
      refine Q_aaload (pc := 27) (DCa dc_Tide_restore_0 15 rfl) (by decide) rfl rfl (fun v7 => ?_)
      refine Q_callv (ci := 8) (st := []) (pc := 28) (DCa dc_Tide_restore_0 16 rfl) (sp_Stan_copy F _ _ _) ce_Stan_copy ml_11_287 rfl rfl ⟨Nat.le_of_ble_eq_true rfl, Nat.le_of_ble_eq_true rfl⟩ rfl (Nat.le_of_ble_eq_true rfl) (fun r8 h9 => ?_)
      refine V_aload_n (pc := 31) (DCa dc_Tide_restore_0 17 rfl) rfl 0 rfl ?_
      refine Q_getf (k := 6) (pc := 32) (DCa dc_Tide_restore_0 18 rfl) cls_11 (Nat.le_of_ble_eq_true rfl) fl_11_41 rfl rfl rfl (fun v10 => ?_)
      refine V_iconst (pc := 35) (DCa dc_Tide_restore_0 19 rfl) (by decide) ?_
      refine Q_putf (k := 2) (pc := 36) (DCa dc_Tide_restore_0 20 rfl) cls_1 (Nat.le_of_ble_eq_true rfl) fl_11_291 rfl rfl rfl (Or.inl rfl) (Or.inl ⟨rfl, rfl⟩) (fun h11 => ?_)
      refine V_aload_n (pc := 39) (DCa dc_Tide_restore_0 21 rfl) rfl 0 rfl ?_
      refine Q_getf (k := 9) (pc := 40) (DCa dc_Tide_restore_0 22 rfl) cls_11 (Nat.le_of_ble_eq_true rfl) fl_11_56 rfl rfl rfl (fun v12 => ?_)
      refine Q_callv (ci := 2) (st := []) (pc := 43) (DCa dc_Tide_restore_0 23 rfl) (sp_Plan_forgetRows F _ _) ce_Plan_forgetRows ml_11_191 rfl rfl ⟨Nat.le_of_ble_eq_true rfl, Nat.le_of_ble_eq_true rfl⟩ rfl (Nat.le_of_ble_eq_true rfl) (fun r13 h14 => ?_)
      refine V_iconst (pc := 46) (DCa dc_Tide_restore_0 24 rfl) (by decide) ?_
      exact V_zreturn (pc := 47) (DCa dc_Tide_restore_0 25 rfl) rfl
theorem sp_Tide_restore (F : Nat) (l0 l1 : Int) (h : Hp) : Sp yX11_restore cX11_restore 2 (some (.boolean)) 3 63 [(2, l0), (0, l1)] h (Tide_restore F l0 l1 h) := Sp_of (by decide +kernel) rfl rfl (Nat.le_of_ble_eq_true rfl) (v_Tide_restore F l0 l1 h)
