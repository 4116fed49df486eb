/-! the first day of the class, the rest; written by gen_day.py -/
def td : List Lgr := lp 600 tc
def tw0 : List Lgr := (1, 75, 4, 0, 0) :: (1, 75, 3, 0, 0) :: (1, 75, 2, 0, 0) :: (1, 75, 1, 0, 0) :: (1, 75, 0, 0, 0) :: td
theorem d_walk0 {F L : Nat} {xs : Nat → Int32} : Walk_begin F 75 23 0 (lh (hini L xs) td) = some (0, lh (hini L xs) tw0) := by
  unfold Walk_begin
  rw [gf_c (v := 28) (by decide +kernel) (by decide +kernel)]
  rw [al_c (v := 0) (by decide +kernel) (by decide +kernel)]
  rw [pf_c (by decide +kernel)]
  rw [gf_c (v := 29) (by decide +kernel) (by decide +kernel)]
  rw [al_c (v := 0) (by decide +kernel) (by decide +kernel)]
  rw [pf_c (by decide +kernel)]
  rw [gf_c (v := 30) (by decide +kernel) (by decide +kernel)]
  rw [al_c (v := 0) (by decide +kernel) (by decide +kernel)]
  rw [pf_c (by decide +kernel)]
  rw [pf_c (by decide +kernel)]
  rw [pf_c (by decide +kernel)]
  rfl
def tw1 : List Lgr := (1, 76, 4, 0, 0) :: (1, 76, 3, 0, 0) :: (1, 76, 2, 0, 0) :: (1, 76, 1, 0, 0) :: (1, 76, 0, 0, 0) :: tw0
theorem d_walk1 {F L : Nat} {xs : Nat → Int32} : Walk_begin F 76 23 1 (lh (hini L xs) tw0) = some (0, lh (hini L xs) tw1) := by
  unfold Walk_begin
  rw [gf_c (v := 28) (by decide +kernel) (by decide +kernel)]
  rw [al_c (v := 0) (by decide +kernel) (by decide +kernel)]
  rw [pf_c (by decide +kernel)]
  rw [gf_c (v := 29) (by decide +kernel) (by decide +kernel)]
  rw [al_c (v := 0) (by decide +kernel) (by decide +kernel)]
  rw [pf_c (by decide +kernel)]
  rw [gf_c (v := 30) (by decide +kernel) (by decide +kernel)]
  rw [al_c (v := 0) (by decide +kernel) (by decide +kernel)]
  rw [pf_c (by decide +kernel)]
  rw [pf_c (by decide +kernel)]
  rw [pf_c (by decide +kernel)]
  rfl
def tw2 : List Lgr := (1, 77, 4, 0, 0) :: (1, 77, 3, 0, 0) :: (1, 77, 2, 0, 0) :: (1, 77, 1, 0, 0) :: (1, 77, 0, 0, 0) :: tw1
theorem d_walk2 {F L : Nat} {xs : Nat → Int32} : Walk_begin F 77 23 2 (lh (hini L xs) tw1) = some (0, lh (hini L xs) tw2) := by
  unfold Walk_begin
  rw [gf_c (v := 28) (by decide +kernel) (by decide +kernel)]
  rw [al_c (v := 0) (by decide +kernel) (by decide +kernel)]
  rw [pf_c (by decide +kernel)]
  rw [gf_c (v := 29) (by decide +kernel) (by decide +kernel)]
  rw [al_c (v := 0) (by decide +kernel) (by decide +kernel)]
  rw [pf_c (by decide +kernel)]
  rw [gf_c (v := 30) (by decide +kernel) (by decide +kernel)]
  rw [al_c (v := 0) (by decide +kernel) (by decide +kernel)]
  rw [pf_c (by decide +kernel)]
  rw [pf_c (by decide +kernel)]
  rw [pf_c (by decide +kernel)]
  rfl
def ts0 : List Lgr := (1, 71, 0, 0, 0) :: (1, 70, 0, -2, 0) :: (1, 69, 0, 0, 0) :: (1, 68, 0, -2, 0) :: tw2
theorem d_st0 {F n L : Nat} {xs : Nat → Int32} : Stan_begin_L26 F (n + 1) 66 0 (lh (hini L xs) tw2) = Stan_begin_L26 F n 66 1 (lh (hini L xs) ts0) := by
  show Stan_begin_L26s F (Stan_begin_L26 F n) 66 0 _ = _
  unfold Stan_begin_L26s
  rw [if_pos (by decide)]
  rw [gf_c (v := 68) (by decide +kernel) (by decide +kernel)]
  rw [as_c (by decide +kernel)]
  rw [gf_c (v := 69) (by decide +kernel) (by decide +kernel)]
  rw [as_c (by decide +kernel)]
  rw [gf_c (v := 70) (by decide +kernel) (by decide +kernel)]
  rw [as_c (by decide +kernel)]
  rw [gf_c (v := 71) (by decide +kernel) (by decide +kernel)]
  rw [az_c (by decide +kernel)]
  rw [show w32 (0 + 1) = 1 by decide]
  rfl
def ts1 : List Lgr := (1, 71, 1, 0, 0) :: (1, 70, 1, -2, 0) :: (1, 69, 1, 0, 0) :: (1, 68, 1, -2, 0) :: ts0
theorem d_st1 {F n L : Nat} {xs : Nat → Int32} : Stan_begin_L26 F (n + 1) 66 1 (lh (hini L xs) ts0) = Stan_begin_L26 F n 66 2 (lh (hini L xs) ts1) := by
  show Stan_begin_L26s F (Stan_begin_L26 F n) 66 1 _ = _
  unfold Stan_begin_L26s
  rw [if_pos (by decide)]
  rw [gf_c (v := 68) (by decide +kernel) (by decide +kernel)]
  rw [as_c (by decide +kernel)]
  rw [gf_c (v := 69) (by decide +kernel) (by decide +kernel)]
  rw [as_c (by decide +kernel)]
  rw [gf_c (v := 70) (by decide +kernel) (by decide +kernel)]
  rw [as_c (by decide +kernel)]
  rw [gf_c (v := 71) (by decide +kernel) (by decide +kernel)]
  rw [az_c (by decide +kernel)]
  rw [show w32 (1 + 1) = 2 by decide]
  rfl
def ts2 : List Lgr := (1, 71, 2, 0, 0) :: (1, 70, 2, -2, 0) :: (1, 69, 2, 0, 0) :: (1, 68, 2, -2, 0) :: ts1
theorem d_st2 {F n L : Nat} {xs : Nat → Int32} : Stan_begin_L26 F (n + 1) 66 2 (lh (hini L xs) ts1) = Stan_begin_L26 F n 66 3 (lh (hini L xs) ts2) := by
  show Stan_begin_L26s F (Stan_begin_L26 F n) 66 2 _ = _
  unfold Stan_begin_L26s
  rw [if_pos (by decide)]
  rw [gf_c (v := 68) (by decide +kernel) (by decide +kernel)]
  rw [as_c (by decide +kernel)]
  rw [gf_c (v := 69) (by decide +kernel) (by decide +kernel)]
  rw [as_c (by decide +kernel)]
  rw [gf_c (v := 70) (by decide +kernel) (by decide +kernel)]
  rw [as_c (by decide +kernel)]
  rw [gf_c (v := 71) (by decide +kernel) (by decide +kernel)]
  rw [az_c (by decide +kernel)]
  rw [show w32 (2 + 1) = 3 by decide]
  rfl
def ts3 : List Lgr := (1, 71, 3, 0, 0) :: (1, 70, 3, -2, 0) :: (1, 69, 3, 0, 0) :: (1, 68, 3, -2, 0) :: ts2
theorem d_st3 {F n L : Nat} {xs : Nat → Int32} : Stan_begin_L26 F (n + 1) 66 3 (lh (hini L xs) ts2) = Stan_begin_L26 F n 66 4 (lh (hini L xs) ts3) := by
  show Stan_begin_L26s F (Stan_begin_L26 F n) 66 3 _ = _
  unfold Stan_begin_L26s
  rw [if_pos (by decide)]
  rw [gf_c (v := 68) (by decide +kernel) (by decide +kernel)]
  rw [as_c (by decide +kernel)]
  rw [gf_c (v := 69) (by decide +kernel) (by decide +kernel)]
  rw [as_c (by decide +kernel)]
  rw [gf_c (v := 70) (by decide +kernel) (by decide +kernel)]
  rw [as_c (by decide +kernel)]
  rw [gf_c (v := 71) (by decide +kernel) (by decide +kernel)]
  rw [az_c (by decide +kernel)]
  rw [show w32 (3 + 1) = 4 by decide]
  rfl
def ts4 : List Lgr := (1, 71, 4, 0, 0) :: (1, 70, 4, -2, 0) :: (1, 69, 4, 0, 0) :: (1, 68, 4, -2, 0) :: ts3
theorem d_st4 {F n L : Nat} {xs : Nat → Int32} : Stan_begin_L26 F (n + 1) 66 4 (lh (hini L xs) ts3) = Stan_begin_L26 F n 66 5 (lh (hini L xs) ts4) := by
  show Stan_begin_L26s F (Stan_begin_L26 F n) 66 4 _ = _
  unfold Stan_begin_L26s
  rw [if_pos (by decide)]
  rw [gf_c (v := 68) (by decide +kernel) (by decide +kernel)]
  rw [as_c (by decide +kernel)]
  rw [gf_c (v := 69) (by decide +kernel) (by decide +kernel)]
  rw [as_c (by decide +kernel)]
  rw [gf_c (v := 70) (by decide +kernel) (by decide +kernel)]
  rw [as_c (by decide +kernel)]
  rw [gf_c (v := 71) (by decide +kernel) (by decide +kernel)]
  rw [az_c (by decide +kernel)]
  rw [show w32 (4 + 1) = 5 by decide]
  rfl
def ts5 : List Lgr := (1, 71, 5, 0, 0) :: (1, 70, 5, -2, 0) :: (1, 69, 5, 0, 0) :: (1, 68, 5, -2, 0) :: ts4
theorem d_st5 {F n L : Nat} {xs : Nat → Int32} : Stan_begin_L26 F (n + 1) 66 5 (lh (hini L xs) ts4) = Stan_begin_L26 F n 66 6 (lh (hini L xs) ts5) := by
  show Stan_begin_L26s F (Stan_begin_L26 F n) 66 5 _ = _
  unfold Stan_begin_L26s
  rw [if_pos (by decide)]
  rw [gf_c (v := 68) (by decide +kernel) (by decide +kernel)]
  rw [as_c (by decide +kernel)]
  rw [gf_c (v := 69) (by decide +kernel) (by decide +kernel)]
  rw [as_c (by decide +kernel)]
  rw [gf_c (v := 70) (by decide +kernel) (by decide +kernel)]
  rw [as_c (by decide +kernel)]
  rw [gf_c (v := 71) (by decide +kernel) (by decide +kernel)]
  rw [az_c (by decide +kernel)]
  rw [show w32 (5 + 1) = 6 by decide]
  rfl
def ts6 : List Lgr := (1, 71, 6, 0, 0) :: (1, 70, 6, -2, 0) :: (1, 69, 6, 0, 0) :: (1, 68, 6, -2, 0) :: ts5
theorem d_st6 {F n L : Nat} {xs : Nat → Int32} : Stan_begin_L26 F (n + 1) 66 6 (lh (hini L xs) ts5) = Stan_begin_L26 F n 66 7 (lh (hini L xs) ts6) := by
  show Stan_begin_L26s F (Stan_begin_L26 F n) 66 6 _ = _
  unfold Stan_begin_L26s
  rw [if_pos (by decide)]
  rw [gf_c (v := 68) (by decide +kernel) (by decide +kernel)]
  rw [as_c (by decide +kernel)]
  rw [gf_c (v := 69) (by decide +kernel) (by decide +kernel)]
  rw [as_c (by decide +kernel)]
  rw [gf_c (v := 70) (by decide +kernel) (by decide +kernel)]
  rw [as_c (by decide +kernel)]
  rw [gf_c (v := 71) (by decide +kernel) (by decide +kernel)]
  rw [az_c (by decide +kernel)]
  rw [show w32 (6 + 1) = 7 by decide]
  rfl
def ts7 : List Lgr := (1, 71, 7, 0, 0) :: (1, 70, 7, -2, 0) :: (1, 69, 7, 0, 0) :: (1, 68, 7, -2, 0) :: ts6
theorem d_st7 {F n L : Nat} {xs : Nat → Int32} : Stan_begin_L26 F (n + 1) 66 7 (lh (hini L xs) ts6) = Stan_begin_L26 F n 66 8 (lh (hini L xs) ts7) := by
  show Stan_begin_L26s F (Stan_begin_L26 F n) 66 7 _ = _
  unfold Stan_begin_L26s
  rw [if_pos (by decide)]
  rw [gf_c (v := 68) (by decide +kernel) (by decide +kernel)]
  rw [as_c (by decide +kernel)]
  rw [gf_c (v := 69) (by decide +kernel) (by decide +kernel)]
  rw [as_c (by decide +kernel)]
  rw [gf_c (v := 70) (by decide +kernel) (by decide +kernel)]
  rw [as_c (by decide +kernel)]
  rw [gf_c (v := 71) (by decide +kernel) (by decide +kernel)]
  rw [az_c (by decide +kernel)]
  rw [show w32 (7 + 1) = 8 by decide]
  rfl
def te : List Lgr := (1, 66, 8, 0, 0) :: ts7
theorem d_begin {F L : Nat} {xs : Nat → Int32} (hF : 20 ≤ F) : Stan_begin F 66 23 (lh (hini L xs) td) = some (0, lh (hini L xs) te) := by
  obtain ⟨k, hk⟩ : ∃ k, F = k + 20 := ⟨F - 20, by omega⟩
  have u : ∀ (l : Int) (q : Hp), Stan_begin_L2 F F 66 23 l q = Stan_begin_L2s F (Stan_begin_L2 F (k + 19)) 66 23 l q := fun l q => by
    conv => lhs; arg 2; rw [hk]
    rfl
  have u2 : ∀ (l : Int) (q : Hp), Stan_begin_L26 F F 66 l q = Stan_begin_L26 F (k + 19 + 1) 66 l q := fun l q => by
    conv => lhs; arg 2; rw [hk]
  unfold Stan_begin
  rw [u]
  unfold Stan_begin_L2s
  rw [if_pos (by decide), gf_c (v := 67) (by decide +kernel) (by decide +kernel), al_c (v := 75) (by decide +kernel) (by decide +kernel), iv_c (by decide +kernel), d_walk0, cl_s, show w32 (0 + 1) = 1 by decide]
  show Stan_begin_L2s F (Stan_begin_L2 F (k + 18)) 66 23 1 _ = _
  unfold Stan_begin_L2s
  rw [if_pos (by decide), gf_c (v := 67) (by decide +kernel) (by decide +kernel), al_c (v := 76) (by decide +kernel) (by decide +kernel), iv_c (by decide +kernel), d_walk1, cl_s, show w32 (1 + 1) = 2 by decide]
  show Stan_begin_L2s F (Stan_begin_L2 F (k + 17)) 66 23 2 _ = _
  unfold Stan_begin_L2s
  rw [if_pos (by decide), gf_c (v := 67) (by decide +kernel) (by decide +kernel), al_c (v := 77) (by decide +kernel) (by decide +kernel), iv_c (by decide +kernel), d_walk2, cl_s, show w32 (2 + 1) = 3 by decide]
  show Stan_begin_L2s F (Stan_begin_L2 F (k + 16)) 66 23 3 _ = _
  unfold Stan_begin_L2s
  rw [if_neg (by decide), u2, d_st0]
  rw [show k + 19 = k + 18 + 1 from rfl, d_st1]
  rw [show k + 18 = k + 17 + 1 from rfl, d_st2]
  rw [show k + 17 = k + 16 + 1 from rfl, d_st3]
  rw [show k + 16 = k + 15 + 1 from rfl, d_st4]
  rw [show k + 15 = k + 14 + 1 from rfl, d_st5]
  rw [show k + 14 = k + 13 + 1 from rfl, d_st6]
  rw [show k + 13 = k + 12 + 1 from rfl, d_st7]
  show Stan_begin_L26s F (Stan_begin_L26 F (k + 11)) 66 8 _ = _
  unfold Stan_begin_L26s
  rw [if_neg (by decide), pf_c (by decide +kernel)]
  rfl
theorem z_34 (j : Int) : lrd 34 j tc = 0 := lrd_no j tc (by decide +kernel)
theorem z_35 (j : Int) : lrd 35 j tc = 0 := lrd_no j tc (by decide +kernel)
theorem z_36 (j : Int) : lrd 36 j tc = 0 := lrd_no j tc (by decide +kernel)
def tf : List Lgr := (1, 81, 2, 0, 0) :: (1, 81, 1, 0, 0) :: (1, 81, 0, 0, 0) :: (1, 139, 4, 0, 0) :: (1, 78, 2, 0, 0) :: te
def tg : List Lgr := (1, 82, 6, 0, 0) :: (1, 84, 2, 0, 0) :: (1, 84, 1, 0, 0) :: (1, 84, 0, 0, 0) :: tf
theorem d_fr {F L : Nat} {xs : Nat → Int32} (hF : 20 ≤ F) : Plan_forgetRows F 82 (lh (hini L xs) tf) = some (0, lh (hini L xs) tg) := by
  obtain ⟨k, hk⟩ : ∃ k, F = k + 4 := ⟨F - 4, by omega⟩
  have u : ∀ (l : Int) (q : Hp), Plan_forgetRows_L2 F F 82 l q = Plan_forgetRows_L2s F (Plan_forgetRows_L2 F (k + 3)) 82 l q := fun l q => by
    conv => lhs; arg 2; rw [hk]
    rfl
  unfold Plan_forgetRows
  rw [u]
  unfold Plan_forgetRows_L2s
  rw [if_pos (by decide), gf_c (v := 84) (by decide +kernel) (by decide +kernel), az_c (by decide +kernel), show w32 (0 + 1) = 1 by decide]
  show Plan_forgetRows_L2s F (Plan_forgetRows_L2 F (k + 2)) 82 1 _ = _
  unfold Plan_forgetRows_L2s
  rw [if_pos (by decide), gf_c (v := 84) (by decide +kernel) (by decide +kernel), az_c (by decide +kernel), show w32 (1 + 1) = 2 by decide]
  show Plan_forgetRows_L2s F (Plan_forgetRows_L2 F (k + 1)) 82 2 _ = _
  unfold Plan_forgetRows_L2s
  rw [if_pos (by decide), gf_c (v := 84) (by decide +kernel) (by decide +kernel), az_c (by decide +kernel), show w32 (2 + 1) = 3 by decide]
  show Plan_forgetRows_L2s F (Plan_forgetRows_L2 F k) 82 3 _ = _
  unfold Plan_forgetRows_L2s
  rw [if_neg (by decide), pz_c (by decide +kernel)]
  rfl
def th0 : List Lgr := (1, 96, 0, -1, 0) :: tg
theorem d_fs0 {F n L : Nat} {xs : Nat → Int32} : Arr_fill_L5 F (n + 1) 96 (-1) 0 17 (lh (hini L xs) tg) = Arr_fill_L5 F n 96 (-1) 1 17 (lh (hini L xs) th0) := by
  show Arr_fill_L5s F (Arr_fill_L5 F n) 96 (-1) 0 17 _ = _
  unfold Arr_fill_L5s
  rw [if_pos (by decide), as_c (by decide +kernel), show w32 (0 + 1) = 1 by decide]
  rfl
def th1 : List Lgr := (1, 96, 1, -1, 0) :: th0
theorem d_fs1 {F n L : Nat} {xs : Nat → Int32} : Arr_fill_L5 F (n + 1) 96 (-1) 1 17 (lh (hini L xs) th0) = Arr_fill_L5 F n 96 (-1) 2 17 (lh (hini L xs) th1) := by
  show Arr_fill_L5s F (Arr_fill_L5 F n) 96 (-1) 1 17 _ = _
  unfold Arr_fill_L5s
  rw [if_pos (by decide), as_c (by decide +kernel), show w32 (1 + 1) = 2 by decide]
  rfl
def th2 : List Lgr := (1, 96, 2, -1, 0) :: th1
theorem d_fs2 {F n L : Nat} {xs : Nat → Int32} : Arr_fill_L5 F (n + 1) 96 (-1) 2 17 (lh (hini L xs) th1) = Arr_fill_L5 F n 96 (-1) 3 17 (lh (hini L xs) th2) := by
  show Arr_fill_L5s F (Arr_fill_L5 F n) 96 (-1) 2 17 _ = _
  unfold Arr_fill_L5s
  rw [if_pos (by decide), as_c (by decide +kernel), show w32 (2 + 1) = 3 by decide]
  rfl
def th3 : List Lgr := (1, 96, 3, -1, 0) :: th2
theorem d_fs3 {F n L : Nat} {xs : Nat → Int32} : Arr_fill_L5 F (n + 1) 96 (-1) 3 17 (lh (hini L xs) th2) = Arr_fill_L5 F n 96 (-1) 4 17 (lh (hini L xs) th3) := by
  show Arr_fill_L5s F (Arr_fill_L5 F n) 96 (-1) 3 17 _ = _
  unfold Arr_fill_L5s
  rw [if_pos (by decide), as_c (by decide +kernel), show w32 (3 + 1) = 4 by decide]
  rfl
def th4 : List Lgr := (1, 96, 4, -1, 0) :: th3
theorem d_fs4 {F n L : Nat} {xs : Nat → Int32} : Arr_fill_L5 F (n + 1) 96 (-1) 4 17 (lh (hini L xs) th3) = Arr_fill_L5 F n 96 (-1) 5 17 (lh (hini L xs) th4) := by
  show Arr_fill_L5s F (Arr_fill_L5 F n) 96 (-1) 4 17 _ = _
  unfold Arr_fill_L5s
  rw [if_pos (by decide), as_c (by decide +kernel), show w32 (4 + 1) = 5 by decide]
  rfl
def th5 : List Lgr := (1, 96, 5, -1, 0) :: th4
theorem d_fs5 {F n L : Nat} {xs : Nat → Int32} : Arr_fill_L5 F (n + 1) 96 (-1) 5 17 (lh (hini L xs) th4) = Arr_fill_L5 F n 96 (-1) 6 17 (lh (hini L xs) th5) := by
  show Arr_fill_L5s F (Arr_fill_L5 F n) 96 (-1) 5 17 _ = _
  unfold Arr_fill_L5s
  rw [if_pos (by decide), as_c (by decide +kernel), show w32 (5 + 1) = 6 by decide]
  rfl
def th6 : List Lgr := (1, 96, 6, -1, 0) :: th5
theorem d_fs6 {F n L : Nat} {xs : Nat → Int32} : Arr_fill_L5 F (n + 1) 96 (-1) 6 17 (lh (hini L xs) th5) = Arr_fill_L5 F n 96 (-1) 7 17 (lh (hini L xs) th6) := by
  show Arr_fill_L5s F (Arr_fill_L5 F n) 96 (-1) 6 17 _ = _
  unfold Arr_fill_L5s
  rw [if_pos (by decide), as_c (by decide +kernel), show w32 (6 + 1) = 7 by decide]
  rfl
def th7 : List Lgr := (1, 96, 7, -1, 0) :: th6
theorem d_fs7 {F n L : Nat} {xs : Nat → Int32} : Arr_fill_L5 F (n + 1) 96 (-1) 7 17 (lh (hini L xs) th6) = Arr_fill_L5 F n 96 (-1) 8 17 (lh (hini L xs) th7) := by
  show Arr_fill_L5s F (Arr_fill_L5 F n) 96 (-1) 7 17 _ = _
  unfold Arr_fill_L5s
  rw [if_pos (by decide), as_c (by decide +kernel), show w32 (7 + 1) = 8 by decide]
  rfl
def th8 : List Lgr := (1, 96, 8, -1, 0) :: th7
theorem d_fs8 {F n L : Nat} {xs : Nat → Int32} : Arr_fill_L5 F (n + 1) 96 (-1) 8 17 (lh (hini L xs) th7) = Arr_fill_L5 F n 96 (-1) 9 17 (lh (hini L xs) th8) := by
  show Arr_fill_L5s F (Arr_fill_L5 F n) 96 (-1) 8 17 _ = _
  unfold Arr_fill_L5s
  rw [if_pos (by decide), as_c (by decide +kernel), show w32 (8 + 1) = 9 by decide]
  rfl
def th9 : List Lgr := (1, 96, 9, -1, 0) :: th8
theorem d_fs9 {F n L : Nat} {xs : Nat → Int32} : Arr_fill_L5 F (n + 1) 96 (-1) 9 17 (lh (hini L xs) th8) = Arr_fill_L5 F n 96 (-1) 10 17 (lh (hini L xs) th9) := by
  show Arr_fill_L5s F (Arr_fill_L5 F n) 96 (-1) 9 17 _ = _
  unfold Arr_fill_L5s
  rw [if_pos (by decide), as_c (by decide +kernel), show w32 (9 + 1) = 10 by decide]
  rfl
def th10 : List Lgr := (1, 96, 10, -1, 0) :: th9
theorem d_fs10 {F n L : Nat} {xs : Nat → Int32} : Arr_fill_L5 F (n + 1) 96 (-1) 10 17 (lh (hini L xs) th9) = Arr_fill_L5 F n 96 (-1) 11 17 (lh (hini L xs) th10) := by
  show Arr_fill_L5s F (Arr_fill_L5 F n) 96 (-1) 10 17 _ = _
  unfold Arr_fill_L5s
  rw [if_pos (by decide), as_c (by decide +kernel), show w32 (10 + 1) = 11 by decide]
  rfl
def th11 : List Lgr := (1, 96, 11, -1, 0) :: th10
theorem d_fs11 {F n L : Nat} {xs : Nat → Int32} : Arr_fill_L5 F (n + 1) 96 (-1) 11 17 (lh (hini L xs) th10) = Arr_fill_L5 F n 96 (-1) 12 17 (lh (hini L xs) th11) := by
  show Arr_fill_L5s F (Arr_fill_L5 F n) 96 (-1) 11 17 _ = _
  unfold Arr_fill_L5s
  rw [if_pos (by decide), as_c (by decide +kernel), show w32 (11 + 1) = 12 by decide]
  rfl
def th12 : List Lgr := (1, 96, 12, -1, 0) :: th11
theorem d_fs12 {F n L : Nat} {xs : Nat → Int32} : Arr_fill_L5 F (n + 1) 96 (-1) 12 17 (lh (hini L xs) th11) = Arr_fill_L5 F n 96 (-1) 13 17 (lh (hini L xs) th12) := by
  show Arr_fill_L5s F (Arr_fill_L5 F n) 96 (-1) 12 17 _ = _
  unfold Arr_fill_L5s
  rw [if_pos (by decide), as_c (by decide +kernel), show w32 (12 + 1) = 13 by decide]
  rfl
def th13 : List Lgr := (1, 96, 13, -1, 0) :: th12
theorem d_fs13 {F n L : Nat} {xs : Nat → Int32} : Arr_fill_L5 F (n + 1) 96 (-1) 13 17 (lh (hini L xs) th12) = Arr_fill_L5 F n 96 (-1) 14 17 (lh (hini L xs) th13) := by
  show Arr_fill_L5s F (Arr_fill_L5 F n) 96 (-1) 13 17 _ = _
  unfold Arr_fill_L5s
  rw [if_pos (by decide), as_c (by decide +kernel), show w32 (13 + 1) = 14 by decide]
  rfl
def th14 : List Lgr := (1, 96, 14, -1, 0) :: th13
theorem d_fs14 {F n L : Nat} {xs : Nat → Int32} : Arr_fill_L5 F (n + 1) 96 (-1) 14 17 (lh (hini L xs) th13) = Arr_fill_L5 F n 96 (-1) 15 17 (lh (hini L xs) th14) := by
  show Arr_fill_L5s F (Arr_fill_L5 F n) 96 (-1) 14 17 _ = _
  unfold Arr_fill_L5s
  rw [if_pos (by decide), as_c (by decide +kernel), show w32 (14 + 1) = 15 by decide]
  rfl
def th15 : List Lgr := (1, 96, 15, -1, 0) :: th14
theorem d_fs15 {F n L : Nat} {xs : Nat → Int32} : Arr_fill_L5 F (n + 1) 96 (-1) 15 17 (lh (hini L xs) th14) = Arr_fill_L5 F n 96 (-1) 16 17 (lh (hini L xs) th15) := by
  show Arr_fill_L5s F (Arr_fill_L5 F n) 96 (-1) 15 17 _ = _
  unfold Arr_fill_L5s
  rw [if_pos (by decide), as_c (by decide +kernel), show w32 (15 + 1) = 16 by decide]
  rfl
def th16 : List Lgr := (1, 96, 16, -1, 0) :: th15
theorem d_fs16 {F n L : Nat} {xs : Nat → Int32} : Arr_fill_L5 F (n + 1) 96 (-1) 16 17 (lh (hini L xs) th15) = Arr_fill_L5 F n 96 (-1) 17 17 (lh (hini L xs) th16) := by
  show Arr_fill_L5s F (Arr_fill_L5 F n) 96 (-1) 16 17 _ = _
  unfold Arr_fill_L5s
  rw [if_pos (by decide), as_c (by decide +kernel), show w32 (16 + 1) = 17 by decide]
  rfl
theorem d_fs {F L : Nat} {xs : Nat → Int32} (hF : 20 ≤ F) : Plan_forgetSizes F 82 (lh (hini L xs) tg) = some (0, lh (hini L xs) th16) := by
  obtain ⟨k, hk⟩ : ∃ k, F = k + 20 := ⟨F - 20, by omega⟩
  have u : ∀ (l : Int) (q : Hp), Arr_fill_L5 F F 96 (-1) l 17 q = Arr_fill_L5 F (k + 19 + 1) 96 (-1) l 17 q := fun l q => by
    conv => lhs; arg 2; rw [hk]
  unfold Plan_forgetSizes Arr_fill
  rw [gf_c (v := 96) (by decide +kernel) (by decide +kernel), aln_c (v := 17) (by decide +kernel) (by decide +kernel), u, d_fs0]
  rw [show k + 19 = k + 18 + 1 from rfl, d_fs1]
  rw [show k + 18 = k + 17 + 1 from rfl, d_fs2]
  rw [show k + 17 = k + 16 + 1 from rfl, d_fs3]
  rw [show k + 16 = k + 15 + 1 from rfl, d_fs4]
  rw [show k + 15 = k + 14 + 1 from rfl, d_fs5]
  rw [show k + 14 = k + 13 + 1 from rfl, d_fs6]
  rw [show k + 13 = k + 12 + 1 from rfl, d_fs7]
  rw [show k + 12 = k + 11 + 1 from rfl, d_fs8]
  rw [show k + 11 = k + 10 + 1 from rfl, d_fs9]
  rw [show k + 10 = k + 9 + 1 from rfl, d_fs10]
  rw [show k + 9 = k + 8 + 1 from rfl, d_fs11]
  rw [show k + 8 = k + 7 + 1 from rfl, d_fs12]
  rw [show k + 7 = k + 6 + 1 from rfl, d_fs13]
  rw [show k + 6 = k + 5 + 1 from rfl, d_fs14]
  rw [show k + 5 = k + 4 + 1 from rfl, d_fs15]
  rw [show k + 4 = k + 3 + 1 from rfl, d_fs16]
  show cl (Arr_fill_L5s F (Arr_fill_L5 F (k + 2)) 96 (-1) 17 17 _) _ = _
  unfold Arr_fill_L5s
  rw [if_neg (by decide), cl_s]
theorem d_day {F L : Nat} {xs : Nat → Int32} (hF : 1000 ≤ F) : Tide_beginDay F 1 (lh (hini L xs) tc) = some (0, lh (hini L xs) th16) := by
  obtain ⟨k, hk⟩ : ∃ k, F = k + 4 := ⟨F - 4, by omega⟩
  have u : ∀ (l : Int) (q : Hp), Tide_beginDay_L39 F F 1 l q = Tide_beginDay_L39s F (Tide_beginDay_L39 F (k + 3)) 1 l q := fun l q => by
    conv => lhs; arg 2; rw [hk]
    rfl
  have e1 : Shor_settle F 22 (lh (hini L xs) tc) = some (0, lh (hini L xs) td) := l_settle hF LF_tc z_34 z_35 z_36
  unfold Tide_beginDay
  rw [gf_c (v := 22) (by decide +kernel) (by decide +kernel), iv_c (by decide +kernel), e1, cl_s, gf_c (v := 66) (by decide +kernel) (by decide +kernel), gf_c (v := 22) (by decide +kernel) (by decide +kernel), gf_c (v := 23) (by decide +kernel) (by decide +kernel), iv_c (by decide +kernel), d_begin (by omega), cl_s, gf_c (v := 78) (by decide +kernel) (by decide +kernel), pf_c (by decide +kernel), gf_c (v := 139) (by decide +kernel) (by decide +kernel), pf_c (by decide +kernel), u]
  unfold Tide_beginDay_L39s
  rw [if_pos (by decide), gf_c (v := 81) (by decide +kernel) (by decide +kernel), az_c (by decide +kernel), show w32 (0 + 1) = 1 by decide]
  show Tide_beginDay_L39s F (Tide_beginDay_L39 F (k + 2)) 1 1 _ = _
  unfold Tide_beginDay_L39s
  rw [if_pos (by decide), gf_c (v := 81) (by decide +kernel) (by decide +kernel), az_c (by decide +kernel), show w32 (1 + 1) = 2 by decide]
  show Tide_beginDay_L39s F (Tide_beginDay_L39 F (k + 1)) 1 2 _ = _
  unfold Tide_beginDay_L39s
  rw [if_pos (by decide), gf_c (v := 81) (by decide +kernel) (by decide +kernel), az_c (by decide +kernel), show w32 (2 + 1) = 3 by decide]
  show Tide_beginDay_L39s F (Tide_beginDay_L39 F k) 1 3 _ = _
  unfold Tide_beginDay_L39s Tide_beginDay_B57
  rw [if_neg (by decide), show (1, 81, 2, 0, 0) :: (1, 81, 1, 0, 0) :: (1, 81, 0, 0, 0) :: (1, 139, 4, 0, 0) :: (1, 78, 2, 0, 0) :: te = tf from rfl, gf_c (v := 82) (by decide +kernel) (by decide +kernel), iv_c (by decide +kernel), d_fr (by omega), cl_s, gf_c (v := 82) (by decide +kernel) (by decide +kernel), iv_c (by decide +kernel), d_fs (by omega), cl_s]
theorem d_tide {F L : Nat} {xs : Nat → Int32} (hF : 1000 ≤ F) : Tide_init F 1 (lh (hini L xs) t0) = some (0, lh (hini L xs) th16) := by
  rw [i_tide (by omega)]
  unfold Tide_init_B150
  rw [gf_c (v := 22) (by decide +kernel) (by decide +kernel), gf_c (v := 23) (by decide +kernel) (by decide +kernel), iv_c (by decide +kernel), l_clear LE_tz, cl_s, show o_clear ++ tz = tc from rfl, iv_c (by decide +kernel), d_day hF, cl_s]
