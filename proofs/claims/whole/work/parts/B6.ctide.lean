/-! the constructor of the class, up to its first day; written by gen_init.py -/
theorem na_c {L : Nat} {xs : Nat → Int32} {c : List Lgr} {κ : Nat} {n s k : Int} {f : Int → Hp → Option (Int × Hp)} (hs : lsz c = s) (hk : (κ : Int) = k) (hn : 0 ≤ n ∧ n ≤ 1000000) : na (lh (hini L xs) c) κ n f = f s (lh (hini L xs) ((0, s, k, n, n) :: c)) := by rw [na_l, if_pos hn, hs, hk]
theorem no_c {L : Nat} {xs : Nat → Int32} {c : List Lgr} {κ : Nat} {n s k : Int} {f : Int → Hp → Option (Int × Hp)} (hs : lsz c = s) (hk : (κ : Int) = k) : no (lh (hini L xs) c) κ n f = f s (lh (hini L xs) ((0, s, k, 0, n) :: c)) := by rw [no_l, hs, hk]
theorem pf_c {L : Nat} {xs : Nat → Int32} {c : List Lgr} {κ : Nat} {a k x : Int} {f : Hp → Option (Int × Hp)} (h : 1 ≤ a ∧ a < lsz c ∧ lkd a c = κ) : pf (lh (hini L xs) c) a κ k x f = f (lh (hini L xs) ((1, a, k, x, 0) :: c)) := by rw [pf_l, if_pos h]
theorem vc_c {L : Nat} {xs : Nat → Int32} {c : List Lgr} {κ : Nat} {a : Int} {o : Option (Int × Hp)} (h : 1 ≤ a ∧ a < lsz c ∧ lkd a c = κ) : vc (lh (hini L xs) c) a κ o = o := by rw [vc_l, if_pos h]
theorem iv_c {L : Nat} {xs : Nat → Int32} {c : List Lgr} {κ : Nat} {a : Int} {o : Option (Int × Hp)} {f : Int → Hp → Option (Int × Hp)} (h : 1 ≤ a ∧ a < lsz c ∧ lkd a c = κ) : iv (lh (hini L xs) c) a κ o f = cl o f := by rw [iv_l, if_pos h]
theorem gf_c {L : Nat} {xs : Nat → Int32} {c : List Lgr} {κ : Nat} {a k v : Int} {f : Int → Option (Int × Hp)} (h : 1 ≤ a ∧ a < lsz c ∧ lkd a c = κ) (hv : lrd a k c = v) : gf (lh (hini L xs) c) a κ k f = f v := by rw [gf_l, if_pos h, hv]
theorem ar_c {L : Nat} {xs : Nat → Int32} {c : List Lgr} {κ kx : Nat} {a i x : Int} {f : Hp → Option (Int × Hp)} (h : (1 ≤ a ∧ a < lsz c ∧ lkd a c = κ) ∧ 0 ≤ i ∧ i < lln a c ∧ (1 ≤ x ∧ x < lsz c ∧ lkd x c = kx)) : ar (lh (hini L xs) c) a κ i x kx f = f (lh (hini L xs) ((1, a, i, x, 0) :: c)) := by rw [ar_l, if_pos h]
def o_wds : List Lgr := [(1, 4, 17, 15558, 0), (1, 4, 17, 486, 0), (1, 4, 17, 15, 0), (1, 4, 16, 6194, 0), (1, 4, 16, 193, 0), (1, 4, 16, 6, 0), (1, 4, 15, 446125701, 0), (1, 4, 15, 13941428, 0), (1, 4, 15, 435669, 0), (1, 4, 15, 13614, 0), (1, 4, 15, 425, 0), (1, 4, 15, 13, 0), (1, 4, 14, 25, 0), (1, 4, 13, 24, 0), (1, 4, 12, 176741, 0), (1, 4, 12, 5523, 0), (1, 4, 12, 172, 0), (1, 4, 12, 5, 0), (1, 4, 11, 663726, 0), (1, 4, 11, 20741, 0), (1, 4, 11, 648, 0), (1, 4, 11, 20, 0), (1, 4, 10, 294, 0), (1, 4, 10, 9, 0), (1, 4, 9, 627876, 0), (1, 4, 9, 19621, 0), (1, 4, 9, 613, 0), (1, 4, 9, 19, 0), (1, 4, 8, 16551, 0), (1, 4, 8, 517, 0), (1, 4, 8, 16, 0), (1, 4, 7, 8892563, 0), (1, 4, 7, 277892, 0), (1, 4, 7, 8684, 0), (1, 4, 7, 271, 0), (1, 4, 7, 8, 0), (1, 4, 6, 4583, 0), (1, 4, 6, 143, 0), (1, 4, 6, 4, 0), (1, 4, 5, 635184, 0), (1, 4, 5, 19849, 0), (1, 4, 5, 620, 0), (1, 4, 5, 19, 0), (1, 4, 4, 20142, 0), (1, 4, 4, 629, 0), (1, 4, 4, 19, 0), (1, 4, 3, 664709, 0), (1, 4, 3, 20772, 0), (1, 4, 3, 649, 0), (1, 4, 3, 20, 0), (1, 4, 2, 271592, 0), (1, 4, 2, 8487, 0), (1, 4, 2, 265, 0), (1, 4, 2, 8, 0), (1, 4, 1, 788081842, 0), (1, 4, 1, 24627557, 0), (1, 4, 1, 769611, 0), (1, 4, 1, 24050, 0), (1, 4, 1, 751, 0), (1, 4, 1, 23, 0), (1, 4, 0, 525908, 0), (1, 4, 0, 16434, 0), (1, 4, 0, 513, 0), (1, 4, 0, 16, 0)]
def t0 : List Lgr := [(0, 1, 111, 0, 14)]
def t1 : List Lgr := o_wds ++ (o_read3 ++ ((0, 3, 103, 0, 12) :: (1, 1, 2, (-1), 0) :: (1, 1, 0, 2, 0) :: (0, 2, 1, 2000, 2000) :: t0))
theorem w_t1 : wl byW 0 (o_read3 ++ ((0, 3, 103, 0, 12) :: (1, 1, 2, (-1), 0) :: (1, 1, 0, 2, 0) :: (0, 2, 1, 2000, 2000) :: t0)) = t1 := by decide +kernel
theorem e_t1 {F L : Nat} {xs : Nat → Int32} (hF : 100 ≤ F) : Read_init F 3 (lh (hini L xs) ((0, 3, 103, 0, 12) :: (1, 1, 2, (-1), 0) :: (1, 1, 0, 2, 0) :: (0, 2, 1, 2000, 2000) :: t0)) = some (0, lh (hini L xs) t1) := by
  rw [i_read3 (by omega) (by decide +kernel) (by decide +kernel), ← w_t1]
  exact r_words byW 0 F 0 _ rfl (by decide) (by show 82 < F; omega) (by decide) (by decide) (by decide +kernel) (by decide +kernel) (by decide +kernel) (by decide +kernel) (by decide +kernel)
def t2 : List Lgr := o_shor22 ++ ((0, 22, 107, 0, 7) :: (1, 1, 3, 3, 0) :: t1)
theorem e_t2 {F L : Nat} {xs : Nat → Int32} (hF : 100 ≤ F) : Shor_init F 22 (lh (hini L xs) ((0, 22, 107, 0, 7) :: (1, 1, 3, 3, 0) :: t1)) = some (0, lh (hini L xs) t2) := i_shor22 (by omega) (by decide +kernel) (by decide +kernel)
def t3 : List Lgr := o_stan66 ++ ((0, 66, 108, 0, 9) :: (1, 1, 4, 22, 0) :: t2)
theorem e_t3 {F L : Nat} {xs : Nat → Int32} (hF : 100 ≤ F) : Stan_init F 66 (lh (hini L xs) ((0, 66, 108, 0, 9) :: (1, 1, 4, 22, 0) :: t2)) = some (0, lh (hini L xs) t3) := i_stan66 (by omega) (by decide +kernel) (by decide +kernel)
def t4 : List Lgr := o_past78 ++ ((0, 78, 101, 0, 3) :: (1, 1, 5, 66, 0) :: t3)
theorem e_t4 {F L : Nat} {xs : Nat → Int32} (hF : 100 ≤ F) : Past_init F 78 (lh (hini L xs) ((0, 78, 101, 0, 3) :: (1, 1, 5, 66, 0) :: t3)) = some (0, lh (hini L xs) t4) := i_past78 (by omega) (by decide +kernel) (by decide +kernel)
def t5 : List Lgr := o_plan82 ++ ((0, 82, 102, 0, 10) :: (1, 1, 8, 81, 0) :: (0, 81, 2, 3, 3) :: (1, 1, 7, 80, 0) :: (0, 80, 6, 3, 3) :: (1, 1, 6, 78, 0) :: t4)
theorem e_t5 {F L : Nat} {xs : Nat → Int32} (hF : 100 ≤ F) : Plan_init F 82 (lh (hini L xs) ((0, 82, 102, 0, 10) :: (1, 1, 8, 81, 0) :: (0, 81, 2, 3, 3) :: (1, 1, 7, 80, 0) :: (0, 80, 6, 3, 3) :: (1, 1, 6, 78, 0) :: t4)) = some (0, lh (hini L xs) t5) := i_plan82 (by omega) (by decide +kernel) (by decide +kernel)
def t6 : List Lgr := o_told139 ++ ((0, 139, 109, 0, 5) :: (1, 1, 9, 82, 0) :: t5)
theorem e_t6 {F L : Nat} {xs : Nat → Int32} (hF : 100 ≤ F) : Told_init F 139 (lh (hini L xs) ((0, 139, 109, 0, 5) :: (1, 1, 9, 82, 0) :: t5)) = some (0, lh (hini L xs) t6) := i_told139 (by omega) (by decide +kernel) (by decide +kernel)
def t7 : List Lgr := o_stan158 ++ ((0, 158, 108, 0, 9) :: (1, 1, 13, 157, 0) :: (0, 157, 0, 600, 600) :: (1, 1, 12, 156, 0) :: (0, 156, 0, 50, 50) :: (1, 1, 11, 155, 0) :: (0, 155, 0, 50, 50) :: (1, 1, 10, 139, 0) :: t6)
theorem e_t7 {F L : Nat} {xs : Nat → Int32} (hF : 100 ≤ F) : Stan_init F 158 (lh (hini L xs) ((0, 158, 108, 0, 9) :: (1, 1, 13, 157, 0) :: (0, 157, 0, 600, 600) :: (1, 1, 12, 156, 0) :: (0, 156, 0, 50, 50) :: (1, 1, 11, 155, 0) :: (0, 155, 0, 50, 50) :: (1, 1, 10, 139, 0) :: t6)) = some (0, lh (hini L xs) t7) := i_stan158 (by omega) (by decide +kernel) (by decide +kernel)
def t8 : List Lgr := o_stan170 ++ ((0, 170, 108, 0, 9) :: (1, 80, 0, 158, 0) :: t7)
theorem e_t8 {F L : Nat} {xs : Nat → Int32} (hF : 100 ≤ F) : Stan_init F 170 (lh (hini L xs) ((0, 170, 108, 0, 9) :: (1, 80, 0, 158, 0) :: t7)) = some (0, lh (hini L xs) t8) := i_stan170 (by omega) (by decide +kernel) (by decide +kernel)
def t9 : List Lgr := o_stan182 ++ ((0, 182, 108, 0, 9) :: (1, 80, 1, 170, 0) :: t8)
theorem e_t9 {F L : Nat} {xs : Nat → Int32} (hF : 100 ≤ F) : Stan_init F 182 (lh (hini L xs) ((0, 182, 108, 0, 9) :: (1, 80, 1, 170, 0) :: t8)) = some (0, lh (hini L xs) t9) := i_stan182 (by omega) (by decide +kernel) (by decide +kernel)
def tz : List Lgr := (1, 80, 2, 182, 0) :: t9
theorem i_tide {F L : Nat} {xs : Nat → Int32} (hF : 100 ≤ F) : Tide_init F 1 (lh (hini L xs) t0) = Tide_init_B150 F 1 (lh (hini L xs) tz) := by
  obtain ⟨n, hn⟩ : ∃ n, F = n + 4 := ⟨F - 4, by omega⟩
  have u : ∀ (l : Int) (q : Hp), Tide_init_L126 F F 1 l q = Tide_init_L126s F (Tide_init_L126 F (n + 3)) 1 l q := fun l q => by
    conv => lhs; arg 2; rw [hn]
    rfl
  unfold Tide_init
  rw [vc_c (by decide +kernel)]
  rw [na_c (s := 2) (k := 1) (by decide +kernel) rfl (by decide)]
  rw [pf_c (by decide +kernel)]
  rw [pf_c (by decide +kernel)]
  rw [no_c (s := 3) (k := 103) (by decide +kernel) rfl]
  rw [iv_c (by decide +kernel)]
  rw [e_t1 hF]
  rw [cl_s]
  rw [pf_c (by decide +kernel)]
  rw [no_c (s := 22) (k := 107) (by decide +kernel) rfl]
  rw [iv_c (by decide +kernel)]
  rw [e_t2 hF]
  rw [cl_s]
  rw [pf_c (by decide +kernel)]
  rw [no_c (s := 66) (k := 108) (by decide +kernel) rfl]
  rw [iv_c (by decide +kernel)]
  rw [e_t3 hF]
  rw [cl_s]
  rw [pf_c (by decide +kernel)]
  rw [no_c (s := 78) (k := 101) (by decide +kernel) rfl]
  rw [iv_c (by decide +kernel)]
  rw [e_t4 hF]
  rw [cl_s]
  rw [pf_c (by decide +kernel)]
  rw [na_c (s := 80) (k := 6) (by decide +kernel) rfl (by decide)]
  rw [pf_c (by decide +kernel)]
  rw [na_c (s := 81) (k := 2) (by decide +kernel) rfl (by decide)]
  rw [pf_c (by decide +kernel)]
  rw [no_c (s := 82) (k := 102) (by decide +kernel) rfl]
  rw [iv_c (by decide +kernel)]
  rw [e_t5 hF]
  rw [cl_s]
  rw [pf_c (by decide +kernel)]
  rw [no_c (s := 139) (k := 109) (by decide +kernel) rfl]
  rw [iv_c (by decide +kernel)]
  rw [e_t6 hF]
  rw [cl_s]
  rw [pf_c (by decide +kernel)]
  rw [na_c (s := 155) (k := 0) (by decide +kernel) rfl (by decide)]
  rw [pf_c (by decide +kernel)]
  rw [na_c (s := 156) (k := 0) (by decide +kernel) rfl (by decide)]
  rw [pf_c (by decide +kernel)]
  rw [na_c (s := 157) (k := 0) (by decide +kernel) rfl (by decide)]
  rw [pf_c (by decide +kernel)]
  rw [u]
  unfold Tide_init_L126s
  rw [if_pos (by decide)]
  rw [gf_c (v := 80) (by decide +kernel) (by decide +kernel)]
  rw [no_c (s := 158) (k := 108) (by decide +kernel) rfl]
  rw [iv_c (by decide +kernel)]
  rw [e_t7 hF]
  rw [cl_s]
  rw [ar_c (by decide +kernel)]
  rw [show w32 (0 + 1) = 1 by decide]
  show Tide_init_L126s F (Tide_init_L126 F (n + 2)) 1 1 _ = _
  unfold Tide_init_L126s
  rw [if_pos (by decide)]
  rw [gf_c (v := 80) (by decide +kernel) (by decide +kernel)]
  rw [no_c (s := 170) (k := 108) (by decide +kernel) rfl]
  rw [iv_c (by decide +kernel)]
  rw [e_t8 hF]
  rw [cl_s]
  rw [ar_c (by decide +kernel)]
  rw [show w32 (1 + 1) = 2 by decide]
  show Tide_init_L126s F (Tide_init_L126 F (n + 1)) 1 2 _ = _
  unfold Tide_init_L126s
  rw [if_pos (by decide)]
  rw [gf_c (v := 80) (by decide +kernel) (by decide +kernel)]
  rw [no_c (s := 182) (k := 108) (by decide +kernel) rfl]
  rw [iv_c (by decide +kernel)]
  rw [e_t9 hF]
  rw [cl_s]
  rw [ar_c (by decide +kernel)]
  rw [show w32 (2 + 1) = 3 by decide]
  show Tide_init_L126s F (Tide_init_L126 F n) 1 3 _ = _
  unfold Tide_init_L126s
  rw [if_neg (by decide)]
  rfl
