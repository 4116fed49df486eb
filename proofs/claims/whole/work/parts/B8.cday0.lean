/-! the first day of the class; written by gen_day.py -/
def tc : List Lgr := o_clear ++ tz
theorem LE_tz : LE tz := by unfold LE; decide +kernel
theorem LF_tc : LF tc := by unfold LF; decide +kernel
theorem az_c {L : Nat} {xs : Nat → Int32} {c : List Lgr} {a i x : Int} {f : Hp → Option (Int × Hp)} (h : (1 ≤ a ∧ a < lsz c ∧ lkd a c = 2) ∧ 0 ≤ i ∧ i < lln a c ∧ (x = 0 ∨ x = 1)) : az (lh (hini L xs) c) a i x f = f (lh (hini L xs) ((1, a, i, x, 0) :: c)) := by rw [az_l, if_pos h]
theorem pz_c {L : Nat} {xs : Nat → Int32} {c : List Lgr} {κ : Nat} {a k x : Int} {f : Hp → Option (Int × Hp)} (h : (1 ≤ a ∧ a < lsz c ∧ lkd a c = κ) ∧ (x = 0 ∨ x = 1)) : pz (lh (hini L xs) c) a κ k x f = f (lh (hini L xs) ((1, a, k, x, 0) :: c)) := by rw [pz_l, if_pos h]
theorem aln_c {L : Nat} {xs : Nat → Int32} {c : List Lgr} {κ : Nat} {a v : Int} {f : Int → Option (Int × Hp)} (h : 1 ≤ a ∧ a < lsz c ∧ lkd a c = κ) (hv : lln a c = v) : aln (lh (hini L xs) c) a κ f = f v := by rw [aln_l, if_pos h, hv]
theorem hsz_l1 {g : Hp} {c : List Lgr} {a x y z : Int} : hsz (lh g ((1, a, x, y, z) :: c)) = hsz (lh g c) := rfl
theorem hsz_l2 {g : Hp} {c : List Lgr} {a x y z : Int} : hsz (lh g ((2, a, x, y, z) :: c)) = hsz (lh g c) := rfl
theorem hus_l1 {g : Hp} {c : List Lgr} {a x y z : Int} : hus (lh g ((1, a, x, y, z) :: c)) = hus (lh g c) := rfl
theorem hus_l2 {g : Hp} {c : List Lgr} {a x y z : Int} : hus (lh g ((2, a, x, y, z) :: c)) = hus (lh g c) := rfl
theorem hkd_l1 {g : Hp} {c : List Lgr} {a x y z : Int} : hkd (lh g ((1, a, x, y, z) :: c)) = hkd (lh g c) := rfl
theorem hkd_l2 {g : Hp} {c : List Lgr} {a x y z : Int} : hkd (lh g ((2, a, x, y, z) :: c)) = hkd (lh g c) := rfl
theorem hln_l1 {g : Hp} {c : List Lgr} {a x y z : Int} : hln (lh g ((1, a, x, y, z) :: c)) = hln (lh g c) := rfl
theorem hln_l2 {g : Hp} {c : List Lgr} {a x y z : Int} : hln (lh g ((2, a, x, y, z) :: c)) = hln (lh g c) := rfl
theorem rd_l1 {g : Hp} {c : List Lgr} {a x y z b j : Int} : rd (lh g ((1, a, x, y, z) :: c)) b j = if b = a ∧ j = x then y else rd (lh g c) b j := rfl
theorem rd_l2 {g : Hp} {c : List Lgr} {a x y z b j : Int} : rd (lh g ((2, a, x, y, z) :: c)) b j = if b = a ∧ 0 ≤ j ∧ j < x then y else rd (lh g c) b j := rfl
def lp (m : Nat) (c : List Lgr) : List Lgr := (2, 37, (m : Int), 100, 0) :: (1, 35, 0, (if m = 0 then 0 else 100), 0) :: (1, 34, 2, (if m = 0 then 0 else (m : Int) - 1), 0) :: c
def ls (m : Int) (c : List Lgr) : List Lgr := (1, 37, m, 100, 0) :: (1, 35, 0, 100, 0) :: (1, 34, 4, 0, 0) :: (1, 34, 3, 0, 0) :: (1, 34, 2, m, 0) :: (1, 34, 1, 0, 0) :: (1, 34, 0, 0, 0) :: (1, 36, m, 0, 0) :: (1, 35, 0, 0, 0) :: (1, 34, 4, 0, 0) :: (1, 34, 3, 0, 0) :: (1, 34, 2, m, 0) :: (1, 34, 1, 0, 0) :: (1, 34, 0, 0, 0) :: c
theorem LF_lp {c : List Lgr} (m : Nat) (g : LF c) : LF (lp m c) := LF_row (by decide) (by decide) (LF_row (by decide) (by decide) (LF_row (by decide) (by decide) g))
theorem l_min {F n L : Nat} {xs : Nat → Int32} {c : List Lgr} {m : Int} (hF : 20 ≤ F) (g : LF c) (m0 : 0 ≤ m) (m1 : m < 600) : Shor_settle_L2 F (n + 1) 22 m (lh (hini L xs) c) = Shor_settle_L2 F n 22 (w32 (m + 1)) (lh (hini L xs) (ls m c)) := by
  have g1 : LF ((1, 36, m, 0, 0) :: (1, 35, 0, 0, 0) :: (1, 34, 4, 0, 0) :: (1, 34, 3, 0, 0) :: (1, 34, 2, m, 0) :: (1, 34, 1, 0, 0) :: (1, 34, 0, 0, 0) :: c) := LF_row (by decide) (by decide) (LF_row (by decide) (by decide) (LF_row (by decide) (by decide) (LF_row (by decide) (by decide) (LF_row (by decide) (by decide) (LF_row (by decide) (by decide) (LF_row (by decide) (by decide) g))))))
  have g2 := g1
  obtain ⟨hs, k22, k23, k31, k32, k33, k34, k35, k36, k37, n32, n33, n34, n35, n36, n37, r22_0, r22_1, r22_2, r23_14, r31_0, r31_1, r31_2, r31_3, r31_4, r33_1, r33_2, r32_2, r32_3, r32_4, r32_5, r23_4⟩ := g
  show Shor_settle_L2s F (Shor_settle_L2 F n) 22 m _ = _
  unfold Shor_settle_L2s
  have v22 : 1 ≤ (22 : Int) ∧ 22 < lsz c ∧ lkd 22 c = 107 := ⟨by decide, by rw [hs]; decide, k22⟩
  have v23 : 1 ≤ (23 : Int) ∧ 23 < lsz c ∧ lkd 23 c = 106 := ⟨by decide, by rw [hs]; decide, k23⟩
  have v31 : 1 ≤ (31 : Int) ∧ 31 < lsz c ∧ lkd 31 c = 100 := ⟨by decide, by rw [hs]; decide, k31⟩
  have v36 : (1 ≤ (36 : Int) ∧ 36 < lsz c ∧ lkd 36 c = 0) ∧ 0 ≤ m ∧ m < lln 36 c := ⟨⟨by decide, by rw [hs]; decide, k36⟩, m0, by rw [n36]; exact m1⟩
  have v37 : (1 ≤ (37 : Int) ∧ 37 < lsz c ∧ lkd 37 c = 0) ∧ 0 ≤ m ∧ m < lln 37 c := ⟨⟨by decide, by rw [hs]; decide, k37⟩, m0, by rw [n37]; exact m1⟩
  rw [if_pos m1, gf_c (v := 36) v22 r22_1, gf_c (v := 23) v22 r22_0, gf_c (v := 31) v23 r23_14, iv_c v31, l_tide hF ⟨hs, k22, k23, k31, k32, k33, k34, k35, k36, k37, n32, n33, n34, n35, n36, n37, r22_0, r22_1, r22_2, r23_14, r31_0, r31_1, r31_2, r31_3, r31_4, r33_1, r33_2, r32_2, r32_3, r32_4, r32_5, r23_4⟩, cl_s, as_c (c := (1, 35, 0, 0, 0) :: (1, 34, 4, 0, 0) :: (1, 34, 3, 0, 0) :: (1, 34, 2, m, 0) :: (1, 34, 1, 0, 0) :: (1, 34, 0, 0, 0) :: c) v36]
  clear hs k22 k23 k31 k36 k37 v22 v23 v31 v36
  obtain ⟨hs, k22, k23, k31, k32, k33, k34, k35, k36, k37, n32, n33, n34, n35, n36, n37, r22_0, r22_1, r22_2, r23_14, r31_0, r31_1, r31_2, r31_3, r31_4, r33_1, r33_2, r32_2, r32_3, r32_4, r32_5, r23_4⟩ := g1
  rw [gf_c (v := 37) ⟨by decide, by rw [hs]; decide, k22⟩ r22_2, gf_c (v := 23) ⟨by decide, by rw [hs]; decide, k22⟩ r22_0, gf_c (v := 31) ⟨by decide, by rw [hs]; decide, k23⟩ r23_14, iv_c ⟨by decide, by rw [hs]; decide, k31⟩, l_sun hF g2, cl_s, as_c (c := (1, 35, 0, 100, 0) :: (1, 34, 4, 0, 0) :: (1, 34, 3, 0, 0) :: (1, 34, 2, m, 0) :: (1, 34, 1, 0, 0) :: (1, 34, 0, 0, 0) :: (1, 36, m, 0, 0) :: (1, 35, 0, 0, 0) :: (1, 34, 4, 0, 0) :: (1, 34, 3, 0, 0) :: (1, 34, 2, m, 0) :: (1, 34, 1, 0, 0) :: (1, 34, 0, 0, 0) :: c) v37]
  rfl
theorem l_eq {L : Nat} {xs : Nat → Int32} {c : List Lgr} (m : Nat) (z34 : ∀ j, lrd 34 j c = 0) (z36 : ∀ j, lrd 36 j c = 0) : lh (hini L xs) (ls m (lp m c)) = lh (hini L xs) (lp (m + 1) c) := by
  refine lh_ext (by unfold ls lp; simp only [hsz_l1, hsz_l2]) (by unfold ls lp; simp only [hus_l1, hus_l2]) (by unfold ls lp; simp only [hkd_l1, hkd_l2]) (by unfold ls lp; simp only [hln_l1, hln_l2]) (fun b j => ?_)
  have y34 : rd (lh (hini L xs) c) 34 j = 0 := by rw [rd_lh L xs (by decide), z34]
  have y36 : rd (lh (hini L xs) c) 36 j = 0 := by rw [rd_lh L xs (by decide), z36]
  unfold ls lp
  simp only [rd_l1, rd_l2]
  rw [if_neg (show ¬ (m + 1 = 0) by omega), if_neg (show ¬ (m + 1 = 0) by omega)]
  by_cases h7 : b = 37
  · subst h7
    simp only [Int.reduceEq, false_and, if_false, true_and]
    by_cases e : j = m
    · rw [if_pos e, if_pos (by omega)]
    · rw [if_neg e]
      by_cases e2 : 0 ≤ j ∧ j < m
      · rw [if_pos e2, if_pos (by omega)]
      · rw [if_neg e2, if_neg (by omega)]
  by_cases h6 : b = 36
  · subst h6
    simp only [Int.reduceEq, false_and, if_false, true_and, y36, ite_self]
  by_cases h5 : b = 35
  · subst h5
    simp only [Int.reduceEq, false_and, if_false, true_and]
    by_cases e : j = 0
    · rw [if_pos e, if_pos e]
    · simp only [e, if_false]
  by_cases h4 : b = 34
  · subst h4
    simp only [Int.reduceEq, false_and, if_false, true_and, y34, ite_self]
    by_cases e : j = 2
    · subst e
      simp only [Int.reduceEq, if_false, if_true]
      omega
    · simp only [e, if_false, ite_self]
  · simp only [h7, h6, h5, h4, false_and, if_false]
theorem l_settle {F L : Nat} {xs : Nat → Int32} {c : List Lgr} (hF : 1000 ≤ F) (g : LF c) (z34 : ∀ j, lrd 34 j c = 0) (z35 : ∀ j, lrd 35 j c = 0) (z36 : ∀ j, lrd 36 j c = 0) : Shor_settle F 22 (lh (hini L xs) c) = some (0, lh (hini L xs) (lp 600 c)) := by
  have e0 : lh (hini L xs) (lp 0 c) = lh (hini L xs) c := by
    refine lh_ext (by unfold lp; simp only [hsz_l1, hsz_l2]) (by unfold lp; simp only [hus_l1, hus_l2]) (by unfold lp; simp only [hkd_l1, hkd_l2]) (by unfold lp; simp only [hln_l1, hln_l2]) (fun b j => ?_)
    unfold lp
    simp only [rd_l1, rd_l2, if_true]
    rw [if_neg (by omega)]
    by_cases h5 : b = 35 ∧ j = 0
    · rw [if_pos h5, h5.1, rd_lh L xs (by decide), z35]
    rw [if_neg h5]
    by_cases h4 : b = 34 ∧ j = 2
    · rw [if_pos h4, h4.1, rd_lh L xs (by decide), z34]
    rw [if_neg h4]
  unfold Shor_settle
  have key := loop0 (fun n i => Shor_settle_L2 F n 22 (i : Int) (lh (hini L xs) (lp i c))) 600 F (some (0, lh (hini L xs) (lp 600 c))) (by omega) (fun n i hi => ?_) (fun n => ?_)
  · rw [e0] at key
    exact key
  · show Shor_settle_L2 F (n + 1) 22 (i : Int) (lh (hini L xs) (lp i c)) = Shor_settle_L2 F n 22 ((i + 1 : Nat) : Int) (lh (hini L xs) (lp (i + 1) c))
    rw [l_min (by omega) (LF_lp i g) (by omega) (by omega), l_eq i z34 z36, w32_id (by omega) (by omega)]
    rfl
  · show Shor_settle_L2s F (Shor_settle_L2 F n) 22 ((600 : Nat) : Int) _ = _
    have g6 := LF_lp 600 g
    obtain ⟨hs, k22, k23, k31, k32, k33, k34, k35, k36, k37, n32, n33, n34, n35, n36, n37, r22_0, r22_1, r22_2, r23_14, r31_0, r31_1, r31_2, r31_3, r31_4, r33_1, r33_2, r32_2, r32_3, r32_4, r32_5, r23_4⟩ := g6
    have v22 : 1 ≤ (22 : Int) ∧ 22 < lsz (lp 600 c) ∧ lkd 22 (lp 600 c) = 107 := ⟨by decide, by rw [hs]; decide, k22⟩
    have v23 : 1 ≤ (23 : Int) ∧ 23 < lsz (lp 600 c) ∧ lkd 23 (lp 600 c) = 106 := ⟨by decide, by rw [hs]; decide, k23⟩
    obtain ⟨k, hk⟩ : ∃ k, F = k + 1 := ⟨F - 1, by omega⟩
    have u1 : ∀ (l : Int) (q : Hp), Shor_settle_L51 F F 22 l q = Shor_settle_L51s F (Shor_settle_L51 F k) 22 l q := fun l q => by
      conv => lhs; arg 2; rw [hk]
      rfl
    have u2 : ∀ (l l' : Int) (q : Hp), Shor_settleErrors_L4 F F 22 l l' q = Shor_settleErrors_L4s F (Shor_settleErrors_L4 F k) 22 l l' q := fun l l' q => by
      conv => lhs; arg 2; rw [hk]
      rfl
    have u3 : ∀ (l l' : Int) (q : Hp), Shor_settleErrors_L56 F F 22 l l' q = Shor_settleErrors_L56s F (Shor_settleErrors_L56 F k) 22 l l' q := fun l l' q => by
      conv => lhs; arg 2; rw [hk]
      rfl
    unfold Shor_settle_L2s
    rw [if_neg (by decide), u1]
    unfold Shor_settle_L51s
    rw [gf_c (v := 23) v22 r22_0, gf_c (v := 0) v23 r23_4, if_neg (by decide)]
    unfold Shor_settle_B162 Shor_settleErrors
    rw [iv_c v22, u2]
    unfold Shor_settleErrors_L4s
    rw [gf_c (v := 23) v22 r22_0, gf_c (v := 0) v23 r23_4, if_neg (by decide), u3]
    unfold Shor_settleErrors_L56s
    rw [gf_c (v := 23) v22 r22_0, gf_c (v := 0) v23 r23_4, if_neg (by decide), cl_s]
