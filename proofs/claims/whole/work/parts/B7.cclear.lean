/-! the first text of the class; written by gen_day.py -/
def LE (c : List Lgr) : Prop := lsz c = 194 ∧ lkd 22 c = 107 ∧ lkd 23 c = 106 ∧ lkd 31 c = 100 ∧ lkd 32 c = 0 ∧ lkd 33 c = 0 ∧ lkd 34 c = 0 ∧ lkd 35 c = 0 ∧ lkd 36 c = 0 ∧ lkd 37 c = 0 ∧ lln 32 c = 450 ∧ lln 33 c = 5 ∧ lln 34 c = 5 ∧ lln 35 c = 20 ∧ lln 36 c = 600 ∧ lln 37 c = 600 ∧ lrd 22 0 c = 23 ∧ lrd 22 1 c = 36 ∧ lrd 22 2 c = 37 ∧ lrd 23 14 c = 31 ∧ lrd 31 0 c = 32 ∧ lrd 31 1 c = 33 ∧ lrd 31 2 c = 34 ∧ lrd 31 3 c = 35
def LF (c : List Lgr) : Prop := lsz c = 194 ∧ lkd 22 c = 107 ∧ lkd 23 c = 106 ∧ lkd 31 c = 100 ∧ lkd 32 c = 0 ∧ lkd 33 c = 0 ∧ lkd 34 c = 0 ∧ lkd 35 c = 0 ∧ lkd 36 c = 0 ∧ lkd 37 c = 0 ∧ lln 32 c = 450 ∧ lln 33 c = 5 ∧ lln 34 c = 5 ∧ lln 35 c = 20 ∧ lln 36 c = 600 ∧ lln 37 c = 600 ∧ lrd 22 0 c = 23 ∧ lrd 22 1 c = 36 ∧ lrd 22 2 c = 37 ∧ lrd 23 14 c = 31 ∧ lrd 31 0 c = 32 ∧ lrd 31 1 c = 33 ∧ lrd 31 2 c = 34 ∧ lrd 31 3 c = 35 ∧ lrd 31 4 c = 10 ∧ lrd 33 1 c = 2 ∧ lrd 33 2 c = 4 ∧ lrd 32 2 c = 1 ∧ lrd 32 3 c = 4 ∧ lrd 32 4 c = 25601 ∧ lrd 32 5 c = 4 ∧ lrd 23 4 c = 0
def o_clear : List Lgr := [(1, 31, 4, 10, 0), (1, 32, 9, 4, 0), (1, 31, 4, 9, 0), (1, 32, 8, 1, 0), (1, 33, 4, 8, 0), (1, 31, 4, 8, 0), (1, 32, 7, 4, 0), (1, 31, 4, 7, 0), (1, 32, 6, 770, 0), (1, 33, 3, 6, 0), (1, 31, 4, 6, 0), (1, 32, 5, 4, 0), (1, 31, 4, 5, 0), (1, 32, 4, 25601, 0), (1, 33, 2, 4, 0), (1, 31, 4, 4, 0), (1, 32, 3, 4, 0), (1, 31, 4, 3, 0), (1, 32, 2, 1, 0), (1, 33, 1, 2, 0), (1, 31, 4, 2, 0), (1, 32, 1, 4, 0), (1, 31, 4, 1, 0), (1, 32, 0, 258, 0), (1, 33, 0, 0, 0), (1, 31, 4, 0, 0), (1, 23, 13, 0, 0), (1, 23, 12, 0, 0), (1, 23, 11, 0, 0), (1, 23, 10, 600, 0), (1, 23, 9, 1, 0), (1, 23, 8, 0, 0), (1, 23, 4, 0, 0)]
set_option maxRecDepth 20000 in
theorem l_clear {F L : Nat} {xs : Nat → Int32} {c : List Lgr} (g : LE c) : Scri_clear F 23 (lh (hini L xs) c) = some (0, lh (hini L xs) (o_clear ++ c)) := by
  obtain ⟨hs, k22, k23, k31, k32, k33, k34, k35, k36, k37, n32, n33, n34, n35, n36, n37, r22_0, r22_1, r22_2, r23_14, r31_0, r31_1, r31_2, r31_3⟩ := g
  simp only [Scri_clear, Laws_clear, Laws_begin, Laws_tellOne, Laws_emit, na_l, no_l, vc_l, iv_l, gf_l, pf_l, al_l, as_l, ar_l, cl_s, lsz_0, lsz_1, lkd_0, lkd_1, lln_0, lln_1, lrd_0, lrd_1, List.cons_append, List.nil_append, List.append_assoc, kc0, kc1, kc2, kc3, kc4, kc5, kc6, kc7, kc100, kc101, kc102, kc103, kc104, kc105, kc106, kc107, kc108, kc109, kc110, kc111, kc112, Int.reduceEq, Int.reduceLT, Int.reduceLE, Int.reduceAdd, Int.reduceToNat, and_self, and_true, true_and, if_true, if_false, reduceIte, and_false, false_and, eq_self, az_l, pz_l, aln_l, lsz_2, lkd_2, lln_2, lrd_2, w32, Int.reduceBmod, Int.reduceMul, Int.reduceSub, lt, Int.reduceNeg, or_true, true_or, o_clear, hs, k22, k23, k31, k32, k33, k34, k35, k36, k37, n32, n33, n34, n35, n36, n37, r22_0, r22_1, r22_2, r23_14, r31_0, r31_1, r31_2, r31_3]
theorem lt_l (x : Int) (f : Int → Option (Int × Hp)) : lt x f = f x := rfl
theorem LF_row {c : List Lgr} {a x y z : Int} {t : Nat} (h1 : 34 ≤ a) (h2 : a ≤ 37) (g : LF c) : LF ((t + 1, a, x, y, z) :: c) := by
  obtain ⟨hs, k22, k23, k31, k32, k33, k34, k35, k36, k37, n32, n33, n34, n35, n36, n37, r22_0, r22_1, r22_2, r23_14, r31_0, r31_1, r31_2, r31_3, r31_4, r33_1, r33_2, r32_2, r32_3, r32_4, r32_5, r23_4⟩ := g
  have e : ∀ b j, ¬ (34 ≤ b ∧ b ≤ 37) → lrd b j ((t + 1, a, x, y, z) :: c) = lrd b j c := fun b j hb => by
    cases t with
    | zero => exact (lrd_1).trans (if_neg (fun q => hb (by omega)))
    | succ t => exact (show lrd b j ((t + 1 + 1, a, x, y, z) :: c) = if b = a ∧ 0 ≤ j ∧ j < x then y else lrd b j c from rfl).trans (if_neg (fun q => hb (by omega)))
  exact ⟨hs, k22, k23, k31, k32, k33, k34, k35, k36, k37, n32, n33, n34, n35, n36, n37, (e _ _ (by decide)).trans r22_0, (e _ _ (by decide)).trans r22_1, (e _ _ (by decide)).trans r22_2, (e _ _ (by decide)).trans r23_14, (e _ _ (by decide)).trans r31_0, (e _ _ (by decide)).trans r31_1, (e _ _ (by decide)).trans r31_2, (e _ _ (by decide)).trans r31_3, (e _ _ (by decide)).trans r31_4, (e _ _ (by decide)).trans r33_1, (e _ _ (by decide)).trans r33_2, (e _ _ (by decide)).trans r32_2, (e _ _ (by decide)).trans r32_3, (e _ _ (by decide)).trans r32_4, (e _ _ (by decide)).trans r32_5, (e _ _ (by decide)).trans r23_4⟩
theorem al_c {L : Nat} {xs : Nat → Int32} {c : List Lgr} {κ : Nat} {a i v : Int} {f : Int → Option (Int × Hp)} (h : (1 ≤ a ∧ a < lsz c ∧ lkd a c = κ) ∧ 0 ≤ i ∧ i < lln a c) (hv : lrd a i c = v) : al (lh (hini L xs) c) a κ i f = f v := by rw [al_l, if_pos h, hv]
theorem as_c {L : Nat} {xs : Nat → Int32} {c : List Lgr} {κ : Nat} {a i x : Int} {f : Hp → Option (Int × Hp)} (h : (1 ≤ a ∧ a < lsz c ∧ lkd a c = κ) ∧ 0 ≤ i ∧ i < lln a c) : as (lh (hini L xs) c) a κ i x f = f (lh (hini L xs) ((1, a, i, x, 0) :: c)) := by rw [as_l, if_pos h]
set_option maxRecDepth 20000 in
theorem l_setV {F L : Nat} {xs : Nat → Int32} {c : List Lgr} {m : Int} (g : LF c) : Laws_setVariables F 31 0 0 m 0 0 (lh (hini L xs) c) = some (0, lh (hini L xs) ((1, 34, 4, 0, 0) :: (1, 34, 3, 0, 0) :: (1, 34, 2, m, 0) :: (1, 34, 1, 0, 0) :: (1, 34, 0, 0, 0) :: c)) := by
  obtain ⟨hs, k22, k23, k31, k32, k33, k34, k35, k36, k37, n32, n33, n34, n35, n36, n37, r22_0, r22_1, r22_2, r23_14, r31_0, r31_1, r31_2, r31_3, r31_4, r33_1, r33_2, r32_2, r32_3, r32_4, r32_5, r23_4⟩ := g
  simp only [Laws_setVariables, na_l, no_l, vc_l, iv_l, gf_l, pf_l, al_l, as_l, ar_l, cl_s, lsz_0, lsz_1, lkd_0, lkd_1, lln_0, lln_1, lrd_0, lrd_1, List.cons_append, List.nil_append, List.append_assoc, kc0, kc1, kc2, kc3, kc4, kc5, kc6, kc7, kc100, kc101, kc102, kc103, kc104, kc105, kc106, kc107, kc108, kc109, kc110, kc111, kc112, Int.reduceEq, Int.reduceLT, Int.reduceLE, Int.reduceAdd, Int.reduceToNat, and_self, and_true, true_and, if_true, if_false, reduceIte, and_false, false_and, eq_self, az_l, pz_l, aln_l, lsz_2, lkd_2, lln_2, lrd_2, w32, Int.reduceBmod, Int.reduceMul, Int.reduceSub, lt, Int.reduceNeg, or_true, true_or, hs, k31, k34, n34, r31_2]
theorem l_val1 {F L : Nat} {xs : Nat → Int32} {c : List Lgr} (hF : 20 ≤ F) (g : LF c) : Laws_value F 31 1 (lh (hini L xs) c) = some (0, lh (hini L xs) ((1, 35, 0, 0, 0) :: c)) := by
  obtain ⟨hs, k22, k23, k31, k32, k33, k34, k35, k36, k37, n32, n33, n34, n35, n36, n37, r22_0, r22_1, r22_2, r23_14, r31_0, r31_1, r31_2, r31_3, r31_4, r33_1, r33_2, r32_2, r32_3, r32_4, r32_5, r23_4⟩ := g
  obtain ⟨k, hk⟩ : ∃ k, F = k + 2 := ⟨F - 2, by omega⟩
  have u : ∀ (p q r : Int) (h : Hp), Laws_value_L12 F F 31 p q r h = Laws_value_L12s F (Laws_value_L12 F (k + 1)) 31 p q r h := fun p q r h => by
    conv => lhs; arg 2; rw [hk]
    rfl
  have v31 : 1 ≤ (31 : Int) ∧ 31 < lsz c ∧ lkd 31 c = 100 := ⟨by decide, by rw [hs]; decide, k31⟩
  have v32 : ∀ i : Int, 0 ≤ i → i < 450 → (1 ≤ (32 : Int) ∧ 32 < lsz c ∧ lkd 32 c = 0) ∧ 0 ≤ i ∧ i < lln 32 c := fun i h0 h1 => ⟨⟨by decide, by rw [hs]; decide, k32⟩, h0, by rw [n32]; exact h1⟩
  unfold Laws_value
  rw [gf_c (v := 33) v31 r31_1, al_c (v := 2) ⟨⟨by decide, by rw [hs]; decide, k33⟩, by decide, by rw [n33]; decide⟩ r33_1, u]
  unfold Laws_value_L12s
  rw [if_pos (by decide), if_neg (by decide), gf_c (v := 10) v31 r31_4, if_pos (by decide), gf_c (v := 32) v31 r31_0, al_c (v := 1) (v32 _ (by decide) (by decide)) r32_2, lt_l, gf_c (v := 32) v31 r31_0, al_c (v := 1) (v32 _ (by decide) (by decide)) r32_2, lt_l, show iand 1 255 = 1 by decide, show ishr 1 8 = 0 by decide, if_pos (by decide)]
  unfold Laws_value_B70 Laws_value_B95
  rw [if_pos (by decide), if_neg (by decide), if_neg (by decide), gf_c (v := 35) v31 r31_3, if_pos (by decide), as_c ⟨⟨by decide, by rw [hs]; decide, k35⟩, by decide, by rw [n35]; decide⟩, show w32 (2 + 1) = 3 by decide, show w32 (0 + 1) = 1 by decide]
  show Laws_value_L12s F (Laws_value_L12 F k) 31 3 1 1 _ = _
  have w31 : 1 ≤ (31 : Int) ∧ 31 < lsz ((1, 35, 0, 0, 0) :: c) ∧ lkd 31 ((1, 35, 0, 0, 0) :: c) = 100 := v31
  have q32 : ∀ i : Int, 0 ≤ i → i < 450 → (1 ≤ (32 : Int) ∧ 32 < lsz ((1, 35, 0, 0, 0) :: c) ∧ lkd 32 ((1, 35, 0, 0, 0) :: c) = 0) ∧ 0 ≤ i ∧ i < lln 32 ((1, 35, 0, 0, 0) :: c) := v32
  have e : ∀ a i, a ≠ 35 → lrd a i ((1, 35, 0, 0, 0) :: c) = lrd a i c := fun a i h => (lrd_1).trans (if_neg (fun q => h q.1))
  unfold Laws_value_L12s
  rw [if_pos (by decide), if_neg (by decide), gf_c (v := 10) w31 ((e _ _ (by decide)).trans r31_4), if_pos (by decide), gf_c (v := 32) w31 ((e _ _ (by decide)).trans r31_0), al_c (v := 4) (q32 _ (by decide) (by decide)) ((e _ _ (by decide)).trans r32_3), lt_l, gf_c (v := 32) w31 ((e _ _ (by decide)).trans r31_0), al_c (v := 4) (q32 _ (by decide) (by decide)) ((e _ _ (by decide)).trans r32_3), lt_l, show iand 4 255 = 4 by decide, if_neg (by decide), if_neg (by decide), if_pos rfl]
  unfold Laws_value_B131
  rw [if_pos (by decide), gf_c (v := 35) w31 ((e _ _ (by decide)).trans r31_3), show w32 (1 - 1) = 0 by decide, al_c (c := (1, 35, 0, 0, 0) :: c) (v := 0) ⟨⟨by decide, by rw [lsz_1, hs]; decide, k35⟩, by decide, by rw [lln_1, n35]; decide⟩ ((lrd_1).trans (if_pos ⟨rfl, rfl⟩))]
theorem l_val2 {F L : Nat} {xs : Nat → Int32} {c : List Lgr} (hF : 20 ≤ F) (g : LF c) : Laws_value F 31 2 (lh (hini L xs) c) = some (100, lh (hini L xs) ((1, 35, 0, 100, 0) :: c)) := by
  obtain ⟨hs, k22, k23, k31, k32, k33, k34, k35, k36, k37, n32, n33, n34, n35, n36, n37, r22_0, r22_1, r22_2, r23_14, r31_0, r31_1, r31_2, r31_3, r31_4, r33_1, r33_2, r32_2, r32_3, r32_4, r32_5, r23_4⟩ := g
  obtain ⟨k, hk⟩ : ∃ k, F = k + 2 := ⟨F - 2, by omega⟩
  have u : ∀ (p q r : Int) (h : Hp), Laws_value_L12 F F 31 p q r h = Laws_value_L12s F (Laws_value_L12 F (k + 1)) 31 p q r h := fun p q r h => by
    conv => lhs; arg 2; rw [hk]
    rfl
  have v31 : 1 ≤ (31 : Int) ∧ 31 < lsz c ∧ lkd 31 c = 100 := ⟨by decide, by rw [hs]; decide, k31⟩
  have v32 : ∀ i : Int, 0 ≤ i → i < 450 → (1 ≤ (32 : Int) ∧ 32 < lsz c ∧ lkd 32 c = 0) ∧ 0 ≤ i ∧ i < lln 32 c := fun i h0 h1 => ⟨⟨by decide, by rw [hs]; decide, k32⟩, h0, by rw [n32]; exact h1⟩
  unfold Laws_value
  rw [gf_c (v := 33) v31 r31_1, al_c (v := 4) ⟨⟨by decide, by rw [hs]; decide, k33⟩, by decide, by rw [n33]; decide⟩ r33_2, u]
  unfold Laws_value_L12s
  rw [if_pos (by decide), if_neg (by decide), gf_c (v := 10) v31 r31_4, if_pos (by decide), gf_c (v := 32) v31 r31_0, al_c (v := 25601) (v32 _ (by decide) (by decide)) r32_4, lt_l, gf_c (v := 32) v31 r31_0, al_c (v := 25601) (v32 _ (by decide) (by decide)) r32_4, lt_l, show iand 25601 255 = 1 by decide, show ishr 25601 8 = 100 by decide, if_pos (by decide)]
  unfold Laws_value_B70 Laws_value_B95
  rw [if_pos (by decide), if_neg (by decide), if_neg (by decide), gf_c (v := 35) v31 r31_3, if_pos (by decide), as_c ⟨⟨by decide, by rw [hs]; decide, k35⟩, by decide, by rw [n35]; decide⟩, show w32 (4 + 1) = 5 by decide, show w32 (0 + 1) = 1 by decide]
  show Laws_value_L12s F (Laws_value_L12 F k) 31 5 1 1 _ = _
  have w31 : 1 ≤ (31 : Int) ∧ 31 < lsz ((1, 35, 0, 100, 0) :: c) ∧ lkd 31 ((1, 35, 0, 100, 0) :: c) = 100 := v31
  have q32 : ∀ i : Int, 0 ≤ i → i < 450 → (1 ≤ (32 : Int) ∧ 32 < lsz ((1, 35, 0, 100, 0) :: c) ∧ lkd 32 ((1, 35, 0, 100, 0) :: c) = 0) ∧ 0 ≤ i ∧ i < lln 32 ((1, 35, 0, 100, 0) :: c) := v32
  have e : ∀ a i, a ≠ 35 → lrd a i ((1, 35, 0, 100, 0) :: c) = lrd a i c := fun a i h => (lrd_1).trans (if_neg (fun q => h q.1))
  unfold Laws_value_L12s
  rw [if_pos (by decide), if_neg (by decide), gf_c (v := 10) w31 ((e _ _ (by decide)).trans r31_4), if_pos (by decide), gf_c (v := 32) w31 ((e _ _ (by decide)).trans r31_0), al_c (v := 4) (q32 _ (by decide) (by decide)) ((e _ _ (by decide)).trans r32_5), lt_l, gf_c (v := 32) w31 ((e _ _ (by decide)).trans r31_0), al_c (v := 4) (q32 _ (by decide) (by decide)) ((e _ _ (by decide)).trans r32_5), lt_l, show iand 4 255 = 4 by decide, if_neg (by decide), if_neg (by decide), if_pos rfl]
  unfold Laws_value_B131
  rw [if_pos (by decide), gf_c (v := 35) w31 ((e _ _ (by decide)).trans r31_3), show w32 (1 - 1) = 0 by decide, al_c (c := (1, 35, 0, 100, 0) :: c) (v := 100) ⟨⟨by decide, by rw [lsz_1, hs]; decide, k35⟩, by decide, by rw [lln_1, n35]; decide⟩ ((lrd_1).trans (if_pos ⟨rfl, rfl⟩))]
theorem l_tide {F L : Nat} {xs : Nat → Int32} {c : List Lgr} {m : Int} (hF : 20 ≤ F) (g : LF c) : Laws_tide F 31 m (lh (hini L xs) c) = some (0, lh (hini L xs) ((1, 35, 0, 0, 0) :: (1, 34, 4, 0, 0) :: (1, 34, 3, 0, 0) :: (1, 34, 2, m, 0) :: (1, 34, 1, 0, 0) :: (1, 34, 0, 0, 0) :: c)) := by
  have g5 : LF ((1, 34, 4, 0, 0) :: (1, 34, 3, 0, 0) :: (1, 34, 2, m, 0) :: (1, 34, 1, 0, 0) :: (1, 34, 0, 0, 0) :: c) := LF_row (by decide) (by decide) (LF_row (by decide) (by decide) (LF_row (by decide) (by decide) (LF_row (by decide) (by decide) (LF_row (by decide) (by decide) g))))
  have hs : lsz c = 194 := g.1
  have k31 : lkd 31 c = 100 := g.2.2.2.1
  have v31 : 1 ≤ (31 : Int) ∧ 31 < lsz c ∧ lkd 31 c = 100 := ⟨by decide, by rw [hs]; decide, k31⟩
  unfold Laws_tide Laws_within
  rw [iv_c v31, l_setV g, cl_s, iv_c ⟨by decide, by rw [g5.1]; decide, g5.2.2.2.1⟩, l_val1 hF g5, cl_s]
  show some (imax (-9999) (imin 0 9999), _) = _
  rw [show imin 0 9999 = 0 by decide, show imax (-9999) 0 = 0 by decide]
theorem l_sun {F L : Nat} {xs : Nat → Int32} {c : List Lgr} {m : Int} (hF : 20 ≤ F) (g : LF c) : Laws_sun F 31 m (lh (hini L xs) c) = some (100, lh (hini L xs) ((1, 35, 0, 100, 0) :: (1, 34, 4, 0, 0) :: (1, 34, 3, 0, 0) :: (1, 34, 2, m, 0) :: (1, 34, 1, 0, 0) :: (1, 34, 0, 0, 0) :: c)) := by
  have g5 : LF ((1, 34, 4, 0, 0) :: (1, 34, 3, 0, 0) :: (1, 34, 2, m, 0) :: (1, 34, 1, 0, 0) :: (1, 34, 0, 0, 0) :: c) := LF_row (by decide) (by decide) (LF_row (by decide) (by decide) (LF_row (by decide) (by decide) (LF_row (by decide) (by decide) (LF_row (by decide) (by decide) g))))
  have hs : lsz c = 194 := g.1
  have k31 : lkd 31 c = 100 := g.2.2.2.1
  have v31 : 1 ≤ (31 : Int) ∧ 31 < lsz c ∧ lkd 31 c = 100 := ⟨by decide, by rw [hs]; decide, k31⟩
  unfold Laws_sun Laws_within
  rw [iv_c v31, l_setV g, cl_s, iv_c ⟨by decide, by rw [g5.1]; decide, g5.2.2.2.1⟩, l_val2 hF g5, cl_s]
  show some (imax 0 (imin 100 100), _) = _
  rw [show imin 100 100 = 100 by decide, show imax 0 100 = 100 by decide]
