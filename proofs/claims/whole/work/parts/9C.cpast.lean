/-! the class's past -/
def FrA (x : Int) (h h' : Hp) : Prop := (hsz h' = hsz h ∧ hus h' = hus h ∧ hkd h' = hkd h ∧ hln h' = hln h) ∧ Sh h' ∧ ∀ a, a ≠ x → rd h' a = rd h a
theorem FrA_refl {x : Int} {h : Hp} (s : Sh h) : FrA x h h := ⟨⟨rfl, rfl, rfl, rfl⟩, s, fun _ _ => rfl⟩
theorem FrA_wr {x : Int} {h h' : Hp} (f : FrA x h h') {i v : Int} (ok : okW x i = true) : FrA x h (wr h' x i v) := ⟨f.1, shOk f.2.1 ok, fun a ha => by rw [rd_wr_ne ha]; exact f.2.2 a ha⟩
theorem ok79 {i : Int} : okW 79 i = true := okW_arr (by decide) (fun _ => by decide)
/-- a note in a slot -/
def NtC (h : Hp) (n s w p : Int) (N : Int → Int) : Prop := (rd h 79 (10 * s) = w ∧ rd h 79 (10 * s + 1) = p) ∧ (w < n → rd h 79 (10 * s + 2) = N (32 + w) ∧ rd h 79 (10 * s + 3) = N (35 + w) ∧ rd h 79 (10 * s + 4) = N (38 + w) ∧ rd h 79 (10 * s + 5) = N (41 + w)) ∧ rd h 79 (10 * s + 6) = N p ∧ rd h 79 (10 * s + 7) = (if N (16 + p) = -2 then 0 else N (16 + p)) ∧ rd h 79 (10 * s + 8) = N (24 + p) ∧ rd h 79 (10 * s + 9) = N (8 + p)
theorem c_note {F : Nat} {h : Hp} {w p : Int} {D : Nat → Int → Int} {N : Int → Int} (s : Sh h) (st : StE h 66 D N) (mk : ∀ p, 0 ≤ p → p < 8 → N (8 + p) = 0 ∨ N (8 + p) = 1) (hw : 0 ≤ w ∧ w < 3) (hp : 0 ≤ p ∧ p < 8) (hn : 0 ≤ rd h 78 1 ∧ rd h 78 1 < 41) : ∃ h', Past_note F 78 66 w p h = some (0, h') ∧ FrA 79 h h' ∧ (∀ i, ¬ (10 * rd h 78 1 ≤ i ∧ i < 10 * rd h 78 1 + 10) → rd h' 79 i = rd h 79 i) ∧ NtC h' (D 1 0) (rd h 78 1) w p N := by
  obtain ⟨hb, sw, sp, -, -⟩ := st
  obtain ⟨p1, p2, p3, p4⟩ := sp p hp.1 hp.2
  have hm := mk p hp.1 hp.2
  have iw' : isWk (66 + 9 + w) := stWk hb hw
  have hwn : (66:Int) + 9 + w ≠ 79 := by omega
  generalize hx : 10 * rd h 78 1 = x at *
  have f0 : FrA 79 h h := FrA_refl s
  have f1 := FrA_wr (i := x) (v := w) f0 ok79
  have f2 := FrA_wr (i := x + 1) (v := p) f1 ok79
  have f3 := FrA_wr (i := x + 2) (v := rd h (66 + 9 + w) 0) f2 ok79
  have f4 := FrA_wr (i := x + 3) (v := rd h (66 + 9 + w) 1) f3 ok79
  have f5 := FrA_wr (i := x + 4) (v := rd h (66 + 9 + w) 3) f4 ok79
  have f6 := FrA_wr (i := x + 5) (v := rd h (66 + 9 + w) 4) f5 ok79
  have f7 := FrA_wr (i := x + 6) (v := N p) f6 ok79
  have f8 := FrA_wr (i := x + 7) (v := if N (16 + p) = -2 then 0 else N (16 + p)) f7 ok79
  have f9 := FrA_wr (i := x + 8) (v := N (24 + p)) f8 ok79
  have fA := FrA_wr (i := x + 9) (v := N (8 + p)) f9 ok79
  refine ⟨_, ?_, fA, fun i hi => ?_, ?_⟩
  · unfold Past_note
    rw [gP1 s, w32_id (by omega) (by omega), lt_eq, show rd h 78 1 * 10 = x by omega, gS0 s hb, aS0 s hb hw.1 (by omega), gP0 s, sP0 s (by omega) (by omega),
      gP0 f1.2.1, w32_id (by omega) (by omega), sP0 f1.2.1 (by omega) (by omega),
      gP0 f2.2.1, gW f2.2.1 iw', f2.2.2 _ hwn, w32_id (by omega) (by omega), sP0 f2.2.1 (by omega) (by omega),
      gP0 f3.2.1, gW f3.2.1 iw', f3.2.2 _ hwn, w32_id (by omega) (by omega), sP0 f3.2.1 (by omega) (by omega),
      gP0 f4.2.1, gW f4.2.1 iw', f4.2.2 _ hwn, w32_id (by omega) (by omega), sP0 f4.2.1 (by omega) (by omega),
      gP0 f5.2.1, gW f5.2.1 iw', f5.2.2 _ hwn, w32_id (by omega) (by omega), sP0 f5.2.1 (by omega) (by omega),
      gP0 f6.2.1, gS1 f6.2.1 hb, aS1 f6.2.1 hb hp.1 hp.2, f6.2.2 _ (by omega), p1, w32_id (by omega) (by omega), sP0 f6.2.1 (by omega) (by omega),
      gP0 f7.2.1, gS2 f7.2.1 hb, aS2 f7.2.1 hb hp.1 hp.2, f7.2.2 _ (by omega), p2, w32_id (by omega) (by omega), sP0 f7.2.1 (by omega) (by omega),
      gP0 f8.2.1, gS3 f8.2.1 hb, aS3 f8.2.1 hb hp.1 hp.2, f8.2.2 _ (by omega), p3, w32_id (by omega) (by omega), sP0 f8.2.1 (by omega) (by omega),
      gP0 f9.2.1, gS4 f9.2.1 hb, aS4 f9.2.1 hb hp.1 hp.2, f9.2.2 _ (by omega), p4, w32_id (by omega) (by omega)]
    rcases hm with e | e
    · rw [e, if_pos rfl, sP0 f9.2.1 (by omega) (by omega)]
    · rw [e, if_neg (by decide), sP0 f9.2.1 (by omega) (by omega)]
  · rw [rd_i (by omega), rd_i (by omega), rd_i (by omega), rd_i (by omega), rd_i (by omega), rd_i (by omega), rd_i (by omega), rd_i (by omega), rd_i (by omega), rd_i (by omega)]
  · unfold NtC
    rw [hx]
    refine ⟨⟨?_, ?_⟩, fun hwn => ?_, ?_, ?_, ?_, ?_⟩
    · repeat' (first | rw [rd_same] | rw [rd_i (by omega)])
    · repeat' (first | rw [rd_same] | rw [rd_i (by omega)])
    · obtain ⟨-, w1, w2, w3, w4, w5⟩ := sw w hw.1 hwn
      rw [← w1, ← w2, ← w4, ← w5]
      refine ⟨?_, ?_, ?_, ?_⟩
      all_goals (repeat' (first | rw [rd_same] | rw [rd_i (by omega)]))
    all_goals (repeat' (first | rw [rd_same] | rw [rd_i (by omega)]))
theorem irem_e {x y : Int} (hx : 0 ≤ x) (hx2 : x < 1000000) (hy : 0 < y) (hy2 : y < 1000000) : irem x y = x % y := by
  have h1 := Int.emod_nonneg x (show y ≠ 0 by omega)
  have h2 := Int.emod_lt_of_pos x hy
  have h3 := Int.mul_ediv_add_emod x y
  have h4 := Int.ediv_nonneg hx (show 0 ≤ y by omega)
  have h5 : x / y ≤ x := Int.ediv_le_self y hx
  unfold irem
  rw [Int.tdiv_eq_ediv_of_nonneg hx, w32_id (x := x / y) (by omega) (by omega), Int.mul_comm (x / y) y, w32_id (x := y * (x / y)) (by omega) (by omega), w32_id (by omega) (by omega)]
  omega
theorem ok78 {i : Int} (hi : 1 ≤ i) : okW 78 i = true := by
  unfold okW
  rw [Bool.not_eq_true', List.any_eq_false]
  intro q hq
  have := (show ∀ q ∈ refL, q.1 = 78 → q.2.1 = 0 by decide +kernel) q hq
  intro e
  rw [Bool.and_eq_true, beq_iff_eq, beq_iff_eq] at e
  have := this e.1
  omega
/-- what one act leaves as it was -/
def Lnk (A B : Int → Int) (w p : Int) : Prop := B 44 = A 44 + 1 ∧ (∀ j, 0 ≤ j → j < 44 → j ≠ 32 + w → j ≠ 35 + w → j ≠ 38 + w → j ≠ 41 + w → j ≠ p → j ≠ 8 + p → j ≠ 16 + p → j ≠ 24 + p → B j = A j) ∧ ∀ i, 0 ≤ i → i < A 44 → i < 30 → B (45 + 3 * i) = A (45 + 3 * i) ∧ B (46 + 3 * i) = A (46 + 3 * i) ∧ B (47 + 3 * i) = A (47 + 3 * i)
theorem c_takeBack {F : Nat} {h : Hp} {w p : Int} {D : Nat → Int → Int} {A B : Int → Int} (s : Sh h) (st : StE h 66 D B) (mk : A (8 + p) = 0 ∨ A (8 + p) = 1) (hw : 0 ≤ w ∧ w < 3) (hw3 : D 1 0 ≤ 3) (hp : 0 ≤ p ∧ p < 8) (hn : 0 ≤ rd h 78 1 ∧ rd h 78 1 < 41) (hz : 0 < rd h 78 2 ∧ rd h 78 2 ≤ 40) (nt : NtC h (D 1 0) ((rd h 78 1 + 40) % 41) w p A) (lk : Lnk A B w p) (h44 : 0 ≤ A 44 ∧ A 44 < 1000000) : ∃ h', Past_takeBack F 78 66 h = some (1, h') ∧ FrS 66 (wr (wr h 78 2 (rd h 78 2 - 1)) 78 1 ((rd h 78 1 + 40) % 41)) h' ∧ StE h' 66 D A := by
  obtain ⟨hb, sw, sp, s8, sa⟩ := st
  obtain ⟨⟨n0, n1⟩, nw, n6, n7, n8, n9⟩ := nt
  obtain ⟨lk1, lk2, lk3⟩ := lk
  have hm0 := Int.emod_nonneg (rd h 78 1 + 40) (show (41:Int) ≠ 0 by decide)
  have hm1 := Int.emod_lt_of_pos (rd h 78 1 + 40) (show (0:Int) < 41 by decide)
  generalize hx : (rd h 78 1 + 40) % 41 = y at *
  generalize n2 : rd h 79 (10 * y + 2) = x2 at *
  generalize n3 : rd h 79 (10 * y + 3) = x3 at *
  generalize n4 : rd h 79 (10 * y + 4) = x4 at *
  generalize n5 : rd h 79 (10 * y + 5) = x5 at *
  have sa1 : Sh (wr h 78 2 (rd h 78 2 - 1)) := shOk s (ok78 (by decide))
  have sa2 : Sh (wr (wr h 78 2 (rd h 78 2 - 1)) 78 1 y) := shOk sa1 (ok78 (by decide))
  have hg : ∀ a, a ≠ 78 → rd (wr (wr h 78 2 (rd h 78 2 - 1)) 78 1 y) a = rd h a := fun a ha => by rw [rd_wr_ne ha, rd_wr_ne ha]
  have hg78 : rd (wr (wr h 78 2 (rd h 78 2 - 1)) 78 1 y) 78 1 = y := rd_same _ _ _ _
  have e1 : rd (wr h 78 2 (rd h 78 2 - 1)) 78 1 = rd h 78 1 := rd_i (by decide)
  have iw : isWk (66 + 9 + w) := stWk hb (by omega)
  have start : Past_takeBack F 78 66 h = Past_takeBack F 78 66 h := rfl
  generalize hG : wr (wr h 78 2 (rd h 78 2 - 1)) 78 1 y = g at sa2 hg hg78 ⊢
  have f0 : FrS 66 g g := FrS_refl sa2
  have f1 := FrS_wr (a := 66 + 9 + w) (i := 0) (v := x2) f0 (by omega) (wk_ok iw)
  have f2 := FrS_wr (a := 66 + 9 + w) (i := 1) (v := x3) f1 (by omega) (wk_ok iw)
  have f3 := FrS_wr (a := 66 + 9 + w) (i := 3) (v := x4) f2 (by omega) (wk_ok iw)
  have f4 := FrS_wr (a := 66 + 9 + w) (i := 4) (v := x5) f3 (by omega) (wk_ok iw)
  have f5 := FrS_wr (a := 66 + 2) (i := p) (v := A p) f4 (by omega) (okS hb (by decide))
  have f6 := FrS_wr (a := 66 + 3) (i := p) (v := if A (16 + p) = -2 then 0 else A (16 + p)) f5 (by omega) (okS hb (by decide))
  have f7 := FrS_wr (a := 66 + 4) (i := p) (v := A (24 + p)) f6 (by omega) (okS hb (by decide))
  have f8 := FrS_wr (a := 66 + 5) (i := p) (v := A (8 + p)) f7 (by omega) (okS hb (by decide))
  have f9 := FrS_wr (a := 66) (i := 8) (v := A 44) f8 (by omega) (okS8 hb)
  have z9 : (79:Int) ≠ 78 := by decide
  have q9 : ¬ ((66:Int) ≤ 79 ∧ (79:Int) ≤ 66 + 11) := by decide
  refine ⟨_, ?_, f9, ?_⟩
  · unfold Past_takeBack
    rw [gP2 s, if_neg (by omega), gP2 s, w32_id (by omega) (by omega), pP2 s, gP1 sa1, e1, w32_id (x := rd h 78 1 + 41) (by omega) (by omega), w32_id (x := rd h 78 1 + 41 - 1) (by omega) (by omega), dm_ok (by decide), irem_e (by omega) (by omega) (by decide) (by decide), show rd h 78 1 + 41 - 1 = rd h 78 1 + 40 by omega, hx, pP1 sa1, hG, gP1 sa2, hg78, w32_id (x := y * 10) (by omega) (by omega), lt_eq, show y * 10 = 10 * y by omega, gS0 sa2 hb, gP0 sa2, aP0 sa2 (by omega) (by omega), hg 79 z9, n0, aS0 sa2 hb hw.1 (by omega), gP0 sa2, w32_id (x := 10 * y + 1) (by omega) (by omega), aP0 sa2 (by omega) (by omega), hg 79 z9, n1, gP0 sa2, w32_id (x := 10 * y + 2) (by omega) (by omega), aP0 sa2 (by omega) (by omega), hg 79 z9, n2, pW sa2 iw,
      gP0 f1.2.1, w32_id (x := 10 * y + 3) (by omega) (by omega), aP0 f1.2.1 (by omega) (by omega), f1.2.2 79 q9, hg 79 z9, n3, pW f1.2.1 iw,
      gP0 f2.2.1, w32_id (x := 10 * y + 4) (by omega) (by omega), aP0 f2.2.1 (by omega) (by omega), f2.2.2 79 q9, hg 79 z9, n4, pW f2.2.1 iw,
      gP0 f3.2.1, w32_id (x := 10 * y + 5) (by omega) (by omega), aP0 f3.2.1 (by omega) (by omega), f3.2.2 79 q9, hg 79 z9, n5, pW f3.2.1 iw,
      gS1 f4.2.1 hb, gP0 f4.2.1, w32_id (x := 10 * y + 6) (by omega) (by omega), aP0 f4.2.1 (by omega) (by omega), f4.2.2 79 q9, hg 79 z9, n6, sS1 f4.2.1 hb hp.1 hp.2,
      gS2 f5.2.1 hb, gP0 f5.2.1, w32_id (x := 10 * y + 7) (by omega) (by omega), aP0 f5.2.1 (by omega) (by omega), f5.2.2 79 q9, hg 79 z9, n7, sS2 f5.2.1 hb hp.1 hp.2,
      gS3 f6.2.1 hb, gP0 f6.2.1, w32_id (x := 10 * y + 8) (by omega) (by omega), aP0 f6.2.1 (by omega) (by omega), f6.2.2 79 q9, hg 79 z9, n8, sS3 f6.2.1 hb hp.1 hp.2,
      gS4 f7.2.1 hb, gP0 f7.2.1, w32_id (x := 10 * y + 9) (by omega) (by omega), aP0 f7.2.1 (by omega) (by omega), f7.2.2 79 q9, hg 79 z9, n9]
    have r8 : rd (wr (wr (wr (wr (wr (wr (wr (wr g (66 + 9 + w) 0 x2) (66 + 9 + w) 1 x3) (66 + 9 + w) 3 x4) (66 + 9 + w) 4 x5) (66 + 2) p (A p)) (66 + 3) p (if A (16 + p) = -2 then 0 else A (16 + p))) (66 + 4) p (A (24 + p))) (66 + 5) p (A (8 + p))) 66 8 = A 44 + 1 := by
      rw [rd_a (by omega), rd_a (by omega), rd_a (by omega), rd_a (by omega), rd_a (by omega), rd_a (by omega), rd_a (by omega), rd_a (by omega), hg 66 (by decide), s8, lk1]
    have fin : ∀ x, x = A (8 + p) → Past_takeBack_B185 F 66 x p (66 + 5) (wr (wr (wr (wr (wr (wr (wr g (66 + 9 + w) 0 x2) (66 + 9 + w) 1 x3) (66 + 9 + w) 3 x4) (66 + 9 + w) 4 x5) (66 + 2) p (A p)) (66 + 3) p (if A (16 + p) = -2 then 0 else A (16 + p))) (66 + 4) p (A (24 + p))) = some (1, wr (wr (wr (wr (wr (wr (wr (wr (wr g (66 + 9 + w) 0 x2) (66 + 9 + w) 1 x3) (66 + 9 + w) 3 x4) (66 + 9 + w) 4 x5) (66 + 2) p (A p)) (66 + 3) p (if A (16 + p) = -2 then 0 else A (16 + p))) (66 + 4) p (A (24 + p))) (66 + 5) p (A (8 + p))) 66 8 (A 44)) := by
      intro x hx2
      subst hx2
      unfold Past_takeBack_B185
      rw [sS4 f7.2.1 hb hp.1 hp.2 mk, gS8 f8.2.1 hb, r8, show A 44 + 1 - 1 = A 44 by omega, w32_id (by omega) (by omega), pS8 f8.2.1 hb, rz_1]
    rcases mk with e | e
    · rw [if_neg (by omega)]
      exact fin 0 e.symm
    · rw [if_pos e]
      exact fin 1 e.symm
  · refine ⟨hb, fun v v0 v1 => ?_, fun q q0 q1 => ?_, rd_same _ _ _ _, fun i i0 i1 i2 => ?_⟩
    · obtain ⟨y0, y1, y2, y3, y4, y5⟩ := sw v v0 v1
      refine ⟨y0, ?_, ?_, ?_, ?_, ?_⟩
      all_goals (rw [rd_a (by omega), rd_a (by omega), rd_a (by omega), rd_a (by omega), rd_a (by omega)]; by_cases cv : v = w)
      · subst cv; rw [rd_i (by decide), rd_i (by decide), rd_i (by decide), rd_same]; exact (nw v1).1
      · rw [rd_a (by omega), rd_a (by omega), rd_a (by omega), rd_a (by omega), hg _ (by omega), y1]; exact lk2 _ (by omega) (by omega) (by omega) (by omega) (by omega) (by omega) (by omega) (by omega) (by omega) (by omega)
      · subst cv; rw [rd_i (by decide), rd_i (by decide), rd_same]; exact (nw v1).2.1
      · rw [rd_a (by omega), rd_a (by omega), rd_a (by omega), rd_a (by omega), hg _ (by omega), y2]; exact lk2 _ (by omega) (by omega) (by omega) (by omega) (by omega) (by omega) (by omega) (by omega) (by omega) (by omega)
      · subst cv; rw [rd_i (by decide), rd_i (by decide), rd_i (by decide), rd_i (by decide), hg _ (by omega)]; exact y3
      · rw [rd_a (by omega), rd_a (by omega), rd_a (by omega), rd_a (by omega), hg _ (by omega)]; exact y3
      · subst cv; rw [rd_i (by decide), rd_same]; exact (nw v1).2.2.1
      · rw [rd_a (by omega), rd_a (by omega), rd_a (by omega), rd_a (by omega), hg _ (by omega), y4]; exact lk2 _ (by omega) (by omega) (by omega) (by omega) (by omega) (by omega) (by omega) (by omega) (by omega) (by omega)
      · subst cv; rw [rd_same]; exact (nw v1).2.2.2
      · rw [rd_a (by omega), rd_a (by omega), rd_a (by omega), rd_a (by omega), hg _ (by omega), y5]; exact lk2 _ (by omega) (by omega) (by omega) (by omega) (by omega) (by omega) (by omega) (by omega) (by omega) (by omega)
    · obtain ⟨y1, y2, y3, y4⟩ := sp q q0 q1
      by_cases cq : q = p
      · subst cq
        refine ⟨?_, ?_, ?_, ?_⟩
        · rw [rd_a (by omega), rd_a (by omega), rd_a (by omega), rd_a (by omega), rd_same]
        · rw [rd_a (by omega), rd_a (by omega), rd_a (by omega), rd_same]
        · rw [rd_a (by omega), rd_a (by omega), rd_same]
        · rw [rd_a (by omega), rd_same]
      · have L : ∀ j, j = q ∨ j = 8 + q ∨ j = 16 + q ∨ j = 24 + q → B j = A j := fun j hj => lk2 j (by omega) (by omega) (by omega) (by omega) (by omega) (by omega) (by omega) (by omega) (by omega) (by omega)
        have T1 : ∀ a, a = (66:Int) + 2 ∨ a = 66 + 3 ∨ a = 66 + 4 ∨ a = 66 + 5 → ∀ g' : Hp, g' = (wr (wr (wr (wr g (66 + 9 + w) 0 x2) (66 + 9 + w) 1 x3) (66 + 9 + w) 3 x4) (66 + 9 + w) 4 x5) → rd g' a q = rd h a q := fun a ha g' e => by
          rw [e, rd_a (by omega), rd_a (by omega), rd_a (by omega), rd_a (by omega), hg _ (by omega)]
        refine ⟨?_, ?_, ?_, ?_⟩
        · rw [rd_a (by omega), rd_a (by omega), rd_a (by omega), rd_a (by omega), rd_i cq, T1 _ (by omega) _ rfl, y1]; exact L _ (by omega)
        · rw [rd_a (by omega), rd_a (by omega), rd_a (by omega), rd_i cq, rd_a (by omega), T1 _ (by omega) _ rfl, y2, L (16 + q) (by omega)]
        · rw [rd_a (by omega), rd_a (by omega), rd_i cq, rd_a (by omega), rd_a (by omega), T1 _ (by omega) _ rfl, y3]; exact L _ (by omega)
        · rw [rd_a (by omega), rd_i cq, rd_a (by omega), rd_a (by omega), rd_a (by omega), T1 _ (by omega) _ rfl, y4]; exact L _ (by omega)
    · obtain ⟨y1, y2, y3⟩ := sa i i0 (by omega) i2
      obtain ⟨l1, l2, l3⟩ := lk3 i i0 i1 i2
      have T2 : ∀ a, a = (66:Int) + 6 ∨ a = 66 + 7 ∨ a = 66 + 8 → ∀ g' : Hp, FrS 66 g g' → True := fun _ _ _ _ => trivial
      refine ⟨?_, ?_, ?_⟩
      all_goals rw [rd_a (by omega), rd_a (by omega), rd_a (by omega), rd_a (by omega), rd_a (by omega), rd_a (by omega), rd_a (by omega), rd_a (by omega), rd_a (by omega), hg _ (by omega)]
      · rw [y1, l1]
      · rw [y2, l2]
      · rw [y3, l3]
