/-! the class reads tells: workers, numbers, laws; a text -/
theorem t_work {F : Nat} {c : Int} (hF : 1000 ≤ F) (ic : isSc c) {h : Hp} {K V P M : Nat → Int} {s : Sg} (sh : Sh h) (tk : TkC h K V P) (tm : ∀ t : Nat, t ≤ 400 → rd h 6 t = M t) (h5 : rd h 3 5 = c) (g : TSc c h M s) : T (iv h 3 103 (Read_takeWorker F 3 h) fun _ h5 => Read_takeTell_B175 F 3 h5) (fun _ h' => QT c M h h' (pWork K V P M s)) := by
  have hcc : c = 9 ∨ c = 23 := ic
  have st0 := TSc_beg sh g
  obtain ⟨ga, cx, cl, gu, gm, gn, g0, g1, g25⟩ := g
  have h4 : rd h c 8 = s.2.1 1 0 := cx.2.2.1
  unfold pWork
  by_cases c8 : 3 ≤ s.2.1 1 0
  · rw [if_pos c8]
    refine T_iv sh (P := fun _ h1 => DZ c h h1 2 (P s.1)) ?_ (fun _ h1 g1 => st_semi (r := Sum.inl (2, P s.1)) (W := fun _ => h) ic tk g1)
    unfold Read_takeWorker
    rw [gR5 sh, h5, gC8 sh ic, h4, if_neg (by omega), ivR sh, c_failR sh tk ga.2.2 ga.2.1 ga.1, cl_some]
    exact T_some (st_fl ic (Fz_refl sh (by rw [ga.2.1]; omega)) ⟨rfl, rfl⟩ (by decide)).1
  · rw [if_neg c8]
    have n8 : ∀ a : Int, c ≤ a → a ≤ c + 10 → a ≠ 8 ∧ a ≠ 3 := fun a h1 h2 => by omega
    have hW0 : Wc c h (fun _ => h) := fun _ => ⟨rfl, rfl⟩
    have hW1 : Wc c h (W1p h M (s.2.1 25 0)) := fun l => by unfold W1p; rw [rd_wr_ne (by omega), rd_wr_ne (by omega)]; exact ⟨rfl, rfl⟩
    have hW2 : Wc c h (fun l => wr (W1p h M (s.2.1 25 0) l.tail) (c + 5) (s.2.1 1 0) (l.headD 0)) := fun l => by rw [rd_wr_ne (show c ≠ c + 5 by omega)]; exact hW1 _
    have hW3 : Wc c h (fun l => wr (wr (W1p h M (s.2.1 25 0) l.tail.tail) (c + 5) (s.2.1 1 0) (l.tail.headD 0)) (c + 6) (s.2.1 1 0) (l.headD 0)) := fun l => by rw [rd_wr_ne (show c ≠ c + 6 by omega)]; exact hW2 l.tail
    have hW4 : Wc c h (fun l => wr (wr (wr (W1p h M (s.2.1 25 0) l.tail.tail.tail) (c + 5) (s.2.1 1 0) (l.tail.tail.headD 0)) (c + 6) (s.2.1 1 0) (l.tail.headD 0)) (c + 7) (s.2.1 1 0) (l.headD 0)) := fun l => by rw [rd_wr_ne (show c ≠ c + 7 by omega)]; exact hW3 l.tail
    have body : T (Read_takeWorker F 3 h) (fun _ h' => STd c h h' (cNum K V P 1 20 (cNum K V P 0 99 (cNum K V P 0 99 (cName K P M s.2.1 (cAcc K P 1 (cBeg s)))))) (fun l => wr (wr (wr (wr (W1p h M (s.2.1 25 0) l.tail.tail.tail) (c + 5) (s.2.1 1 0) (l.tail.tail.headD 0)) (c + 6) (s.2.1 1 0) (l.tail.headD 0)) (c + 7) (s.2.1 1 0) (l.headD 0)) c 8 (s.2.1 1 0 + 1))) := by
      unfold Read_takeWorker
      rw [gR5 sh, h5, gC8 sh ic, h4, if_pos (by omega)]
      refine T_iv sh (st_acc ic tk hW0 st0) (fun _ k1 e1 => ?_)
      refine T_iv (STc_F e1).2.1 (st_name hF ic tk tm (by omega) hW0 (fun _ => gn) e1) (fun _ k2 e2 => ?_)
      have s2 := (STc_F e2).2.1
      have r2 : rd k2 3 5 = c := ((STc_F e2).2.2.2.1 5 (by decide)).trans h5
      rw [gR5 s2, r2, gC5 s2 ic]
      refine T_iv s2 (st_num ic tk hW1 e2) (fun v k3 e3 => ?_)
      have s3 := (STc_F e3.1).2.1
      have e4 := st_wr (a := c + 5) (i := s.2.1 1 0) ic (okC ic (Or.inl (by decide))) (Or.inl (by omega)) e3.2 e3.1
      rw [sC5 s3 ic g1.1 (by omega)]
      have s4 := (STc_F e4).2.1
      have r4 : rd (wr k3 (c + 5) (s.2.1 1 0) v) 3 5 = c := ((STc_F e4).2.2.2.1 5 (by decide)).trans h5
      rw [gR5 s4, r4, gC6 s4 ic]
      refine T_iv s4 (st_num ic tk hW2 e4) (fun v2 k5 e5 => ?_)
      have s5 := (STc_F e5.1).2.1
      have e6 := st_wr (a := c + 6) (i := s.2.1 1 0) ic (okC ic (Or.inl (by decide))) (Or.inl (by omega)) e5.2 e5.1
      rw [sC6 s5 ic g1.1 (by omega)]
      have s6 := (STc_F e6).2.1
      have r6 : rd (wr k5 (c + 6) (s.2.1 1 0) v2) 3 5 = c := ((STc_F e6).2.2.2.1 5 (by decide)).trans h5
      rw [gR5 s6, r6, gC7 s6 ic]
      refine T_iv s6 (st_num ic tk hW3 e6) (fun v3 k7 e7 => ?_)
      have s7 := (STc_F e7.1).2.1
      have eA := st_wr (a := c + 7) (i := s.2.1 1 0) ic (okC ic (Or.inl (by decide))) (Or.inl (by omega)) e7.2 e7.1
      rw [sC7 s7 ic g1.1 (by omega)]
      have sA := (STc_F eA).2.1
      have rA : rd (wr k7 (c + 7) (s.2.1 1 0) v3) 3 5 = c := ((STc_F eA).2.2.2.1 5 (by decide)).trans h5
      have cA := (STc_cnt ic hW4 eA).2
      rw [gR5 sA, rA, gC8 sA ic, cA, h4, w32_id (by omega) (by omega), pC8 sA ic]
      exact T_some (std_wr ic (okC8 ic) eA)
    refine T_iv sh body (fun _ h1 g1 => T_mono (st_semi ic tk g1) (fun _ h2 g2 => ?_))
    cases hr : cAcc K P 59 (cNum K V P 1 20 (cNum K V P 0 99 (cNum K V P 0 99 (cName K P M s.2.1 (cAcc K P 1 (cBeg s)))))) with
    | inl q => rw [hr] at g2; exact g2
    | inr q =>
      rw [hr] at g2
      obtain ⟨q1, a1, -, a3, a4⟩ := cAcc_inr hr
      obtain ⟨q2, b1, -, b3, b4⟩ := cNum_inr a1
      obtain ⟨q3, c1, -, c3, c4⟩ := cNum_inr b1
      obtain ⟨q4, d1, -, d3, d4⟩ := cNum_inr c1
      obtain ⟨q6, f1, -, f3, f4⟩ := cName_inr d1
      obtain ⟨q7, i1, -, i3, i4⟩ := cAcc_inr f1
      have iq : q7 = (s.1, s.2.2.2, []) := by cases i1; rfl
      have hl : q.2.2 = [V q2.1, V q3.1, V q4.1, (q6.1 : Int)] := by rw [a4, b4, c4, d4, f4, i4, iq]
      have ht : s.1 ≤ q.1 := by rw [a4, b4, c4, d4, f4, i4, iq]; show s.1 ≤ s.1 + 1 + 1 + 1 + 1 + 1 + 1; omega
      show QT c M h h2 (match q.2.2 with | [m, y, x, n] => Sum.inr (q.1, up2 (up2 (up2 (up2 (up2 (up2 s.2.1 4 (s.2.1 1 0) x) 5 (s.2.1 1 0) y) 3 (s.2.1 1 0) m) 1 0 (s.2.1 1 0 + 1)) 24 (s.2.1 25 0) n) 25 0 (s.2.1 25 0 + 1), s.2.2.1, q.2.1) | _ => Sum.inl (0, 0))
      obtain ⟨z1, z2, z3, z4⟩ := g2
      rw [hl] at z4 ⊢
      generalize V q2.1 = vm at *
      generalize V q3.1 = vy at *
      generalize V q4.1 = vx at *
      generalize q6.1 = tn at *
      have zz : Ag c h2 (wr (wr (wr (wr (wr (wr h 8 (s.2.1 25 0) (M tn)) 3 6 (s.2.1 25 0 + 1)) (c + 5) (s.2.1 1 0) vx) (c + 6) (s.2.1 1 0) vy) (c + 7) (s.2.1 1 0) vm) c 8 (s.2.1 1 0 + 1)) := z4
      obtain ⟨w1, w2, w3⟩ := zz
      have R : ∀ a j, c ≤ a → a ≤ c + 10 → rd h2 a j = if a = c ∧ j = 8 then s.2.1 1 0 + 1 else if a = c + 7 ∧ j = s.2.1 1 0 then vm else if a = c + 6 ∧ j = s.2.1 1 0 then vy else if a = c + 5 ∧ j = s.2.1 1 0 then vx else rd h a j := fun a j h1 h2' => by
        rw [w1 a h1 h2', rd_wr, rd_wr, rd_wr, rd_wr, rd_wr_ne (n8 a h1 h2').2, rd_wr_ne (n8 a h1 h2').1]
      have Rs : ∀ a, ((c + 1 ≤ a ∧ a ≤ c + 4) ∨ (c + 8 ≤ a ∧ a ≤ c + 10)) → rd h2 a = rd h a := fun a ha => by
        funext j
        rw [R a j (by omega) (by omega), if_neg (by omega), if_neg (by omega), if_neg (by omega), if_neg (by omega)]
      have Rc : ∀ j, j ≠ 8 → rd h2 c j = rd h c j := fun j hj => by
        rw [R c j (by omega) (by omega), if_neg (by omega), if_neg (by omega), if_neg (by omega), if_neg (by omega)]
      have R4 : rd h2 c 8 = s.2.1 1 0 + 1 := by rw [R c 8 (by omega) (by omega), if_pos ⟨rfl, rfl⟩]
      obtain ⟨x1, x2, x3, x4, x5, x6, x7, x8, x9, xA⟩ := cx
      refine ⟨z1, z2, ⟨x1, ?_, ?_, fun p p0 p1 => ?_, fun w w0 wl => ?_, ?_, ?_, ?_, ?_, ?_⟩, CLz_eq (Rs _ (by omega)) (Rs _ (by omega)) (Rs _ (by omega)) cl, ?_, z3, ⟨?_, fun i i0 il => ?_⟩, ?_⟩
      · rw [Rc 4 (by decide), x2]; simp [up2]
      · rw [R4]; simp [up2]
      · have p1' : p < s.2.1 0 0 := by simp [up2] at p1; exact p1
        rw [Rs (c + 1) (by omega), Rs (c + 2) (by omega), Rs (c + 3) (by omega), Rs (c + 4) (by omega)]
        have := x4 p p0 p1'
        simp [up2]
        exact this
      · have wl' : w < s.2.1 1 0 + 1 := by simp [up2] at wl; omega
        rw [R (c + 5) w (by omega) (by omega), R (c + 6) w (by omega) (by omega), R (c + 7) w (by omega) (by omega)]
        by_cases e : w = s.2.1 1 0
        · subst e
          rw [if_neg (by omega), if_neg (by omega), if_neg (by omega), if_pos ⟨rfl, rfl⟩, if_neg (by omega), if_neg (by omega), if_pos ⟨rfl, rfl⟩, if_neg (by omega), if_pos ⟨rfl, rfl⟩]
          simp [up2]
        · obtain ⟨y1, y2, y3⟩ := x5 w w0 (by omega)
          rw [if_neg (by omega), if_neg (by omega), if_neg (by omega), if_neg (by omega), if_neg (by omega), if_neg (by omega), if_neg (by omega), if_neg (by omega), if_neg (by omega), if_neg (by omega), if_neg (by omega), if_neg (by omega)]
          rw [y1, y2, y3]
          simp [up2, e]
      · rw [Rc 9 (by decide), x6]; simp [up2]
      · rw [Rc 10 (by decide), x7]; simp [up2]
      · rw [Rc 11 (by decide), x8]; simp [up2]
      · rw [Rc 12 (by decide), x9]; simp [up2]
      · rw [Rc 13 (by decide), xA]; simp [up2]
      · rw [Rs (c + 8) (by omega)]; omega
      · rw [w3, rd_wr_ne (by omega), rd_wr_ne (by omega), rd_wr_ne (by omega), rd_wr_ne (by omega), rd_same]; simp [up2]
      · have il' : i < s.2.1 25 0 + 1 := by simp [up2] at il; exact il
        rw [w2, rd_wr_ne (by omega), rd_wr_ne (by omega), rd_wr_ne (by omega), rd_wr_ne (by omega), rd_wr_ne (by decide)]
        by_cases e : i = s.2.1 25 0
        · subst e
          rw [rd_same]; simp [up2]
        · rw [rd_i e, gn.2 i i0 (by omega)]; simp [up2, e]
      · simp [up2]; omega
theorem t_two7 {F : Nat} {c : Int} (ic : isSc c) {h : Hp} {K V P M : Nat → Int} {s : Sg} (sh : Sh h) (tk : TkC h K V P) (h5 : rd h 3 5 = c) (g : TSc c h M s) (hk : K s.1 = 7) : T (Read_takeTell_B52 F 3 7 h) (fun _ h' => QT c M h h' (pTwo K V P s 7 17 18 1 600)) := by
  have hcc : c = 9 ∨ c = 23 := ic
  have st0 := TSc_beg sh g
  obtain ⟨ga, cx, cl, gu, gm, gn, g0, g1, g25⟩ := g
  have n8 : ∀ a : Int, c ≤ a → a ≤ c + 10 → a ≠ 8 ∧ a ≠ 3 := fun a h1 h2 => by omega
  have hW0 : Wc c h (fun _ => h) := fun _ => ⟨rfl, rfl⟩
  have hW1 : Wc c h (fun l => wr h c 9 (l.headD 0)) := fun l => by rw [rd_i (by decide), rd_i (by decide)]; exact ⟨rfl, rfl⟩
  unfold Read_takeTell_B52 pTwo
  rw [if_pos rfl]
  refine T_iv sh (st_acc ic tk hW0 st0) (fun _ k1 e1 => ?_)
  have s1 := (STc_F e1).2.1
  have r1 : rd k1 3 5 = c := ((STc_F e1).2.2.2.1 5 (by decide)).trans h5
  rw [gR5 s1, r1]
  refine T_iv s1 (st_num ic tk hW0 e1) (fun v k3 e3 => ?_)
  have s3 := (STc_F e3.1).2.1
  have e4 := st_wr (a := c) (i := 9) ic (okC9 ic) (Or.inr ⟨rfl, by decide⟩) e3.2 e3.1
  rw [pC9 s3 ic]
  have s4 := (STc_F e4).2.1
  have r4 : rd (wr k3 c 9 v) 3 5 = c := ((STc_F e4).2.2.2.1 5 (by decide)).trans h5
  rw [gR5 s4, r4]
  refine T_iv s4 (st_num ic tk hW1 e4) (fun v2 k5 e5 => ?_)
  have s5 := (STc_F e5.1).2.1
  have e6 := st_wr (a := c) (i := 10) ic (okC10 ic) (Or.inr ⟨rfl, by decide⟩) e5.2 e5.1
  rw [pC10 s5 ic]
  refine T_mono (st_semi ic tk (STd_of e6)) (fun _ h2 g2 => ?_)
  cases hr : cAcc K P 59 (cNum K V P 1 600 (cNum K V P 1 600 (cAcc K P 7 (cBeg s)))) with
  | inl q => rw [hr] at g2; exact g2
  | inr q =>
    rw [hr] at g2
    obtain ⟨q1, a1, -, a3, a4⟩ := cAcc_inr hr
    obtain ⟨q2, b1, -, b3, b4⟩ := cNum_inr a1
    obtain ⟨q3, c1, -, c3, c4⟩ := cNum_inr b1
    obtain ⟨q7, i1, -, i3, i4⟩ := cAcc_inr c1
    have iq : q7 = (s.1, s.2.2.2, []) := by cases i1; rfl
    have hl : q.2.2 = [V q2.1, V q3.1] := by rw [a4, b4, c4, i4, iq]
    have ht : s.1 ≤ q.1 := by rw [a4, b4, c4, i4, iq]; show s.1 ≤ s.1 + 1 + 1 + 1 + 1; omega
    show QT c M h h2 (match q.2.2 with | [y, x] => Sum.inr (q.1, up2 (up2 s.2.1 17 0 x) 18 0 y, s.2.2.1, q.2.1) | _ => Sum.inl (0, 0))
    obtain ⟨z1, z2, z3, z4⟩ := g2
    rw [hl] at z4 ⊢
    generalize V q2.1 = vy at *
    generalize V q3.1 = vx at *
    have zz : Ag c h2 (wr (wr h c 9 vx) c 10 vy) := z4
    obtain ⟨w1, w2, w3⟩ := zz
    have Rs : ∀ a, (c + 1 ≤ a ∧ a ≤ c + 10) → rd h2 a = rd h a := fun a ha => by rw [w1 a (by omega) (by omega), rd_wr_ne (by omega), rd_wr_ne (by omega)]
    have R : ∀ j, rd h2 c j = if j = 10 then vy else if j = 9 then vx else rd h c j := fun j => by
      rw [w1 c (by omega) (by omega), rd_wr, rd_wr]
      simp
    obtain ⟨x1, x2, x3, x4, x5, x6, x7, x8, x9, xA⟩ := cx
    refine ⟨z1, z2, ⟨x1, ?_, ?_, fun p p0 p1 => ?_, fun w w0 wl => ?_, ?_, ?_, ?_, ?_, ?_⟩, CLz_eq (Rs _ (by omega)) (Rs _ (by omega)) (Rs _ (by omega)) cl, ?_, z3, ⟨?_, fun i i0 il => ?_⟩, ?_⟩
    · rw [R 4]; simp [up2]; exact x2
    · rw [R 8]; simp [up2]; exact x3
    · have p1' : p < s.2.1 0 0 := by simp [up2] at p1; exact p1
      rw [Rs (c + 1) (by omega), Rs (c + 2) (by omega), Rs (c + 3) (by omega), Rs (c + 4) (by omega)]
      have := x4 p p0 p1'
      simp [up2]
      exact this
    · have wl' : w < s.2.1 1 0 := by simp [up2] at wl; exact wl
      rw [Rs (c + 5) (by omega), Rs (c + 6) (by omega), Rs (c + 7) (by omega)]
      have := x5 w w0 wl'
      simp [up2]
      exact this
    · rw [R 9]; simp [up2, x6]
    · rw [R 10]; simp [up2, x7]
    · rw [R 11]; simp [up2, x8]
    · rw [R 12]; simp [up2, x9]
    · rw [R 13]; simp [up2, xA]
    · rw [Rs (c + 8) (by omega)]; omega
    · rw [w3, rd_wr_ne (by omega), rd_wr_ne (by omega)]; simp [up2]; exact gn.1
    · have il' : i < s.2.1 25 0 := by simp [up2] at il; exact il
      rw [w2, rd_wr_ne (by omega), rd_wr_ne (by omega)]
      have := gn.2 i i0 il'
      simp [up2]
      exact this
    · simp [up2]; omega
theorem t_two8 {F : Nat} {c : Int} (ic : isSc c) {h : Hp} {K V P M : Nat → Int} {s : Sg} (sh : Sh h) (tk : TkC h K V P) (h5 : rd h 3 5 = c) (g : TSc c h M s) (hk : K s.1 = 8) : T (Read_takeTell_B52 F 3 8 h) (fun _ h' => QT c M h h' (pTwo K V P s 8 20 21 0 99)) := by
  have hcc : c = 9 ∨ c = 23 := ic
  have st0 := TSc_beg sh g
  obtain ⟨ga, cx, cl, gu, gm, gn, g0, g1, g25⟩ := g
  have n8 : ∀ a : Int, c ≤ a → a ≤ c + 10 → a ≠ 8 ∧ a ≠ 3 := fun a h1 h2 => by omega
  have hW0 : Wc c h (fun _ => h) := fun _ => ⟨rfl, rfl⟩
  have hW1 : Wc c h (fun l => wr h c 11 (l.headD 0)) := fun l => by rw [rd_i (by decide), rd_i (by decide)]; exact ⟨rfl, rfl⟩
  unfold Read_takeTell_B52 pTwo
  rw [if_neg (by decide), if_pos rfl]
  refine T_iv sh (st_acc ic tk hW0 st0) (fun _ k1 e1 => ?_)
  have s1 := (STc_F e1).2.1
  have r1 : rd k1 3 5 = c := ((STc_F e1).2.2.2.1 5 (by decide)).trans h5
  rw [gR5 s1, r1]
  refine T_iv s1 (st_num ic tk hW0 e1) (fun v k3 e3 => ?_)
  have s3 := (STc_F e3.1).2.1
  have e4 := st_wr (a := c) (i := 11) ic (okC11 ic) (Or.inr ⟨rfl, by decide⟩) e3.2 e3.1
  rw [pC11 s3 ic]
  have s4 := (STc_F e4).2.1
  have r4 : rd (wr k3 c 11 v) 3 5 = c := ((STc_F e4).2.2.2.1 5 (by decide)).trans h5
  rw [gR5 s4, r4]
  refine T_iv s4 (st_num ic tk hW1 e4) (fun v2 k5 e5 => ?_)
  have s5 := (STc_F e5.1).2.1
  have e6 := st_wr (a := c) (i := 12) ic (okC12 ic) (Or.inr ⟨rfl, by decide⟩) e5.2 e5.1
  rw [pC12 s5 ic]
  refine T_mono (st_semi ic tk (STd_of e6)) (fun _ h2 g2 => ?_)
  cases hr : cAcc K P 59 (cNum K V P 0 99 (cNum K V P 0 99 (cAcc K P 8 (cBeg s)))) with
  | inl q => rw [hr] at g2; exact g2
  | inr q =>
    rw [hr] at g2
    obtain ⟨q1, a1, -, a3, a4⟩ := cAcc_inr hr
    obtain ⟨q2, b1, -, b3, b4⟩ := cNum_inr a1
    obtain ⟨q3, c1, -, c3, c4⟩ := cNum_inr b1
    obtain ⟨q7, i1, -, i3, i4⟩ := cAcc_inr c1
    have iq : q7 = (s.1, s.2.2.2, []) := by cases i1; rfl
    have hl : q.2.2 = [V q2.1, V q3.1] := by rw [a4, b4, c4, i4, iq]
    have ht : s.1 ≤ q.1 := by rw [a4, b4, c4, i4, iq]; show s.1 ≤ s.1 + 1 + 1 + 1 + 1; omega
    show QT c M h h2 (match q.2.2 with | [y, x] => Sum.inr (q.1, up2 (up2 s.2.1 20 0 x) 21 0 y, s.2.2.1, q.2.1) | _ => Sum.inl (0, 0))
    obtain ⟨z1, z2, z3, z4⟩ := g2
    rw [hl] at z4 ⊢
    generalize V q2.1 = vy at *
    generalize V q3.1 = vx at *
    have zz : Ag c h2 (wr (wr h c 11 vx) c 12 vy) := z4
    obtain ⟨w1, w2, w3⟩ := zz
    have Rs : ∀ a, (c + 1 ≤ a ∧ a ≤ c + 10) → rd h2 a = rd h a := fun a ha => by rw [w1 a (by omega) (by omega), rd_wr_ne (by omega), rd_wr_ne (by omega)]
    have R : ∀ j, rd h2 c j = if j = 12 then vy else if j = 11 then vx else rd h c j := fun j => by
      rw [w1 c (by omega) (by omega), rd_wr, rd_wr]
      simp
    obtain ⟨x1, x2, x3, x4, x5, x6, x7, x8, x9, xA⟩ := cx
    refine ⟨z1, z2, ⟨x1, ?_, ?_, fun p p0 p1 => ?_, fun w w0 wl => ?_, ?_, ?_, ?_, ?_, ?_⟩, CLz_eq (Rs _ (by omega)) (Rs _ (by omega)) (Rs _ (by omega)) cl, ?_, z3, ⟨?_, fun i i0 il => ?_⟩, ?_⟩
    · rw [R 4]; simp [up2]; exact x2
    · rw [R 8]; simp [up2]; exact x3
    · have p1' : p < s.2.1 0 0 := by simp [up2] at p1; exact p1
      rw [Rs (c + 1) (by omega), Rs (c + 2) (by omega), Rs (c + 3) (by omega), Rs (c + 4) (by omega)]
      have := x4 p p0 p1'
      simp [up2]
      exact this
    · have wl' : w < s.2.1 1 0 := by simp [up2] at wl; exact wl
      rw [Rs (c + 5) (by omega), Rs (c + 6) (by omega), Rs (c + 7) (by omega)]
      have := x5 w w0 wl'
      simp [up2]
      exact this
    · rw [R 9]; simp [up2, x6]
    · rw [R 10]; simp [up2, x7]
    · rw [R 11]; simp [up2, x8]
    · rw [R 12]; simp [up2, x9]
    · rw [R 13]; simp [up2, xA]
    · rw [Rs (c + 8) (by omega)]; omega
    · rw [w3, rd_wr_ne (by omega), rd_wr_ne (by omega)]; simp [up2]; exact gn.1
    · have il' : i < s.2.1 25 0 := by simp [up2] at il; exact il
      rw [w2, rd_wr_ne (by omega), rd_wr_ne (by omega)]
      have := gn.2 i i0 il'
      simp [up2]
      exact this
    · simp [up2]; omega
theorem t_one {F : Nat} {c : Int} (ic : isSc c) {h : Hp} {K V P M : Nat → Int} {s : Sg} (sh : Sh h) (tk : TkC h K V P) (h5 : rd h 3 5 = c) (g : TSc c h M s) (hk : K s.1 = 9) : T (Read_takeTell_B52 F 3 9 h) (fun _ h' => QT c M h h' (pOne K V P s 9 19 0 9999)) := by
  have hcc : c = 9 ∨ c = 23 := ic
  have st0 := TSc_beg sh g
  obtain ⟨ga, cx, cl, gu, gm, gn, g0, g1, g25⟩ := g
  have n8 : ∀ a : Int, c ≤ a → a ≤ c + 10 → a ≠ 8 ∧ a ≠ 3 := fun a h1 h2 => by omega
  have hW0 : Wc c h (fun _ => h) := fun _ => ⟨rfl, rfl⟩
  unfold Read_takeTell_B52 pOne
  rw [if_neg (by decide), if_neg (by decide), if_pos rfl]
  refine T_iv sh (st_acc ic tk hW0 st0) (fun _ k1 e1 => ?_)
  have s1 := (STc_F e1).2.1
  have r1 : rd k1 3 5 = c := ((STc_F e1).2.2.2.1 5 (by decide)).trans h5
  rw [gR5 s1, r1]
  refine T_iv s1 (st_num ic tk hW0 e1) (fun v k3 e3 => ?_)
  have s3 := (STc_F e3.1).2.1
  have e4 := st_wr (a := c) (i := 13) ic (okC13 ic) (Or.inr ⟨rfl, by decide⟩) e3.2 e3.1
  rw [pC13 s3 ic]
  refine T_mono (st_semi ic tk (STd_of e4)) (fun _ h2 g2 => ?_)
  cases hr : cAcc K P 59 (cNum K V P 0 9999 (cAcc K P 9 (cBeg s))) with
  | inl q => rw [hr] at g2; exact g2
  | inr q =>
    rw [hr] at g2
    obtain ⟨q1, a1, -, a3, a4⟩ := cAcc_inr hr
    obtain ⟨q2, b1, -, b3, b4⟩ := cNum_inr a1
    obtain ⟨q7, i1, -, i3, i4⟩ := cAcc_inr b1
    have iq : q7 = (s.1, s.2.2.2, []) := by cases i1; rfl
    have hl : q.2.2 = [V q2.1] := by rw [a4, b4, i4, iq]
    have ht : s.1 ≤ q.1 := by rw [a4, b4, i4, iq]; show s.1 ≤ s.1 + 1 + 1 + 1; omega
    show QT c M h h2 (match q.2.2 with | [x] => Sum.inr (q.1, up2 s.2.1 19 0 x, s.2.2.1, q.2.1) | _ => Sum.inl (0, 0))
    obtain ⟨z1, z2, z3, z4⟩ := g2
    rw [hl] at z4 ⊢
    generalize V q2.1 = vx at *
    have zz : Ag c h2 (wr h c 13 vx) := z4
    obtain ⟨w1, w2, w3⟩ := zz
    have Rs : ∀ a, (c + 1 ≤ a ∧ a ≤ c + 10) → rd h2 a = rd h a := fun a ha => by rw [w1 a (by omega) (by omega), rd_wr_ne (by omega)]
    have R : ∀ j, rd h2 c j = if j = 13 then vx else rd h c j := fun j => by
      rw [w1 c (by omega) (by omega), rd_wr]
      simp
    obtain ⟨x1, x2, x3, x4, x5, x6, x7, x8, x9, xA⟩ := cx
    refine ⟨z1, z2, ⟨x1, ?_, ?_, fun p p0 p1 => ?_, fun w w0 wl => ?_, ?_, ?_, ?_, ?_, ?_⟩, CLz_eq (Rs _ (by omega)) (Rs _ (by omega)) (Rs _ (by omega)) cl, ?_, z3, ⟨?_, fun i i0 il => ?_⟩, ?_⟩
    · rw [R 4]; simp [up2]; exact x2
    · rw [R 8]; simp [up2]; exact x3
    · have p1' : p < s.2.1 0 0 := by simp [up2] at p1; exact p1
      rw [Rs (c + 1) (by omega), Rs (c + 2) (by omega), Rs (c + 3) (by omega), Rs (c + 4) (by omega)]
      have := x4 p p0 p1'
      simp [up2]
      exact this
    · have wl' : w < s.2.1 1 0 := by simp [up2] at wl; exact wl
      rw [Rs (c + 5) (by omega), Rs (c + 6) (by omega), Rs (c + 7) (by omega)]
      have := x5 w w0 wl'
      simp [up2]
      exact this
    · rw [R 9]; simp [up2, x6]
    · rw [R 10]; simp [up2, x7]
    · rw [R 11]; simp [up2, x8]
    · rw [R 12]; simp [up2, x9]
    · rw [R 13]; simp [up2, xA]
    · rw [Rs (c + 8) (by omega)]; omega
    · rw [w3, rd_wr_ne (by omega)]; simp [up2]; exact gn.1
    · have il' : i < s.2.1 25 0 := by simp [up2] at il; exact il
      rw [w2, rd_wr_ne (by omega)]
      have := gn.2 i i0 il'
      simp [up2]
      exact this
    · simp [up2]; omega
