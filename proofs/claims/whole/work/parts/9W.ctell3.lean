/-! the class reads tells, each whole -/
theorem STc_cnt {c : Int} (ic : isSc c) {hb h : Hp} {r : Ch} {W : List Int → Hp} (hW : Wc c hb W) (g : STc c hb h r W) : rd h c 4 = rd hb c 4 ∧ rd h c 8 = rd hb c 8 := by
  cases r with
  | inl q => exact g.2
  | inr q => rw [g.2.2.2.1 c (by omega) (by omega)]; exact hW _
theorem std_wr {c : Int} (ic : isSc c) {hb h : Hp} {r : Ch} {W : List Int → Hp} {i v : Int} (ok : okW c i = true) (g : STc c hb h r W) : STd c hb (wr h c i v) r (fun l => wr (W l) c i v) := by
  have hcc : c = 9 ∨ c = 23 := ic
  cases r with
  | inl q =>
    obtain ⟨⟨f, he, e8, e9⟩, -⟩ := g
    exact ⟨Fz_wr f ok (Or.inr (by omega)) ic, he, by rw [rd_wr_ne (by omega)]; exact e8, by rw [rd_wr_ne (by omega)]; exact e9⟩
  | inr q =>
    obtain ⟨f, ga, gm, gg⟩ := g
    refine ⟨Fz_wr f ok (Or.inr (by omega)) ic, by rw [rd_wr_ne (by omega)]; exact ga, ⟨by rw [rd_wr_ne (by omega)]; exact gm.1, fun z => by rw [rd_wr_ne (by omega)]; exact gm.2 z⟩, fun b h1 h2 => ?_, ?_, ?_⟩
    · funext j
      rw [rd_wr, rd_wr, gg.1 b h1 h2]
    · rw [rd_wr_ne (by omega), rd_wr_ne (by omega)]; exact gg.2.1
    · rw [rd_wr_ne (by omega), rd_wr_ne (by omega)]; exact gg.2.2
theorem TSc_beg {c : Int} {h : Hp} {M : Nat → Int} {s : Sg} (sh : Sh h) (g : TSc c h M s) : STc c h h (cBeg s) (fun _ => h) := ⟨Fz_refl sh (by rw [g.1.2.1]; have := g.1.2.2; omega), g.1, g.2.2.2.2.1, fun _ _ _ => rfl, rfl, rfl⟩
/-- what a part's row leaves -/
def W1p (h : Hp) (M : Nat → Int) (n : Int) (l : List Int) : Hp := wr (wr h 8 n (M (l.headD 0).toNat)) 3 6 (n + 1)
theorem t_part {F : Nat} {c : Int} (hF : 1000 ≤ F) (ic : isSc c) {h : Hp} {K V P M : Nat → Int} {s : Sg} (sh : Sh h) (tk : TkC h K V P) (tm : ∀ t : Nat, t ≤ 400 → rd h 6 t = M t) (h5 : rd h 3 5 = c) (g : TSc c h M s) : T (iv h 3 103 (Read_takePart F 3 h) fun _ h5 => Read_takeTell_B175 F 3 h5) (fun _ h' => QT c M h h' (pPart K V P M s)) := by
  have hcc : c = 9 ∨ c = 23 := ic
  have st0 := TSc_beg sh g
  obtain ⟨ga, cx, cl, gu, gm, gn, g0, g1, g25⟩ := g
  have h4 : rd h c 4 = s.2.1 0 0 := cx.2.1
  unfold pPart
  by_cases c8 : 8 ≤ s.2.1 0 0
  · rw [if_pos c8]
    refine T_iv sh (P := fun _ h1 => DZ c h h1 2 (P s.1)) ?_ (fun _ h1 g1 => st_semi (r := Sum.inl (2, P s.1)) (W := fun _ => h) ic tk g1)
    unfold Read_takePart
    rw [gR5 sh, h5, gC4 sh ic, h4, if_neg (by omega), ivR sh, c_failR sh tk ga.2.2 ga.2.1 ga.1, cl_some]
    exact T_some (st_fl ic (Fz_refl sh (by rw [ga.2.1]; omega)) ⟨rfl, rfl⟩ (by decide)).1
  · rw [if_neg c8]
    have n8 : ∀ a : Int, c ≤ a → a ≤ c + 10 → a ≠ 8 ∧ a ≠ 3 := fun a h1 h2 => by omega
    have hW0 : Wc c h (fun _ => h) := fun _ => ⟨rfl, rfl⟩
    have hW1 : Wc c h (W1p h M (s.2.1 25 0)) := fun l => by unfold W1p; rw [rd_wr_ne (by omega), rd_wr_ne (by omega)]; exact ⟨rfl, rfl⟩
    have hW2 : Wc c h (fun l => wr (W1p h M (s.2.1 25 0) l.tail) (c + 1) (s.2.1 0 0) (l.headD 0)) := fun l => by rw [rd_wr_ne (show c ≠ c + 1 by omega)]; exact hW1 _
    have hW3 : Wc c h (fun l => wr (wr (W1p h M (s.2.1 25 0) l.tail.tail) (c + 1) (s.2.1 0 0) (l.tail.headD 0)) (c + 2) (s.2.1 0 0) (l.headD 0)) := fun l => by rw [rd_wr_ne (show c ≠ c + 2 by omega)]; exact hW2 l.tail
    have hW4 : Wc c h (fun l => wr (wr (wr (W1p h M (s.2.1 25 0) l.tail.tail.tail) (c + 1) (s.2.1 0 0) (l.tail.tail.headD 0)) (c + 2) (s.2.1 0 0) (l.tail.headD 0)) (c + 3) (s.2.1 0 0) (l.headD 0)) := fun l => by rw [rd_wr_ne (show c ≠ c + 3 by omega)]; exact hW3 l.tail
    have hW5 : Wc c h (fun l => wr (wr (wr (wr (W1p h M (s.2.1 25 0) l.tail.tail.tail.tail) (c + 1) (s.2.1 0 0) (l.tail.tail.tail.headD 0)) (c + 2) (s.2.1 0 0) (l.tail.tail.headD 0)) (c + 3) (s.2.1 0 0) (l.tail.headD 0)) (c + 4) (s.2.1 0 0) (l.headD 0)) := fun l => by rw [rd_wr_ne (show c ≠ c + 4 by omega)]; exact hW4 l.tail
    have body : T (Read_takePart F 3 h) (fun _ h' => STd c h h' (cNum K V P 1 60 (cNum K V P 0 99 (cNum K V P 0 99 (cNum K V P 0 99 (cName K P M s.2.1 (cAcc K P 0 (cBeg s))))))) (fun l => wr (wr (wr (wr (wr (W1p h M (s.2.1 25 0) l.tail.tail.tail.tail) (c + 1) (s.2.1 0 0) (l.tail.tail.tail.headD 0)) (c + 2) (s.2.1 0 0) (l.tail.tail.headD 0)) (c + 3) (s.2.1 0 0) (l.tail.headD 0)) (c + 4) (s.2.1 0 0) (l.headD 0)) c 4 (s.2.1 0 0 + 1))) := by
      unfold Read_takePart
      rw [gR5 sh, h5, gC4 sh ic, h4, if_pos (by omega)]
      refine T_iv sh (st_acc ic tk hW0 st0) (fun _ k1 e1 => ?_)
      refine T_iv (STc_F e1).2.1 (st_name hF ic tk tm (by omega) hW0 (fun _ => gn) e1) (fun _ k2 e2 => ?_)
      have s2 := (STc_F e2).2.1
      have r2 : rd k2 3 5 = c := ((STc_F e2).2.2.2.1 5 (by decide)).trans h5
      rw [gR5 s2, r2, gC0 s2 ic]
      refine T_iv s2 (st_num ic tk hW1 e2) (fun v k3 e3 => ?_)
      have s3 := (STc_F e3.1).2.1
      have e4 := st_wr (a := c + 1) (i := s.2.1 0 0) ic (okC ic (Or.inl (by decide))) (Or.inl (by omega)) e3.2 e3.1
      rw [sC0 s3 ic g0.1 (by omega)]
      have s4 := (STc_F e4).2.1
      have r4 : rd (wr k3 (c + 1) (s.2.1 0 0) v) 3 5 = c := ((STc_F e4).2.2.2.1 5 (by decide)).trans h5
      rw [gR5 s4, r4, gC1 s4 ic]
      refine T_iv s4 (st_num ic tk hW2 e4) (fun v2 k5 e5 => ?_)
      have s5 := (STc_F e5.1).2.1
      have e6 := st_wr (a := c + 2) (i := s.2.1 0 0) ic (okC ic (Or.inl (by decide))) (Or.inl (by omega)) e5.2 e5.1
      rw [sC1 s5 ic g0.1 (by omega)]
      have s6 := (STc_F e6).2.1
      have r6 : rd (wr k5 (c + 2) (s.2.1 0 0) v2) 3 5 = c := ((STc_F e6).2.2.2.1 5 (by decide)).trans h5
      rw [gR5 s6, r6, gC2 s6 ic]
      refine T_iv s6 (st_num ic tk hW3 e6) (fun v3 k7 e7 => ?_)
      have s7 := (STc_F e7.1).2.1
      have e8 := st_wr (a := c + 3) (i := s.2.1 0 0) ic (okC ic (Or.inl (by decide))) (Or.inl (by omega)) e7.2 e7.1
      rw [sC2 s7 ic g0.1 (by omega)]
      have s8 := (STc_F e8).2.1
      have r8 : rd (wr k7 (c + 3) (s.2.1 0 0) v3) 3 5 = c := ((STc_F e8).2.2.2.1 5 (by decide)).trans h5
      rw [gR5 s8, r8, gC3 s8 ic]
      refine T_iv s8 (st_num ic tk hW4 e8) (fun v4 k9 e9 => ?_)
      have s9 := (STc_F e9.1).2.1
      have eA := st_wr (a := c + 4) (i := s.2.1 0 0) ic (okC ic (Or.inl (by decide))) (Or.inl (by omega)) e9.2 e9.1
      rw [sC3 s9 ic g0.1 (by omega)]
      have sA := (STc_F eA).2.1
      have rA : rd (wr k9 (c + 4) (s.2.1 0 0) v4) 3 5 = c := ((STc_F eA).2.2.2.1 5 (by decide)).trans h5
      have cA := (STc_cnt ic hW5 eA).1
      rw [gR5 sA, rA, gC4 sA ic, cA, h4, w32_id (by omega) (by omega), pC4 sA ic]
      exact T_some (std_wr ic (okC4 ic) eA)
    refine T_iv sh body (fun _ h1 g1 => T_mono (st_semi ic tk g1) (fun _ h2 g2 => ?_))
    cases hr : cAcc K P 59 (cNum K V P 1 60 (cNum K V P 0 99 (cNum K V P 0 99 (cNum K V P 0 99 (cName K P M s.2.1 (cAcc K P 0 (cBeg s))))))) with
    | inl q => rw [hr] at g2; exact g2
    | inr q =>
      rw [hr] at g2
      obtain ⟨q1, a1, -, a3, a4⟩ := cAcc_inr hr
      obtain ⟨q2, b1, -, b3, b4⟩ := cNum_inr a1
      obtain ⟨q3, c1, -, c3, c4⟩ := cNum_inr b1
      obtain ⟨q4, d1, -, d3, d4⟩ := cNum_inr c1
      obtain ⟨q5, e1, -, e3, e4⟩ := cNum_inr d1
      obtain ⟨q6, f1, -, f3, f4⟩ := cName_inr e1
      obtain ⟨q7, i1, -, i3, i4⟩ := cAcc_inr f1
      have iq : q7 = (s.1, s.2.2.2, []) := by cases i1; rfl
      have hl : q.2.2 = [V q2.1, V q3.1, V q4.1, V q5.1, (q6.1 : Int)] := by rw [a4, b4, c4, d4, e4, f4, i4, iq]
      have ht : s.1 ≤ q.1 := by rw [a4, b4, c4, d4, e4, f4, i4, iq]; show s.1 ≤ s.1 + 1 + 1 + 1 + 1 + 1 + 1 + 1; omega
      show QT c M h h2 (match q.2.2 with | [m, w, y, x, n] => Sum.inr (q.1, up2 (up2 (up2 (up2 (up2 (up2 (up2 s.2.1 22 (s.2.1 0 0) x) 23 (s.2.1 0 0) y) 2 (s.2.1 0 0) w) 16 (s.2.1 0 0) m) 0 0 (s.2.1 0 0 + 1)) 24 (s.2.1 25 0) n) 25 0 (s.2.1 25 0 + 1), s.2.2.1, q.2.1) | _ => Sum.inl (0, 0))
      obtain ⟨z1, z2, z3, z4⟩ := g2
      rw [hl] at z4 ⊢
      generalize V q2.1 = vm at *
      generalize V q3.1 = vw at *
      generalize V q4.1 = vy at *
      generalize V q5.1 = vx at *
      generalize q6.1 = tn at *
      have zz : Ag c h2 (wr (wr (wr (wr (wr (wr (wr h 8 (s.2.1 25 0) (M tn)) 3 6 (s.2.1 25 0 + 1)) (c + 1) (s.2.1 0 0) vx) (c + 2) (s.2.1 0 0) vy) (c + 3) (s.2.1 0 0) vw) (c + 4) (s.2.1 0 0) vm) c 4 (s.2.1 0 0 + 1)) := z4
      obtain ⟨w1, w2, w3⟩ := zz
      have R : ∀ a j, c ≤ a → a ≤ c + 10 → rd h2 a j = if a = c ∧ j = 4 then s.2.1 0 0 + 1 else if a = c + 4 ∧ j = s.2.1 0 0 then vm else if a = c + 3 ∧ j = s.2.1 0 0 then vw else if a = c + 2 ∧ j = s.2.1 0 0 then vy else if a = c + 1 ∧ j = s.2.1 0 0 then vx else rd h a j := fun a j h1 h2' => by
        rw [w1 a h1 h2', rd_wr, rd_wr, rd_wr, rd_wr, rd_wr, rd_wr_ne (n8 a h1 h2').2, rd_wr_ne (n8 a h1 h2').1]
      have Rs : ∀ a, (c + 5 ≤ a ∧ a ≤ c + 10) → rd h2 a = rd h a := fun a ha => by
        funext j
        rw [R a j (by omega) (by omega), if_neg (by omega), if_neg (by omega), if_neg (by omega), if_neg (by omega), if_neg (by omega)]
      have Rc : ∀ j, j ≠ 4 → rd h2 c j = rd h c j := fun j hj => by
        rw [R c j (by omega) (by omega), if_neg (by omega), if_neg (by omega), if_neg (by omega), if_neg (by omega), if_neg (by omega)]
      have R4 : rd h2 c 4 = s.2.1 0 0 + 1 := by rw [R c 4 (by omega) (by omega), if_pos ⟨rfl, rfl⟩]
      obtain ⟨x1, x2, x3, x4, x5, x6, x7, x8, x9, xA⟩ := cx
      refine ⟨z1, z2, ⟨x1, ?_, ?_, fun p p0 p1 => ?_, fun w w0 wl => ?_, ?_, ?_, ?_, ?_, ?_⟩, CLz_eq (Rs _ (by omega)) (Rs _ (by omega)) (Rs _ (by omega)) cl, ?_, z3, ⟨?_, fun i i0 il => ?_⟩, ?_⟩
      · rw [R4]; simp [up2]
      · rw [Rc 8 (by decide), x3]; simp [up2]
      · have p1' : p < s.2.1 0 0 + 1 := by simp [up2] at p1; omega
        rw [R (c + 1) p (by omega) (by omega), R (c + 2) p (by omega) (by omega), R (c + 3) p (by omega) (by omega), R (c + 4) p (by omega) (by omega)]
        by_cases e : p = s.2.1 0 0
        · subst e
          rw [if_neg (by omega), if_neg (by omega), if_neg (by omega), if_neg (by omega), if_pos ⟨rfl, rfl⟩, if_neg (by omega), if_neg (by omega), if_neg (by omega), if_pos ⟨rfl, rfl⟩, if_neg (by omega), if_neg (by omega), if_pos ⟨rfl, rfl⟩, if_neg (by omega), if_pos ⟨rfl, rfl⟩]
          simp [up2]
        · obtain ⟨y1, y2, y3, y4⟩ := x4 p p0 (by omega)
          rw [if_neg (by omega), if_neg (by omega), if_neg (by omega), if_neg (by omega), if_neg (by omega), if_neg (by omega), if_neg (by omega), if_neg (by omega), if_neg (by omega), if_neg (by omega), if_neg (by omega), if_neg (by omega), if_neg (by omega), if_neg (by omega), if_neg (by omega), if_neg (by omega), if_neg (by omega), if_neg (by omega), if_neg (by omega), if_neg (by omega)]
          rw [y1, y2, y3, y4]
          simp [up2, e]
      · have wl' : w < s.2.1 1 0 := by simp [up2] at wl; exact wl
        rw [Rs (c + 5) (by omega), Rs (c + 6) (by omega), Rs (c + 7) (by omega)]
        have := x5 w w0 wl'
        simp [up2]
        exact this
      · rw [Rc 9 (by decide), x6]; simp [up2]
      · rw [Rc 10 (by decide), x7]; simp [up2]
      · rw [Rc 11 (by decide), x8]; simp [up2]
      · rw [Rc 12 (by decide), x9]; simp [up2]
      · rw [Rc 13 (by decide), xA]; simp [up2]
      · rw [Rs (c + 8) (by omega)]; omega
      · rw [w3, rd_wr_ne (by omega), rd_wr_ne (by omega), rd_wr_ne (by omega), rd_wr_ne (by omega), rd_wr_ne (by omega), rd_same]; simp [up2]
      · have il' : i < s.2.1 25 0 + 1 := by simp [up2] at il; exact il
        rw [w2, rd_wr_ne (by omega), rd_wr_ne (by omega), rd_wr_ne (by omega), rd_wr_ne (by omega), rd_wr_ne (by omega), rd_wr_ne (by decide)]
        by_cases e : i = s.2.1 25 0
        · subst e
          rw [rd_same]; simp [up2]
        · rw [rd_i e, gn.2 i i0 (by omega)]; simp [up2, e]
      · simp [up2]; omega
