/-! the class reads a text -/
theorem t_tell {F : Nat} {c : Int} (hF : 1000 ≤ F) (ic : isSc c) {h : Hp} {K V P M : Nat → Int} {s : Sg} (sh : Sh h) (tk : TkC h K V P) (tm : ∀ t : Nat, t ≤ 400 → rd h 6 t = M t) (h5 : rd h 3 5 = c) (g : TSc c h M s) : T (Read_takeTell F 3 h) (fun _ h' => QT c M h h' (pTell K V P M s)) := by
  have ga := g.1
  obtain ⟨k1, k2, k3, k4⟩ := tk s.1 ga.2.2
  unfold Read_takeTell pTell
  rw [gR1 sh, gR7 sh, ga.2.1, aR1 sh (by omega) (by omega), k1]
  by_cases c0 : K s.1 = 0
  · rw [if_pos c0, if_pos c0]; exact t_part hF ic sh tk tm h5 g
  · rw [if_neg c0, if_neg c0]
    by_cases c1 : K s.1 = 1
    · rw [if_pos c1, if_pos c1]; exact t_work hF ic sh tk tm h5 g
    · rw [if_neg c1, if_neg c1]
      by_cases cl : 2 ≤ K s.1 ∧ K s.1 ≤ 6
      · rw [if_neg (by omega), if_neg (by omega), if_pos cl]; exact t_law hF ic sh tk h5 g cl
      · rw [if_neg cl]
        have B : T (Read_takeTell_B52 F 3 (K s.1) h) (fun _ h' => QT c M h h' (if K s.1 = 7 then pTwo K V P s 7 17 18 1 600 else if K s.1 = 8 then pTwo K V P s 8 20 21 0 99 else if K s.1 = 9 then pOne K V P s 9 19 0 9999 else Sum.inl (1, P s.1))) := by
          by_cases c7 : K s.1 = 7
          · rw [if_pos c7, c7]; exact t_two7 ic sh tk h5 g c7
          · rw [if_neg c7]
            by_cases c8 : K s.1 = 8
            · rw [if_pos c8, c8]; exact t_two8 ic sh tk h5 g c8
            · rw [if_neg c8]
              by_cases c9 : K s.1 = 9
              · rw [if_pos c9, c9]; exact t_one ic sh tk h5 g c9
              · rw [if_neg c9]
                unfold Read_takeTell_B52
                rw [if_neg c7, if_neg c8, if_neg c9, ivR sh, c_failR sh tk ga.2.2 ga.2.1 ga.1, cl_some]
                exact st_semi (r := Sum.inl (1, P s.1)) (W := fun _ => h) ic tk (st_fl ic (Fz_refl sh (by rw [ga.2.1]; omega)) ⟨rfl, rfl⟩ (by decide)).1
        by_cases c2 : K s.1 < 2
        · rw [if_pos c2]; exact B
        · rw [if_neg c2, if_pos (by omega)]; exact B
/-- how a text ended -/
def QX (c : Int) (M : Nat → Int) (hb : Hp) (r : (Int × Int) ⊕ Sg) (v : Int) (h : Hp) : Prop := match r with
  | Sum.inl q => v = q.1 ∧ v ≠ 0 ∧ Fz c hb h ∧ rd h 3 9 = q.2
  | Sum.inr s => v = s.2.2.2.1 ∧ Fz c hb h ∧ (v = 0 → TSc c h M s) ∧ (v ≠ 0 → rd h 3 9 = s.2.2.2.2)
theorem t_txt {F : Nat} {c : Int} (hF : 1000 ≤ F) (ic : isSc c) {hb : Hp} {K V P M : Nat → Int} (tk : TkC hb K V P) (tm : ∀ t : Nat, t ≤ 400 → rd hb 6 t = M t) (h5 : rd hb 3 5 = c) : ∀ (n N : Nat) (h : Hp) (s : Sg), n ≤ 401 → n < N → Fz c hb h → TSc c h M s → T (Read_readText_L35 F N 3 (401 - (n : Int)) h) (fun v h' => QX c M hb (pTxt K V P M n s) v h') := by
  have hcc : c = 9 ∨ c = 23 := ic
  have alive : ∀ (h : Hp) (s : Sg), Fz c hb h → TSc c h M s → T (Read_readText_B73 F 3 h) (fun v h' => QX c M hb (Sum.inr s) v h') := by
    intro h s f g
    have sh := f.2.1
    obtain ⟨m1, m2⟩ := g.2.2.2.2.1
    unfold Read_readText_B73
    rw [gR8 sh, g.1.1, if_pos rfl, gR10 sh, m1]
    by_cases e : s.2.2.2.1 = 0
    · rw [if_pos e, gR8 sh, g.1.1]
      exact T_some ⟨e.symm, f, fun _ => g, fun z => absurd rfl z⟩
    · have s1 : Sh (wr h 3 8 s.2.2.2.1) := shOk sh (ok3 (by decide))
      have s2 : Sh (wr (wr h 3 8 s.2.2.2.1) 3 9 s.2.2.2.2) := shOk s1 (ok3 (by decide))
      rw [if_neg e, gR10 sh, m1, pR8 sh, gR11 s1, rd_i (by decide), m2 e, pR9 s1, gR8 s2, rd_i (by decide), rd_same]
      exact T_some ⟨rfl, Fz_3 (Fz_3 f (by decide) (fun q => absurd q (by decide))) (by decide) (fun q => absurd q (by decide)), fun z => absurd z e, fun _ => rd_same _ _ _ _⟩
  have dead : ∀ (N : Nat) (l3 : Int) (h : Hp) (e p : Int), 0 < N → DZ c hb h e p → T (Read_readText_L35 F N 3 l3 h) (fun v h' => QX c M hb (Sum.inl (e, p)) v h') := by
    intro N l3 h e p hN g
    obtain ⟨n, rfl⟩ : ∃ n, N = n + 1 := ⟨N - 1, by omega⟩
    have B : T (Read_readText_B73 F 3 h) (fun v h' => QX c M hb (Sum.inl (e, p)) v h') := by
      unfold Read_readText_B73
      rw [gR8 g.1.2.1, g.2.2.1, if_neg g.2.1, gR8 g.1.2.1, g.2.2.1]
      exact T_some ⟨rfl, g.2.1, g.1, g.2.2.2⟩
    show T (Read_readText_L35s F (Read_readText_L35 F n) 3 l3 h) _
    unfold Read_readText_L35s
    by_cases c4 : 400 < l3
    · rw [if_pos c4]; exact B
    · rw [if_neg c4, gR8 g.1.2.1, g.2.2.1, if_neg g.2.1]; exact B
  intro n
  induction n with
  | zero =>
    intro N h s _ hN f g
    obtain ⟨N, rfl⟩ : ∃ n, N = n + 1 := ⟨N - 1, by omega⟩
    show T (Read_readText_L35s F (Read_readText_L35 F N) 3 (401 - ((0 : Nat) : Int)) h) (fun v h' => QX c M hb (Sum.inr s) v h')
    unfold Read_readText_L35s
    rw [if_pos (by decide)]
    exact alive h s f g
  | succ n ih =>
    intro N h s hn hN f g
    obtain ⟨N, rfl⟩ : ∃ n, N = n + 1 := ⟨N - 1, by omega⟩
    have sh := f.2.1
    have ga := g.1
    have tk1 := TkC_Fz ic f tk
    obtain ⟨k1, k2, k3, k4⟩ := tk1 s.1 ga.2.2
    show T (Read_readText_L35s F (Read_readText_L35 F N) 3 (401 - ((n + 1 : Nat) : Int)) h) (fun v h' => QX c M hb (if K s.1 = 20 then Sum.inr s else rbd (pTell K V P M s) (pTxt K V P M n)) v h')
    unfold Read_readText_L35s
    rw [if_neg (by omega), gR8 sh, ga.1, if_pos rfl, gR1 sh, gR7 sh, ga.2.1, aR1 sh (by omega) (by omega), k1]
    by_cases c20 : K s.1 = 20
    · rw [if_pos c20, if_pos c20]; exact alive h s f g
    · rw [if_neg c20, if_neg c20]
      refine T_iv sh (t_tell hF ic sh tk1 (fun t ht => by rw [f.2.2.1 6 (by decide) (by decide) (by omega)]; exact tm t ht) ((f.2.2.2.1 5 (by decide)).trans h5) g) (fun _ h1 g1 => ?_)
      cases hp : pTell K V P M s with
      | inl q =>
        rw [hp] at g1
        exact dead N _ h1 q.1 q.2 (by omega) (DZ_trans f g1)
      | inr s' =>
        rw [hp] at g1
        rw [w32_id (by omega) (by omega), show 401 - ((n + 1 : Nat) : Int) + 1 = 401 - (n : Int) by omega]
        exact ih N h1 s' (by omega) (by omega) (Fz_trans f g1.1) g1.2
/-- a law that tells one thing begins and ends -/
theorem c_bt {F : Nat} {h : Hp} {c k u st ar : Int} (s : Sh h) (ic : isSc c) (hk : 0 ≤ k ∧ k < 5) (hu : rd h (c + 8) 4 = u) (hu2 : 0 ≤ u ∧ u ≤ 440) (hs : 0 ≤ st ∧ st < 256) (ha : 0 ≤ ar ∧ ar < 1000) : ∃ h', (∀ f : Int → Hp → Option (Int × Hp), (iv h (c + 8) 100 (Laws_begin F (c + 8) k h) fun _ h3 => iv h3 (c + 8) 100 (Laws_tellOne F (c + 8) st ar h3) f) = f 0 h') ∧ Sh h' ∧ (hsz h' = hsz h ∧ hus h' = hus h ∧ hkd h' = hkd h ∧ hln h' = hln h) ∧ (∀ a, a ≠ c + 8 → a ≠ c + 9 → a ≠ c + 10 → rd h' a = rd h a) ∧ rd h' (c + 8) 4 = u + 2 ∧ (∀ j, rd h' (c + 9) j = if j = u + 1 then 4 else if j = u then ar * 256 + st else rd h (c + 9) j) ∧ ∀ j, rd h' (c + 10) j = if j = k then u else rd h (c + 10) j := by
  have hcc : c = 9 ∨ c = 23 := ic
  have s1 : Sh (wr h (c + 10) k u) := shOk s (okT ic)
  have u1 : rd (wr h (c + 10) k u) (c + 8) 4 = u := by rw [rd_wr_ne (by omega)]; exact hu
  have ok9 : ∀ i, okW (c + 9) i = true := fun i => okC ic (Or.inr (by decide))
  have s2 : Sh (wr (wr (wr h (c + 10) k u) (c + 9) u (ar * 256 + st)) (c + 8) 4 (u + 1)) := shOk (shOk s1 (ok9 _)) (okL4 ic)
  have s3 : Sh (wr (wr (wr (wr (wr h (c + 10) k u) (c + 9) u (ar * 256 + st)) (c + 8) 4 (u + 1)) (c + 9) (u + 1) (0 * 256 + 4)) (c + 8) 4 (u + 1 + 1)) := shOk (shOk s2 (ok9 _)) (okL4 ic)
  refine ⟨wr (wr (wr (wr (wr h (c + 10) k u) (c + 9) u (ar * 256 + st)) (c + 8) 4 (u + 1)) (c + 9) (u + 1) (0 * 256 + 4)) (c + 8) 4 (u + 1 + 1), fun f => ?_, s3, ⟨rfl, rfl, rfl, rfl⟩, fun a q1 q2 q3 => ?_, ?_, fun j => ?_, fun j => ?_⟩
  · rw [ivL s ic, c_lbegin s ic hk, cl_some, hu, ivL s1 ic]
    unfold Laws_tellOne
    have e1 := c_emit (F := F) (st := st) (ar := ar) s1 ic (by omega) (by omega) hs
    rw [u1, if_pos (by omega)] at e1
    have u2 : rd (wr (wr (wr h (c + 10) k u) (c + 9) u (ar * 256 + st)) (c + 8) 4 (u + 1)) (c + 8) 4 = u + 1 := rd_same _ _ _ _
    have e2 := c_emit (F := F) (st := 4) (ar := 0) s2 ic (by omega) (by decide) (by decide)
    rw [u2, if_pos (by omega)] at e2
    rw [ivL s1 ic, e1, cl_some, ivL s2 ic, e2, cl_some, cl_some]
  · rw [rd_wr_ne q1, rd_wr_ne q2, rd_wr_ne q1, rd_wr_ne q2, rd_wr_ne q3]
  · rw [rd_same]; omega
  · rw [rd_wr_ne (by omega)]
    by_cases e : j = u + 1
    · subst e; rw [rd_same, if_pos rfl]; decide
    · rw [rd_i e, if_neg e, rd_wr_ne (by omega)]
      by_cases e2 : j = u
      · subst e2; rw [rd_same, if_pos rfl]
      · rw [rd_i e2, if_neg e2, rd_wr_ne (by omega)]
  · rw [rd_wr_ne (by omega), rd_wr_ne (by omega), rd_wr_ne (by omega), rd_wr_ne (by omega)]
    by_cases e : j = k
    · subst e; rw [rd_same, if_pos rfl]
    · rw [rd_i e, if_neg e]
theorem c_lclear {F : Nat} {h : Hp} {c : Int} (s : Sh h) (ic : isSc c) : ∃ h', Laws_clear F (c + 8) h = some (0, h') ∧ Sh h' ∧ (hsz h' = hsz h ∧ hus h' = hus h ∧ hkd h' = hkd h ∧ hln h' = hln h) ∧ (∀ a, a ≠ c + 8 → a ≠ c + 9 → a ≠ c + 10 → rd h' a = rd h a) ∧ rd h' (c + 8) 4 = 10 ∧ CLz h' c (fun _ => []) := by
  have hcc : c = 9 ∨ c = 23 := ic
  have s0 : Sh (wr h (c + 8) 4 0) := shOk s (okL4 ic)
  obtain ⟨h1, a1, b1, c1, d1, e1, f1, g1⟩ := c_bt (F := F) (k := 0) (u := 0) (st := 2) (ar := 1) s0 ic (by decide) (rd_same _ _ _ _) (by decide) (by decide) (by decide)
  obtain ⟨h2, a2, b2, c2, d2, e2, f2, g2⟩ := c_bt (F := F) (k := 1) (u := 2) (st := 1) (ar := 0) b1 ic (by decide) e1 (by decide) (by decide) (by decide)
  obtain ⟨h3, a3, b3, c3, d3, e3, f3, g3⟩ := c_bt (F := F) (k := 2) (u := 4) (st := 1) (ar := 100) b2 ic (by decide) e2 (by decide) (by decide) (by decide)
  obtain ⟨h4, a4, b4, c4, d4, e4, f4, g4⟩ := c_bt (F := F) (k := 3) (u := 6) (st := 2) (ar := 3) b3 ic (by decide) e3 (by decide) (by decide) (by decide)
  obtain ⟨h5, a5, b5, c5, d5, e5, f5, g5⟩ := c_bt (F := F) (k := 4) (u := 8) (st := 1) (ar := 0) b4 ic (by decide) e4 (by decide) (by decide) (by decide)
  have SS : ∀ j, rd h5 (c + 9) j = if j = 9 then 4 else if j = 8 then 1 else if j = 7 then 4 else if j = 6 then 770 else if j = 5 then 4 else if j = 4 then 25601 else if j = 3 then 4 else if j = 2 then 1 else if j = 1 then 4 else if j = 0 then 258 else rd h (c + 9) j := fun j => by
    rw [f5, f4, f3, f2, f1, rd_wr_ne (by omega)]
    rfl
  have TT : ∀ j, rd h5 (c + 10) j = if j = 4 then 8 else if j = 3 then 6 else if j = 2 then 4 else if j = 1 then 2 else if j = 0 then 0 else rd h (c + 10) j := fun j => by
    rw [g5, g4, g3, g2, g1, rd_wr_ne (by omega)]
  refine ⟨h5, ?_, b5, ⟨?_, ?_, ?_, ?_⟩, fun a q1 q2 q3 => ?_, by rw [e5]; decide, ⟨by rw [e5]; decide, by rw [e5]; decide⟩, fun k hk => ⟨?_, ?_, fun q hq => absurd hq (by simp)⟩⟩
  · unfold Laws_clear
    rw [pL4 s ic, a1, a2, a3, a4, a5]
  · rw [c5.1, c4.1, c3.1, c2.1, c1.1]; rfl
  · rw [c5.2.1, c4.2.1, c3.2.1, c2.2.1, c1.2.1]; rfl
  · rw [c5.2.2.1, c4.2.2.1, c3.2.2.1, c2.2.2.1, c1.2.2.1]; rfl
  · rw [c5.2.2.2, c4.2.2.2, c3.2.2.2, c2.2.2.2, c1.2.2.2]; rfl
  · rw [d5 a q1 q2 q3, d4 a q1 q2 q3, d3 a q1 q2 q3, d2 a q1 q2 q3, d1 a q1 q2 q3, rd_wr_ne q1]
  · rw [TT]
    (repeat' split) <;> omega
  · rw [e5]
    have hk5 : k = 0 ∨ k = 1 ∨ k = 2 ∨ k = 3 ∨ k = 4 := by omega
    show CLw (rd h5 (c + 9)) (8 + 2) (rd h5 (c + 10) k) (dfl k)
    rcases hk5 with e | e | e | e | e <;> subst e
    · rw [show rd h5 (c + 10) ((0 : Nat) : Int) = 0 by rw [TT]; rfl]
      exact ⟨⟨by rw [SS]; rfl, fun z => absurd z (by decide), trivial⟩, by show rd h5 (c + 9) (0 + 1) = 4; rw [SS]; rfl, by show (0 : Int) + ((1 : Nat) : Int) < 8 + 2; decide, rfl⟩
    · rw [show rd h5 (c + 10) ((1 : Nat) : Int) = 2 by rw [TT]; rfl]
      exact ⟨⟨by rw [SS]; rfl, fun _ => by decide, trivial⟩, by show rd h5 (c + 9) (2 + 1) = 4; rw [SS]; rfl, by show (2 : Int) + ((1 : Nat) : Int) < 8 + 2; decide, rfl⟩
    · rw [show rd h5 (c + 10) ((2 : Nat) : Int) = 4 by rw [TT]; rfl]
      exact ⟨⟨by rw [SS]; rfl, fun _ => by decide, trivial⟩, by show rd h5 (c + 9) (4 + 1) = 4; rw [SS]; rfl, by show (4 : Int) + ((1 : Nat) : Int) < 8 + 2; decide, rfl⟩
    · rw [show rd h5 (c + 10) ((3 : Nat) : Int) = 6 by rw [TT]; rfl]
      exact ⟨⟨by rw [SS]; rfl, fun z => absurd z (by decide), trivial⟩, by show rd h5 (c + 9) (6 + 1) = 4; rw [SS]; rfl, by show (6 : Int) + ((1 : Nat) : Int) < 8 + 2; decide, rfl⟩
    · rw [show rd h5 (c + 10) ((4 : Nat) : Int) = 8 by rw [TT]; rfl]
      exact ⟨⟨by rw [SS]; rfl, fun _ => by decide, trivial⟩, by show rd h5 (c + 9) (8 + 1) = 4; rw [SS]; rfl, by show (8 : Int) + ((1 : Nat) : Int) < 8 + 2; decide, rfl⟩
theorem c_sclear {F : Nat} {h : Hp} {c : Int} (s : Sh h) (ic : isSc c) : ∃ h', Scri_clear F c h = some (0, h') ∧ Sh h' ∧ (hsz h' = hsz h ∧ hus h' = hus h ∧ hkd h' = hkd h ∧ hln h' = hln h) ∧ (∀ a, a ≠ c → a ≠ c + 8 → a ≠ c + 9 → a ≠ c + 10 → rd h' a = rd h a) ∧ rd h' (c + 8) 4 = 10 ∧ CLz h' c (fun _ => []) ∧ CxE h' c sg0.2.1 := by
  have hcc : c = 9 ∨ c = 23 := ic
  have s1 : Sh (wr h c 4 0) := shOk s (okC4 ic)
  have s2 : Sh (wr (wr h c 4 0) c 8 0) := shOk s1 (okC8 ic)
  have s3 : Sh (wr (wr (wr h c 4 0) c 8 0) c 9 1) := shOk s2 (okC9 ic)
  have s4 : Sh (wr (wr (wr (wr h c 4 0) c 8 0) c 9 1) c 10 600) := shOk s3 (okC10 ic)
  have s5 : Sh (wr (wr (wr (wr (wr h c 4 0) c 8 0) c 9 1) c 10 600) c 11 0) := shOk s4 (okC11 ic)
  have s6 : Sh (wr (wr (wr (wr (wr (wr h c 4 0) c 8 0) c 9 1) c 10 600) c 11 0) c 12 0) := shOk s5 (okC12 ic)
  have s7 : Sh (wr (wr (wr (wr (wr (wr (wr h c 4 0) c 8 0) c 9 1) c 10 600) c 11 0) c 12 0) c 13 0) := shOk s6 (okC13 ic)
  obtain ⟨h', a1, a2, a3, a4, a5, a6⟩ := c_lclear (F := F) s7 ic
  have R : ∀ j, rd h' c j = if j = 13 then 0 else if j = 12 then 0 else if j = 11 then 0 else if j = 10 then 600 else if j = 9 then 1 else if j = 8 then 0 else if j = 4 then 0 else rd h c j := fun j => by
    rw [a4 c (by omega) (by omega) (by omega), rd_wr, rd_wr, rd_wr, rd_wr, rd_wr, rd_wr, rd_wr]
    simp
  refine ⟨h', ?_, a2, a3, fun a q1 q2 q3 q4 => ?_, a5, a6, ic, ?_, ?_, fun p p0 p1 => absurd p1 (by show ¬ p < 0; omega), fun w w0 w1 => absurd w1 (by show ¬ w < 0; omega), ?_, ?_, ?_, ?_, ?_⟩
  · unfold Scri_clear
    rw [pC4 s ic, pC8 s1 ic, pC9 s2 ic, pC10 s3 ic, pC11 s4 ic, pC12 s5 ic, pC13 s6 ic, gC14 s7 ic, ivL s7 ic, a1, cl_some]
  · rw [a4 a q2 q3 q4, rd_wr_ne q1, rd_wr_ne q1, rd_wr_ne q1, rd_wr_ne q1, rd_wr_ne q1, rd_wr_ne q1, rd_wr_ne q1]
  all_goals (rw [R]; rfl)
