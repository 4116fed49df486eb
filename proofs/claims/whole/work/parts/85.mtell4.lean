/-! the reference reads tells -/
theorem Rx_212 {h : Hp} {s : Int} {K : Nat → Int} {X : Nat → Int → Int} {v : Int} (g : Rx h s K X) : Rx (wr h 212 s v) s K (up2 X 17 0 v) := by
  have o : ∀ k i, k ≠ 17 → up2 X 17 0 v k i = X k i := fun k i hk => up2_k hk
  have R : ∀ a j, a ≠ 212 → rd (wr h 212 s v) a j = rd h a j := fun a j ha => by rw [rd_wr_ne ha]
  obtain ⟨⟨n1, n2, n3⟩, ⟨p1, p2, p3, p4⟩, ⟨k1, k2, k3, k4⟩, q1, q2, q3, q4, q5⟩ := g
  unfold Rx
  rw [o 25 0 (by decide), o 0 0 (by decide), o 1 0 (by decide)]
  refine ⟨⟨by rw [R _ _ (by decide)]; exact n1, n2, fun i i0 i1 => ?_⟩, ⟨by rw [R _ _ (by decide)]; exact p1, p2, p3, fun p i0 i1 => ?_⟩, ⟨by rw [R _ _ (by decide)]; exact k1, k2, k3, fun p i0 i1 => ?_⟩, by rw [up2_s, rd_same], by rw [o 18 0 (by decide), R _ _ (by decide)]; exact q2, by rw [o 20 0 (by decide), R _ _ (by decide)]; exact q3, by rw [o 21 0 (by decide), R _ _ (by decide)]; exact q4, by rw [o 19 0 (by decide), R _ _ (by decide)]; exact q5⟩
  · rw [o 24 i (by decide), R _ _ (by decide), R _ _ (by decide)]; exact n3 i i0 i1
  · rw [o 22 p (by decide), o 23 p (by decide), o 2 p (by decide), o 16 p (by decide), R _ _ (by decide), R _ _ (by decide), R _ _ (by decide), R _ _ (by decide)]; exact p4 p i0 i1
  · rw [o 4 p (by decide), o 5 p (by decide), o 3 p (by decide), R _ _ (by decide), R _ _ (by decide), R _ _ (by decide)]; exact k4 p i0 i1
theorem Rx_213 {h : Hp} {s : Int} {K : Nat → Int} {X : Nat → Int → Int} {v : Int} (g : Rx h s K X) : Rx (wr h 213 s v) s K (up2 X 18 0 v) := by
  have o : ∀ k i, k ≠ 18 → up2 X 18 0 v k i = X k i := fun k i hk => up2_k hk
  have R : ∀ a j, a ≠ 213 → rd (wr h 213 s v) a j = rd h a j := fun a j ha => by rw [rd_wr_ne ha]
  obtain ⟨⟨n1, n2, n3⟩, ⟨p1, p2, p3, p4⟩, ⟨k1, k2, k3, k4⟩, q1, q2, q3, q4, q5⟩ := g
  unfold Rx
  rw [o 25 0 (by decide), o 0 0 (by decide), o 1 0 (by decide)]
  refine ⟨⟨by rw [R _ _ (by decide)]; exact n1, n2, fun i i0 i1 => ?_⟩, ⟨by rw [R _ _ (by decide)]; exact p1, p2, p3, fun p i0 i1 => ?_⟩, ⟨by rw [R _ _ (by decide)]; exact k1, k2, k3, fun p i0 i1 => ?_⟩, by rw [o 17 0 (by decide), R _ _ (by decide)]; exact q1, by rw [up2_s, rd_same], by rw [o 20 0 (by decide), R _ _ (by decide)]; exact q3, by rw [o 21 0 (by decide), R _ _ (by decide)]; exact q4, by rw [o 19 0 (by decide), R _ _ (by decide)]; exact q5⟩
  · rw [o 24 i (by decide), R _ _ (by decide), R _ _ (by decide)]; exact n3 i i0 i1
  · rw [o 22 p (by decide), o 23 p (by decide), o 2 p (by decide), o 16 p (by decide), R _ _ (by decide), R _ _ (by decide), R _ _ (by decide), R _ _ (by decide)]; exact p4 p i0 i1
  · rw [o 4 p (by decide), o 5 p (by decide), o 3 p (by decide), R _ _ (by decide), R _ _ (by decide), R _ _ (by decide)]; exact k4 p i0 i1
theorem Rx_214 {h : Hp} {s : Int} {K : Nat → Int} {X : Nat → Int → Int} {v : Int} (g : Rx h s K X) : Rx (wr h 214 s v) s K (up2 X 20 0 v) := by
  have o : ∀ k i, k ≠ 20 → up2 X 20 0 v k i = X k i := fun k i hk => up2_k hk
  have R : ∀ a j, a ≠ 214 → rd (wr h 214 s v) a j = rd h a j := fun a j ha => by rw [rd_wr_ne ha]
  obtain ⟨⟨n1, n2, n3⟩, ⟨p1, p2, p3, p4⟩, ⟨k1, k2, k3, k4⟩, q1, q2, q3, q4, q5⟩ := g
  unfold Rx
  rw [o 25 0 (by decide), o 0 0 (by decide), o 1 0 (by decide)]
  refine ⟨⟨by rw [R _ _ (by decide)]; exact n1, n2, fun i i0 i1 => ?_⟩, ⟨by rw [R _ _ (by decide)]; exact p1, p2, p3, fun p i0 i1 => ?_⟩, ⟨by rw [R _ _ (by decide)]; exact k1, k2, k3, fun p i0 i1 => ?_⟩, by rw [o 17 0 (by decide), R _ _ (by decide)]; exact q1, by rw [o 18 0 (by decide), R _ _ (by decide)]; exact q2, by rw [up2_s, rd_same], by rw [o 21 0 (by decide), R _ _ (by decide)]; exact q4, by rw [o 19 0 (by decide), R _ _ (by decide)]; exact q5⟩
  · rw [o 24 i (by decide), R _ _ (by decide), R _ _ (by decide)]; exact n3 i i0 i1
  · rw [o 22 p (by decide), o 23 p (by decide), o 2 p (by decide), o 16 p (by decide), R _ _ (by decide), R _ _ (by decide), R _ _ (by decide), R _ _ (by decide)]; exact p4 p i0 i1
  · rw [o 4 p (by decide), o 5 p (by decide), o 3 p (by decide), R _ _ (by decide), R _ _ (by decide), R _ _ (by decide)]; exact k4 p i0 i1
theorem Rx_215 {h : Hp} {s : Int} {K : Nat → Int} {X : Nat → Int → Int} {v : Int} (g : Rx h s K X) : Rx (wr h 215 s v) s K (up2 X 21 0 v) := by
  have o : ∀ k i, k ≠ 21 → up2 X 21 0 v k i = X k i := fun k i hk => up2_k hk
  have R : ∀ a j, a ≠ 215 → rd (wr h 215 s v) a j = rd h a j := fun a j ha => by rw [rd_wr_ne ha]
  obtain ⟨⟨n1, n2, n3⟩, ⟨p1, p2, p3, p4⟩, ⟨k1, k2, k3, k4⟩, q1, q2, q3, q4, q5⟩ := g
  unfold Rx
  rw [o 25 0 (by decide), o 0 0 (by decide), o 1 0 (by decide)]
  refine ⟨⟨by rw [R _ _ (by decide)]; exact n1, n2, fun i i0 i1 => ?_⟩, ⟨by rw [R _ _ (by decide)]; exact p1, p2, p3, fun p i0 i1 => ?_⟩, ⟨by rw [R _ _ (by decide)]; exact k1, k2, k3, fun p i0 i1 => ?_⟩, by rw [o 17 0 (by decide), R _ _ (by decide)]; exact q1, by rw [o 18 0 (by decide), R _ _ (by decide)]; exact q2, by rw [o 20 0 (by decide), R _ _ (by decide)]; exact q3, by rw [up2_s, rd_same], by rw [o 19 0 (by decide), R _ _ (by decide)]; exact q5⟩
  · rw [o 24 i (by decide), R _ _ (by decide), R _ _ (by decide)]; exact n3 i i0 i1
  · rw [o 22 p (by decide), o 23 p (by decide), o 2 p (by decide), o 16 p (by decide), R _ _ (by decide), R _ _ (by decide), R _ _ (by decide), R _ _ (by decide)]; exact p4 p i0 i1
  · rw [o 4 p (by decide), o 5 p (by decide), o 3 p (by decide), R _ _ (by decide), R _ _ (by decide), R _ _ (by decide)]; exact k4 p i0 i1
theorem Rx_216 {h : Hp} {s : Int} {K : Nat → Int} {X : Nat → Int → Int} {v : Int} (g : Rx h s K X) : Rx (wr h 216 s v) s K (up2 X 19 0 v) := by
  have o : ∀ k i, k ≠ 19 → up2 X 19 0 v k i = X k i := fun k i hk => up2_k hk
  have R : ∀ a j, a ≠ 216 → rd (wr h 216 s v) a j = rd h a j := fun a j ha => by rw [rd_wr_ne ha]
  obtain ⟨⟨n1, n2, n3⟩, ⟨p1, p2, p3, p4⟩, ⟨k1, k2, k3, k4⟩, q1, q2, q3, q4, q5⟩ := g
  unfold Rx
  rw [o 25 0 (by decide), o 0 0 (by decide), o 1 0 (by decide)]
  refine ⟨⟨by rw [R _ _ (by decide)]; exact n1, n2, fun i i0 i1 => ?_⟩, ⟨by rw [R _ _ (by decide)]; exact p1, p2, p3, fun p i0 i1 => ?_⟩, ⟨by rw [R _ _ (by decide)]; exact k1, k2, k3, fun p i0 i1 => ?_⟩, by rw [o 17 0 (by decide), R _ _ (by decide)]; exact q1, by rw [o 18 0 (by decide), R _ _ (by decide)]; exact q2, by rw [o 20 0 (by decide), R _ _ (by decide)]; exact q3, by rw [o 21 0 (by decide), R _ _ (by decide)]; exact q4, by rw [up2_s, rd_same]⟩
  · rw [o 24 i (by decide), R _ _ (by decide), R _ _ (by decide)]; exact n3 i i0 i1
  · rw [o 22 p (by decide), o 23 p (by decide), o 2 p (by decide), o 16 p (by decide), R _ _ (by decide), R _ _ (by decide), R _ _ (by decide), R _ _ (by decide)]; exact p4 p i0 i1
  · rw [o 4 p (by decide), o 5 p (by decide), o 3 p (by decide), R _ _ (by decide), R _ _ (by decide), R _ _ (by decide)]; exact k4 p i0 i1
theorem c_goesOn {F : Nat} {hb h : Hp} {K V P M : Nat → Int} {t : Nat} {X : Nat → Int → Int} {Λ : Nat → Lw} {w : Int × Int} {bb cb d : Int} (tk : RTk hb K V P M) (mn : Mn K P) (g : RP hb h K P (t, X, Λ, w) bb cb) (hk : K t = d) (hd : d ≠ 20) : T (Mod_goesOn F 194 h) (fun _ h' => CH hb h' K P X Λ bb cb (cAcc K P d (cBeg (t, X, Λ, w)))) := by
  obtain ⟨h11, ht, h13, h12⟩ := g.2.1
  simp only at h11 ht
  rw [m_goesOn (F := F) g.1.2.1 (Fp_tk g.1 tk) ht h11 h13]
  refine T_some ?_
  show CH hb _ K P X Λ bb cb (rbd (pAcc K P d t) (fun t' => Sum.inr (t', w, [])))
  unfold pAcc
  rw [if_pos hk]
  by_cases h4 : t < 400
  · rw [if_pos h4, if_pos h4]
    exact RP_t g (by omega) (mn t h4 (by omega))
  · rw [if_neg h4, if_neg h4]
    exact RF_of g (by decide)
theorem t_two_holds {F : Nat} {hb h : Hp} {K V P M : Nat → Int} {s : Sg} {bb cb : Int} (tk : RTk hb K V P M) (mn : Mn K P) (hs : rd hb 194 19 = 0 ∨ rd hb 194 19 = 1) (g : RP hb h K P s bb cb) (hk : K s.1 = 7) :
    T (iv h 194 112 (Mod_goesOn F 194 h) fun r55 h56 => gf h56 194 112 31 fun v57 => gf h56 194 112 19 fun v58 => iv h56 194 112 (Mod_bounded F 194 1 600 h56) fun r59 h60 => as h60 v57 0 v58 r59 fun h61 => gf h61 194 112 32 fun v62 => gf h61 194 112 19 fun v63 => iv h61 194 112 (Mod_bounded F 194 1 600 h61) fun r64 h65 => as h65 v62 0 v63 r64 fun h66 => iv h66 194 112 (Mod_must F 194 4 h66) fun r67 h68 => some (0, h68)) (fun _ h' => RR hb h' K P bb cb (pTwo K V P s 7 17 18 1 600)) := by
  obtain ⟨t, X, Λ, w⟩ := s
  rw [ivM g.1.2.1]
  refine T_cl (c_goesOn (d := 7) tk mn g hk (by decide)) (fun _ h1 g1 => ?_)
  have s1 := (CH_sh g1).2.1
  rw [gM31 s1, gM19 s1, Fp_19 (CH_sh g1), ivM s1]
  refine T_cl (c_num tk mn g1) (fun vx h2 hq => ?_)
  obtain ⟨-, g2, hvx⟩ := hq
  have s2 := (CH_sh g2).2.1
  have g2' := c_wr (a := 212) (i := rd hb 194 19) (v := vx) (X' := up2 X 17 0 vx) g2 (by decide) (by rw [wdt_1 (by decide)]; omega) (fun x => Rx_212 x)
  have s2' := (CH_sh g2').2.1
  rw [sM31 s2 (by omega) (by omega), gM32 s2', gM19 s2', Fp_19 (CH_sh g2'), ivM s2']
  refine T_cl (c_num tk mn g2') (fun vy h3 hq => ?_)
  obtain ⟨-, g3, hvy⟩ := hq
  have s3 := (CH_sh g3).2.1
  have g3' := c_wr (a := 213) (i := rd hb 194 19) (v := vy) (X' := up2 (up2 X 17 0 vx) 18 0 vy) g3 (by decide) (by rw [wdt_1 (by decide)]; omega) (fun x => Rx_213 x)
  have s3' := (CH_sh g3').2.1
  rw [sM32 s3 (by omega) (by omega), ivM s3']
  refine T_cl (c_must (d := 59) tk mn g3' (by unfold KdOk; decide) (by decide) rfl) (fun _ h4 hq => ?_)
  obtain ⟨-, g4⟩ := hq
  refine T_some ?_
  unfold pTwo
  cases hr : cAcc K P 59 (cNum K V P 1 600 (cNum K V P 1 600 (cAcc K P 7 (cBeg (t, X, Λ, w))))) with
  | inl e => rw [hr] at g4; exact g4
  | inr q =>
    rw [hr] at g4
    obtain ⟨q3, r3, -, -, e4⟩ := cAcc_inr hr
    obtain ⟨q2, r2, -, -, e3⟩ := cNum_inr r3
    obtain ⟨q1, r1, -, -, e2⟩ := cNum_inr r2
    obtain ⟨q0, r0, -, -, e1⟩ := cAcc_inr r1
    cases r0
    have z2 := hvx q2 r2
    have z3 := hvy q3 r3
    rw [e2] at z2
    rw [e3] at z3
    simp only [List.head?_cons, Option.some.injEq] at z2 z3
    have l1 : q1.2.2 = [] := by rw [e1]
    have l2 : q2.2.2 = [vx] := by rw [e2]; show V q1.1 :: q1.2.2 = _; rw [l1, z2]
    have hls : q.2.2 = [vy, vx] := by
      rw [e4]; show q3.2.2 = _
      rw [e3]; show V q2.1 :: q2.2.2 = _
      rw [l2, z3]
    show RR hb h4 K P bb cb (match q.2.2 with | [y, x] => Sum.inr (q.1, up2 (up2 X 17 0 x) 18 0 y, Λ, q.2.1) | _ => Sum.inl (0, 0))
    rw [hls]
    exact g4
theorem t_two_peg {F : Nat} {hb h : Hp} {K V P M : Nat → Int} {s : Sg} {bb cb : Int} (tk : RTk hb K V P M) (mn : Mn K P) (hs : rd hb 194 19 = 0 ∨ rd hb 194 19 = 1) (g : RP hb h K P s bb cb) (hk : K s.1 = 8) :
    T (iv h 194 112 (Mod_goesOn F 194 h) fun r55 h56 => gf h56 194 112 33 fun v57 => gf h56 194 112 19 fun v58 => iv h56 194 112 (Mod_bounded F 194 0 99 h56) fun r59 h60 => as h60 v57 0 v58 r59 fun h61 => gf h61 194 112 34 fun v62 => gf h61 194 112 19 fun v63 => iv h61 194 112 (Mod_bounded F 194 0 99 h61) fun r64 h65 => as h65 v62 0 v63 r64 fun h66 => iv h66 194 112 (Mod_must F 194 4 h66) fun r67 h68 => some (0, h68)) (fun _ h' => RR hb h' K P bb cb (pTwo K V P s 8 20 21 0 99)) := by
  obtain ⟨t, X, Λ, w⟩ := s
  rw [ivM g.1.2.1]
  refine T_cl (c_goesOn (d := 8) tk mn g hk (by decide)) (fun _ h1 g1 => ?_)
  have s1 := (CH_sh g1).2.1
  rw [gM33 s1, gM19 s1, Fp_19 (CH_sh g1), ivM s1]
  refine T_cl (c_num tk mn g1) (fun vx h2 hq => ?_)
  obtain ⟨-, g2, hvx⟩ := hq
  have s2 := (CH_sh g2).2.1
  have g2' := c_wr (a := 214) (i := rd hb 194 19) (v := vx) (X' := up2 X 20 0 vx) g2 (by decide) (by rw [wdt_1 (by decide)]; omega) (fun x => Rx_214 x)
  have s2' := (CH_sh g2').2.1
  rw [sM33 s2 (by omega) (by omega), gM34 s2', gM19 s2', Fp_19 (CH_sh g2'), ivM s2']
  refine T_cl (c_num tk mn g2') (fun vy h3 hq => ?_)
  obtain ⟨-, g3, hvy⟩ := hq
  have s3 := (CH_sh g3).2.1
  have g3' := c_wr (a := 215) (i := rd hb 194 19) (v := vy) (X' := up2 (up2 X 20 0 vx) 21 0 vy) g3 (by decide) (by rw [wdt_1 (by decide)]; omega) (fun x => Rx_215 x)
  have s3' := (CH_sh g3').2.1
  rw [sM34 s3 (by omega) (by omega), ivM s3']
  refine T_cl (c_must (d := 59) tk mn g3' (by unfold KdOk; decide) (by decide) rfl) (fun _ h4 hq => ?_)
  obtain ⟨-, g4⟩ := hq
  refine T_some ?_
  unfold pTwo
  cases hr : cAcc K P 59 (cNum K V P 0 99 (cNum K V P 0 99 (cAcc K P 8 (cBeg (t, X, Λ, w))))) with
  | inl e => rw [hr] at g4; exact g4
  | inr q =>
    rw [hr] at g4
    obtain ⟨q3, r3, -, -, e4⟩ := cAcc_inr hr
    obtain ⟨q2, r2, -, -, e3⟩ := cNum_inr r3
    obtain ⟨q1, r1, -, -, e2⟩ := cNum_inr r2
    obtain ⟨q0, r0, -, -, e1⟩ := cAcc_inr r1
    cases r0
    have z2 := hvx q2 r2
    have z3 := hvy q3 r3
    rw [e2] at z2
    rw [e3] at z3
    simp only [List.head?_cons, Option.some.injEq] at z2 z3
    have l1 : q1.2.2 = [] := by rw [e1]
    have l2 : q2.2.2 = [vx] := by rw [e2]; show V q1.1 :: q1.2.2 = _; rw [l1, z2]
    have hls : q.2.2 = [vy, vx] := by
      rw [e4]; show q3.2.2 = _
      rw [e3]; show V q2.1 :: q2.2.2 = _
      rw [l2, z3]
    show RR hb h4 K P bb cb (match q.2.2 with | [y, x] => Sum.inr (q.1, up2 (up2 X 20 0 x) 21 0 y, Λ, q.2.1) | _ => Sum.inl (0, 0))
    rw [hls]
    exact g4
theorem t_seed {F : Nat} {hb h : Hp} {K V P M : Nat → Int} {s : Sg} {bb cb : Int} (tk : RTk hb K V P M) (mn : Mn K P) (hs : rd hb 194 19 = 0 ∨ rd hb 194 19 = 1) (g : RP hb h K P s bb cb) (hk : K s.1 = 9) :
    T (iv h 194 112 (Mod_goesOn F 194 h) fun r83 h84 => gf h84 194 112 35 fun v85 => gf h84 194 112 19 fun v86 => iv h84 194 112 (Mod_bounded F 194 0 9999 h84) fun r87 h88 => as h88 v85 0 v86 r87 fun h89 => iv h89 194 112 (Mod_must F 194 4 h89) fun r90 h91 => some (0, h91)) (fun _ h' => RR hb h' K P bb cb (pOne K V P s 9 19 0 9999)) := by
  obtain ⟨t, X, Λ, w⟩ := s
  rw [ivM g.1.2.1]
  refine T_cl (c_goesOn (d := 9) tk mn g hk (by decide)) (fun _ h1 g1 => ?_)
  have s1 := (CH_sh g1).2.1
  rw [gM35 s1, gM19 s1, Fp_19 (CH_sh g1), ivM s1]
  refine T_cl (c_num tk mn g1) (fun vx h2 hq => ?_)
  obtain ⟨-, g2, hvx⟩ := hq
  have s2 := (CH_sh g2).2.1
  have g2' := c_wr (a := 216) (i := rd hb 194 19) (v := vx) (X' := up2 X 19 0 vx) g2 (by decide) (by rw [wdt_1 (by decide)]; omega) (fun x => Rx_216 x)
  have s2' := (CH_sh g2').2.1
  rw [sM35 s2 (by omega) (by omega), ivM s2']
  refine T_cl (c_must (d := 59) tk mn g2' (by unfold KdOk; decide) (by decide) rfl) (fun _ h4 hq => ?_)
  obtain ⟨-, g4⟩ := hq
  refine T_some ?_
  unfold pOne
  cases hr : cAcc K P 59 (cNum K V P 0 9999 (cAcc K P 9 (cBeg (t, X, Λ, w)))) with
  | inl e => rw [hr] at g4; exact g4
  | inr q =>
    rw [hr] at g4
    obtain ⟨q3, r3, -, -, e4⟩ := cAcc_inr hr
    obtain ⟨q1, r1, -, -, e2⟩ := cNum_inr r3
    obtain ⟨q0, r0, -, -, e1⟩ := cAcc_inr r1
    cases r0
    have z2 := hvx q3 r3
    rw [e2] at z2
    simp only [List.head?_cons, Option.some.injEq] at z2
    have l1 : q1.2.2 = [] := by rw [e1]
    have hls : q.2.2 = [vx] := by
      rw [e4]; show q3.2.2 = _
      rw [e2]; show V q1.1 :: q1.2.2 = _
      rw [l1, z2]
    show RR hb h4 K P bb cb (match q.2.2 with | [x] => Sum.inr (q.1, up2 X 19 0 x, Λ, q.2.1) | _ => Sum.inl (0, 0))
    rw [hls]
    exact g4
