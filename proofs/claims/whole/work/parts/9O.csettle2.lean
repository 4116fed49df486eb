/-! the class's shore, settled -/
def Xs (c b : Int) : Prop := b = c + 11 ∨ b = c + 12 ∨ b = 36 ∨ b = 37 ∨ b = 39 ∨ (42 ≤ b ∧ b ≤ 63)
theorem sdP {p : Int} (hp : 0 ≤ p ∧ p < 8) : isSd (42 + 3 * p) := ⟨p, hp.1, hp.2, Or.inl rfl⟩
theorem CxE_X {X : Int → Prop} {h h' : Hp} {c : Int} {D : Nat → Int → Int} (f : FrX X h h') (hx : ∀ b, c ≤ b → b ≤ c + 7 → ¬ X b) (g : CxE h c D) : CxE h' c D := by
  have ic : c = 9 ∨ c = 23 := g.1
  exact CxE_eq (fun x h1 h2 => f.2.2.2.1 x (by omega) (hx x h1 h2)) g
theorem CLz_X {X : Int → Prop} {h h' : Hp} {c : Int} {Λ : Nat → Lw} (ic : isSc c) (f : FrX X h h') (hx : ∀ b, c + 8 ≤ b → b ≤ c + 10 → ¬ X b) (g : CLz h c Λ) : CLz h' c Λ := by
  have icc : c = 9 ∨ c = 23 := ic
  exact CLz_eq (f.2.2.2.1 _ (by omega) (hx _ (by omega) (by omega))) (f.2.2.2.1 _ (by omega) (hx _ (by omega) (by omega))) (f.2.2.2.1 _ (by omega) (hx _ (by omega) (by omega))) g
/-- minutes of the day -/
theorem c_days {F : Nat} {h : Hp} {c : Int} {Λ : Nat → Lw} (hF : 1000 ≤ F) (s : Sh h) (d : Dy h) (ic : isSc c) (hc : rd h 22 0 = c) (g : CLz h c Λ) : ∃ h', Shor_settle F 22 h = Shor_settle_L51 F F 22 0 h' ∧ FrX (fun b => b = c + 11 ∨ b = c + 12 ∨ b = 36 ∨ b = 37) h h' ∧ Dy h' ∧ ∀ m, 0 ≤ m → m < 600 → rd h' 36 m = tdV (Λ 1) m ∧ rd h' 37 m = snV (Λ 2) m := by
  have hcc : c = 9 ∨ c = 23 := ic
  have ok36 : ∀ i, okW 36 i = true := fun i => okW_arr (by decide) (fun _ => by decide)
  have ok37 : ∀ i, okW 37 i = true := fun i => okW_arr (by decide) (fun _ => by decide)
  have nO : ∀ b i, b < 42 → ¬ Own b i := fun b i hb o => by have := own_lt o; omega
  unfold Shor_settle
  have key := loopE (fun n i h1 => Shor_settle_L2 F n 22 (i : Nat) h1) 600 (fun i h1 => FrX (fun b => b = c + 11 ∨ b = c + 12 ∨ b = 36 ∨ b = 37) h h1 ∧ Dy h1 ∧ ∀ m, 0 ≤ m → m < (i : Int) → rd h1 36 m = tdV (Λ 1) m ∧ rd h1 37 m = snV (Λ 2) m) (fun z => ∃ h', z = Shor_settle_L51 F F 22 0 h' ∧ FrX (fun b => b = c + 11 ∨ b = c + 12 ∨ b = 36 ∨ b = 37) h h' ∧ Dy h' ∧ ∀ m, 0 ≤ m → m < 600 → rd h' 36 m = tdV (Λ 1) m ∧ rd h' 37 m = snV (Λ 2) m) (fun n i h1 hi P => Or.inl ?_) (fun n h1 P => ?_) 600 F 0 h (by omega) (by omega) ⟨FrX_refl s, d, fun m m0 m1 => absurd m1 (by omega)⟩
  · exact key
  · obtain ⟨fr, dy, p1⟩ := P
    have s1 := fr.1
    have h22 : rd h1 22 0 = c := by rw [fr.2.2.2.1 22 (by decide) (by omega)]; exact hc
    have g1 : CLz h1 c Λ := CLz_X ic fr (fun b b1 b2 => by omega) g
    obtain ⟨h2, e2, l2⟩ := c_tide (F := F) (m := (i : Int)) hF s1 ic g1
    have f2 := FrX_Lc ic l2
    have s2 := l2.2.1
    have s3 : Sh (wr h2 36 i (tdV (Λ 1) i)) := shOk s2 (ok36 _)
    have g3 : CLz (wr h2 36 i (tdV (Λ 1) i)) c Λ := CLz_eq (h := h2) (rd_wr_ne (by omega)) (rd_wr_ne (by omega)) (rd_wr_ne (by omega)) (Lc_CLz l2 g1)
    obtain ⟨h4, e4, l4⟩ := c_sun (F := F) (m := (i : Int)) hF s3 ic g3
    have s4 := l4.2.1
    have s5 : Sh (wr h4 37 i (snV (Λ 2) i)) := shOk s4 (ok37 _)
    have n4 : ∀ b, b ≠ c + 11 → b ≠ c + 12 → b ≠ 36 → rd h4 b = rd h1 b := fun b b1 b2 b3 => by rw [l4.2.2 b b1 b2, rd_wr_ne b3, l2.2.2 b b1 b2]
    have F5 : FrX (fun b => b = c + 11 ∨ b = c + 12 ∨ b = 36 ∨ b = 37) h (wr h4 37 i (snV (Λ 2) i)) := FrX_trans fr (FrX_trans (FrX_mono (fun b hb => by omega) f2) (FrX_trans (h' := wr h2 36 i (tdV (Λ 1) i)) (FrX_wr s2 (ok36 _) (by decide) (by omega)) (FrX_trans (FrX_mono (fun b hb => by omega) (FrX_Lc ic l4)) (FrX_wr s4 (ok37 _) (by decide) (by omega)))))
    refine ⟨_, ⟨F5, Dy_wr (nO 37 _ (by decide)) (Dy_Lc ic l4 (Dy_wr (nO 36 _ (by decide)) (Dy_Lc ic l2 dy))), fun m m0 m1 => ?_⟩, ?_⟩
    · have r36 : rd (wr h4 37 i (snV (Λ 2) i)) 36 m = if m = i then tdV (Λ 1) m else rd h1 36 m := by
        rw [rd_a (by decide), l4.2.2 36 (by omega) (by omega)]
        by_cases q : m = i
        · subst q; rw [if_pos rfl, rd_same]
        · rw [if_neg q, rd_i q, l2.2.2 36 (by omega) (by omega)]
      have r37 : rd (wr h4 37 i (snV (Λ 2) i)) 37 m = if m = i then snV (Λ 2) m else rd h1 37 m := by
        by_cases q : m = i
        · subst q; rw [if_pos rfl, rd_same]
        · rw [if_neg q, rd_i q, n4 37 (by omega) (by omega) (by decide)]
      rw [r36, r37]
      by_cases q : m = i
      · rw [if_pos q, if_pos q]; exact ⟨rfl, rfl⟩
      · rw [if_neg q, if_neg q]; exact p1 m m0 (by omega)
    · show Shor_settle_L2s F (Shor_settle_L2 F n) 22 (i : Nat) h1 = Shor_settle_L2 F n 22 ((i + 1 : Nat) : Int) _
      unfold Shor_settle_L2s
      rw [if_pos (by omega), gH1 s1, gH0 s1, h22, gC14 s1 ic, ivL s1 ic, e2, cl_some, sH1 s2 (by omega) (by omega), gH2 s3, gH0 s3, rd_wr_ne (by decide), l2.2.2 22 (by omega) (by omega), h22, gC14 s3 ic, ivL s3 ic, e4, cl_some, sH2 s4 (by omega) (by omega), w32_nat (by omega)]
  · obtain ⟨fr, dy, p1⟩ := P
    refine ⟨h1, ?_, fr, dy, fun m m0 m1 => p1 m m0 (by omega)⟩
    show Shor_settle_L2s F (Shor_settle_L2 F n) 22 ((600 : Nat) : Int) h1 = _
    unfold Shor_settle_L2s
    rw [if_neg (by decide)]
theorem c_parts {F : Nat} {h : Hp} {c : Int} {Λ : Nat → Lw} {D : Nat → Int → Int} (hF : 1000 ≤ F) (s : Sh h) (d : Dy h) (hc : rd h 22 0 = c) (cx : CxE h c D) (g : CLz h c Λ) (dk : Dok D) (day : Day D Λ) (hm : ∀ m, 0 ≤ m → m < 600 → rd h 36 m = D 13 m ∧ rd h 37 m = D 14 m) (w0 : rd h 39 0 = 0) : ∃ h', Shor_settle_L51 F F 22 0 h = Shor_settle_B162 F 22 h' ∧ FrX (fun b => b = c + 11 ∨ b = c + 12 ∨ b = 39 ∨ (42 ≤ b ∧ b ≤ 63)) h h' ∧ Dy h' ∧ CD h' D := by
  have ic := cx.1
  have hcc : c = 9 ∨ c = 23 := ic
  have h8 : D 0 0 ≤ 8 := dk.1.2
  have key := loopE (fun n i h1 => Shor_settle_L51 F n 22 (i : Nat) h1) (D 0 0).toNat (fun i h1 => FrX (fun b => b = c + 11 ∨ b = c + 12 ∨ b = 39 ∨ (42 ≤ b ∧ b ≤ 63)) h h1 ∧ Dy h1 ∧ (∀ p, 0 ≤ p → p < (i : Int) → SdE h1 (42 + 3 * p) D p ∧ SdF h1 (42 + 3 * p) D p) ∧ ∀ t : Nat, t < 2 ^ i → rd h1 39 t = wbV D t) (fun z => ∃ h', z = Shor_settle_B162 F 22 h' ∧ FrX (fun b => b = c + 11 ∨ b = c + 12 ∨ b = 39 ∨ (42 ≤ b ∧ b ≤ 63)) h h' ∧ Dy h' ∧ CD h' D) (fun n i h1 hi P => Or.inl ?_) (fun n h1 P => ?_) (D 0 0).toNat F 0 h (by omega) (by omega) ⟨FrX_refl s, d, fun p p0 p1 => absurd p1 (by omega), fun t ht => ?_⟩
  · exact key
  · obtain ⟨fr, dy, p1, p2⟩ := P
    have s1 := fr.1
    have hiD : (i : Int) < D 0 0 := by omega
    have ha : isSd (42 + 3 * (i : Int)) := sdP ⟨by omega, by omega⟩
    have h22 : rd h1 22 0 = c := by rw [fr.2.2.2.1 22 (by decide) (by omega)]; exact hc
    have g1 : CLz h1 c Λ := CLz_X ic fr (fun b b1 b2 => by omega) g
    have cx1 : CxE h1 c D := CxE_X fr (fun b b1 b2 => by omega) cx
    obtain ⟨x0, x1, x2, x3⟩ := cx1.2.2.2.1 i (by omega) hiD
    obtain ⟨y6, y7, y8, y9, ym⟩ := day.2 i (by omega) hiD
    have nA : ∀ k, k ≠ 4 → k ≠ 5 → ¬ Own (42 + 3 * (i : Int)) k := fun k k4 k5 o => by
      rcases o with ⟨-, q⟩ | ⟨q, -⟩
      · omega
      · exact absurd rfl (sr_ne ha q)
    have sa : Sh (wr h1 (42 + 3 * (i : Int)) 0 (D 22 i)) := shOk s1 (sd_ok ha)
    have sb : Sh (wr (wr h1 (42 + 3 * (i : Int)) 0 (D 22 i)) (42 + 3 * (i : Int)) 1 (D 23 i)) := shOk sa (sd_ok ha)
    have sc : Sh (wr (wr (wr h1 (42 + 3 * (i : Int)) 0 (D 22 i)) (42 + 3 * (i : Int)) 1 (D 23 i)) (42 + 3 * (i : Int)) 3 (D 16 i)) := shOk sb (sd_ok ha)
    have dc : Dy (wr (wr (wr h1 (42 + 3 * (i : Int)) 0 (D 22 i)) (42 + 3 * (i : Int)) 1 (D 23 i)) (42 + 3 * (i : Int)) 3 (D 16 i)) := Dy_wr (nA 3 (by decide) (by decide)) (Dy_wr (nA 1 (by decide) (by decide)) (Dy_wr (nA 0 (by decide) (by decide)) dy))
    have nc : ∀ b, b ≠ 42 + 3 * (i : Int) → rd (wr (wr (wr h1 (42 + 3 * (i : Int)) 0 (D 22 i)) (42 + 3 * (i : Int)) 1 (D 23 i)) (42 + 3 * (i : Int)) 3 (D 16 i)) b = rd h1 b := fun b hb => by rw [rd_wr_ne hb, rd_wr_ne hb, rd_wr_ne hb]
    have gc : CLz (wr (wr (wr h1 (42 + 3 * (i : Int)) 0 (D 22 i)) (42 + 3 * (i : Int)) 1 (D 23 i)) (42 + 3 * (i : Int)) 3 (D 16 i)) c Λ := CLz_eq (nc _ (by omega)) (nc _ (by omega)) (nc _ (by omega)) g1
    have e0 : rd (wr (wr (wr h1 (42 + 3 * (i : Int)) 0 (D 22 i)) (42 + 3 * (i : Int)) 1 (D 23 i)) (42 + 3 * (i : Int)) 3 (D 16 i)) (42 + 3 * (i : Int)) 0 = D 22 i := by rw [rd_i (by decide), rd_i (by decide), rd_same]
    have e1 : rd (wr (wr (wr h1 (42 + 3 * (i : Int)) 0 (D 22 i)) (42 + 3 * (i : Int)) 1 (D 23 i)) (42 + 3 * (i : Int)) 3 (D 16 i)) (42 + 3 * (i : Int)) 1 = D 23 i := by rw [rd_i (by decide), rd_same]
    have e3 : rd (wr (wr (wr h1 (42 + 3 * (i : Int)) 0 (D 22 i)) (42 + 3 * (i : Int)) 1 (D 23 i)) (42 + 3 * (i : Int)) 3 (D 16 i)) (42 + 3 * (i : Int)) 3 = D 16 i := rd_same _ _ _ _
    obtain ⟨h2, k1, k2, k3, ⟨a0, a1, a3, a2⟩, ⟨v4, v5⟩, k6⟩ := c_layOut (F := F) hF sc dc ic (by rw [nc 22 (by omega)]; exact h22) gc ha
    rw [e0] at a0
    rw [e1] at a1
    rw [e3] at a3
    rw [e0, e1] at a2
    rw [e0, e1, e3] at k6
    have n2 : ∀ b, b < 254 → b ≠ 42 + 3 * (i : Int) → b ≠ c + 11 → b ≠ c + 12 → rd h2 b = rd h1 b := fun b b0 b1 b2 b3 => by rw [k2.2.2.2.1 b b0 (by omega), nc b b1]
    obtain ⟨h3, j1, j2, j3⟩ := c_worth (F := F) (h := h2) (p := i) hF k2.1 dk (by rw [n2 22 (by decide) (by omega) (by omega) (by omega)]; exact h22) (CxE_eq (fun x q1 q2 => n2 x (by omega) (by omega) (by omega) (by omega)) cx1) hiD (fun t ht => by rw [n2 39 (by decide) (by omega) (by omega) (by omega)]; exact p2 t ht) (Shor_settle_L51 F n)
    have f3 : FrX (fun b => b = 39) h2 h3 := FrX_of j2.2.1 j2.1 (fun b hb => j2.2.2 b hb) (fun b hb => by omega)
    have fa : FrX (fun b => b = c + 11 ∨ b = c + 12 ∨ b = 39 ∨ b = 42 + 3 * (i : Int)) h1 h3 := FrX_trans (FrX_wr s1 (sd_ok ha) (by omega) (by omega)) (FrX_trans (FrX_wr sa (sd_ok ha) (by omega) (by omega)) (FrX_trans (FrX_wr sb (sd_ok ha) (by omega) (by omega)) (FrX_trans (FrX_mono (fun b hb => by omega) k2) (FrX_mono (fun b hb => by omega) f3))))
    have m36 : ∀ m, 0 ≤ m → m < 600 → rd (wr (wr (wr h1 (42 + 3 * (i : Int)) 0 (D 22 i)) (42 + 3 * (i : Int)) 1 (D 23 i)) (42 + 3 * (i : Int)) 3 (D 16 i)) 36 m = D 13 m := fun m m0 m1 => by rw [nc 36 (by omega), fr.2.2.2.1 36 (by decide) (by omega)]; exact (hm m m0 m1).1
    have cc := cx1.2.2.2.2.2
    have q9 : rd (wr (wr (wr h1 (42 + 3 * (i : Int)) 0 (D 22 i)) (42 + 3 * (i : Int)) 1 (D 23 i)) (42 + 3 * (i : Int)) 3 (D 16 i)) c 9 = D 17 0 := by rw [nc c (by omega)]; exact cc.1
    have q10 : rd (wr (wr (wr h1 (42 + 3 * (i : Int)) 0 (D 22 i)) (42 + 3 * (i : Int)) 1 (D 23 i)) (42 + 3 * (i : Int)) 3 (D 16 i)) c 10 = D 18 0 := by rw [nc c (by omega)]; exact cc.2.1
    rw [q9, q10] at k6
    refine ⟨h3, ⟨FrX_trans fr (FrX_mono (fun b hb => by omega) fa), Dy_eq j2.1 (fun a k o => by have := own_lt o; rw [j2.2.2 a (by omega)]) k3, fun p q0 q1 => ?_, fun t ht => j3 t ht⟩, ?_⟩
    · by_cases cp : p = i
      · subst cp
        have E : SdE h2 (42 + 3 * (i : Int)) D i := ⟨ha, by rw [a0, y6], by rw [a1, y7], by rw [a3, y8], v5, fun m m0 m1 => by
          rw [(k6 m m0 m1).2, (ym m m0 m1).2.2.1, y9, y6, y7, y8]
          exact nxI_cg (fun t t0 t1 => frI_cg m36 ⟨t0, t1⟩) ⟨m0, m1⟩⟩
        have G : SdF h2 (42 + 3 * (i : Int)) D i := ⟨by rw [a2, y9, y6, y7], v4, fun m m0 m1 => by
          rw [(k6 m m0 m1).1, (ym m m0 m1).1, y9, y6, y7]
          exact frI_cg m36 ⟨m0, m1⟩⟩
        exact ⟨SdE_X f3 (by omega) E, SdF_X f3 ha (by omega) G⟩
      · obtain ⟨z1, z2⟩ := p1 p q0 (by omega)
        exact ⟨SdE_X fa (by omega) z1, SdF_X fa z1.1 (by omega) z2⟩
    · show Shor_settle_L51s F (Shor_settle_L51 F n) 22 (i : Nat) h1 = Shor_settle_L51 F n 22 ((i + 1 : Nat) : Int) h3
      unfold Shor_settle_L51s
      have r22 : ∀ q : Hp, (∀ b, b ≠ 42 + 3 * (i : Int) → rd q b = rd h1 b) → rd q 22 0 = c := fun q hq => by rw [hq 22 (by omega)]; exact h22
      have na : ∀ b, b ≠ 42 + 3 * (i : Int) → rd (wr h1 (42 + 3 * (i : Int)) 0 (D 22 i)) b = rd h1 b := fun b hb => rd_wr_ne hb
      have nb : ∀ b, b ≠ 42 + 3 * (i : Int) → rd (wr (wr h1 (42 + 3 * (i : Int)) 0 (D 22 i)) (42 + 3 * (i : Int)) 1 (D 23 i)) b = rd h1 b := fun b hb => by rw [rd_wr_ne hb, rd_wr_ne hb]
      rw [gH0 s1, h22, gC4 s1 ic, cx1.2.1, if_pos hiD, gH3 s1, aH3 s1 (by omega) (by omega), gH0 s1, h22, gC0 s1 ic, aC0 s1 ic (by omega) (by omega), x0, pA s1 ha, gH0 sa, r22 _ na, gC1 sa ic, aC1 sa ic (by omega) (by omega), na (c + 2) (by omega), x1, pA sa ha, gH0 sb, r22 _ nb, gC3 sb ic, aC3 sb ic (by omega) (by omega), nb (c + 4) (by omega), x3, pA sb ha, ivH sc, k1, cl_some, ishl_1 i (by omega), lt_eq]
      exact j1
  · obtain ⟨fr, dy, p1, p2⟩ := P
    have h22 : rd h1 22 0 = c := by rw [fr.2.2.2.1 22 (by decide) (by omega)]; exact hc
    have cx1 : CxE h1 c D := CxE_X fr (fun b b1 b2 => by omega) cx
    refine ⟨h1, ?_, fr, dy, ?_, fun m m0 m1 => ?_, fun p q0 q1 => ?_, p2⟩
    · show Shor_settle_L51s F (Shor_settle_L51 F n) 22 ((D 0 0).toNat : Nat) h1 = _
      unfold Shor_settle_L51s
      rw [gH0 fr.1, h22, gC4 fr.1 ic, cx1.2.1, if_neg (by omega)]
    · rw [h22]; exact cx1
    · rw [fr.2.2.2.1 36 (by decide) (by omega), fr.2.2.2.1 37 (by decide) (by omega)]; exact hm m m0 m1
    · obtain ⟨z1, z2⟩ := p1 p q0 (by omega)
      exact ⟨z1, z2, fun m m0 m1 => ((day.2 p q0 q1).2.2.2.2 m m0 m1).1⟩
  · obtain rfl : t = 0 := by rw [Nat.pow_zero] at ht; omega
    rw [wbV_0]; exact w0
