/-! the class's stand: a copy -/
theorem c_wcopy {F : Nat} {h : Hp} {a c : Int} (s : Sh h) (ha : isWk a) (hc : isWk c) (hne : c ≠ a) : Walk_copy F a c h = some (0, wr (wr (wr (wr (wr h a 0 (rd h c 0)) a 1 (rd h c 1)) a 2 (rd h c 2)) a 3 (rd h c 3)) a 4 (rd h c 4)) := by
  have s1 : Sh (wr h a 0 (rd h c 0)) := shOk s (wk_ok ha)
  have s2 : Sh (wr (wr h a 0 (rd h c 0)) a 1 (rd h c 1)) := shOk s1 (wk_ok ha)
  have s3 : Sh (wr (wr (wr h a 0 (rd h c 0)) a 1 (rd h c 1)) a 2 (rd h c 2)) := shOk s2 (wk_ok ha)
  have s4 : Sh (wr (wr (wr (wr h a 0 (rd h c 0)) a 1 (rd h c 1)) a 2 (rd h c 2)) a 3 (rd h c 3)) := shOk s3 (wk_ok ha)
  unfold Walk_copy
  rw [gW s hc, pW s ha, gW s1 hc, rd_a hne, pW s1 ha, gW s2 hc, rd_a hne, rd_a hne, pW s2 ha, gW s3 hc, rd_a hne, rd_a hne, rd_a hne, pW s3 ha, gW s4 hc, rd_a hne, rd_a hne, rd_a hne, rd_a hne, pW s4 ha]
theorem acpS {h : Hp} (s : Sh h) {b c j : Int} (hb : isSt b) (hc : isSt c) (hj : 6 ≤ j ∧ j ≤ 8) (f : Hp → Option (Int × Hp)) : acp h (c + j) 0 (b + j) 0 30 f = f (cpy h (c + j) 0 (b + j) 0 30) := by
  have k : ∀ x, isSt x → vo h (x + j) 0 ∧ hln h (x + j) = 30 := by
    intro x hx
    have hj2 : j = 6 ∨ j = 7 ∨ j = 8 := by omega
    rcases hx with e | e | e | e | e <;> subst e <;> rcases hj2 with e | e | e <;> subst e
    all_goals exact ⟨s.vo _ 0 (by decide) (by decide) rfl, s.ln _ 30 (by decide) (by decide) rfl⟩
  obtain ⟨v1, l1⟩ := k b hb
  obtain ⟨v2, l2⟩ := k c hc
  unfold acp
  rw [if_pos ⟨v2, v1, by omega, by omega, by omega, by omega, by omega⟩]
theorem FrS_cpy {b : Int} {h h' : Hp} (hb : isSt b) (f : FrS b h h') {a j : Int} (hj : 6 ≤ j ∧ j ≤ 8) : FrS b h (cpy h' a 0 (b + j) 0 30) := by
  refine ⟨f.1, ⟨f.2.1.1, f.2.1.2.1, fun q hq => ?_⟩, fun x hx => ?_⟩
  · have e := f.2.1.2.2 q hq
    have hk := okS (i := q.2.1) hb (show 2 ≤ j ∧ j ≤ 8 by omega)
    unfold okW at hk
    rw [Bool.not_eq_true', List.any_eq_false] at hk
    have := hk q hq
    rw [rd_cpy, if_neg (fun w => by simp [w.1] at this)]
    exact e
  · funext i
    rw [rd_cpy, if_neg (fun w => hx ⟨by omega, by omega⟩)]
    exact congrFun (f.2.2 x hx) i
theorem c_copy {F : Nat} {h : Hp} {b c : Int} {D : Nat → Int → Int} {N : Int → Int} (hF : 1000 ≤ F) (s : Sh h) (hb : isSt b) (hbc : b ≠ c) (hw3 : D 1 0 ≤ 3) (st : StE h c D N) (mk : ∀ p, 0 ≤ p → p < 8 → N (8 + p) = 0 ∨ N (8 + p) = 1) : ∃ h', Stan_copy F b c h = some (0, h') ∧ FrS b h h' ∧ StE h' b D N := by
  obtain ⟨hc, sw, sp, s8, sa⟩ := st
  have far : c + 12 ≤ b ∨ b + 12 ≤ c := by
    unfold isSt at hb hc
    omega
  have k2 : ∀ h1, FrS b h h1 → (∀ v, 0 ≤ v → v < 3 → ∀ k, 0 ≤ k → k < 5 → rd h1 (b + 9 + v) k = rd h (c + 9 + v) k) → ∃ h', Stan_copy_L30 F F b c 0 h1 = some (0, h') ∧ FrS b h h' ∧ StE h' b D N := by
    intro h1 f1 wk1
    refine loopE (fun n i g => Stan_copy_L30 F n b c (i : Nat) g) 8 (fun i g => FrS b h g ∧ (∀ v, 0 ≤ v → v < 3 → ∀ k, 0 ≤ k → k < 5 → rd g (b + 9 + v) k = rd h (c + 9 + v) k) ∧ ∀ q, 0 ≤ q → q < (i : Int) → rd g (b + 2) q = rd h (c + 2) q ∧ rd g (b + 3) q = rd h (c + 3) q ∧ rd g (b + 4) q = rd h (c + 4) q ∧ rd g (b + 5) q = rd h (c + 5) q) (fun o => ∃ h', o = some (0, h') ∧ FrS b h h' ∧ StE h' b D N) (fun n i g hi P => Or.inl ?_) (fun n g P => ?_) 8 F 0 h1 rfl (by omega) ⟨f1, wk1, fun q q0 q1 => absurd q1 (by omega)⟩
    · obtain ⟨f, wk, ps⟩ := P
      have g1 := FrS_wr (a := b + 2) (i := (i : Int)) (v := rd h (c + 2) i) f (by omega) (okS hb (by decide))
      have g2 := FrS_wr (a := b + 3) (i := (i : Int)) (v := rd h (c + 3) i) g1 (by omega) (okS hb (by decide))
      have g3 := FrS_wr (a := b + 4) (i := (i : Int)) (v := rd h (c + 4) i) g2 (by omega) (okS hb (by decide))
      have g4 := FrS_wr (a := b + 5) (i := (i : Int)) (v := rd h (c + 5) i) g3 (by omega) (okS hb (by decide))
      have h01 : rd h (c + 5) i = 0 ∨ rd h (c + 5) i = 1 := by
        rw [(sp i (by omega) (by omega)).2.2.2]
        exact mk i (by omega) (by omega)
      refine ⟨_, ⟨g4, fun v v0 v1 k k0 k1 => ?_, fun q q0 q1 => ?_⟩, ?_⟩
      · rw [rd_a (by omega), rd_a (by omega), rd_a (by omega), rd_a (by omega)]
        exact wk v v0 v1 k k0 k1
      · by_cases cq : q = (i : Int)
        · subst cq
          refine ⟨?_, ?_, ?_, ?_⟩
          · rw [rd_a (by omega), rd_a (by omega), rd_a (by omega), rd_same]
          · rw [rd_a (by omega), rd_a (by omega), rd_same]
          · rw [rd_a (by omega), rd_same]
          · rw [rd_same]
        · obtain ⟨p1, p2, p3, p4⟩ := ps q q0 (by omega)
          refine ⟨?_, ?_, ?_, ?_⟩
          · rw [rd_a (by omega), rd_a (by omega), rd_a (by omega), rd_i cq]; exact p1
          · rw [rd_a (by omega), rd_a (by omega), rd_i cq, rd_a (by omega)]; exact p2
          · rw [rd_a (by omega), rd_i cq, rd_a (by omega), rd_a (by omega)]; exact p3
          · rw [rd_i cq, rd_a (by omega), rd_a (by omega), rd_a (by omega)]; exact p4
      · show Stan_copy_L30s F (Stan_copy_L30 F n) b c _ g = _
        unfold Stan_copy_L30s
        rw [if_pos (by omega), gS1 f.2.1 hb, gS1 f.2.1 hc, aS1 f.2.1 hc (by omega) (by omega), f.2.2 (c + 2) (by omega), sS1 f.2.1 hb (by omega) (by omega), gS2 g1.2.1 hb, gS2 g1.2.1 hc, aS2 g1.2.1 hc (by omega) (by omega), g1.2.2 (c + 3) (by omega), sS2 g1.2.1 hb (by omega) (by omega), gS3 g2.2.1 hb, gS3 g2.2.1 hc, aS3 g2.2.1 hc (by omega) (by omega), g2.2.2 (c + 4) (by omega), sS3 g2.2.1 hb (by omega) (by omega), gS4 g3.2.1 hb, gS4 g3.2.1 hc, aS4 g3.2.1 hc (by omega) (by omega), g3.2.2 (c + 5) (by omega), sS4 g3.2.1 hb (by omega) (by omega) h01, w32_nat (by omega)]
    · obtain ⟨f, wk, ps⟩ := P
      have g1 := FrS_cpy (a := c + 6) (j := 6) hb f (by omega)
      have g2 := FrS_cpy (a := c + 7) (j := 7) hb g1 (by omega)
      have g3 := FrS_cpy (a := c + 8) (j := 8) hb g2 (by omega)
      have g4 := FrS_wr (a := b) (i := 8) (v := rd h c 8) g3 (by omega) (okS8 hb)
      have E : ∀ x j, x ≠ b → ¬ (b + 6 ≤ x ∧ x ≤ b + 8) → rd (wr (cpy (cpy (cpy g (c + 6) 0 (b + 6) 0 30) (c + 7) 0 (b + 7) 0 30) (c + 8) 0 (b + 8) 0 30) b 8 (rd h c 8)) x j = rd g x j := by
        intro x j x1 x2
        rw [rd_a x1, rd_cpy, if_neg (by omega), rd_cpy, if_neg (by omega), rd_cpy, if_neg (by omega)]
      refine ⟨_, ?_, g4, hb, fun w w0 w1 => ?_, fun p p0 p1 => ?_, ?_, fun i i0 i1 i2 => ?_⟩
      · show Stan_copy_L30s F (Stan_copy_L30 F n) b c _ g = _
        unfold Stan_copy_L30s
        rw [if_neg (by omega)]
        unfold Stan_copy_B90
        rw [gS5 f.2.1 hc, gS5 f.2.1 hb, acpS f.2.1 hb hc (by omega), gS6 g1.2.1 hc, gS6 g1.2.1 hb, acpS g1.2.1 hb hc (by omega), gS7 g2.2.1 hc, gS7 g2.2.1 hb, acpS g2.2.1 hb hc (by omega), gS8 g3.2.1 hc, g3.2.2 c (by omega), pS8 g3.2.1 hb]
      · obtain ⟨y0, y1, y2, y3, y4, y5⟩ := sw w w0 w1
        have W := wk w w0 (by omega)
        refine ⟨stWk hb (by omega), ?_, ?_, ?_, ?_, ?_⟩
        · rw [E _ _ (by omega) (by omega), W 0 (by omega) (by omega)]; exact y1
        · rw [E _ _ (by omega) (by omega), W 1 (by omega) (by omega)]; exact y2
        · rw [E _ _ (by omega) (by omega), W 2 (by omega) (by omega)]; exact y3
        · rw [E _ _ (by omega) (by omega), W 3 (by omega) (by omega)]; exact y4
        · rw [E _ _ (by omega) (by omega), W 4 (by omega) (by omega)]; exact y5
      · obtain ⟨y1, y2, y3, y4⟩ := ps p p0 (by omega)
        rw [E _ _ (by omega) (by omega), E _ _ (by omega) (by omega), E _ _ (by omega) (by omega), E _ _ (by omega) (by omega), y1, y2, y3, y4]
        exact sp p p0 p1
      · rw [rd_same]; exact s8
      · obtain ⟨y1, y2, y3⟩ := sa i i0 i1 i2
        have z1 := congrFun (f.2.2 (c + 6) (by omega)) i
        have z2 := congrFun (f.2.2 (c + 7) (by omega)) i
        have z3 := congrFun (f.2.2 (c + 8) (by omega)) i
        refine ⟨?_, ?_, ?_⟩
        · rw [rd_a (by omega), rd_cpy, if_neg (by omega), rd_cpy, if_neg (by omega), rd_cpy, if_pos (by omega), show (0:Int) + (i - 0) = i by omega, z1]; exact y1
        · rw [rd_a (by omega), rd_cpy, if_neg (by omega), rd_cpy, if_pos (by omega), show (0:Int) + (i - 0) = i by omega, rd_cpy, if_neg (by omega), z2]; exact y2
        · rw [rd_a (by omega), rd_cpy, if_pos (by omega), show (0:Int) + (i - 0) = i by omega, rd_cpy, if_neg (by omega), rd_cpy, if_neg (by omega), z3]; exact y3
  unfold Stan_copy
  refine loopE (fun n i g => Stan_copy_L2 F n b c (i : Nat) g) 3 (fun i g => FrS b h g ∧ ∀ v, 0 ≤ v → v < (i : Int) → ∀ k, 0 ≤ k → k < 5 → rd g (b + 9 + v) k = rd h (c + 9 + v) k) (fun o => ∃ h', o = some (0, h') ∧ FrS b h h' ∧ StE h' b D N) (fun n i g hi P => Or.inl ?_) (fun n g P => ?_) 3 F 0 h rfl (by omega) ⟨FrS_refl s, fun q q0 q1 => absurd q1 (by omega)⟩
  · obtain ⟨f, wk⟩ := P
    have iw : isWk (b + 9 + (i : Int)) := stWk hb (by omega)
    have ic : isWk (c + 9 + (i : Int)) := stWk hc (by omega)
    have g1 := FrS_wr (a := b + 9 + i) (i := 0) (v := rd g (c + 9 + i) 0) f (by omega) (wk_ok iw)
    have g2 := FrS_wr (a := b + 9 + i) (i := 1) (v := rd g (c + 9 + i) 1) g1 (by omega) (wk_ok iw)
    have g3 := FrS_wr (a := b + 9 + i) (i := 2) (v := rd g (c + 9 + i) 2) g2 (by omega) (wk_ok iw)
    have g4 := FrS_wr (a := b + 9 + i) (i := 3) (v := rd g (c + 9 + i) 3) g3 (by omega) (wk_ok iw)
    have g5 := FrS_wr (a := b + 9 + i) (i := 4) (v := rd g (c + 9 + i) 4) g4 (by omega) (wk_ok iw)
    refine ⟨_, ⟨g5, fun v v0 v1 k k0 k1 => ?_⟩, ?_⟩
    · by_cases cv : v = (i : Int)
      · subst cv
        have z := f.2.2 (c + 9 + (i : Int)) (by omega)
        have hk : k = 0 ∨ k = 1 ∨ k = 2 ∨ k = 3 ∨ k = 4 := by omega
        rcases hk with e | e | e | e | e <;> subst e
        · rw [rd_i (by decide), rd_i (by decide), rd_i (by decide), rd_i (by decide), rd_same, z]
        · rw [rd_i (by decide), rd_i (by decide), rd_i (by decide), rd_same, z]
        · rw [rd_i (by decide), rd_i (by decide), rd_same, z]
        · rw [rd_i (by decide), rd_same, z]
        · rw [rd_same, z]
      · rw [rd_a (by omega), rd_a (by omega), rd_a (by omega), rd_a (by omega), rd_a (by omega)]
        exact wk v v0 (by omega) k k0 k1
    · show Stan_copy_L2s F (Stan_copy_L2 F n) b c _ g = _
      unfold Stan_copy_L2s
      rw [if_pos (by omega), gS0 f.2.1 hb, aS0 f.2.1 hb (by omega) (by omega), gS0 f.2.1 hc, aS0 f.2.1 hc (by omega) (by omega), ivW f.2.1 iw, c_wcopy f.2.1 iw ic (by omega), cl_some, w32_nat (by omega)]
  · obtain ⟨f, wk⟩ := P
    show ∃ h', Stan_copy_L2s F (Stan_copy_L2 F n) b c _ g = _ ∧ _
    unfold Stan_copy_L2s
    rw [if_neg (by omega)]
    exact k2 g f (fun v v0 v1 => wk v v0 (by omega))
