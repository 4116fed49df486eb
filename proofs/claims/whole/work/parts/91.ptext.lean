/-! what a text tells: its numbers, names and laws are in order -/
theorem Agr_refl {K V P M : Nat → Int} {e : Nat} (h4 : e ≤ 400) (he : K e = 20 ∨ e = 400) : Agr K V P M K V P M e := ⟨h4, he, fun t _ => ⟨rfl, rfl, fun _ => rfl, fun u _ _ _ => Iff.rfl⟩⟩
def Txi (K : Nat → Int) (e : Nat) (s : Sg) : Prop := s.1 ≤ e ∧ nmI K s.2.1 e ∧ ((0 ≤ s.2.1 0 0 ∧ s.2.1 0 0 ≤ 8) ∧ (0 ≤ s.2.1 1 0 ∧ s.2.1 1 0 ≤ 3)) ∧ s.2.1 25 0 = s.2.1 0 0 + s.2.1 1 0 ∧ (s.2.2.2.1 = 0 → Tex s.2.1) ∧ (s.2.2.2.1 = 0 ∨ s.2.2.2.1 = 3 ∨ s.2.2.2.1 = 5) ∧ ∀ k, LwOk (s.2.2.1 k)
theorem num_w {v lo hi : Int} {w : Int × Int} {p : Int} : ((if (v < lo ∨ hi < v) ∧ w.1 = 0 then ((5 : Int), p) else w).1 = 0 → w.1 = 0 ∧ lo ≤ v ∧ v ≤ hi) ∧ ((w.1 = 0 ∨ w.1 = 3 ∨ w.1 = 5) → ((if (v < lo ∨ hi < v) ∧ w.1 = 0 then ((5 : Int), p) else w).1 = 0 ∨ (if (v < lo ∨ hi < v) ∧ w.1 = 0 then ((5 : Int), p) else w).1 = 3 ∨ (if (v < lo ∨ hi < v) ∧ w.1 = 0 then ((5 : Int), p) else w).1 = 5)) := by
  by_cases c : (v < lo ∨ hi < v) ∧ w.1 = 0
  · rw [if_pos c]
    exact ⟨fun h => absurd h (by show ¬ (5 : Int) = 0; decide), fun _ => Or.inr (Or.inr rfl)⟩
  · rw [if_neg c]
    exact ⟨fun h => ⟨h, by omega⟩, fun h => h⟩
theorem nam_w {b : Prop} [Decidable b] {w : Int × Int} {p : Int} : ((if b ∧ w.1 = 0 then ((3 : Int), p) else w).1 = 0 → w.1 = 0) ∧ ((w.1 = 0 ∨ w.1 = 3 ∨ w.1 = 5) → ((if b ∧ w.1 = 0 then ((3 : Int), p) else w).1 = 0 ∨ (if b ∧ w.1 = 0 then ((3 : Int), p) else w).1 = 3 ∨ (if b ∧ w.1 = 0 then ((3 : Int), p) else w).1 = 5)) := by
  by_cases c : b ∧ w.1 = 0
  · rw [if_pos c]
    exact ⟨fun h => absurd h (by show ¬ (3 : Int) = 0; decide), fun _ => Or.inr (Or.inl rfl)⟩
  · rw [if_neg c]
    exact ⟨fun h => h, fun h => h⟩
theorem pIf_ok {K V P : Nat → Int} : ∀ (n t : Nat) (L : Lw) (q : Nat × Lw), t ≤ 400 → LwOk L → pIf K V P n t L = Sum.inr q → LwOk q.2 := by
  have app : ∀ (L : Lw) (b : Option (Cds × Cds) × Cds), LwOk L → (Ex 15 b.2 ∧ ∀ t, b.1 = some t → Ex 15 t.1 ∧ Ex 15 t.2) → LwOk (L ++ [b]) := by
    intro L b h1 h2 u hu
    rcases List.mem_append.mp hu with h | h
    · exact h1 u h
    · rw [List.mem_singleton] at h; subst h; exact h2
  have last : ∀ (t : Nat) (L : Lw) (q : Nat × Lw), t ≤ 400 → LwOk L → rbd (pE K V P t []) (fun q => Sum.inr (q.1, L ++ [(none, q.2)])) = Sum.inr q → LwOk q.2 := by
    intro t L q ht hL h
    obtain ⟨r, h1, h2⟩ := rbd_inr h
    obtain ⟨-, -, x, g3, g4, -⟩ := Gd_S K V P 6 t [] r.1 r.2 ht h1
    cases h2
    rw [List.nil_append] at g3
    rw [g3]
    exact app L _ hL ⟨g4, fun t h => by cases h⟩
  intro n
  induction n with
  | zero =>
    intro t L q ht hL h
    unfold pIf at h
    split at h
    · cases h
    · exact last t L q ht hL h
  | succ n ih =>
    intro t L q ht hL h
    unfold pIf at h
    split at h
    · obtain ⟨t1, h1, h⟩ := rbd_inr h
      obtain ⟨-, k1, rfl⟩ := pAcc_inr h1
      obtain ⟨a, h2, h⟩ := rbd_inr h
      obtain ⟨-, g2, x1, g3, g4, -⟩ := Gd_S K V P 6 _ [] a.1 a.2 (by omega) h2
      obtain ⟨t2, h3, h⟩ := rbd_inr h
      obtain ⟨-, k3, rfl⟩ := pAcc_inr h3
      obtain ⟨b, h4, h⟩ := rbd_inr h
      obtain ⟨-, g6, x2, g7, g8, -⟩ := Gd_S K V P 6 _ [] b.1 b.2 (by omega) h4
      obtain ⟨t3, h5, h⟩ := rbd_inr h
      obtain ⟨-, k5, rfl⟩ := pAcc_inr h5
      obtain ⟨c, h6, h⟩ := rbd_inr h
      obtain ⟨-, g10, x3, g11, g12, -⟩ := Gd_S K V P 6 _ [] c.1 c.2 (by omega) h6
      obtain ⟨t4, h7, h⟩ := rbd_inr h
      obtain ⟨-, k7, rfl⟩ := pAcc_inr h7
      rw [List.nil_append] at g3 g7 g11
      refine ih _ _ q (by omega) (app L _ hL ⟨by rw [g11]; exact g12, fun t ht => ?_⟩) h
      cases ht
      exact ⟨by rw [g3]; exact g4, by rw [g7]; exact g8⟩
    · exact last t L q ht hL h
theorem Txi_tell {K V P M : Nat → Int} {e : Nat} (h4 : e ≤ 400) (he : K e = 20 ∨ e = 400) {s s' : Sg} (g : Txi K e s) (h : pTell K V P M s = Sum.inr s') : Txi K e s' := by
  have a : Agr K V P M K V P M e := Agr_refl h4 he
  obtain ⟨hs, hX, ⟨hp, hw⟩, h25, hT, hwr, hL⟩ := g
  have c0 : Cle (cBeg s) e := fun q h => by cases h; exact hs
  have A := fun (k : Int) (hk : k ≠ 20) (r : Ch) (hr : Cle r e) => (Ag_cAcc a (k := k) hk hr).2
  have N := fun (lo hi : Int) (r : Ch) (hr : Cle r e) => (Ag_cNum a (lo := lo) (hi := hi) hr).2
  have M1 := fun (r : Ch) (hr : Cle r e) => (Ag_cName a hX hr).2
  unfold pTell at h
  split at h
  · unfold pPart at h
    split at h
    · cases h
    · rename_i h8
      obtain ⟨q, h1, h2⟩ := rbd_inr h
      have l1 := A 0 (by decide) _ c0
      have l2 := M1 _ l1
      have l6 := N 1 60 _ (N 0 99 _ (N 0 99 _ (N 0 99 _ l2)))
      have lf := A 59 (by decide) _ l6 q h1
      obtain ⟨q5, r5, -, a5, e6⟩ := cAcc_inr h1
      obtain ⟨q4, r4, -, -, e5⟩ := cNum_inr r5
      obtain ⟨q3, r3, -, -, e4⟩ := cNum_inr r4
      obtain ⟨q2, r2, -, -, e3⟩ := cNum_inr r3
      obtain ⟨q1, r1, -, -, e2⟩ := cNum_inr r2
      obtain ⟨qn, r0, k18, -, e1⟩ := cName_inr r1
      obtain ⟨qa, ra, -, -, e0⟩ := cAcc_inr r0
      cases ra
      have le := l1 qn r0
      have v0 : qn.2 = (s.2.2.2, []) := by rw [e0]
      have v1 : q1.2.2 = [(qn.1 : Int)] := by rw [e1]; show (qn.1 : Int) :: qn.2.2 = _; rw [v0]
      have v2 : q2.2.2 = [V q1.1, (qn.1 : Int)] := by rw [e2]; show V q1.1 :: q1.2.2 = _; rw [v1]
      have v3 : q3.2.2 = [V q2.1, V q1.1, (qn.1 : Int)] := by rw [e3]; show V q2.1 :: q2.2.2 = _; rw [v2]
      have v4 : q4.2.2 = [V q3.1, V q2.1, V q1.1, (qn.1 : Int)] := by rw [e4]; show V q3.1 :: q3.2.2 = _; rw [v3]
      have v5 : q.2.2 = [V q4.1, V q3.1, V q2.1, V q1.1, (qn.1 : Int)] := by rw [e6]; show q5.2.2 = _; rw [e5]; show V q4.1 :: q4.2.2 = _; rw [v4]
      rw [v5] at h2
      simp only at h2
      cases h2
      have w5 : q.2.1 = q5.2.1 := by rw [e6]
      have m5 := num_w (v := V q4.1) (lo := 1) (hi := 60) (w := q4.2.1) (p := P q4.1)
      have m4 := num_w (v := V q3.1) (lo := 0) (hi := 99) (w := q3.2.1) (p := P q3.1)
      have m3 := num_w (v := V q2.1) (lo := 0) (hi := 99) (w := q2.2.1) (p := P q2.1)
      have m2 := num_w (v := V q1.1) (lo := 0) (hi := 99) (w := q1.2.1) (p := P q1.1)
      have m1 := nam_w (b := exN (fun i => decide (M (s.2.1 24 i).toNat = M qn.1)) 0 (s.2.1 25 0).toNat = true) (w := qn.2.1) (p := P qn.1)
      have f5 : q5.2.1 = if (V q4.1 < 1 ∨ 60 < V q4.1) ∧ q4.2.1.1 = 0 then (5, P q4.1) else q4.2.1 := by rw [e5]
      have f4 : q4.2.1 = if (V q3.1 < 0 ∨ 99 < V q3.1) ∧ q3.2.1.1 = 0 then (5, P q3.1) else q3.2.1 := by rw [e4]
      have f3 : q3.2.1 = if (V q2.1 < 0 ∨ 99 < V q2.1) ∧ q2.2.1.1 = 0 then (5, P q2.1) else q2.2.1 := by rw [e3]
      have f2 : q2.2.1 = if (V q1.1 < 0 ∨ 99 < V q1.1) ∧ q1.2.1.1 = 0 then (5, P q1.1) else q1.2.1 := by rw [e2]
      have f1 : q1.2.1 = if exN (fun i => decide (M (s.2.1 24 i).toNat = M qn.1)) 0 (s.2.1 25 0).toNat = true ∧ qn.2.1.1 = 0 then (3, P qn.1) else qn.2.1 := by rw [e1]
      rw [← f5] at m5
      rw [← f4] at m4
      rw [← f3] at m3
      rw [← f2] at m2
      rw [← f1] at m1
      have f0 : qn.2.1 = s.2.2.2 := by rw [v0]
      rw [f0] at m1
      generalize q5.2.1 = W5 at w5 m5
      generalize V q4.1 = b4 at m5
      generalize V q3.1 = b3 at m4
      generalize V q2.1 = b2 at m3
      generalize V q1.1 = b1 at m2
      refine ⟨lf, fun i i0 i1 => ?_, ?_, ?_, fun hz => ?_, ?_, hL⟩
      · simp [up2] at i1 ⊢
        by_cases c : i = s.2.1 25 0
        · rw [if_pos c, Int.toNat_natCast]; exact ⟨by omega, k18⟩
        · rw [if_neg c]; have z := hX i i0 (by omega); exact ⟨by omega, z.2⟩
      · simp [up2]; omega
      · simp [up2]; omega
      · simp only at hz
        rw [w5] at hz
        obtain ⟨z5, y5⟩ := m5.1 hz
        obtain ⟨z4, y4⟩ := m4.1 z5
        obtain ⟨z3, y3⟩ := m3.1 z4
        obtain ⟨z2, y2⟩ := m2.1 z3
        obtain ⟨t0, t1, t2, t3, t4⟩ := hT (m1.1 z2)
        unfold Tex
        refine ⟨by simp [up2]; omega, by simp [up2]; omega, fun p p0 p1 => ?_, fun w w0 w1 => ?_, by simp [up2]; exact t4⟩
        · simp [up2] at p1 ⊢
          by_cases c : p = s.2.1 0 0
          · simp [c]; omega
          · simp [c]; have := t2 p p0 (by omega); omega
        · simp [up2] at w1 ⊢
          have := t3 w w0 w1; omega
      · simp only
        rw [w5]
        exact m5.2 (m4.2 (m3.2 (m2.2 (m1.2 hwr))))
  · split at h
    · unfold pWork at h
      split at h
      · cases h
      · rename_i h8
        obtain ⟨q, h1, h2⟩ := rbd_inr h
        have l1 := A 1 (by decide) _ c0
        have l2 := M1 _ l1
        have l6 := N 1 20 _ (N 0 99 _ (N 0 99 _ l2))
        have lf := A 59 (by decide) _ l6 q h1
        obtain ⟨q5, r5, -, a5, e6⟩ := cAcc_inr h1
        obtain ⟨q4, r4, -, -, e5⟩ := cNum_inr r5
        obtain ⟨q2, r2, -, -, e3⟩ := cNum_inr r4
        obtain ⟨q1, r1, -, -, e2⟩ := cNum_inr r2
        obtain ⟨qn, r0, k18, -, e1⟩ := cName_inr r1
        obtain ⟨qa, ra, -, -, e0⟩ := cAcc_inr r0
        cases ra
        have le := l1 qn r0
        have v0 : qn.2 = (s.2.2.2, []) := by rw [e0]
        have v1 : q1.2.2 = [(qn.1 : Int)] := by rw [e1]; show (qn.1 : Int) :: qn.2.2 = _; rw [v0]
        have v2 : q2.2.2 = [V q1.1, (qn.1 : Int)] := by rw [e2]; show V q1.1 :: q1.2.2 = _; rw [v1]
        have v4 : q4.2.2 = [V q2.1, V q1.1, (qn.1 : Int)] := by rw [e3]; show V q2.1 :: q2.2.2 = _; rw [v2]
        have v5 : q.2.2 = [V q4.1, V q2.1, V q1.1, (qn.1 : Int)] := by rw [e6]; show q5.2.2 = _; rw [e5]; show V q4.1 :: q4.2.2 = _; rw [v4]
        rw [v5] at h2
        simp only at h2
        cases h2
        have w5 : q.2.1 = q5.2.1 := by rw [e6]
        have m5 := num_w (v := V q4.1) (lo := 1) (hi := 20) (w := q4.2.1) (p := P q4.1)
        have m3 := num_w (v := V q2.1) (lo := 0) (hi := 99) (w := q2.2.1) (p := P q2.1)
        have m2 := num_w (v := V q1.1) (lo := 0) (hi := 99) (w := q1.2.1) (p := P q1.1)
        have m1 := nam_w (b := exN (fun i => decide (M (s.2.1 24 i).toNat = M qn.1)) 0 (s.2.1 25 0).toNat = true) (w := qn.2.1) (p := P qn.1)
        have f5 : q5.2.1 = if (V q4.1 < 1 ∨ 20 < V q4.1) ∧ q4.2.1.1 = 0 then (5, P q4.1) else q4.2.1 := by rw [e5]
        have f3 : q4.2.1 = if (V q2.1 < 0 ∨ 99 < V q2.1) ∧ q2.2.1.1 = 0 then (5, P q2.1) else q2.2.1 := by rw [e3]
        have f2 : q2.2.1 = if (V q1.1 < 0 ∨ 99 < V q1.1) ∧ q1.2.1.1 = 0 then (5, P q1.1) else q1.2.1 := by rw [e2]
        have f1 : q1.2.1 = if exN (fun i => decide (M (s.2.1 24 i).toNat = M qn.1)) 0 (s.2.1 25 0).toNat = true ∧ qn.2.1.1 = 0 then (3, P qn.1) else qn.2.1 := by rw [e1]
        rw [← f5] at m5
        rw [← f3] at m3
        rw [← f2] at m2
        rw [← f1] at m1
        have f0 : qn.2.1 = s.2.2.2 := by rw [v0]
        rw [f0] at m1
        generalize q5.2.1 = W5 at w5 m5
        generalize V q4.1 = b4 at m5
        generalize V q2.1 = b2 at m3
        generalize V q1.1 = b1 at m2
        refine ⟨lf, fun i i0 i1 => ?_, ?_, ?_, fun hz => ?_, ?_, hL⟩
        · simp [up2] at i1 ⊢
          by_cases c : i = s.2.1 25 0
          · rw [if_pos c, Int.toNat_natCast]; exact ⟨by omega, k18⟩
          · rw [if_neg c]; have z := hX i i0 (by omega); exact ⟨by omega, z.2⟩
        · simp [up2]; omega
        · simp [up2]; omega
        · simp only at hz
          rw [w5] at hz
          obtain ⟨z5, y5⟩ := m5.1 hz
          obtain ⟨z3, y3⟩ := m3.1 z5
          obtain ⟨z2, y2⟩ := m2.1 z3
          obtain ⟨t0, t1, t2, t3, t4⟩ := hT (m1.1 z2)
          unfold Tex
          refine ⟨by simp [up2]; omega, by simp [up2]; omega, fun p p0 p1 => ?_, fun w w0 w1 => ?_, by simp [up2]; exact t4⟩
          · simp [up2] at p1 ⊢
            have := t2 p p0 p1; omega
          · simp [up2] at w1 ⊢
            by_cases c : w = s.2.1 1 0
            · simp [c]; omega
            · simp [c]; have := t3 w w0 (by omega); omega
        · simp only
          rw [w5]
          exact m5.2 (m3.2 (m2.2 (m1.2 hwr)))
    · have two : ∀ (k lo hi : Int) (x y : Nat), k ≠ 20 → (x = 17 ∧ y = 18 ∧ lo = 1 ∧ hi = 600) ∨ (x = 20 ∧ y = 21 ∧ lo = 0 ∧ hi = 99) → pTwo K V P s k x y lo hi = Sum.inr s' → Txi K e s' := by
        intro k lo hi x y hk hxy h
        unfold pTwo at h
        obtain ⟨q, h1, h2⟩ := rbd_inr h
        have l1 := A k hk _ c0
        have lf := A 59 (by decide) _ (N lo hi _ (N lo hi _ l1)) q h1
        obtain ⟨q5, r5, -, a5, e6⟩ := cAcc_inr h1
        obtain ⟨q4, r4, -, -, e5⟩ := cNum_inr r5
        obtain ⟨q1, r1, -, -, e2⟩ := cNum_inr r4
        obtain ⟨qa, ra, -, -, e0⟩ := cAcc_inr r1
        cases ra
        have v0 : q1.2 = (s.2.2.2, []) := by rw [e0]
        have v2 : q4.2.2 = [V q1.1] := by rw [e2]; show V q1.1 :: q1.2.2 = _; rw [v0]
        have v5 : q.2.2 = [V q4.1, V q1.1] := by rw [e6]; show q5.2.2 = _; rw [e5]; show V q4.1 :: q4.2.2 = _; rw [v2]
        rw [v5] at h2
        simp only at h2
        cases h2
        have w5 : q.2.1 = q5.2.1 := by rw [e6]
        have m5 := num_w (v := V q4.1) (lo := lo) (hi := hi) (w := q4.2.1) (p := P q4.1)
        have m2 := num_w (v := V q1.1) (lo := lo) (hi := hi) (w := q1.2.1) (p := P q1.1)
        have f5 : q5.2.1 = if (V q4.1 < lo ∨ hi < V q4.1) ∧ q4.2.1.1 = 0 then (5, P q4.1) else q4.2.1 := by rw [e5]
        have f2 : q4.2.1 = if (V q1.1 < lo ∨ hi < V q1.1) ∧ q1.2.1.1 = 0 then (5, P q1.1) else q1.2.1 := by rw [e2]
        rw [← f5] at m5
        rw [← f2] at m2
        have f0 : q1.2.1 = s.2.2.2 := by rw [v0]
        rw [f0] at m2
        generalize q5.2.1 = W5 at w5 m5
        generalize V q4.1 = b4 at m5
        generalize V q1.1 = b1 at m2
        rcases hxy with ⟨rfl, rfl, rfl, rfl⟩ | ⟨rfl, rfl, rfl, rfl⟩
        · refine ⟨lf, fun i i0 i1 => ?_, ?_, ?_, fun hz => ?_, ?_, hL⟩
          · simp [up2] at i1 ⊢; have z := hX i i0 i1; exact ⟨by omega, z.2⟩
          · simp [up2]; omega
          · simp [up2]; omega
          · simp only at hz
            rw [w5] at hz
            obtain ⟨z5, y5⟩ := m5.1 hz
            obtain ⟨z2, y2⟩ := m2.1 z5
            obtain ⟨t0, t1, t2, t3, t4, t5, t6⟩ := hT z2
            unfold Tex
            simp [up2]
            refine ⟨t0, t1, t2, t3, by omega, by omega, t6⟩
          · simp only
            rw [w5]
            exact m5.2 (m2.2 hwr)
        · refine ⟨lf, fun i i0 i1 => ?_, ?_, ?_, fun hz => ?_, ?_, hL⟩
          · simp [up2] at i1 ⊢; have z := hX i i0 i1; exact ⟨by omega, z.2⟩
          · simp [up2]; omega
          · simp [up2]; omega
          · simp only at hz
            rw [w5] at hz
            obtain ⟨z5, y5⟩ := m5.1 hz
            obtain ⟨z2, y2⟩ := m2.1 z5
            obtain ⟨t0, t1, t2, t3, t4, t5, t6, t7, t8⟩ := hT z2
            unfold Tex
            simp [up2]
            refine ⟨t0, t1, t2, t3, t4, t5, by omega, by omega, t8⟩
          · simp only
            rw [w5]
            exact m5.2 (m2.2 hwr)
      split at h
      · unfold pLaw at h
        obtain ⟨t1, h1, h⟩ := rbd_inr h
        obtain ⟨-, k1, e1⟩ := pAcc_inr h1
        obtain ⟨t2, h2, h⟩ := rbd_inr h
        obtain ⟨-, k2, e2⟩ := pAcc_inr h2
        obtain ⟨q, h3, h⟩ := rbd_inr h
        obtain ⟨t3, h5, h⟩ := rbd_inr h
        have ok := pIf_ok 4 t2 [] q (by omega) (fun u hu => by cases hu) h3
        rename_i hk
        have t1e := (Agr_acc a hs (k := K s.1) (by omega)).2 t1 h1
        have t2e := (Agr_acc a t1e (k := 61) (by decide)).2 t2 h2
        have qe := (Ag_If a 4 t2 [] t2e).2 q h3
        have t3e := (Agr_acc a qe (k := 59) (by decide)).2 t3 h5
        cases h
        refine ⟨t3e, hX, ⟨hp, hw⟩, h25, hT, hwr, fun k => ?_⟩
        show LwOk (if (k : Int) = K s.1 - 2 then q.2 else s.2.2.1 k)
        split
        · exact ok
        · exact hL k
      · split at h
        · exact two 7 1 600 17 18 (by decide) (Or.inl ⟨rfl, rfl, rfl, rfl⟩) h
        · split at h
          · exact two 8 0 99 20 21 (by decide) (Or.inr ⟨rfl, rfl, rfl, rfl⟩) h
          · split at h
            · unfold pOne at h
              obtain ⟨q, h1, h2⟩ := rbd_inr h
              have l1 := A 9 (by decide) _ c0
              have lf := A 59 (by decide) _ (N 0 9999 _ l1) q h1
              obtain ⟨q5, r5, -, a5, e6⟩ := cAcc_inr h1
              obtain ⟨q1, r1, -, -, e2⟩ := cNum_inr r5
              obtain ⟨qa, ra, -, -, e0⟩ := cAcc_inr r1
              cases ra
              have v0 : q1.2 = (s.2.2.2, []) := by rw [e0]
              have v5 : q.2.2 = [V q1.1] := by rw [e6]; show q5.2.2 = _; rw [e2]; show V q1.1 :: q1.2.2 = _; rw [v0]
              rw [v5] at h2
              simp only at h2
              cases h2
              have w5 : q.2.1 = q5.2.1 := by rw [e6]
              have m2 := num_w (v := V q1.1) (lo := 0) (hi := 9999) (w := q1.2.1) (p := P q1.1)
              have f2 : q5.2.1 = if (V q1.1 < 0 ∨ 9999 < V q1.1) ∧ q1.2.1.1 = 0 then (5, P q1.1) else q1.2.1 := by rw [e2]
              rw [← f2] at m2
              have f0 : q1.2.1 = s.2.2.2 := by rw [v0]
              rw [f0] at m2
              generalize q5.2.1 = W5 at w5 m2
              generalize V q1.1 = b1 at m2
              refine ⟨lf, fun i i0 i1 => ?_, ?_, ?_, fun hz => ?_, ?_, hL⟩
              · simp [up2] at i1 ⊢; have z := hX i i0 i1; exact ⟨by omega, z.2⟩
              · simp [up2]; omega
              · simp [up2]; omega
              · simp only at hz
                rw [w5] at hz
                obtain ⟨z2, y2⟩ := m2.1 hz
                obtain ⟨t0, t1, t2, t3, t4, t5, t6, t7, t8⟩ := hT z2
                unfold Tex
                simp [up2]
                refine ⟨t0, t1, t2, t3, t4, t5, t6, t7, by omega⟩
              · simp only
                rw [w5]
                exact m2.2 hwr
            · cases h
theorem Txi_txt {K V P M K' V' P' M' : Nat → Int} {e : Nat} (a : Agr K V P M K' V' P' M' e) : ∀ n s, Txi K e s → pTxt K' V' P' M' n s = pTxt K V P M n s ∧ ∀ s', pTxt K V P M n s = Sum.inr s' → Txi K e s' := by
  intro n
  induction n with
  | zero => intro s g; exact ⟨rfl, fun s' h => by cases h; exact g⟩
  | succ n ih =>
    intro s g
    unfold pTxt
    rw [(a.2.2 s.1 g.1).1]
    by_cases k : K s.1 = 20
    · rw [if_pos k, if_pos k]; exact ⟨rfl, fun s' h => by cases h; exact g⟩
    · rw [if_neg k, if_neg k]
      refine ⟨rbd_congr (Ag_Tell a g.1 g.2.1) (fun s1 h1 => (ih s1 (Txi_tell a.1 a.2.1 g h1)).1), fun s' h => ?_⟩
      obtain ⟨s1, h1, h2⟩ := rbd_inr h
      exact (ih s1 (Txi_tell a.1 a.2.1 g h1)).2 s' h2
theorem Txi_0 {K : Nat → Int} {e : Nat} : Txi K e sg0 := by
  refine ⟨Nat.zero_le _, fun i h1 h2 => ?_, ⟨⟨?_, ?_⟩, ⟨?_, ?_⟩⟩, rfl, fun _ => ?_, Or.inl rfl, fun k u hu => by cases hu⟩
  · have : sg0.2.1 25 0 = 0 := rfl
    omega
  · exact Int.le_refl _
  · show (0 : Int) ≤ 8; decide
  · exact Int.le_refl _
  · show (0 : Int) ≤ 3; decide
  · have z : ∀ k i, k ≠ 17 → k ≠ 18 → sg0.2.1 k i = 0 := fun k i h1 h2 => by show (if k = 17 then (1 : Int) else if k = 18 then 600 else 0) = 0; rw [if_neg h1, if_neg h2]
    have s7 : sg0.2.1 17 0 = 1 := rfl
    have s8 : sg0.2.1 18 0 = 600 := rfl
    unfold Tex
    rw [z 0 0 (by decide) (by decide), z 1 0 (by decide) (by decide), z 20 0 (by decide) (by decide), z 21 0 (by decide) (by decide), z 19 0 (by decide) (by decide), s7, s8]
    refine ⟨by decide, by decide, fun p h1 h2 => by omega, fun p h1 h2 => by omega, by decide, by decide, by decide, by decide, by decide⟩
