/-! the class's errors, settled -/
theorem c_between {F : Nat} {h : Hp} {c p q : Int} {D : Nat → Int → Int} {Λ : Nat → Lw} (s : Sh h) (dk : Dok D) (cx : CxE h c D) (day : Day D Λ) (hp : 0 ≤ p ∧ p < D 0 0) (hq : 0 ≤ q ∧ q < D 0 0) : Scri_farBetween F c p q h = some (awayI (D 6 p) (D 7 p) (D 6 q) (D 7 q), h) := by
  have ic := cx.1
  have h8 : D 0 0 ≤ 8 := dk.1.2
  obtain ⟨p0, p1, -, -⟩ := cx.2.2.2.1 p hp.1 hp.2
  obtain ⟨q0, q1, -, -⟩ := cx.2.2.2.1 q hq.1 hq.2
  obtain ⟨yp6, yp7, -⟩ := day.2 p hp.1 hp.2
  obtain ⟨yq6, yq7, -⟩ := day.2 q hq.1 hq.2
  obtain ⟨bp1, bp2, bp3, bp4, -⟩ := dk.2.2.2.2.2.1 p hp.1 hp.2
  obtain ⟨bq1, bq2, bq3, bq4, -⟩ := dk.2.2.2.2.2.1 q hq.1 hq.2
  unfold Scri_farBetween
  rw [gC0 s ic, aC0 s ic hp.1 (by omega), p0, gC1 s ic, aC1 s ic hp.1 (by omega), p1, gC0 s ic, aC0 s ic hq.1 (by omega), q0, gC1 s ic, aC1 s ic hq.1 (by omega), q1, ← yp6, ← yp7, ← yq6, ← yq7, c_far ⟨bp1, bp2⟩ ⟨bp3, bp4⟩ ⟨bq1, bq2⟩ ⟨bq3, bq4⟩, cl_some]
theorem c_fromPeg {F : Nat} {h : Hp} {c p : Int} {D : Nat → Int → Int} {Λ : Nat → Lw} (s : Sh h) (dk : Dok D) (pk : pegOk D) (cx : CxE h c D) (day : Day D Λ) (hp : 0 ≤ p ∧ p < D 0 0) : Scri_farFromPeg F c p h = some (awayI (D 20 0) (D 21 0) (D 6 p) (D 7 p), h) := by
  have ic := cx.1
  have h8 : D 0 0 ≤ 8 := dk.1.2
  obtain ⟨p0, p1, -, -⟩ := cx.2.2.2.1 p hp.1 hp.2
  obtain ⟨yp6, yp7, -⟩ := day.2 p hp.1 hp.2
  obtain ⟨bp1, bp2, bp3, bp4, -⟩ := dk.2.2.2.2.2.1 p hp.1 hp.2
  unfold Scri_farFromPeg
  rw [gC0 s ic, aC0 s ic hp.1 (by omega), p0, gC1 s ic, aC1 s ic hp.1 (by omega), p1, gC11 s ic, cx.2.2.2.2.2.2.2.1, gC12 s ic, cx.2.2.2.2.2.2.2.2.1, ← yp6, ← yp7, c_far ⟨bp1, bp2⟩ ⟨bp3, bp4⟩ pk.1 pk.2, cl_some, awayI_comm]
theorem ok40 : ∀ i, okW 40 i = true := fun i => okW_arr (by decide) (fun _ => by decide)
theorem ok41 : ∀ i, okW 41 i = true := fun i => okW_arr (by decide) (fun _ => by decide)
theorem bit_or {S x p : Nat} : (S ||| 2 ^ x).testBit p = (S.testBit p || decide (x = p)) := by rw [Nat.testBit_or, Nat.testBit_two_pow]
def Xe (c b : Int) : Prop := b = c + 11 ∨ b = c + 12 ∨ b = 40 ∨ b = 41
/-- a part more to measure from -/
theorem c_measFrom {F : Nat} {h : Hp} {c : Int} {D : Nat → Int → Int} {Λ : Nat → Lw} {S x : Nat} {E G : Int → Int} {v o : Int} (hF : 1000 ≤ F) (s : Sh h) (dy : Dy h) (dk : Dok D) (hc : rd h 22 0 = c) (cx : CxE h c D) (g : CLz h c Λ) (day : Day D Λ) (hS : S < 2 ^ (D 0 0).toNat) (hx : x < (D 0 0).toNat) (hbx : S.testBit x = false) (hv : v = (eb (erV D (Λ 3) E x) S (D 0 0).toNat).1) (ho : o = (eb (erV D (Λ 3) E x) S (D 0 0).toNat).2) (er : ErI h D (Λ 3) S E G) : ∃ h', Shor_measureFrom F 22 x ((S ||| 2 ^ x : Nat) : Int) h = some (0, h') ∧ FrX (Xe c) h h' ∧ Dy h' ∧ ErI h' D (Λ 3) (S ||| 2 ^ x) (up E x v) (up G x o) := by
  have ic := cx.1
  have hcc : c = 9 ∨ c = 23 := ic
  have h8 : D 0 0 ≤ 8 := dk.1.2
  have t8 : 2 ^ (D 0 0).toNat ≤ 256 := two8 (by omega)
  have hS2 := or_lt hS hx
  have nO : ∀ b i, b < 42 → ¬ Own b i := fun b i hb o => by have := own_lt o; omega
  have ex := (er x hx).2 hbx
  unfold Shor_measureFrom
  have key := loopE (fun n i h1 => Shor_measureFrom_L2 F n 22 x ((S ||| 2 ^ x : Nat) : Int) (i : Nat) h1) (D 0 0).toNat (fun i h1 => FrX (Xe c) h h1 ∧ Dy h1 ∧ (∀ p : Nat, i ≤ p → p < (D 0 0).toNat → rd h1 40 p = rd h 40 p ∧ rd h1 41 p = rd h 41 p) ∧ ∀ p : Nat, p < i → (((S ||| 2 ^ x).testBit p = true → rd h1 40 p = rd h 40 p ∧ rd h1 41 p = rd h 41 p) ∧ ((S ||| 2 ^ x).testBit p = false → rd h1 40 p = (eb (erV D (Λ 3) (up E x v) p) (S ||| 2 ^ x) (D 0 0).toNat).1 ∧ rd h1 41 p = (eb (erV D (Λ 3) (up E x v) p) (S ||| 2 ^ x) (D 0 0).toNat).2))) (fun z => ∃ h', z = some (0, h') ∧ FrX (Xe c) h h' ∧ Dy h' ∧ ErI h' D (Λ 3) (S ||| 2 ^ x) (up E x v) (up G x o)) (fun n i h1 hi P => Or.inl ?_) (fun n h1 P => ?_) (D 0 0).toNat F 0 h (by omega) (by omega) ⟨FrX_refl s, dy, fun p _ _ => ⟨rfl, rfl⟩, fun p hp => absurd hp (by omega)⟩
  · exact key
  · obtain ⟨fr, d1, p1, p2⟩ := P
    have s1 := fr.1
    have h22 : rd h1 22 0 = c := by rw [fr.2.2.2.1 22 (by decide) (by unfold Xe; omega)]; exact hc
    have cx1 : CxE h1 c D := CxE_X fr (fun b b1 b2 => by unfold Xe; omega) cx
    have g1 : CLz h1 c Λ := CLz_X ic fr (fun b b1 b2 => by unfold Xe; omega) g
    show ∃ h', _ ∧ Shor_measureFrom_L2s F (Shor_measureFrom_L2 F n) 22 x ((S ||| 2 ^ x : Nat) : Int) (i : Nat) h1 = Shor_measureFrom_L2 F n 22 x ((S ||| 2 ^ x : Nat) : Int) ((i + 1 : Nat) : Int) h'
    unfold Shor_measureFrom_L2s
    rw [gH0 s1, h22, gC4 s1 ic, cx1.2.1, if_pos (by omega), bit_I (S ||| 2 ^ x) (by omega) i (by omega), w32_nat (by omega)]
    by_cases hb : (S ||| 2 ^ x).testBit i = true
    · refine ⟨h1, ⟨fr, d1, fun p q1 q2 => p1 p (by omega) q2, fun p hp => ?_⟩, by rw [if_pos hb, if_neg (by decide)]⟩
      by_cases e : p = i
      · subst e; exact ⟨fun _ => p1 p (Nat.le_refl _) hi, fun z => by rw [hb] at z; exact absurd z (by decide)⟩
      · exact p2 p (by omega)
    · have hb0 := hb
      rw [bit_or, Bool.or_eq_true, decide_eq_true_eq] at hb0
      have hbi : S.testBit i = false := Bool.eq_false_iff.2 (fun z => hb0 (Or.inl z))
      have hxi : x ≠ i := fun z => hb0 (Or.inr z)
      have r40x : rd h1 40 x = v := by
        have e0 : rd h1 40 x = rd h 40 x := by
          by_cases q : i ≤ x
          · exact (p1 x q hx).1
          · exact ((p2 x (by omega)).1 (by rw [bit_or]; simp)).1
        rw [e0, ex.1, hv]
      obtain ⟨i40, i41⟩ := p1 i (Nat.le_refl _) hi
      have ei := (er i hi).2 hbi
      have fx : erV D (Λ 3) (up E x v) i x = w32 (v + slV (Λ 3) (awayI (D 6 x) (D 7 x) (D 6 i) (D 7 i)) v) := by
        unfold erV
        rw [if_neg (by omega), up_s]
      have fq : ∀ q, src S q → erV D (Λ 3) (up E x v) i q = erV D (Λ 3) E i q := fun q hq => erV_congr (fun q0 => up_n (fun z => by
        rcases hq with e | e
        · omega
        · rw [z, Int.toNat_natCast, hbx] at e; exact absurd e.2 (by decide)))
      have em := eb_more (f := erV D (Λ 3) E i) (f' := erV D (Λ 3) (up E x v) i) hS hx fq
      obtain ⟨h2, e2, l2⟩ := c_slip (F := F) (f := awayI (D 6 x) (D 7 x) (D 6 i) (D 7 i)) (o := v) hF s1 ic g1
      have s2 := l2.2.1
      have n2 : ∀ b, b ≠ c + 11 → b ≠ c + 12 → rd h2 b = rd h1 b := l2.2.2
      have f2 : FrX (Xe c) h h2 := FrX_trans fr (FrX_mono (fun b hb => by unfold Xe; omega) (FrX_Lc ic l2))
      have d2 := Dy_Lc ic l2 d1
      have j40 : rd h2 40 i = (eb (erV D (Λ 3) E i) S (D 0 0).toNat).1 := by rw [n2 40 (by omega) (by omega)]; exact i40.trans ei.1
      have j41 : rd h2 41 i = (eb (erV D (Λ 3) E i) S (D 0 0).toNat).2 := by rw [n2 41 (by omega) (by omega)]; exact i41.trans ei.2
      rw [if_neg hb, if_pos rfl, gH5 s1, aH5 s1 (by omega) (by omega), r40x, gH0 s1, h22, gC14 s1 ic, gH0 s1, h22, ivC s1 ic, c_between s1 dk cx1 day ⟨by omega, by omega⟩ ⟨by omega, by omega⟩, cl_some, ivL s1 ic, e2, cl_some, ← fx, lt_eq, gH5 s2, aH5 s2 (by omega) (by omega), j40]
      have n3 : ∀ b, b ≠ c + 11 → b ≠ c + 12 → b ≠ 40 → b ≠ 41 → rd (wr (wr h2 40 i (erV D (Λ 3) (up E x v) i x)) 41 i x) b = rd h1 b := fun b b1 b2 b3 b4 => by rw [rd_wr_ne b4, rd_wr_ne b3, n2 b b1 b2]
      have s3 : Sh (wr h2 40 i (erV D (Λ 3) (up E x v) i x)) := shOk s2 (ok40 _)
      have B102 : Shor_measureFrom_B102 F (Shor_measureFrom_L2 F n) 22 x ((S ||| 2 ^ x : Nat) : Int) i (erV D (Λ 3) (up E x v) i x) h2 = Shor_measureFrom_L2 F n 22 x ((S ||| 2 ^ x : Nat) : Int) ((i + 1 : Nat) : Int) (wr (wr h2 40 i (erV D (Λ 3) (up E x v) i x)) 41 i x) := by
        unfold Shor_measureFrom_B102
        rw [gH5 s2, sH5 s2 (by omega) (by omega), gH6 s3, sH6 s3 (by omega) (by omega), w32_nat (by omega)]
      by_cases cc : erV D (Λ 3) (up E x v) i x < (eb (erV D (Λ 3) E i) S (D 0 0).toNat).1 ∨ (erV D (Λ 3) (up E x v) i x = (eb (erV D (Λ 3) E i) S (D 0 0).toNat).1 ∧ (x : Int) < (eb (erV D (Λ 3) E i) S (D 0 0).toNat).2)
      · rw [if_pos cc] at em
        refine ⟨wr (wr h2 40 i (erV D (Λ 3) (up E x v) i x)) 41 i x, ⟨FrX_trans f2 (FrX_trans (h' := wr h2 40 i (erV D (Λ 3) (up E x v) i x)) (FrX_wr s2 (ok40 _) (by decide) (by unfold Xe; omega)) (FrX_wr s3 (ok41 _) (by decide) (by unfold Xe; omega))), Dy_wr (nO 41 _ (by decide)) (Dy_wr (nO 40 _ (by decide)) d2), fun p q1 q2 => ?_, fun p hp => ?_⟩, ?_⟩
        · rw [rd_a (by decide), rd_i (by omega), rd_i (by omega), rd_a (by decide), n2 40 (by omega) (by omega), n2 41 (by omega) (by omega)]
          exact p1 p (by omega) q2
        · by_cases e : p = i
          · subst e
            refine ⟨fun z => absurd z hb, fun _ => ?_⟩
            rw [em, rd_a (by decide), rd_same, rd_same]
            exact ⟨rfl, rfl⟩
          · rw [rd_a (by decide), rd_i (by omega), rd_i (by omega), rd_a (by decide), n2 40 (by omega) (by omega), n2 41 (by omega) (by omega)]
            exact p2 p (by omega)
        · rw [← B102]
          by_cases c1 : erV D (Λ 3) (up E x v) i x = (eb (erV D (Λ 3) E i) S (D 0 0).toNat).1
          · have c2 : (x : Int) < (eb (erV D (Λ 3) E i) S (D 0 0).toNat).2 := by omega
            rw [if_pos c1, gH6 s2, aH6 s2 (by omega) (by omega), j41, if_pos c2]
            unfold Shor_measureFrom_B84
            rw [gH5 s2, aH5 s2 (by omega) (by omega), j40, if_neg (by omega), if_neg (by decide)]
          · rw [if_neg c1]
            unfold Shor_measureFrom_B84
            rw [gH5 s2, aH5 s2 (by omega) (by omega), j40, if_pos (by omega)]
      · rw [if_neg cc] at em
        refine ⟨h2, ⟨f2, d2, fun p q1 q2 => ?_, fun p hp => ?_⟩, ?_⟩
        · rw [n2 40 (by omega) (by omega), n2 41 (by omega) (by omega)]
          exact p1 p (by omega) q2
        · by_cases e : p = i
          · subst e
            refine ⟨fun z => absurd z hb, fun _ => ?_⟩
            rw [em]
            exact ⟨j40, j41⟩
          · rw [n2 40 (by omega) (by omega), n2 41 (by omega) (by omega)]
            exact p2 p (by omega)
        · have B84 : Shor_measureFrom_B84 F (Shor_measureFrom_L2 F n) 22 x ((S ||| 2 ^ x : Nat) : Int) i (erV D (Λ 3) (up E x v) i x) 0 h2 = Shor_measureFrom_L2 F n 22 x ((S ||| 2 ^ x : Nat) : Int) ((i + 1 : Nat) : Int) h2 := by
            unfold Shor_measureFrom_B84
            rw [gH5 s2, aH5 s2 (by omega) (by omega), j40, if_neg (by omega), if_pos rfl, w32_nat (by omega)]
          by_cases c1 : erV D (Λ 3) (up E x v) i x = (eb (erV D (Λ 3) E i) S (D 0 0).toNat).1
          · rw [if_pos c1, gH6 s2, aH6 s2 (by omega) (by omega), j41, if_neg (by omega)]
            exact B84
          · rw [if_neg c1]
            exact B84
  · obtain ⟨fr, d1, p1, p2⟩ := P
    have h22 : rd h1 22 0 = c := by rw [fr.2.2.2.1 22 (by decide) (by unfold Xe; omega)]; exact hc
    have cx1 : CxE h1 c D := CxE_X fr (fun b b1 b2 => by unfold Xe; omega) cx
    refine ⟨h1, ?_, fr, d1, fun p hp => ⟨fun z => ?_, fun z => (p2 p hp).2 z⟩⟩
    · show Shor_measureFrom_L2s F (Shor_measureFrom_L2 F n) 22 x ((S ||| 2 ^ x : Nat) : Int) ((D 0 0).toNat : Nat) h1 = _
      unfold Shor_measureFrom_L2s
      rw [gH0 fr.1, h22, gC4 fr.1 ic, cx1.2.1, if_neg (by omega)]
    · rw [((p2 p hp).1 z).1, ((p2 p hp).1 z).2]
      by_cases e : p = x
      · subst e
        rw [up_s, up_s, hv, ho]
        exact ex
      · rw [bit_or, Bool.or_eq_true, decide_eq_true_eq] at z
        have hbp : S.testBit p = true := by
          rcases z with z | z
          · exact z
          · exact absurd z.symm e
        rw [up_n (by omega), up_n (by omega)]
        exact (er p hp).1 hbp
theorem eb_0 (f : Int → Int) : ∀ m : Nat, eb f 0 m = (f (-2), -2) := by
  intro m
  induction m with
  | zero => rfl
  | succ m ih =>
    unfold eb
    rw [if_neg (fun z => by rw [Nat.zero_testBit] at z; exact absurd z.1 (by decide)), ih]
theorem c_settleErr {F : Nat} {h : Hp} {c : Int} {D : Nat → Int → Int} {Λ : Nat → Lw} (hF : 1000 ≤ F) (s : Sh h) (dy : Dy h) (dk : Dok D) (pk : pegOk D) (hc : rd h 22 0 = c) (cx : CxE h c D) (g : CLz h c Λ) (day : Day D Λ) : ∃ h', Shor_settleErrors F 22 h = some (0, h') ∧ FrX (Xe c) h h' ∧ Dy h' ∧ ∀ p : Nat, p < (D 0 0).toNat → rd h' 40 p = (erF D (Λ 3)).1 p ∧ rd h' 41 p = (erF D (Λ 3)).2 p := by
  have ic := cx.1
  have hcc : c = 9 ∨ c = 23 := ic
  have h8 : D 0 0 ≤ 8 := dk.1.2
  have t8 : 2 ^ (D 0 0).toNat ≤ 256 := two8 (by omega)
  have nO : ∀ b i, b < 42 → ¬ Own b i := fun b i hb o => by have := own_lt o; omega
  have second : ∀ h0 : Hp, FrX (Xe c) h h0 → Dy h0 → ErI h0 D (Λ 3) 0 (fun _ => 0) (fun _ => 0) → ∃ h', Shor_settleErrors_L56 F F 22 0 0 h0 = some (0, h') ∧ FrX (Xe c) h h' ∧ Dy h' ∧ ∀ p : Nat, p < (D 0 0).toNat → rd h' 40 p = (erF D (Λ 3)).1 p ∧ rd h' 41 p = (erF D (Λ 3)).2 p := by
    intro h0 f0 d0 e0
    have key := loopE (fun n i h1 => Shor_settleErrors_L56 F n 22 ((seS (erV D (Λ 3)) (D 0 0).toNat (fun _ => 0) (fun _ => 0) i).1 : Nat) (i : Nat) h1) (D 0 0).toNat (fun i h1 => FrX (Xe c) h h1 ∧ Dy h1 ∧ ErI h1 D (Λ 3) (seS (erV D (Λ 3)) (D 0 0).toNat (fun _ => 0) (fun _ => 0) i).1 (seS (erV D (Λ 3)) (D 0 0).toNat (fun _ => 0) (fun _ => 0) i).2.1 (seS (erV D (Λ 3)) (D 0 0).toNat (fun _ => 0) (fun _ => 0) i).2.2) (fun z => ∃ h', z = some (0, h') ∧ FrX (Xe c) h h' ∧ Dy h' ∧ ∀ p : Nat, p < (D 0 0).toNat → rd h' 40 p = (erF D (Λ 3)).1 p ∧ rd h' 41 p = (erF D (Λ 3)).2 p) (fun n i h1 hi P => Or.inl ?_) (fun n h1 P => ?_) (D 0 0).toNat F 0 h0 (by omega) (by omega) ⟨f0, d0, e0⟩
    · exact key
    · obtain ⟨fr, d1, er⟩ := P
      have s1 := fr.1
      have h22 : rd h1 22 0 = c := by rw [fr.2.2.2.1 22 (by decide) (by unfold Xe; omega)]; exact hc
      have cx1 : CxE h1 c D := CxE_X fr (fun b b1 b2 => by unfold Xe; omega) cx
      have g1 : CLz h1 c Λ := CLz_X ic fr (fun b b1 b2 => by unfold Xe; omega) g
      obtain ⟨q1, q2, q3⟩ := seS_in (erV D (Λ 3)) (m := (D 0 0).toNat) (by omega) (fun _ => 0) (fun _ => 0) i (by omega)
      obtain ⟨x, x1, x2, x3⟩ := q3 hi
      have eS : seS (erV D (Λ 3)) (D 0 0).toNat (fun _ => 0) (fun _ => 0) (i + 1) = ((seS (erV D (Λ 3)) (D 0 0).toNat (fun _ => 0) (fun _ => 0) i).1 ||| 2 ^ (scP (erV D (Λ 3) (seS (erV D (Λ 3)) (D 0 0).toNat (fun _ => 0) (fun _ => 0) i).2.1) (seS (erV D (Λ 3)) (D 0 0).toNat (fun _ => 0) (fun _ => 0) i).1 (D 0 0).toNat (D 0 0).toNat).1.toNat, up (seS (erV D (Λ 3)) (D 0 0).toNat (fun _ => 0) (fun _ => 0) i).2.1 (scP (erV D (Λ 3) (seS (erV D (Λ 3)) (D 0 0).toNat (fun _ => 0) (fun _ => 0) i).2.1) (seS (erV D (Λ 3)) (D 0 0).toNat (fun _ => 0) (fun _ => 0) i).1 (D 0 0).toNat (D 0 0).toNat).1 (scP (erV D (Λ 3) (seS (erV D (Λ 3)) (D 0 0).toNat (fun _ => 0) (fun _ => 0) i).2.1) (seS (erV D (Λ 3)) (D 0 0).toNat (fun _ => 0) (fun _ => 0) i).1 (D 0 0).toNat (D 0 0).toNat).2.1, up (seS (erV D (Λ 3)) (D 0 0).toNat (fun _ => 0) (fun _ => 0) i).2.2 (scP (erV D (Λ 3) (seS (erV D (Λ 3)) (D 0 0).toNat (fun _ => 0) (fun _ => 0) i).2.1) (seS (erV D (Λ 3)) (D 0 0).toNat (fun _ => 0) (fun _ => 0) i).1 (D 0 0).toNat (D 0 0).toNat).1 (scP (erV D (Λ 3) (seS (erV D (Λ 3)) (D 0 0).toNat (fun _ => 0) (fun _ => 0) i).2.1) (seS (erV D (Λ 3)) (D 0 0).toNat (fun _ => 0) (fun _ => 0) i).1 (D 0 0).toNat (D 0 0).toNat).2.2) := rfl
      generalize hQ : seS (erV D (Λ 3)) (D 0 0).toNat (fun _ => 0) (fun _ => 0) i = Q at *
      have hb := scP_eb (g := erV D (Λ 3) Q.2.1) (S := Q.1) (m := (D 0 0).toNat) (D 0 0).toNat
      have hsc : scP (erV D (Λ 3) Q.2.1) Q.1 (D 0 0).toNat (D 0 0).toNat = ((x : Int), (eb (erV D (Λ 3) Q.2.1 x) Q.1 (D 0 0).toNat).1, (eb (erV D (Λ 3) Q.2.1 x) Q.1 (D 0 0).toNat).2) := by
        rcases hb with z | ⟨y, y1, y2, y3⟩
        · rw [x3] at z; omega
        · have : y = x := by rw [y3] at x3; exact Int.ofNat.inj x3
          rw [y3, this]
      have le := c_least (F := F) hF s1 dk h22 cx1 q1 er
      rw [hsc] at eS le
      have eS2 : seS (erV D (Λ 3)) (D 0 0).toNat (fun _ => 0) (fun _ => 0) (i + 1) = (Q.1 ||| 2 ^ x, up Q.2.1 x (eb (erV D (Λ 3) Q.2.1 x) Q.1 (D 0 0).toNat).1, up Q.2.2 x (eb (erV D (Λ 3) Q.2.1 x) Q.1 (D 0 0).toNat).2) := eS
      have le2 : Shor_leastError F 22 Q.1 h1 = some ((x : Int), h1) := le
      obtain ⟨h2, k1, k2, k3, k4⟩ := c_measFrom (F := F) (x := x) hF s1 d1 dk h22 cx1 g1 day q1 x1 x2 rfl rfl er
      refine ⟨h2, ⟨FrX_trans fr k2, k3, ?_⟩, ?_⟩
      · rw [eS2]; exact k4
      · show Shor_settleErrors_L56s F (Shor_settleErrors_L56 F n) 22 (Q.1 : Nat) (i : Nat) h1 = _
        rw [eS2]
        show _ = Shor_settleErrors_L56 F n 22 ((Q.1 ||| 2 ^ x : Nat) : Int) ((i + 1 : Nat) : Int) h2
        unfold Shor_settleErrors_L56s
        have hpx : 2 ^ x < 256 := by have := Nat.pow_lt_pow_right (a := 2) (by decide) (show x < 8 by omega); omega
        rw [gH0 s1, h22, gC4 s1 ic, cx1.2.1, if_pos (by omega), ivH s1, le2, cl_some, if_neg (by omega), ishl_1 x (by omega), ior_nat (by omega) (by omega), lt_eq, ivH s1, k1, cl_some, w32_nat (by omega)]
    · obtain ⟨fr, d1, er⟩ := P
      have h22 : rd h1 22 0 = c := by rw [fr.2.2.2.1 22 (by decide) (by unfold Xe; omega)]; exact hc
      have cx1 : CxE h1 c D := CxE_X fr (fun b b1 b2 => by unfold Xe; omega) cx
      obtain ⟨q1, q2, q3⟩ := seS_in (erV D (Λ 3)) (m := (D 0 0).toNat) (by omega) (fun _ => 0) (fun _ => 0) (D 0 0).toNat (Nat.le_refl _)
      refine ⟨h1, ?_, fr, d1, fun p hp => (er p hp).1 (full_bit (by omega) q1 q2 hp)⟩
      show Shor_settleErrors_L56s F (Shor_settleErrors_L56 F n) 22 _ ((D 0 0).toNat : Nat) h1 = _
      unfold Shor_settleErrors_L56s
      rw [gH0 fr.1, h22, gC4 fr.1 ic, cx1.2.1, if_neg (by omega)]
  unfold Shor_settleErrors
  have key := loopE (fun n i h1 => Shor_settleErrors_L4 F n 22 0 (i : Nat) h1) (D 0 0).toNat (fun i h1 => FrX (Xe c) h h1 ∧ Dy h1 ∧ ∀ p : Nat, p < i → rd h1 40 p = erV D (Λ 3) (fun _ => 0) p (-2) ∧ rd h1 41 p = -2) (fun z => ∃ h', z = some (0, h') ∧ FrX (Xe c) h h' ∧ Dy h' ∧ ∀ p : Nat, p < (D 0 0).toNat → rd h' 40 p = (erF D (Λ 3)).1 p ∧ rd h' 41 p = (erF D (Λ 3)).2 p) (fun n i h1 hi P => Or.inl ?_) (fun n h1 P => ?_) (D 0 0).toNat F 0 h (by omega) (by omega) ⟨FrX_refl s, dy, fun p hp => absurd hp (by omega)⟩
  · exact key
  · obtain ⟨fr, d1, p1⟩ := P
    have s1 := fr.1
    have h22 : rd h1 22 0 = c := by rw [fr.2.2.2.1 22 (by decide) (by unfold Xe; omega)]; exact hc
    have cx1 : CxE h1 c D := CxE_X fr (fun b b1 b2 => by unfold Xe; omega) cx
    have g1 : CLz h1 c Λ := CLz_X ic fr (fun b b1 b2 => by unfold Xe; omega) g
    obtain ⟨h2, e2, l2⟩ := c_slip (F := F) (f := awayI (D 20 0) (D 21 0) (D 6 i) (D 7 i)) (o := 0) hF s1 ic g1
    have s2 := l2.2.1
    have ev : slV (Λ 3) (awayI (D 20 0) (D 21 0) (D 6 i) (D 7 i)) 0 = erV D (Λ 3) (fun _ => 0) i (-2) := by unfold erV; rw [if_pos (by decide)]
    have s3 : Sh (wr h2 40 i (erV D (Λ 3) (fun _ => 0) i (-2))) := shOk s2 (ok40 _)
    refine ⟨wr (wr h2 40 i (erV D (Λ 3) (fun _ => 0) i (-2))) 41 i (-2), ⟨FrX_trans fr (FrX_trans (FrX_mono (fun b hb => by unfold Xe; omega) (FrX_Lc ic l2)) (FrX_trans (h' := wr h2 40 i (erV D (Λ 3) (fun _ => 0) i (-2))) (FrX_wr s2 (ok40 _) (by decide) (by unfold Xe; omega)) (FrX_wr s3 (ok41 _) (by decide) (by unfold Xe; omega)))), Dy_wr (nO 41 _ (by decide)) (Dy_wr (nO 40 _ (by decide)) (Dy_Lc ic l2 d1)), fun p hp => ?_⟩, ?_⟩
    · by_cases e : p = i
      · subst e; rw [rd_a (by decide), rd_same, rd_same]; exact ⟨rfl, rfl⟩
      · rw [rd_a (by decide), rd_i (by omega), rd_i (by omega), rd_a (by decide), l2.2.2 40 (by omega) (by omega), l2.2.2 41 (by omega) (by omega)]
        exact p1 p (by omega)
    · show Shor_settleErrors_L4s F (Shor_settleErrors_L4 F n) 22 0 (i : Nat) h1 = Shor_settleErrors_L4 F n 22 0 ((i + 1 : Nat) : Int) _
      unfold Shor_settleErrors_L4s
      rw [gH0 s1, h22, gC4 s1 ic, cx1.2.1, if_pos (by omega), gH5 s1, gH0 s1, h22, gC14 s1 ic, gH0 s1, h22, ivC s1 ic, c_fromPeg s1 dk pk cx1 day ⟨by omega, by omega⟩, cl_some, ivL s1 ic, e2, cl_some, ev, sH5 s2 (by omega) (by omega), gH6 s3, sH6 s3 (by omega) (by omega), w32_nat (by omega)]
  · obtain ⟨fr, d1, p1⟩ := P
    have h22 : rd h1 22 0 = c := by rw [fr.2.2.2.1 22 (by decide) (by unfold Xe; omega)]; exact hc
    have cx1 : CxE h1 c D := CxE_X fr (fun b b1 b2 => by unfold Xe; omega) cx
    have e1 : Shor_settleErrors_L4 F (n + 1) 22 0 ((D 0 0).toNat : Nat) h1 = Shor_settleErrors_L56 F F 22 0 0 h1 := by
      show Shor_settleErrors_L4s F (Shor_settleErrors_L4 F n) 22 0 ((D 0 0).toNat : Nat) h1 = _
      unfold Shor_settleErrors_L4s
      rw [gH0 fr.1, h22, gC4 fr.1 ic, cx1.2.1, if_neg (by omega)]
    show ∃ h', Shor_settleErrors_L4 F (n + 1) 22 0 ((D 0 0).toNat : Nat) h1 = some (0, h') ∧ _
    rw [e1]
    exact second h1 fr d1 (fun p hp => ⟨fun z => by rw [Nat.zero_testBit] at z; exact absurd z (by decide), fun _ => by rw [eb_0]; exact p1 p hp⟩)
/-- the shore, settled whole -/
theorem c_settleS {F : Nat} {h : Hp} {c : Int} {D : Nat → Int → Int} {Λ : Nat → Lw} (hF : 1000 ≤ F) (s : Sh h) (dy : Dy h) (dk : Dok D) (pk : pegOk D) (hc : rd h 22 0 = c) (cx : CxE h c D) (g : CLz h c Λ) (day : Day D Λ) (w0 : rd h 39 0 = 0) : ∃ h', Shor_settle F 22 h = some (0, h') ∧ FrX (fun b => Xs c b ∨ b = 40 ∨ b = 41) h h' ∧ Dy h' ∧ CD h' D ∧ ∀ p : Nat, p < (D 0 0).toNat → rd h' 40 p = (erF D (Λ 3)).1 p ∧ rd h' 41 p = (erF D (Λ 3)).2 p := by
  have ic := cx.1
  have hcc : c = 9 ∨ c = 23 := ic
  obtain ⟨h1, e1, f1, d1, m1⟩ := c_days (F := F) hF s dy ic hc g
  have h22 : rd h1 22 0 = c := by rw [f1.2.2.2.1 22 (by decide) (by omega)]; exact hc
  obtain ⟨h2, e2, f2, d2, cd2⟩ := c_parts (F := F) (h := h1) hF f1.1 d1 h22 (CxE_X f1 (fun b b1 b2 => by omega) cx) (CLz_X ic f1 (fun b b1 b2 => by omega) g) dk day (fun m m0 m1' => ⟨(m1 m m0 m1').1.trans (day.1 m m0 m1').1.symm, (m1 m m0 m1').2.trans (day.1 m m0 m1').2.symm⟩) (by rw [f1.2.2.2.1 39 (by decide) (by omega)]; exact w0)
  have h22b : rd h2 22 0 = c := by rw [f2.2.2.2.1 22 (by decide) (by omega)]; exact h22
  obtain ⟨h3, e3, f3, d3, r3⟩ := c_settleErr (F := F) (h := h2) hF f2.1 d2 dk pk h22b (h22b ▸ cd2.1) (CLz_X ic f2 (fun b b1 b2 => by omega) (CLz_X ic f1 (fun b b1 b2 => by omega) g)) day
  have c40 : ¬ Xe c 22 ∧ ¬ Xe c 36 ∧ ¬ Xe c 37 ∧ ¬ Xe c 39 := by unfold Xe; omega
  refine ⟨h3, ?_, FrX_trans (FrX_mono (fun b hb => by unfold Xs; omega) f1) (FrX_trans (FrX_mono (fun b hb => by unfold Xs; omega) f2) (FrX_mono (fun b hb => by unfold Xe at hb; unfold Xs; omega) f3)), d3, ?_, r3⟩
  · rw [e1, e2]
    unfold Shor_settle_B162
    rw [ivH f2.1, e3, cl_some]
  · obtain ⟨q1, q2, q3, q4⟩ := cd2
    have e22 := f3.2.2.2.1 22 (by decide) c40.1
    refine ⟨?_, fun m m0 m1' => ?_, fun p p0 p1 => ?_, fun t ht => ?_⟩
    · rw [e22]
      rw [h22b] at q1 ⊢
      exact CxE_X f3 (fun b b1 b2 => by unfold Xe; omega) q1
    · rw [f3.2.2.2.1 36 (by decide) c40.2.1, f3.2.2.2.1 37 (by decide) c40.2.2.1]; exact q2 m m0 m1'
    · obtain ⟨z1, z2, z3⟩ := q3 p p0 p1
      have hp8 : p < 8 := by have := dk.1.2; omega
      exact ⟨SdE_X f3 (by unfold Xe; omega) z1, SdF_X f3 z1.1 (by unfold Xe; omega) z2, z3⟩
    · rw [f3.2.2.2.1 39 (by decide) c40.2.2.2]; exact q4 t ht
