/-! the class's rows: the row of a plan -/
theorem bc_I : ∀ s : Nat, s < 256 → iand (w32 ((w32 ((iand (w32 ((w32 ((iand (w32 ((s : Int) - (iand (iushr (s : Int) 1) 1431655765))) 858993459) + (iand (iushr (w32 ((s : Int) - (iand (iushr (s : Int) 1) 1431655765))) 2) 858993459))) + (iushr (w32 ((iand (w32 ((s : Int) - (iand (iushr (s : Int) 1) 1431655765))) 858993459) + (iand (iushr (w32 ((s : Int) - (iand (iushr (s : Int) 1) 1431655765))) 2) 858993459))) 4))) 252645135) + (iushr (iand (w32 ((w32 ((iand (w32 ((s : Int) - (iand (iushr (s : Int) 1) 1431655765))) 858993459) + (iand (iushr (w32 ((s : Int) - (iand (iushr (s : Int) 1) 1431655765))) 2) 858993459))) + (iushr (w32 ((iand (w32 ((s : Int) - (iand (iushr (s : Int) 1) 1431655765))) 858993459) + (iand (iushr (w32 ((s : Int) - (iand (iushr (s : Int) 1) 1431655765))) 2) 858993459))) 4))) 252645135) 8))) + (iushr (w32 ((iand (w32 ((w32 ((iand (w32 ((s : Int) - (iand (iushr (s : Int) 1) 1431655765))) 858993459) + (iand (iushr (w32 ((s : Int) - (iand (iushr (s : Int) 1) 1431655765))) 2) 858993459))) + (iushr (w32 ((iand (w32 ((s : Int) - (iand (iushr (s : Int) 1) 1431655765))) 858993459) + (iand (iushr (w32 ((s : Int) - (iand (iushr (s : Int) 1) 1431655765))) 2) 858993459))) 4))) 252645135) + (iushr (iand (w32 ((w32 ((iand (w32 ((s : Int) - (iand (iushr (s : Int) 1) 1431655765))) 858993459) + (iand (iushr (w32 ((s : Int) - (iand (iushr (s : Int) 1) 1431655765))) 2) 858993459))) + (iushr (w32 ((iand (w32 ((s : Int) - (iand (iushr (s : Int) 1) 1431655765))) 858993459) + (iand (iushr (w32 ((s : Int) - (iand (iushr (s : Int) 1) 1431655765))) 2) 858993459))) 4))) 252645135) 8))) 16))) 63 = ((pcN s 8 : Nat) : Int) := by decide +kernel
theorem c_bitCount {F : Nat} {h : Hp} {s : Nat} (hs : s < 256) : Intg_bitCount F s h = some (((pcN s 8 : Nat) : Int), h) := by
  unfold Intg_bitCount
  rw [lt_eq, lt_eq, lt_eq, lt_eq, lt_eq, bc_I s hs]
theorem cap_inj {x y : Int} (hx : Vok x) (hy : Vok y) : cap x = cap y ↔ x = y := by
  unfold cap
  unfold Vok at hx hy
  constructor
  · intro h
    revert h
    split <;> split <;> omega
  · intro h; rw [h]
/-- what comes ahead of p in the row of what is left -/
def plR (D : Nat → Int → Int) (G : Nat → Int) (w : Int) (T : Int → Int) (l : Nat) (p : Int) (o : Nat) : Int := if p < 0 then T (8 * (l : Int) + o) else rb1 D G w T l o p
theorem c_first {F : Nat} {h g : Hp} {r w a due p : Int} {G : Nat → Int} {al l : Nat} (m : Mo g) (hg : Gok (dt g) G) (hw : 0 ≤ w ∧ w < dt g 1 0) (sh : Sh h) (re : RwE h r (dt g) G w a al) (hl : l < 2 ^ (dt g 0 0).toNat) (h0 : l ≠ 0) (hla : l &&& al = l) (hv : Vok due) (hp : p = -1 ∨ (0 ≤ p ∧ p < dt g 0 0)) :
    ∀ n N o : Nat, (∃ q, o ≤ q ∧ q < o + n ∧ plC (dt g) G w (CT (dt g) G w al) due l p q = true) → o + n ≤ 8 → n < N → Rows_firstLast_L3 F N r l p (cap due) o h = some (((fsN (plC (dt g) G w (CT (dt g) G w al) due l p) n o : Nat) : Int), h) := by
  obtain ⟨rc, ⟨ve, vs⟩, wy, rb⟩ := re
  have ir := rc.1
  have h8 := D8 m
  have h8' : dt g 0 0 ≤ 8 := m.2.2.1.2
  have t8 := two8 h8
  have hT := CT_ok m hg (al := al) hw
  intro n
  induction n with
  | zero =>
    intro N o hq
    obtain ⟨q, q0, q1, -⟩ := hq
    omega
  | succ n ih =>
    intro N o hq ho hN
    obtain ⟨N, rfl⟩ : ∃ j, N = j + 1 := ⟨N - 1, by omega⟩
    obtain ⟨q, q0, q1, q2⟩ := hq
    have qb : l.testBit q = true := by
      unfold plC at q2
      rw [Bool.and_eq_true] at q2
      exact q2.1
    have hqn := bit_lt hl qb
    have nxt : plC (dt g) G w (CT (dt g) G w al) due l p o = false → Rows_firstLast_L3 F N r l p (cap due) ((o + 1 : Nat) : Int) h = some (((fsN (plC (dt g) G w (CT (dt g) G w al) due l p) (n + 1) o : Nat) : Int), h) := fun c => by
      have hne : q ≠ o := fun e => by rw [e, c] at q2; exact absurd q2 (by decide)
      rw [ih N (o + 1) ⟨q, by omega, by omega, q2⟩ (by omega) (by omega)]
      show _ = some (((if plC (dt g) G w (CT (dt g) G w al) due l p o then o else fsN (plC (dt g) G w (CT (dt g) G w al) due l p) n (o + 1) : Nat) : Int), h)
      rw [c, if_neg (by decide)]
    show Rows_firstLast_L3s F (Rows_firstLast_L3 F N) r l p (cap due) (o : Nat) h = _
    unfold Rows_firstLast_L3s
    rw [gQ1 sh ir, rc.2.2.1, if_pos (by omega), bit_I l (by omega) o (by omega), w32_nat (by omega)]
    by_cases hb : l.testBit o = true
    · have hE := (rb l hl).2 (by omega) hla o hb
      have hon : (o : Int) < dt g 0 0 := by omega
      have fin : ∀ x, Vok x → (plC (dt g) G w (CT (dt g) G w al) due l p o = decide (x = due)) → Rows_firstLast_B64 F (Rows_firstLast_L3 F N) r l p (cap due) o (cap x) h = some (((fsN (plC (dt g) G w (CT (dt g) G w al) due l p) (n + 1) o : Nat) : Int), h) := by
        intro x hx ex
        unfold Rows_firstLast_B64
        by_cases c : x = due
        · rw [if_pos (by rw [c])]
          show _ = some (((if plC (dt g) G w (CT (dt g) G w al) due l p o then o else fsN (plC (dt g) G w (CT (dt g) G w al) due l p) n (o + 1) : Nat) : Int), h)
          rw [ex, decide_eq_true c, if_pos rfl]
        · rw [if_neg (fun z => c ((cap_inj hx hv).1 z)), w32_nat (by omega)]
          exact nxt (by rw [ex, decide_eq_false c])
      rw [if_pos hb, if_neg (by decide), gQ5 sh ir, w32_id (x := (l : Int) * 8) (by omega) (by omega), w32_id (x := (l : Int) * 8 + (o : Int)) (by omega) (by omega), al_ok ve.1.2 ve.2 (by omega) (by omega), show (l : Int) * 8 + (o : Int) = 8 * (l : Int) + (o : Int) by omega, hE]
      by_cases hp0 : p < 0
      · rw [if_pos hp0]
        refine fin _ (hT _) ?_
        unfold plC
        rw [hb, if_pos hp0, Bool.true_and]
      · have hpp : 0 ≤ p ∧ p < dt g 0 0 := by omega
        have hwy := wyC_in m hg hw (o := o) ⟨by omega, hon⟩ hpp
        have hci := cap_in (hT (8 * (l : Int) + o))
        have hrb := rb1_ok m hg hT hw (b := l) (o := o) ⟨by omega, hon⟩ hpp
        have hcr : endV (dt g) (G 4) (G 3 + p) (cap (CT (dt g) G w al (8 * (l : Int) + o)) + wyC (dt g) G w o p) = cap (rb1 (dt g) G w (CT (dt g) G w al) l o p) := by
          unfold rb1
          have hv2 := hT (8 * (l : Int) + o)
          by_cases e : CT (dt g) G w al (8 * (l : Int) + o) = 100000
          · rw [if_pos e, e, show cap 100000 = 10000 by rfl, endV_far hg.1 hpp (by omega)]
          · rw [if_neg e, show cap (CT (dt g) G w al (8 * (l : Int) + o)) = CT (dt g) G w al (8 * (l : Int) + o) from if_neg e]
            have hn : 0 ≤ CT (dt g) G w al (8 * (l : Int) + o) := by unfold Vok at hv2; omega
            exact (cap_step hg.1 hpp (by show 0 ≤ _ + wyC (dt g) G w o p; omega)).symm
        rw [if_neg hp0, gQ3 sh ir, w32_id (x := (o : Int) * 8) (by omega) (by omega), w32_id (x := (o : Int) * 8 + p) (by omega) (by omega), aQ3 sh ir (by omega) (by omega), show (o : Int) * 8 + p = 8 * (o : Int) + p by omega, wy o p (by omega) hon hpp.1 hpp.2, w32_id (by omega) (by omega), ivQ sh ir, c_endFrom sh h8' hg.1 rc hpp ⟨by omega, by omega⟩, cl_some, hcr]
        refine fin _ hrb ?_
        unfold plC
        rw [hb, if_neg hp0, Bool.true_and]
    · rw [if_neg hb, if_pos rfl]
      refine nxt ?_
      unfold plC
      rw [Bool.eq_false_iff.2 hb, Bool.false_and]
theorem xr_b {s p : Nat} (hs : s < 256) (hp : p < 8) (hb : s.testBit p = true) : s ^^^ 2 ^ p = s - 2 ^ p := by
  rw [xr_I s hs p hp, if_pos hb]
theorem plD_ok {g : Hp} (m : Mo g) {w a : Int} {s l : Nat} {p : Int} {al : Nat} (hg : Gok (dt g) (Pg g)) (hw : 0 ≤ w ∧ w < dt g 1 0) (hs : s ≠ 0) : Vok (plD (CT (dt g) (Pg g) w al) a s l p) := by
  unfold plD
  by_cases c : p < 0
  · rw [if_pos c]; exact lr_ok m hg hw hs
  · rw [if_neg c]; exact CT_ok m hg hw _
theorem c_trace {F : Nat} {h g : Hp} {r w a : Int} {al s : Nat} (hF : 1000 ≤ F) (m : Mo g) (hg : Gok (dt g) (Pg g)) (hw : 0 ≤ w ∧ w < dt g 1 0) (sh : Sh h) (re : RwE h r (dt g) (Pg g) w a al) (hl : al < 256) (hs : s < 2 ^ (dt g 0 0).toNat) (ha : s &&& al = s) :
    ∃ h', Rows_trace F r s 92 h = some (((pcN s 8 : Nat) : Int), h') ∧ FrA 92 h h' ∧ ∀ j : Int, 0 ≤ j → j < ((pcN s 8 : Nat) : Int) → rd h' 92 j = plA (dt g) (Pg g) w (CT (dt g) (Pg g) w al) a s (fun _ => 0) j := by
  have re0 := re
  obtain ⟨rc, ⟨ve, vs⟩, wy, rb⟩ := re
  have ir := rc.1
  have hr := rw_cases ir
  have h8 := D8 m
  have h8' : dt g 0 0 ≤ 8 := m.2.2.1.2
  have t8 := two8 h8
  have hT := CT_ok m hg (al := al) hw
  have hx : Fix (dt g) (Pg g) w (CT (dt g) (Pg g) w al) al := tabF_fix h8
  have hI := plS_I (A := fun _ => 0) (a := a) m hg hT hw hl hx hs ha
  have hn8 := pcN_le s 8
  have ok92 : ∀ i, okW 92 i = true := fun i => okW_arr (by decide) (fun _ => by decide)
  unfold Rows_trace
  rw [c_bitCount (by omega), cl_some, gQ6 sh ir, al_ok vs.1.2 vs.2 (by omega) (by omega), (rb s hs).1, w32_id (by omega) (by omega), lt_eq]
  generalize hn : pcN s 8 = n at *
  by_cases h0 : s = 0
  · subst h0
    have : n = 0 := by rw [← hn]; rfl
    subst this
    refine ⟨h, ?_, FrA_refl sh, fun j j0 j1 => absurd j1 (by omega)⟩
    obtain ⟨q, hq⟩ : ∃ q, F = q + 1 := ⟨F - 1, by omega⟩
    have e0 : ∀ (x1 x2 x3 x4 x5 x6 x7 : Int) (y : Hp), Rows_trace_L24 F F x1 x2 x3 x4 x5 x6 x7 y = Rows_trace_L24s F (Rows_trace_L24 F q) x1 x2 x3 x4 x5 x6 x7 y := fun _ _ _ _ _ _ _ _ => by
      conv => lhs; arg 2; rw [hq]
      rfl
    rw [e0]
    unfold Rows_trace_L24s
    rw [if_pos (by decide)]
  · have hd : snC (dt g) (Pg g) w a al s = cap (plD (CT (dt g) (Pg g) w al) a s s (-1)) := by
      unfold snC plD
      rw [if_neg h0, if_pos ha, if_pos (by decide)]
    rw [hd]
    have key := loopE (fun k i h1 => Rows_trace_L24 F k r 92 n ((plS (dt g) (Pg g) w (CT (dt g) (Pg g) w al) a s n (fun _ => 0) i).1 : Nat) (plS (dt g) (Pg g) w (CT (dt g) (Pg g) w al) a s n (fun _ => 0) i).2.1 (cap (plD (CT (dt g) (Pg g) w al) a s (plS (dt g) (Pg g) w (CT (dt g) (Pg g) w al) a s n (fun _ => 0) i).1 (plS (dt g) (Pg g) w (CT (dt g) (Pg g) w al) a s n (fun _ => 0) i).2.1)) ((n : Int) - 1 - (i : Nat)) h1) n (fun i h1 => FrA 92 h h1 ∧ ∀ j : Int, (n : Int) - (i : Nat) ≤ j → j < (n : Int) → rd h1 92 j = (plS (dt g) (Pg g) w (CT (dt g) (Pg g) w al) a s n (fun _ => 0) i).2.2 j) (fun z => ∃ h', z = some ((n : Int), h') ∧ FrA 92 h h' ∧ ∀ j : Int, 0 ≤ j → j < (n : Int) → rd h' 92 j = plA (dt g) (Pg g) w (CT (dt g) (Pg g) w al) a s (fun _ => 0) j) (fun k i h1 hi P => Or.inl ?_) (fun k h1 P => ?_) n F 0 h (by omega) (by omega) ⟨FrA_refl sh, fun j j0 j1 => absurd j1 (by omega)⟩
    · rw [show (n : Int) - 1 = (n : Int) - 1 - ((0 : Nat) : Int) by omega]
      exact key
    · obtain ⟨fr, p1⟩ := P
      have s1 := fr.2.1
      have q := hI i (by omega)
      obtain ⟨x1, x2, x3, x4⟩ := plX_in (a := a) m hg hT hw hx q hi
      have er : rd h1 r = rd h r := fr.2.2 r (by unfold isRw at ir; omega)
      have re1 : RwE h1 r (dt g) (Pg g) w a al := by
        refine ⟨RwC_eq h8' fr.1 er (fun p q0 q1 => fr.2.2 _ (by have := sdA_in (L := Pg g 3) ⟨q0, q1⟩; omega)) (fun p q0 q1 => fr.2.2 _ (by have := (rc.2.2.2.2 p q0 q1).2.2.2.2.1.1.1; omega)) rc, ⟨by rw [er]; exact vA_eq fr.1.1 fr.1.2.2.1 fr.1.2.2.2 ve, by rw [er]; exact vA_eq fr.1.1 fr.1.2.2.1 fr.1.2.2.2 vs⟩, fun o p o0 o1 q0 q1 => by rw [fr.2.2 _ (by unfold isRw at ir; omega)]; exact wy o p o0 o1 q0 q1, fun t ht => ?_⟩
        have h5 := ve.1.1
        have h6 := vs.1.1
        rw [er, fr.2.2 (rd h r 5) (by omega), fr.2.2 (rd h r 6) (by omega)]
        exact rb t ht
      have e1 : plS (dt g) (Pg g) w (CT (dt g) (Pg g) w al) a s n (fun _ => 0) (i + 1) = ((plS (dt g) (Pg g) w (CT (dt g) (Pg g) w al) a s n (fun _ => 0) i).1 - 2 ^ plX (dt g) (Pg g) w (CT (dt g) (Pg g) w al) a s (plS (dt g) (Pg g) w (CT (dt g) (Pg g) w al) a s n (fun _ => 0) i).1 (plS (dt g) (Pg g) w (CT (dt g) (Pg g) w al) a s n (fun _ => 0) i).2.1, ((plX (dt g) (Pg g) w (CT (dt g) (Pg g) w al) a s (plS (dt g) (Pg g) w (CT (dt g) (Pg g) w al) a s n (fun _ => 0) i).1 (plS (dt g) (Pg g) w (CT (dt g) (Pg g) w al) a s n (fun _ => 0) i).2.1 : Nat) : Int), up (plS (dt g) (Pg g) w (CT (dt g) (Pg g) w al) a s n (fun _ => 0) i).2.2 (n - 1 - i : Int) (plX (dt g) (Pg g) w (CT (dt g) (Pg g) w al) a s (plS (dt g) (Pg g) w (CT (dt g) (Pg g) w al) a s n (fun _ => 0) i).1 (plS (dt g) (Pg g) w (CT (dt g) (Pg g) w al) a s n (fun _ => 0) i).2.1 : Nat)) := rfl
      obtain ⟨q1, q2, q3, q4⟩ := q
      have hp : (plS (dt g) (Pg g) w (CT (dt g) (Pg g) w al) a s n (fun _ => 0) i).2.1 = -1 ∨ (0 ≤ (plS (dt g) (Pg g) w (CT (dt g) (Pg g) w al) a s n (fun _ => 0) i).2.1 ∧ (plS (dt g) (Pg g) w (CT (dt g) (Pg g) w al) a s n (fun _ => 0) i).2.1 < dt g 0 0) := by
        rcases q4 with ⟨-, z, -⟩ | ⟨-, z1, z2, -⟩
        · exact Or.inl z
        · exact Or.inr ⟨z1, z2⟩
      have hl0 : (plS (dt g) (Pg g) w (CT (dt g) (Pg g) w al) a s n (fun _ => 0) i).1 ≠ 0 := fun z => by rw [z] at x2; rw [Nat.zero_testBit] at x2; exact absurd x2 (by decide)
      have hf := c_first (F := F) (h := h1) (due := plD (CT (dt g) (Pg g) w al) a s (plS (dt g) (Pg g) w (CT (dt g) (Pg g) w al) a s n (fun _ => 0) i).1 (plS (dt g) (Pg g) w (CT (dt g) (Pg g) w al) a s n (fun _ => 0) i).2.1) m hg hw s1 re1 q1 hl0 q2 (plD_ok m hg hw h0) hp 8 F 0 (by obtain ⟨u, u1, u2, u3⟩ := x1; exact ⟨u, u1, u2, u3⟩) (by omega) (by omega)
      have hf2 : Rows_firstLast F r ((plS (dt g) (Pg g) w (CT (dt g) (Pg g) w al) a s n (fun _ => 0) i).1 : Nat) (plS (dt g) (Pg g) w (CT (dt g) (Pg g) w al) a s n (fun _ => 0) i).2.1 (cap (plD (CT (dt g) (Pg g) w al) a s (plS (dt g) (Pg g) w (CT (dt g) (Pg g) w al) a s n (fun _ => 0) i).1 (plS (dt g) (Pg g) w (CT (dt g) (Pg g) w al) a s n (fun _ => 0) i).2.1)) h1 = some (((plX (dt g) (Pg g) w (CT (dt g) (Pg g) w al) a s (plS (dt g) (Pg g) w (CT (dt g) (Pg g) w al) a s n (fun _ => 0) i).1 (plS (dt g) (Pg g) w (CT (dt g) (Pg g) w al) a s n (fun _ => 0) i).2.1 : Nat) : Int), h1) := hf
      generalize hX : plX (dt g) (Pg g) w (CT (dt g) (Pg g) w al) a s (plS (dt g) (Pg g) w (CT (dt g) (Pg g) w al) a s n (fun _ => 0) i).1 (plS (dt g) (Pg g) w (CT (dt g) (Pg g) w al) a s n (fun _ => 0) i).2.1 = X at *
      generalize hQ : plS (dt g) (Pg g) w (CT (dt g) (Pg g) w al) a s n (fun _ => 0) i = Q at *
      have fw := FrA_wr (i := (n : Int) - 1 - (i : Nat)) (v := (X : Int)) fr (ok92 _)
      have hE := ((re1.2.2.2) Q.1 q1).2 (by omega) q2 X x2
      have hor := or_drop Q.1 (by omega) X x3 x2
      have e2 : plD (CT (dt g) (Pg g) w al) a s (Q.1 - 2 ^ X) (X : Nat) = CT (dt g) (Pg g) w al (8 * (Q.1 : Nat) + (X : Nat)) := by
        unfold plD
        rw [if_neg (by omega), Int.toNat_natCast, hor]
      refine ⟨_, ⟨fw, fun j j0 j1 => ?_⟩, ?_⟩
      · rw [e1]
        show _ = up Q.2.2 (n - 1 - i : Int) (X : Nat) j
        by_cases c : j = (n : Int) - 1 - (i : Nat)
        · subst c; rw [rd_same, up_s]
        · rw [rd_i c, up_n c]; exact p1 j (by omega) j1
      · show Rows_trace_L24s F (Rows_trace_L24 F k) r 92 n (Q.1 : Nat) Q.2.1 (cap (plD (CT (dt g) (Pg g) w al) a s Q.1 Q.2.1)) ((n : Int) - 1 - (i : Nat)) h1 = _
        rw [e1]
        show _ = Rows_trace_L24 F k r 92 n ((Q.1 - 2 ^ X : Nat) : Int) (X : Nat) (cap (plD (CT (dt g) (Pg g) w al) a s (Q.1 - 2 ^ X) (X : Nat))) ((n : Int) - 1 - ((i + 1 : Nat) : Int)) _
        unfold Rows_trace_L24s
        have ve1 := re1.2.1.1
        have sw := fw.2.1
        have hpX : 2 ^ X < 256 := by have := Nat.pow_lt_pow_right (a := 2) (by decide) x3; omega
        rw [if_neg (by omega), ivQ s1 ir, hf2, cl_some, if_neg (by omega), nN4 s1, if_pos (by omega), sN4 s1 (by omega) (by omega), gQ5 sw ir, rd_wr_ne (show r ≠ 92 by unfold isRw at ir; omega), w32_id (x := (Q.1 : Int) * 8) (by omega) (by omega), w32_id (x := (Q.1 : Int) * 8 + (X : Int)) (by omega) (by omega), al_ok (h := wr h1 92 ((n : Int) - 1 - (i : Nat)) (X : Int)) (vA_eq (h := h1) rfl rfl rfl ve1).1.2 (vA_eq (h := h1) rfl rfl rfl ve1).2 (by omega) (by omega), rd_wr_ne (show rd h1 r 5 ≠ 92 by have := ve1.1.1; omega), show (Q.1 : Int) * 8 + (X : Int) = 8 * (Q.1 : Int) + (X : Int) by omega, hE, lt_eq, ishl_1 X (by omega), ixor_nat (by omega) (by omega), xr_b (by omega) x3 x2, e2, w32_id (by omega) (by omega), show (n : Int) - 1 - (i : Nat) + -1 = (n : Int) - 1 - ((i + 1 : Nat) : Int) by omega]
    · obtain ⟨fr, p1⟩ := P
      refine ⟨h1, ?_, fr, fun j j0 j1 => ?_⟩
      · show Rows_trace_L24s F (Rows_trace_L24 F k) r 92 n _ _ _ ((n : Int) - 1 - (n : Nat)) h1 = _
        unfold Rows_trace_L24s
        rw [if_pos (by omega)]
      · rw [p1 j (by omega) j1]
        unfold plA
        rw [hn]
