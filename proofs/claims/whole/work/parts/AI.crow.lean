/-! the row of a plan and what it does -/
theorem plS_at {D : Nat → Int → Int} {G : Nat → Int} {w : Int} {T : Int → Int} {a : Int} {s n : Nat} {A : Int → Int} (j : Nat) : ∀ i : Nat, j < i → (plS D G w T a s n A i).2.2 ((n : Int) - 1 - (j : Int)) = ((plX D G w T a s (plS D G w T a s n A j).1 (plS D G w T a s n A j).2.1 : Nat) : Int) := by
  intro i
  induction i with
  | zero => intro h; omega
  | succ i ih =>
    intro h
    show up (plS D G w T a s n A i).2.2 ((n : Int) - 1 - (i : Int)) _ ((n : Int) - 1 - (j : Int)) = _
    by_cases c : j = i
    · subst c
      rw [up_s]
    · rw [up_n (by omega)]
      exact ih (by omega)
theorem sub_or : ∀ s : Nat, s < 256 → ∀ p : Nat, p < 8 → s.testBit p = true → s = ((s - 2 ^ p) ||| 2 ^ p) ∧ (s - 2 ^ p).testBit p = false := fun s hs p hp hb => ⟨(or_drop s hs p hp hb).symm, drp_f s hs p hp hb⟩
theorem row_ch {g : Hp} {w a : Int} {al s : Nat} (m : Mo g) (hg : Gok (dt g) (Pg g)) (hw : 0 ≤ w ∧ w < dt g 1 0) (hl : al < 256) (hs : s < 2 ^ (dt g 0 0).toNat) (ha : s &&& al = s) :
    ∃ S : Nat → Nat, S 0 = 0 ∧ S (pcN s 8) = s ∧ (∀ k : Nat, k < pcN s 8 → (0 ≤ plA (dt g) (Pg g) w (CT (dt g) (Pg g) w al) a s (fun _ => 0) k ∧ plA (dt g) (Pg g) w (CT (dt g) (Pg g) w al) a s (fun _ => 0) k < dt g 0 0) ∧ (S k).testBit (plA (dt g) (Pg g) w (CT (dt g) (Pg g) w al) a s (fun _ => 0) k).toNat = false ∧ S (k + 1) = (S k ||| 2 ^ (plA (dt g) (Pg g) w (CT (dt g) (Pg g) w al) a s (fun _ => 0) k).toNat) ∧ S (k + 1) < 2 ^ (dt g 0 0).toNat ∧ S (k + 1) &&& al = S (k + 1) ∧ S (k + 1) ≠ 0) ∧
      (0 < pcN s 8 → CT (dt g) (Pg g) w al (8 * (S 1 : Int) + plA (dt g) (Pg g) w (CT (dt g) (Pg g) w al) a s (fun _ => 0) ((0 : Nat) : Int)) = rb0 (dt g) (Pg g) w (plA (dt g) (Pg g) w (CT (dt g) (Pg g) w al) a s (fun _ => 0) ((0 : Nat) : Int))) ∧
      (∀ k : Nat, k + 1 < pcN s 8 → CT (dt g) (Pg g) w al (8 * (S (k + 2) : Int) + plA (dt g) (Pg g) w (CT (dt g) (Pg g) w al) a s (fun _ => 0) ((k + 1 : Nat) : Int)) = rb1 (dt g) (Pg g) w (CT (dt g) (Pg g) w al) (S (k + 1) : Int) (plA (dt g) (Pg g) w (CT (dt g) (Pg g) w al) a s (fun _ => 0) (k : Nat)) (plA (dt g) (Pg g) w (CT (dt g) (Pg g) w al) a s (fun _ => 0) ((k + 1 : Nat) : Int))) ∧
      (0 < pcN s 8 → CT (dt g) (Pg g) w al (8 * (s : Int) + plA (dt g) (Pg g) w (CT (dt g) (Pg g) w al) a s (fun _ => 0) ((pcN s 8 - 1 : Nat) : Int)) = lrV (CT (dt g) (Pg g) w al) a s) := by
  have h8 := D8 m
  have fx : Fix (dt g) (Pg g) w (CT (dt g) (Pg g) w al) al := tabF_fix h8
  have ht : ∀ i, Vok (CT (dt g) (Pg g) w al i) := fun i => CT_ok m hg hw i
  have I := plS_I (a := a) (A := fun _ => 0) m hg ht hw hl fx hs ha
  have X := fun i (hi : i < pcN s 8) => plX_in (a := a) m hg ht hw fx (I i (by omega)) hi
  have AT : ∀ j : Nat, j < pcN s 8 → plA (dt g) (Pg g) w (CT (dt g) (Pg g) w al) a s (fun _ => 0) (((pcN s 8 - 1 - j : Nat) : Int)) = ((plX (dt g) (Pg g) w (CT (dt g) (Pg g) w al) a s (plS (dt g) (Pg g) w (CT (dt g) (Pg g) w al) a s (pcN s 8) (fun _ => 0) j).1 (plS (dt g) (Pg g) w (CT (dt g) (Pg g) w al) a s (pcN s 8) (fun _ => 0) j).2.1 : Nat) : Int) := fun j hj => by
    unfold plA
    have e : ((pcN s 8 - 1 - j : Nat) : Int) = ((pcN s 8 : Nat) : Int) - 1 - (j : Int) := by omega
    rw [e]
    exact plS_at j (pcN s 8) hj
  generalize hA : plA (dt g) (Pg g) w (CT (dt g) (Pg g) w al) a s (fun _ => 0) = A at *
  generalize hT : CT (dt g) (Pg g) w al = T at *
  generalize hQ : plS (dt g) (Pg g) w T a s (pcN s 8) (fun _ => 0) = Q at *
  have Qs : ∀ i, Q (i + 1) = ((Q i).1 - 2 ^ plX (dt g) (Pg g) w T a s (Q i).1 (Q i).2.1, ((plX (dt g) (Pg g) w T a s (Q i).1 (Q i).2.1 : Nat) : Int), up (Q i).2.2 ((pcN s 8 : Nat) - 1 - i : Int) ((plX (dt g) (Pg g) w T a s (Q i).1 (Q i).2.1 : Nat) : Int)) := fun i => by rw [← hQ]; rfl
  have Q0 : Q 0 = (s, -1, fun _ => 0) := by rw [← hQ]; rfl
  obtain ⟨n, hn⟩ : ∃ n, n = pcN s 8 := ⟨_, rfl⟩
  rw [← hn] at AT I X ⊢
  have P8 : ∀ x : Nat, x < 2 ^ (dt g 0 0).toNat → x < 256 := fun x hx => Nat.lt_of_lt_of_le hx (Nat.pow_le_pow_right (n := 2) (by decide) h8)
  -- facts of one step
  have st : ∀ i, i < n → (Q i).1 = ((Q (i + 1)).1 ||| 2 ^ plX (dt g) (Pg g) w T a s (Q i).1 (Q i).2.1) ∧ (Q (i + 1)).1.testBit (plX (dt g) (Pg g) w T a s (Q i).1 (Q i).2.1) = false := fun i hi => by
    obtain ⟨-, b1, b2, b3⟩ := X i hi
    have := sub_or _ (P8 _ (I i (by omega)).1) _ b2 b1
    rw [Qs i]
    exact this
  have nz : ∀ i, i < n → (Q i).1 ≠ 0 := fun i hi z => by
    have := (X i hi).2.1
    rw [z, Nat.zero_testBit] at this
    exact absurd this (by decide)
  have Ak : ∀ k : Nat, k < n → A k = ((plX (dt g) (Pg g) w T a s (Q (n - 1 - k)).1 (Q (n - 1 - k)).2.1 : Nat) : Int) := fun k hk => by
    have := AT (n - 1 - k) (by omega)
    rw [show n - 1 - (n - 1 - k) = k by omega] at this
    exact this
  refine ⟨fun k => (Q (n - k)).1, ?_, ?_, fun k hk => ?_, fun h0 => ?_, fun k hk => ?_, fun h0 => ?_⟩
  · show (Q (n - 0)).1 = 0
    have := (I n (by omega))
    exact pcN_0 _ (P8 _ this.1) (by have := this.2.2.1; rw [show n - 0 = n by omega]; omega)
  · show (Q (n - n)).1 = s
    rw [show n - n = 0 by omega, Q0]
  · show (0 ≤ A k ∧ A k < dt g 0 0) ∧ (Q (n - k)).1.testBit (A k).toNat = false ∧ (Q (n - (k + 1))).1 = ((Q (n - k)).1 ||| 2 ^ (A k).toNat) ∧ (Q (n - (k + 1))).1 < 2 ^ (dt g 0 0).toNat ∧ (Q (n - (k + 1))).1 &&& al = (Q (n - (k + 1))).1 ∧ (Q (n - (k + 1))).1 ≠ 0
    obtain ⟨s1, s2⟩ := st (n - 1 - k) (by omega)
    obtain ⟨-, b1, b2, b3⟩ := X (n - 1 - k) (by omega)
    rw [show n - 1 - k + 1 = n - k by omega] at s1 s2
    rw [Ak k hk, show n - (k + 1) = n - 1 - k by omega, Int.toNat_natCast]
    have := I (n - 1 - k) (by omega)
    exact ⟨⟨by omega, by omega⟩, s2, s1, this.1, this.2.1, nz _ (by omega)⟩
  · show T (8 * ((Q (n - 1)).1 : Int) + A ((0 : Nat) : Int)) = rb0 (dt g) (Pg g) w (A ((0 : Nat) : Int))
    have e := Ak 0 h0
    rw [show n - 1 - 0 = n - 1 by omega] at e
    obtain ⟨-, b1, b2, b3⟩ := X (n - 1) (by omega)
    have i1 := I (n - 1) (by omega)
    have iz : (Q (n - 1 + 1)).1 = 0 := by
      have := I (n - 1 + 1) (by omega)
      exact pcN_0 _ (P8 _ this.1) (by have := this.2.2.1; omega)
    rw [Qs (n - 1)] at iz
    have fx1 := fx _ _ (Nat.pos_of_ne_zero (nz (n - 1) (by omega))) i1.1 i1.2.1 b2 b1
    rw [e, fx1]
    unfold bst
    have iz' : (Q (n - 1)).1 - 2 ^ plX (dt g) (Pg g) w T a s (Q (n - 1)).1 (Q (n - 1)).2.1 = 0 := iz
    rw [iz', if_pos rfl]
    exact mnB_st (k := 0) (by decide) 8 (by decide)
  · show T (8 * ((Q (n - (k + 2))).1 : Int) + A ((k + 1 : Nat) : Int)) = rb1 (dt g) (Pg g) w T ((Q (n - (k + 1))).1 : Int) (A (k : Nat)) (A ((k + 1 : Nat) : Int))
    have e0 := Ak k (by omega)
    have e1 := Ak (k + 1) hk
    obtain ⟨i, hi⟩ : ∃ i, i + 2 + k = n := ⟨n - 2 - k, by omega⟩
    rw [show n - 1 - k = i + 1 by omega] at e0
    rw [show n - 1 - (k + 1) = i by omega] at e1
    rw [show n - (k + 2) = i by omega, show n - (k + 1) = i + 1 by omega, e0, e1]
    have ex := (X (i + 1) (by omega)).1
    have fs := (fsN_ok 8 0 ex).1
    obtain ⟨s1, s2⟩ := st i (by omega)
    have q1 : (Q (i + 1)).2.1 = ((plX (dt g) (Pg g) w T a s (Q i).1 (Q i).2.1 : Nat) : Int) := by rw [Qs i]
    have fs' : plC (dt g) (Pg g) w T (plD T a s (Q (i + 1)).1 (Q (i + 1)).2.1) (Q (i + 1)).1 (Q (i + 1)).2.1 (plX (dt g) (Pg g) w T a s (Q (i + 1)).1 (Q (i + 1)).2.1) = true := fs
    unfold plC plD at fs'
    rw [q1] at fs'
    rw [q1]
    simp only [Bool.and_eq_true, decide_eq_true_eq] at fs'
    rw [if_neg (by omega), if_neg (by omega), Int.toNat_natCast, ← s1] at fs'
    exact fs'.2.symm
  · have e := Ak (n - 1) (by omega)
    rw [show n - 1 - (n - 1) = 0 by omega] at e
    have ex := (X 0 (by omega)).1
    have fs := (fsN_ok 8 0 ex).1
    have fs' : plC (dt g) (Pg g) w T (plD T a s (Q 0).1 (Q 0).2.1) (Q 0).1 (Q 0).2.1 (plX (dt g) (Pg g) w T a s (Q 0).1 (Q 0).2.1) = true := fs
    rw [e]
    unfold plC plD at fs'
    rw [Q0] at fs' ⊢
    simp only [Bool.and_eq_true, decide_eq_true_eq] at fs'
    rw [if_pos (by decide), if_pos (by decide)] at fs'
    exact fs'.2
