/-! the sets within a set, one after the other -/
def nxS (o t : Nat) : Nat := ((t + 256 - o) % 256) &&& o
def gapOk (o t : Nat) : Bool := if t &&& o = t ∧ t < o then decide (t < nxS o t) && decide (nxS o t &&& o = nxS o t) && (List.range (nxS o t - t - 1)).all (fun k => decide ((t + 1 + k) &&& o ≠ t + 1 + k)) else true
theorem gap_all : (List.range 256).all (fun o => (List.range 256).all (fun t => gapOk o t)) = true := by decide +kernel
theorem and_lo {x o : Nat} (ho : o < 256) : x &&& o = (x % 256) &&& o := by
  apply Nat.eq_of_testBit_eq
  intro i
  rw [Nat.testBit_and, Nat.testBit_and, show (256 : Nat) = 2 ^ 8 from rfl, Nat.testBit_mod_two_pow]
  by_cases c : i < 8
  · rw [decide_eq_true c, Bool.true_and]
  · rw [decide_eq_false c, Bool.false_and, Nat.testBit_lt_two_pow (Nat.lt_of_lt_of_le (show o < 2 ^ 8 from ho) (Nat.pow_le_pow_right (by decide) (by omega))), Bool.and_false, Bool.false_and]
theorem nx_I (t : Nat) (ht : t < 256) (o : Nat) (ho : o < 256) : iand (w32 ((t : Int) - o)) o = ((nxS o t : Nat) : Int) := by
  have e1 : w32 ((t : Int) - o) = (t : Int) - o := w32_id (by omega) (by omega)
  have e2 : BitVec.ofInt 32 ((t : Int) - o) = BitVec.ofNat 32 (t + 4294967296 - o) := by
    apply BitVec.eq_of_toNat_eq
    rw [BitVec.toNat_ofInt, BitVec.toNat_ofNat]
    omega
  rw [e1]
  unfold iand
  rw [show (Int32.ofInt ((t : Int) - o) &&& Int32.ofInt (o : Int)).toInt = (BitVec.ofInt 32 ((t : Int) - o) &&& (Int32.ofInt (o : Int)).toBitVec).toInt from rfl, i32_bv, e2]
  have h1 : (t + 4294967296 - o) % 4294967296 &&& o < 256 := Nat.lt_of_le_of_lt Nat.and_le_right ho
  have h2 : ((t + 4294967296 - o) % 4294967296 &&& o) = nxS o t := by
    unfold nxS
    rw [and_lo ho, show (t + 4294967296 - o) % 4294967296 % 256 = (t + 256 - o) % 256 by omega]
  rw [BitVec.toInt_eq_toNat_of_lt] <;> rw [BitVec.toNat_and, BitVec.toNat_ofNat, BitVec.toNat_ofNat, Nat.mod_eq_of_lt (show o < 2 ^ 32 by omega)]
  · exact congrArg _ h2
  · have : (t + 4294967296 - o) % 2 ^ 32 &&& o < 256 := h1
    omega
theorem gap_ok {o t : Nat} (ho : o < 256) (ht : t &&& o = t) (hl : t < o) : t < nxS o t ∧ nxS o t &&& o = nxS o t ∧ ∀ v, t < v → v < nxS o t → ¬ v &&& o = v := by
  have h := gap_all
  rw [List.all_eq_true] at h
  have h1 := h o (List.mem_range.2 ho)
  rw [List.all_eq_true] at h1
  have h2 := h1 t (List.mem_range.2 (by omega))
  unfold gapOk at h2
  rw [if_pos ⟨ht, hl⟩] at h2
  simp only [Bool.and_eq_true, decide_eq_true_eq, List.all_eq_true, List.mem_range] at h2
  refine ⟨h2.1.1, h2.1.2, fun v v0 v1 => ?_⟩
  have := h2.2 (v - t - 1) (by omega)
  rw [show t + 1 + (v - t - 1) = v by omega] at this
  exact this
theorem twI_gap {D : Nat → Int → Int} {co : Nat → Bool} {s : Nat} {q : Nat × Nat} {a : Nat} : ∀ d : Nat, (∀ n, a ≤ n → n < a + d → ¬ (s &&& n = 0 ∧ co n = true)) → twI D co s q (a + d) = twI D co s q a := by
  intro d
  induction d with
  | zero => intro _; rfl
  | succ d ih =>
    intro hn
    show (if s &&& (a + d) = 0 ∧ co (a + d) = true ∧ _ then _ else twI D co s q (a + d)) = _
    rw [if_neg (fun z => hn (a + d) (by omega) (by omega) ⟨z.1, z.2.1⟩), ih (fun n n0 n1 => hn n n0 (by omega))]
theorem wbS_or {D : Nat → Int → Int} {s t : Nat} (h : s &&& t = 0) : ∀ k : Nat, wbS D (s ||| t) k = wbS D s k + wbS D t k := by
  intro k
  induction k with
  | zero => rfl
  | succ k ih =>
    have hb := congrArg (fun x => x.testBit k) h
    simp only [Nat.testBit_and, Nat.zero_testBit] at hb
    have ih' : smN (fun p => if (s ||| t).testBit p.toNat = true then D 2 p else 0) k = smN (fun p => if s.testBit p.toNat = true then D 2 p else 0) k + smN (fun p => if t.testBit p.toNat = true then D 2 p else 0) k := ih
    show smN (fun p => if (s ||| t).testBit p.toNat = true then D 2 p else 0) k + (if (s ||| t).testBit (Int.toNat (k : Int)) = true then D 2 k else 0) = (smN (fun p => if s.testBit p.toNat = true then D 2 p else 0) k + (if s.testBit (Int.toNat (k : Int)) = true then D 2 k else 0)) + (smN (fun p => if t.testBit p.toNat = true then D 2 p else 0) k + (if t.testBit (Int.toNat (k : Int)) = true then D 2 k else 0))
    rw [ih', Int.toNat_natCast, Nat.testBit_or]
    cases c1 : s.testBit k <;> cases c2 : t.testBit k <;> simp only [c1, c2, Bool.and_true, Bool.and_false, Bool.true_and, Bool.or_true, Bool.or_false, Bool.true_or, Bool.false_or] at hb ⊢ <;> simp at hb ⊢ <;> omega
theorem wbV_or {D : Nat → Int → Int} {s t : Nat} (h : s &&& t = 0) : wbV D (s ||| t) = wbV D s + wbV D t := wbS_or h 8
/-- what is open beside a set -/
theorem opnS {P s : Nat} (hs : s < 2 ^ P) : (2 ^ P - 1) ^^^ s < 2 ^ P ∧ ∀ n, n < 2 ^ P → (s &&& n = 0 ↔ n &&& ((2 ^ P - 1) ^^^ s) = n) := by
  have hb : ∀ x : Nat, x < 2 ^ P → ∀ i, P ≤ i → x.testBit i = false := fun x hx i hi => Nat.testBit_lt_two_pow (Nat.lt_of_lt_of_le hx (Nat.pow_le_pow_right (by decide) hi))
  have tb : ∀ i, ((2 ^ P - 1) ^^^ s).testBit i = (decide (i < P) ^^ s.testBit i) := fun i => by rw [Nat.testBit_xor, Nat.testBit_two_pow_sub_one]
  refine ⟨Nat.xor_lt_two_pow (by have := Nat.two_pow_pos P; omega) hs, fun n hn => ?_⟩
  constructor
  · intro e
    rw [and_sub]
    intro i hi
    have l : i < P := by
      apply Classical.byContradiction
      intro c
      rw [hb n hn i (by omega)] at hi
      exact absurd hi (by decide)
    have := congrArg (fun x => x.testBit i) e
    simp only [Nat.testBit_and, Nat.zero_testBit, hi, Bool.and_true] at this
    rw [tb, decide_eq_true l, this]
    rfl
  · intro e
    apply Nat.eq_of_testBit_eq
    intro i
    rw [Nat.testBit_and, Nat.zero_testBit]
    cases c : n.testBit i
    · rw [Bool.and_false]
    · have := and_sub.1 e i c
      rw [tb] at this
      have l : i < P := by
        apply Classical.byContradiction
        intro c2
        rw [hb n hn i (by omega)] at c
        exact absurd c (by decide)
      rw [decide_eq_true l] at this
      cases c3 : s.testBit i
      · rfl
      · rw [c3] at this
        exact absurd this (by decide)
