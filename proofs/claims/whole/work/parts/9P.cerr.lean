/-! the class's errors of cords -/
def eb (f : Int → Int) (S : Nat) : Nat → Int × Int
  | 0 => (f (-2), -2)
  | k + 1 => if S.testBit k = true ∧ f k < (eb f S k).1 then (f k, (k : Int)) else eb f S k
theorem scO_eb {f : Int → Int} {S : Nat} {p : Int} {q : Int × Int × Int} (hp : 0 ≤ p) : ∀ k : Nat, scO f S p q (k + 2) = if 0 ≤ q.1 ∧ q.2.1 ≤ (eb f S k).1 then q else (p, (eb f S k).1, (eb f S k).2) := by
  intro k
  induction k with
  | zero =>
    show (if (1 : Nat) = 1 ∨ _ then scO f S p q 1 else _) = _
    rw [if_pos (Or.inl rfl)]
    show (if (0 : Nat) = 1 ∨ (2 ≤ 0 ∧ _) then q else if 0 ≤ q.1 ∧ q.2.1 ≤ f (((0 : Nat) : Int) - 2) then q else (p, f (((0 : Nat) : Int) - 2), ((0 : Nat) : Int) - 2)) = _
    rw [if_neg (by omega)]
    rfl
  | succ k ih =>
    have es : scO f S p q (k + 1 + 2) = (if k + 2 = 1 ∨ (2 ≤ k + 2 ∧ S.testBit (k + 2 - 2) = false) then scO f S p q (k + 2) else if 0 ≤ (scO f S p q (k + 2)).1 ∧ (scO f S p q (k + 2)).2.1 ≤ f (((k + 2 : Nat) : Int) - 2) then scO f S p q (k + 2) else (p, f (((k + 2 : Nat) : Int) - 2), ((k + 2 : Nat) : Int) - 2)) := rfl
    rw [es, show k + 2 - 2 = k by omega, show ((k + 2 : Nat) : Int) - 2 = (k : Int) by omega]
    by_cases hb : S.testBit k = true
    · rw [if_neg (fun z => by
        rcases z with z | z
        · omega
        · rw [hb] at z; exact absurd z.2 (by decide))]
      by_cases c2 : f k < (eb f S k).1
      · have e1 : eb f S (k + 1) = (f k, (k : Int)) := if_pos ⟨hb, c2⟩
        rw [e1, ih]
        by_cases c1 : 0 ≤ q.1 ∧ q.2.1 ≤ (eb f S k).1
        · rw [if_pos c1]
        · rw [if_neg c1]
          show (if 0 ≤ p ∧ (eb f S k).1 ≤ f k then (p, (eb f S k).1, (eb f S k).2) else (p, f k, (k : Int))) = if 0 ≤ q.1 ∧ q.2.1 ≤ f k then q else (p, f k, (k : Int))
          rw [if_neg (by omega), if_neg (fun z => c1 ⟨z.1, by omega⟩)]
      · have e1 : eb f S (k + 1) = eb f S k := if_neg (fun z => c2 z.2)
        rw [e1, ih]
        by_cases c1 : 0 ≤ q.1 ∧ q.2.1 ≤ (eb f S k).1
        · rw [if_pos c1, if_pos ⟨c1.1, by omega⟩]
        · rw [if_neg c1]
          show (if 0 ≤ p ∧ (eb f S k).1 ≤ f k then (p, (eb f S k).1, (eb f S k).2) else (p, f k, (k : Int))) = _
          rw [if_pos ⟨hp, by omega⟩]
    · have e1 : eb f S (k + 1) = eb f S k := if_neg (fun z => hb z.1)
      rw [if_pos (Or.inr ⟨by omega, Bool.eq_false_iff.2 hb⟩), e1, ih]
theorem scP_su {g : Int → Int → Int} {S m n : Nat} : scP g S m (n + 1) = if S.testBit n then scP g S m n else if 0 ≤ (scP g S m n).1 ∧ (scP g S m n).2.1 ≤ (eb (g n) S m).1 then scP g S m n else ((n : Int), (eb (g n) S m).1, (eb (g n) S m).2) := by
  show (if S.testBit n then scP g S m n else scO (g n) S n (scP g S m n) (m + 2)) = _
  rw [scO_eb (by omega)]
theorem scP_eb {g : Int → Int → Int} {S m : Nat} : ∀ n, (scP g S m n).1 = -1 ∨ ∃ x : Nat, x < n ∧ S.testBit x = false ∧ scP g S m n = ((x : Int), (eb (g x) S m).1, (eb (g x) S m).2) := by
  intro n
  induction n with
  | zero => exact Or.inl rfl
  | succ n ih =>
    have up : (scP g S m n).1 = -1 ∨ ∃ x : Nat, x < n + 1 ∧ S.testBit x = false ∧ scP g S m n = ((x : Int), (eb (g x) S m).1, (eb (g x) S m).2) := by
      rcases ih with e | ⟨x, x1, x2, x3⟩
      · exact Or.inl e
      · exact Or.inr ⟨x, by omega, x2, x3⟩
    rw [scP_su]
    by_cases hb : S.testBit n = true
    · rw [if_pos hb]; exact up
    · rw [if_neg hb]
      by_cases c : 0 ≤ (scP g S m n).1 ∧ (scP g S m n).2.1 ≤ (eb (g n) S m).1
      · rw [if_pos c]; exact up
      · rw [if_neg c]; exact Or.inr ⟨n, by omega, Bool.eq_false_iff.2 hb, rfl⟩
/-- the best source: the least, the first of them -/
def src (S : Nat) (o : Int) : Prop := o = -2 ∨ (0 ≤ o ∧ S.testBit o.toNat = true)
def BsE (f : Int → Int) (S : Nat) (z : Int × Int) : Prop := src S z.2 ∧ f z.2 = z.1 ∧ ∀ q, src S q → z.1 < f q ∨ (z.1 = f q ∧ z.2 ≤ q)
theorem BsE_uni {f : Int → Int} {S : Nat} {y z : Int × Int} (a : BsE f S y) (b : BsE f S z) : y = z := by
  obtain ⟨a1, a2, a3⟩ := a
  obtain ⟨b1, b2, b3⟩ := b
  have h1 := a3 _ b1
  have h2 := b3 _ a1
  refine Prod.ext ?_ ?_
  · omega
  · omega
theorem eb_Bs {f : Int → Int} {S m : Nat} (hS : S < 2 ^ m) : BsE f S (eb f S m) := by
  have key : ∀ k : Nat, src S (eb f S k).2 ∧ (eb f S k).2 < (k : Int) ∧ f (eb f S k).2 = (eb f S k).1 ∧ ∀ q, src S q → q < (k : Int) → (eb f S k).1 < f q ∨ ((eb f S k).1 = f q ∧ (eb f S k).2 ≤ q) := by
    intro k
    induction k with
    | zero => exact ⟨Or.inl rfl, show (-2 : Int) < ((0 : Nat) : Int) by decide, rfl, fun q hq h0 => by
      rcases hq with e | e
      · subst e; exact Or.inr ⟨rfl, Int.le_refl _⟩
      · omega⟩
    | succ k ih =>
      obtain ⟨i1, i2, i3, i4⟩ := ih
      unfold eb
      by_cases c : S.testBit k = true ∧ f k < (eb f S k).1
      · rw [if_pos c]
        refine ⟨Or.inr ⟨by show (0 : Int) ≤ (k : Int); omega, by show S.testBit ((k : Int)).toNat = true; rw [Int.toNat_natCast]; exact c.1⟩, by show (k : Int) < ((k + 1 : Nat) : Int); omega, rfl, fun q hq h0 => ?_⟩
        show f k < f q ∨ (f k = f q ∧ (k : Int) ≤ q)
        by_cases e : q = k
        · subst e; exact Or.inr ⟨rfl, by omega⟩
        · have := i4 q hq (by omega)
          have := c.2
          omega
      · rw [if_neg c]
        refine ⟨i1, by omega, i3, fun q hq h0 => ?_⟩
        by_cases e : q = k
        · subst e
          have hb : S.testBit k = true := by
            rcases hq with e | e
            · omega
            · rw [Int.toNat_natCast] at e; exact e.2
          have : ¬ f k < (eb f S k).1 := fun z => c ⟨hb, z⟩
          omega
        · exact i4 q hq (by omega)
  obtain ⟨k1, -, k3, k4⟩ := key m
  refine ⟨k1, k3, fun q hq => k4 q hq ?_⟩
  rcases hq with e | e
  · omega
  · have := bit_lt hS e.2
    omega
theorem src_or {S x : Nat} {o : Int} : src (S ||| 2 ^ x) o ↔ (src S o ∨ o = x) := by
  unfold src
  rw [Nat.testBit_or, Nat.testBit_two_pow, Bool.or_eq_true, decide_eq_true_eq]
  constructor
  · intro h
    rcases h with h | ⟨h, h2 | h2⟩
    · exact Or.inl (Or.inl h)
    · exact Or.inl (Or.inr ⟨h, h2⟩)
    · exact Or.inr (by omega)
  · intro h
    rcases h with (h | h) | h
    · exact Or.inl h
    · exact Or.inr ⟨h.1, Or.inl h.2⟩
    · exact Or.inr ⟨by omega, Or.inr (by omega)⟩
/-- one source more -/
theorem eb_more {f f' : Int → Int} {S x m : Nat} (hS : S < 2 ^ m) (hx : x < m) (hf : ∀ q, src S q → f' q = f q) : eb f' (S ||| 2 ^ x) m = if f' x < (eb f S m).1 ∨ (f' x = (eb f S m).1 ∧ (x : Int) < (eb f S m).2) then (f' x, (x : Int)) else eb f S m := by
  obtain ⟨b1, b2, b3⟩ := eb_Bs (f := f) hS
  refine BsE_uni (f := f') (S := S ||| 2 ^ x) (eb_Bs (or_lt hS hx)) ?_
  by_cases c : f' x < (eb f S m).1 ∨ (f' x = (eb f S m).1 ∧ (x : Int) < (eb f S m).2)
  · rw [if_pos c]
    refine ⟨src_or.2 (Or.inr rfl), rfl, fun q hq => ?_⟩
    show f' x < f' q ∨ (f' x = f' q ∧ (x : Int) ≤ q)
    rcases src_or.1 hq with h | h
    · have := b3 q h
      rw [hf q h]
      omega
    · subst h; exact Or.inr ⟨rfl, by omega⟩
  · rw [if_neg c]
    refine ⟨src_or.2 (Or.inl b1), by rw [hf _ b1]; exact b2, fun q hq => ?_⟩
    rcases src_or.1 hq with h | h
    · rw [hf q h]; exact b3 q h
    · subst h
      omega
theorem awayI_comm (x y u v : Int) : awayI x y u v = awayI u v x y := by
  unfold awayI
  (repeat' split) <;> omega
/-- the arrays of errors while they are settled -/
def ErI (h : Hp) (D : Nat → Int → Int) (L : Lw) (S : Nat) (E G : Int → Int) : Prop := ∀ p : Nat, p < (D 0 0).toNat → (S.testBit p = true → rd h 40 p = E p ∧ rd h 41 p = G p) ∧ (S.testBit p = false → rd h 40 p = (eb (erV D L E p) S (D 0 0).toNat).1 ∧ rd h 41 p = (eb (erV D L E p) S (D 0 0).toNat).2)
theorem c_least {F : Nat} {h : Hp} {c : Int} {D : Nat → Int → Int} {L : Lw} {S : Nat} {E G : Int → Int} (hF : 1000 ≤ F) (s : Sh h) (dk : Dok D) (hc : rd h 22 0 = c) (cx : CxE h c D) (hS : S < 2 ^ (D 0 0).toNat) (er : ErI h D L S E G) : Shor_leastError F 22 S h = some ((scP (erV D L E) S (D 0 0).toNat (D 0 0).toNat).1, h) := by
  have ic := cx.1
  have h8 : D 0 0 ≤ 8 := dk.1.2
  have t8 : 2 ^ (D 0 0).toNat ≤ 256 := two8 (by omega)
  unfold Shor_leastError
  have key := loop0 (fun n i => Shor_leastError_L4 F n 22 S (scP (erV D L E) S (D 0 0).toNat i).1 (i : Nat) h) (D 0 0).toNat F (some ((scP (erV D L E) S (D 0 0).toNat (D 0 0).toNat).1, h)) (by omega) (fun n i hi => ?_) (fun n => ?_)
  · exact key
  · show Shor_leastError_L4s F (Shor_leastError_L4 F n) 22 S (scP (erV D L E) S (D 0 0).toNat i).1 (i : Nat) h = Shor_leastError_L4 F n 22 S (scP (erV D L E) S (D 0 0).toNat (i + 1)).1 ((i + 1 : Nat) : Int) h
    have hx := scP_eb (g := erV D L E) (S := S) (m := (D 0 0).toNat) i
    unfold Shor_leastError_L4s
    rw [gH0 s, hc, gC4 s ic, cx.2.1, if_pos (by omega), bit_I S (by omega) i (by omega), scP_su]
    by_cases hb : S.testBit i = true
    · rw [if_pos hb, if_neg (by decide), if_pos hb]
      unfold Shor_leastError_B28
      rw [if_pos rfl, w32_nat (by omega)]
    · have e := ((er i hi).2 (Bool.eq_false_iff.2 hb)).1
      rw [if_neg hb, if_pos rfl, if_neg hb]
      unfold Shor_leastError_B28
      rw [if_neg (by decide)]
      rcases hx with x0 | ⟨x, x1, x2, x3⟩
      · rw [if_pos (by omega), if_neg (by omega), w32_nat (by omega)]
      · have ex := ((er x (by omega)).2 x2).1
        rw [x3]
        show (if (x : Int) < 0 then _ else _) = Shor_leastError_L4 F n 22 S (if 0 ≤ (x : Int) ∧ (eb (erV D L E x) S (D 0 0).toNat).1 ≤ (eb (erV D L E i) S (D 0 0).toNat).1 then ((x : Int), (eb (erV D L E x) S (D 0 0).toNat).1, (eb (erV D L E x) S (D 0 0).toNat).2) else ((i : Int), (eb (erV D L E i) S (D 0 0).toNat).1, (eb (erV D L E i) S (D 0 0).toNat).2)).1 ((i + 1 : Nat) : Int) h
        rw [if_neg (by omega), gH5 s, aH5 s (by omega) (by omega), e, gH5 s, aH5 s (by omega) (by omega), ex, w32_nat (by omega)]
        by_cases c1 : (eb (erV D L E i) S (D 0 0).toNat).1 < (eb (erV D L E x) S (D 0 0).toNat).1
        · rw [if_pos c1, if_neg (by omega)]
        · rw [if_neg c1, if_pos ⟨by omega, by omega⟩]
  · show Shor_leastError_L4s F (Shor_leastError_L4 F n) 22 S _ ((D 0 0).toNat : Nat) h = _
    unfold Shor_leastError_L4s
    rw [gH0 s, hc, gC4 s ic, cx.2.1, if_neg (by omega)]
