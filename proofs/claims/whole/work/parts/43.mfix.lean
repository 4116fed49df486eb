/-! the table does not depend on what stood there before -/
theorem mnB_congr {f g : Int → Int} {b : Nat} {i : Int} : ∀ n : Nat, (∀ o : Nat, o < n → b.testBit o = true → f o = g o) → mnB f b i n = mnB g b i n
  | 0, _ => rfl
  | n + 1, h => by
    have ih := mnB_congr (f := f) (g := g) (b := b) (i := i) n (fun o ho hb => h o (by omega) hb)
    unfold mnB
    rw [ih]
    by_cases hb : b.testBit n = true
    · rw [h n (by omega) hb]
    · rw [if_neg (fun q => hb q.1), if_neg (fun q => hb q.1)]
theorem bst_congr {D : Nat → Int → Int} {G : Nat → Int} {w : Int} {T U : Int → Int} {s p : Nat} (h : ∀ o : Nat, o < 8 → (s - 2 ^ p).testBit o = true → T (8 * ((s - 2 ^ p : Nat) : Int) + o) = U (8 * ((s - 2 ^ p : Nat) : Int) + o)) : bst D G w T s p = bst D G w U s p := by
  unfold bst
  refine mnB_congr 8 (fun o ho hb => ?_)
  show rb1 D G w T _ _ _ = rb1 D G w U _ _ _
  unfold rb1
  rw [h o ho hb]
theorem tabP_far {D : Nat → Int → Int} {G : Nat → Int} {w : Int} {T : Int → Int} {s : Nat} {j : Int} (hj : j < 8 * s ∨ 8 * s + 8 ≤ j) : ∀ n, n ≤ 8 → tabP D G w T s n j = T j
  | 0, _ => rfl
  | n + 1, hn => by
    have ih := tabP_far (D := D) (G := G) (w := w) (T := T) hj n (by omega)
    unfold tabP
    split
    · rw [up_n (by omega)]; exact ih
    · exact ih
theorem drop_lt {s p : Nat} (hb : s.testBit p = true) : s - 2 ^ p < s := by
  have h1 : 0 < 2 ^ p := Nat.two_pow_pos p
  have h2 : s ≠ 0 := by
    intro q
    rw [q, Nat.zero_testBit] at hb
    exact absurd hb (by decide)
  omega
theorem tabP_at {D : Nat → Int → Int} {G : Nat → Int} {w : Int} {T : Int → Int} {s p : Nat} (hb : s.testBit p = true) : ∀ n, n ≤ 8 → p < n → tabP D G w T s n (8 * s + p) = bst D G w T s p
  | 0, _, hp => by omega
  | n + 1, hn, hp => by
    unfold tabP
    by_cases hpn : p = n
    · subst hpn
      rw [if_pos hb, up_s]
      have hd := drop_lt hb
      exact bst_congr (fun o ho _ => tabP_far (by omega) p (by omega))
    · have ih := tabP_at (D := D) (G := G) (w := w) (T := T) hb n (by omega) (by omega)
      split
      · rw [up_n (by omega)]; exact ih
      · exact ih
theorem tabS_keep {D : Nat → Int → Int} {G : Nat → Int} {w : Int} {T : Int → Int} {al s p k : Nat} (hp : p < 8) (hs : s ≤ k) : ∀ n, k ≤ n → tabS D G w T al n (8 * s + p) = tabS D G w T al k (8 * s + p) := by
  intro n hk
  induction n with
  | zero => rw [show k = 0 by omega]
  | succ n ih =>
    by_cases he : k = n + 1
    · rw [he]
    · rw [← ih (by omega)]
      show (if (n + 1) &&& al = n + 1 then tabP D G w (tabS D G w T al n) (n + 1) 8 else tabS D G w T al n) _ = _
      split
      · exact tabP_far (by omega) 8 (by omega)
      · rfl
theorem tabS_fix {D : Nat → Int → Int} {G : Nat → Int} {w : Int} {T : Int → Int} {al s p n : Nat} (hs1 : 1 ≤ s) (hsn : s ≤ n) (ha : s &&& al = s) (hp : p < 8) (hb : s.testBit p = true) : tabS D G w T al n (8 * s + p) = bst D G w (tabS D G w T al n) s p := by
  rw [tabS_keep hp (Nat.le_refl s) n hsn]
  obtain ⟨k, rfl⟩ : ∃ k, s = k + 1 := ⟨s - 1, by omega⟩
  have e : tabS D G w T al (k + 1) = tabP D G w (tabS D G w T al k) (k + 1) 8 := by
    show (if (k + 1) &&& al = k + 1 then tabP D G w (tabS D G w T al k) (k + 1) 8 else tabS D G w T al k) = _
    rw [if_pos ha]
  rw [e, tabP_at hb 8 (by omega) hp]
  have hd := drop_lt hb
  exact bst_congr (fun o ho _ => (tabS_keep ho (by omega) n (by omega)).symm)
theorem sub_drop {s al p : Nat} (ha : s &&& al = s) (hb : s.testBit p = true) (hs : s < 256) (hl : al < 256) : (s - 2 ^ p) &&& al = s - 2 ^ p := by
  have key : ∀ s : Nat, s < 256 → ∀ p : Nat, p < 8 → s.testBit p = true → ∀ o : Nat, o < 8 → (s - 2 ^ p).testBit o = true → s.testBit o = true := by decide +kernel
  have hp : p < 8 := bit_lt (n := 8) hs hb
  refine Nat.eq_of_testBit_eq (fun i => ?_)
  rw [Nat.testBit_and]
  by_cases hi : (s - 2 ^ p).testBit i = true
  · have hi8 : i < 8 := bit_lt (n := 8) (Nat.lt_of_le_of_lt (Nat.sub_le _ _) hs) hi
    have h1 := key s hs p hp hb i hi8 hi
    have h2 : (s &&& al).testBit i = true := by rw [ha]; exact h1
    rw [Nat.testBit_and, h1, Bool.true_and] at h2
    rw [hi, h2]; rfl
  · have : (s - 2 ^ p).testBit i = false := by simpa using hi
    rw [this, Bool.false_and]
/-- two tables that obey the same rule are the same -/
theorem tab_uni {D : Nat → Int → Int} {G : Nat → Int} {w : Int} {T U : Int → Int} {al n : Nat} (hn : n < 256) (hl : al < 256) (hT : ∀ s p : Nat, 1 ≤ s → s ≤ n → s &&& al = s → p < 8 → s.testBit p = true → T (8 * s + p) = bst D G w T s p) (hU : ∀ s p : Nat, 1 ≤ s → s ≤ n → s &&& al = s → p < 8 → s.testBit p = true → U (8 * s + p) = bst D G w U s p) :
    ∀ k s : Nat, s ≤ k → 1 ≤ s → s ≤ n → s &&& al = s → ∀ p : Nat, p < 8 → s.testBit p = true → T (8 * s + p) = U (8 * s + p) := by
  intro k
  induction k with
  | zero => intro s h1 h2; omega
  | succ k ih =>
    intro s hk h1 hs ha p hp hb
    rw [hT s p h1 hs ha hp hb, hU s p h1 hs ha hp hb]
    have hd := drop_lt hb
    refine bst_congr (fun o ho hbo => ?_)
    have hpos : 1 ≤ s - 2 ^ p := by
      refine Nat.pos_of_ne_zero (fun q => ?_)
      rw [q, Nat.zero_testBit] at hbo
      exact absurd hbo (by decide)
    exact ih (s - 2 ^ p) (by omega) hpos (by omega) (sub_drop ha hb (by omega) hl) o ho hbo
def CT (D : Nat → Int → Int) (G : Nat → Int) (w : Int) (al : Nat) : Int → Int := tabF D G w (fun _ => 0) al
theorem tabF_CT {D : Nat → Int → Int} {G : Nat → Int} {w : Int} {T : Int → Int} {al s p : Nat} (h8 : (D 0 0).toNat ≤ 8) (hl : al < 256) (hs1 : 1 ≤ s) (hs : s < 2 ^ (D 0 0).toNat) (ha : s &&& al = s) (hp : p < 8) (hb : s.testBit p = true) : tabF D G w T al (8 * s + p) = CT D G w al (8 * s + p) := by
  have h256 := two8 h8
  exact tab_uni (n := 2 ^ (D 0 0).toNat - 1) (by omega) hl (fun s p h1 h2 h3 h4 h5 => tabS_fix h1 h2 h3 h4 h5) (fun s p h1 h2 h3 h4 h5 => tabS_fix h1 h2 h3 h4 h5) s s (Nat.le_refl s) hs1 (by omega) ha p hp hb
theorem lrV_CT {D : Nat → Int → Int} {G : Nat → Int} {w a : Int} {T : Int → Int} {al s : Nat} (h8 : (D 0 0).toNat ≤ 8) (hl : al < 256) (hs : s < 2 ^ (D 0 0).toNat) (ha : s &&& al = s) : lrV (tabF D G w T al) a s = lrV (CT D G w al) a s := by
  unfold lrV
  refine mnB_congr 8 (fun p hp hb => ?_)
  by_cases h0 : s = 0
  · rw [h0, Nat.zero_testBit] at hb
    exact absurd hb (by decide)
  · exact tabF_CT h8 hl (by omega) hs ha hp hb
theorem bsR_sub {D : Nat → Int → Int} {T : Int → Int} {a b : Int} {al : Nat} : ∀ n, bsR D T a b al n &&& al = bsR D T a b al n
  | 0 => by show 0 &&& al = 0; exact Nat.zero_and al
  | n + 1 => by
    have ih := bsR_sub (D := D) (T := T) (a := a) (b := b) (al := al) n
    unfold bsR
    split
    · rename_i h; exact h.1.1
    · exact ih
theorem bsR_congr {D : Nat → Int → Int} {T U : Int → Int} {a b : Int} {al m : Nat} (h : ∀ s, s ≤ m → s &&& al = s → lrV T a s = lrV U a s) : ∀ n, n ≤ m → bsR D T a b al n = bsR D U a b al n
  | 0, _ => rfl
  | n + 1, hn => by
    have ih := bsR_congr (D := D) (b := b) h n (by omega)
    have hle := bsR_le D U a b al n
    have hsb := bsR_sub (D := D) (T := U) (a := a) (b := b) (al := al) n
    unfold bsR
    rw [ih]
    by_cases ha : (n + 1) &&& al = n + 1
    · rw [h (n + 1) hn ha, h _ (by omega) hsb]
    · rw [if_neg (fun q => ha q.1.1), if_neg (fun q => ha q.1.1)]
theorem bstF_CT {D : Nat → Int → Int} {G : Nat → Int} {w a b : Int} {T : Int → Int} {al : Nat} (h8 : (D 0 0).toNat ≤ 8) (hl : al < 256) : bstF D (tabF D G w T al) a b al = bstF D (CT D G w al) a b al := by
  have hpos : 0 < 2 ^ (D 0 0).toNat := Nat.two_pow_pos _
  exact bsR_congr (m := 2 ^ (D 0 0).toNat - 1) (fun s hs ha => lrV_CT h8 hl (by omega) ha) _ (Nat.le_refl _)
