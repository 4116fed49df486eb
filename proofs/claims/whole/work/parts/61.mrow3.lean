/-! the row of a plan -/
def fsN (g : Nat → Bool) : Nat → Nat → Nat
  | 0, o => o
  | n + 1, o => if g o then o else fsN g n (o + 1)
theorem fsN_ok {g : Nat → Bool} : ∀ n o : Nat, (∃ q, o ≤ q ∧ q < o + n ∧ g q = true) → g (fsN g n o) = true ∧ o ≤ fsN g n o ∧ fsN g n o < o + n
  | 0, o, ⟨q, h1, h2, _⟩ => by omega
  | n + 1, o, ⟨q, h1, h2, h3⟩ => by
    unfold fsN
    by_cases hg : g o = true
    · rw [if_pos hg]; exact ⟨hg, by omega, by omega⟩
    · rw [if_neg hg]
      have hq : q ≠ o := fun e => hg (e ▸ h3)
      obtain ⟨a, b, c⟩ := fsN_ok n (o + 1) ⟨q, by omega, by omega, h3⟩
      exact ⟨a, by omega, by omega⟩
theorem fsN_congr {g g' : Nat → Bool} : ∀ n o : Nat, (∀ q, o ≤ q → q < o + n → g q = g' q) → fsN g n o = fsN g' n o
  | 0, _, _ => rfl
  | n + 1, o, h => by
    unfold fsN
    rw [h o (by omega) (by omega), fsN_congr n (o + 1) (fun q a b => h q (by omega) (by omega))]
theorem mnB_le {f : Int → Int} {b : Nat} {i : Int} : ∀ n : Nat, mnB f b i n ≤ i ∧ ∀ o : Nat, o < n → b.testBit o = true → mnB f b i n ≤ f o
  | 0 => ⟨Int.le_refl _, fun o ho _ => by omega⟩
  | n + 1 => by
    obtain ⟨h1, h2⟩ := mnB_le (f := f) (b := b) (i := i) n
    unfold mnB
    split
    · rename_i q
      refine ⟨by omega, fun o ho hb => ?_⟩
      by_cases e : o = n
      · subst e; exact Int.le_refl _
      · have := h2 o (by omega) hb; omega
    · rename_i q
      refine ⟨h1, fun o ho hb => ?_⟩
      by_cases e : o = n
      · subst e
        by_cases hlt : f o < mnB f b i o
        · exact absurd ⟨hb, hlt⟩ q
        · omega
      · exact h2 o (by omega) hb
theorem mnB_at {f : Int → Int} {b : Nat} {i : Int} : ∀ n : Nat, mnB f b i n = i ∨ ∃ o : Nat, o < n ∧ b.testBit o = true ∧ f o = mnB f b i n
  | 0 => Or.inl rfl
  | n + 1 => by
    unfold mnB
    split
    · rename_i q
      exact Or.inr ⟨n, by omega, q.1, rfl⟩
    · rcases mnB_at (f := f) (b := b) (i := i) n with h | ⟨o, h1, h2, h3⟩
      · exact Or.inl h
      · exact Or.inr ⟨o, by omega, h2, h3⟩
theorem bit_ex : ∀ l : Nat, l < 256 → l ≠ 0 → ∃ o, o < 8 ∧ l.testBit o = true := by
  intro l hl h0
  by_cases hc : ∃ o, o < 8 ∧ l.testBit o = true
  · exact hc
  · refine absurd (Nat.eq_of_testBit_eq (fun i => ?_)) h0
    rw [Nat.zero_testBit]
    by_cases hi : l.testBit i = true
    · exact absurd ⟨i, bit_lt (n := 8) hl hi, hi⟩ hc
    · simpa using hi
theorem mnB_ex {f : Int → Int} {l : Nat} (hl : l < 256) (h0 : l ≠ 0) (hf : ∀ n : Nat, l.testBit n = true → Vok (f n)) : ∃ o : Nat, o < 8 ∧ l.testBit o = true ∧ f o = mnB f l 100000 8 := by
  rcases mnB_at (f := f) (b := l) (i := 100000) 8 with e | h
  · obtain ⟨o, ho, hb⟩ := bit_ex l hl h0
    have := (mnB_le (f := f) (b := l) (i := 100000) 8).2 o ho hb
    have hv := hf o hb
    unfold Vok at hv
    exact ⟨o, ho, hb, by omega⟩
  · exact h
/-- how many parts a set has -/
def pcN (s : Nat) : Nat → Nat
  | 0 => 0
  | n + 1 => pcN s n + if s.testBit n then 1 else 0
theorem pcN_le (s : Nat) : ∀ n, pcN s n ≤ n
  | 0 => Nat.le_refl _
  | n + 1 => by
    have := pcN_le s n
    unfold pcN
    split <;> omega
theorem pcN_drop : ∀ s : Nat, s < 256 → ∀ p : Nat, p < 8 → s.testBit p = true → pcN (s - 2 ^ p) 8 + 1 = pcN s 8 := by decide +kernel
theorem pcN_0 : ∀ s : Nat, s < 256 → pcN s 8 = 0 → s = 0 := by decide +kernel
theorem or_drop : ∀ s : Nat, s < 256 → ∀ p : Nat, p < 8 → s.testBit p = true → ((s - 2 ^ p) ||| 2 ^ p) = s := by decide +kernel
theorem m_bits {F : Nat} {h : Hp} {s : Nat} (hF : 1000 ≤ F) (hs : s < 256) : Mod_bits F s h = some (((pcN s 8 : Nat) : Int), h) := by
  unfold Mod_bits
  refine loop0 (fun n i => Mod_bits_L4 F n s (pcN s i : Nat) (i : Nat) h) 8 F _ (by omega) (fun n i hi => ?_) (fun n => ?_)
  · show Mod_bits_L4s F (Mod_bits_L4 F n) s _ _ h = _
    unfold Mod_bits_L4s
    have hb := pcN_le s i
    rw [if_pos (by omega), bit_I s hs i hi, lt_eq, w32_nat (by omega)]
    have e : pcN s (i + 1) = pcN s i + if s.testBit i then 1 else 0 := rfl
    rw [e]
    split
    · rw [w32_id (by omega) (by omega)]; rfl
    · rw [w32_id (by omega) (by omega)]; rfl
  · show Mod_bits_L4s F (Mod_bits_L4 F n) s _ _ h = _
    unfold Mod_bits_L4s
    rw [if_neg (by decide)]
/-- which part comes ahead of p (-1: the last of all) in the row of what is left -/
def plC (D : Nat → Int → Int) (G : Nat → Int) (w : Int) (T : Int → Int) (due : Int) (l : Nat) (p : Int) (o : Nat) : Bool := l.testBit o && decide ((if p < 0 then T (8 * (l : Int) + o) else rb1 D G w T l o p) = due)
def plD (T : Int → Int) (a : Int) (s l : Nat) (p : Int) : Int := if p < 0 then lrV T a s else T (8 * ((l ||| 2 ^ p.toNat : Nat) : Int) + p)
def plX (D : Nat → Int → Int) (G : Nat → Int) (w : Int) (T : Int → Int) (a : Int) (s l : Nat) (p : Int) : Nat := fsN (plC D G w T (plD T a s l p) l p) 8 0
def plS (D : Nat → Int → Int) (G : Nat → Int) (w : Int) (T : Int → Int) (a : Int) (s n : Nat) (A : Int → Int) : Nat → Nat × Int × (Int → Int)
  | 0 => (s, -1, A)
  | i + 1 => ((plS D G w T a s n A i).1 - 2 ^ plX D G w T a s (plS D G w T a s n A i).1 (plS D G w T a s n A i).2.1, (plX D G w T a s (plS D G w T a s n A i).1 (plS D G w T a s n A i).2.1 : Nat), up (plS D G w T a s n A i).2.2 (n - 1 - i : Int) (plX D G w T a s (plS D G w T a s n A i).1 (plS D G w T a s n A i).2.1 : Nat))
theorem m_fp_L61 {F : Nat} {h : Hp} {w k due s : Int} {l : Nat} {p : Int} (R21 : Int → Int → Int → Int → Int → Int → Hp → Option (Int × Hp)) (m : Mo h) (hg : Gok (dt h) (Pg h)) (ht : ∀ i, Vok (rd h 242 i)) (hw : 0 ≤ w ∧ w < dt h 1 0) (hl : l < 2 ^ (dt h 0 0).toNat) (hp : p = -1 ∨ (0 ≤ p ∧ p < dt h 0 0)) :
    ∀ n N o : Nat, (∃ q, o ≤ q ∧ q < o + n ∧ plC (dt h) (Pg h) w (rd h 242) due l p q = true) → o + n ≤ 8 → n < N → Mod_fillsPlan_L61 F R21 N 194 w s l p k due o h = Mod_fillsPlan_B111 F R21 194 w s l k ((fsN (plC (dt h) (Pg h) w (rd h 242) due l p) n o : Nat) : Int) h := by
  have h256 := two8 (D8 m)
  have hd0 := m.2.2.1
  intro n
  induction n with
  | zero =>
    intro N o ⟨q, h1, h2, _⟩
    omega
  | succ n ih =>
    intro N o ⟨q, h1, h2, h3⟩ ho hN
    obtain ⟨N, rfl⟩ : ∃ j, N = j + 1 := ⟨N - 1, by omega⟩
    show Mod_fillsPlan_L61s F R21 (Mod_fillsPlan_L61 F R21 N) 194 w s l p k due o h = _
    have go : plC (dt h) (Pg h) w (rd h 242) due l p o = false → Mod_fillsPlan_L61 F R21 N 194 w s l p k due ((o + 1 : Nat) : Int) h = Mod_fillsPlan_B111 F R21 194 w s l k ((fsN (plC (dt h) (Pg h) w (rd h 242) due l p) (n + 1) o : Nat) : Int) h := by
      intro hf
      have hq : q ≠ o := fun e => by rw [e, hf] at h3; exact absurd h3 (by decide)
      rw [ih N (o + 1) ⟨q, by omega, by omega, h3⟩ (by omega) (by omega)]
      show _ = Mod_fillsPlan_B111 F R21 194 w s l k ((if plC (dt h) (Pg h) w (rd h 242) due l p o then o else fsN (plC (dt h) (Pg h) w (rd h 242) due l p) n (o + 1) : Nat) : Int) h
      rw [hf]; rfl
    have stp : ∀ v, (l.testBit o = true) → (if p < 0 then rd h 242 (8 * (l : Int) + o) else rb1 (dt h) (Pg h) w (rd h 242) l o p) = v → Mod_fillsPlan_B100 F R21 (Mod_fillsPlan_L61 F R21 N) 194 w s l p k due o v h = Mod_fillsPlan_B111 F R21 194 w s l k ((fsN (plC (dt h) (Pg h) w (rd h 242) due l p) (n + 1) o : Nat) : Int) h := by
      intro v hb hv
      unfold Mod_fillsPlan_B100
      by_cases hd : v = due
      · rw [if_pos hd]
        have hc : plC (dt h) (Pg h) w (rd h 242) due l p o = true := by unfold plC; rw [hb, hv]; simp [hd]
        show _ = Mod_fillsPlan_B111 F R21 194 w s l k ((if plC (dt h) (Pg h) w (rd h 242) due l p o then o else fsN (plC (dt h) (Pg h) w (rd h 242) due l p) n (o + 1) : Nat) : Int) h
        rw [if_pos hc]
      · rw [if_neg hd, w32_nat (by omega)]
        refine go ?_
        unfold plC; rw [hb, hv]; simp [hd]
    unfold Mod_fillsPlan_L61s
    rw [bit_I l (by omega) o (by omega)]
    by_cases hb : l.testBit o = true
    · rw [if_pos hb, if_neg (by decide)]
      have hop := bit_lt hl hb
      rcases hp with hp | hp
      · have v := stp _ hb rfl
        rw [if_pos (by omega)] at v ⊢
        rw [gM66 m.1, w32_id (x := 8 * (l : Int)) (by omega) (by omega), w32_id (x := 8 * (l : Int) + o) (by omega) (by omega), aM66 m.1 (by omega) (by omega)]
        exact v
      · have v := stp _ hb rfl
        rw [if_neg (by omega)] at v ⊢
        rw [ivM m.1, m_rb1 m hg ht hw (by omega) (by omega) hp, cl_some]
        exact v
    · rw [if_neg hb, if_pos rfl, w32_nat (by omega)]
      refine go ?_
      unfold plC
      rw [show l.testBit o = false by simpa using hb]; rfl
/-- a table that obeys its rule for the sets of some parts -/
def Fix (D : Nat → Int → Int) (G : Nat → Int) (w : Int) (T : Int → Int) (al : Nat) : Prop := ∀ s p : Nat, 1 ≤ s → s < 2 ^ (D 0 0).toNat → s &&& al = s → p < 8 → s.testBit p = true → T (8 * (s : Int) + p) = bst D G w T s p
theorem plX_ok {h : Hp} {w a : Int} {s l al : Nat} {p : Int} (m : Mo h) (hg : Gok (dt h) (Pg h)) {T : Int → Int} (ht : ∀ i, Vok (T i)) (hw : 0 ≤ w ∧ w < dt h 1 0) (hx : Fix (dt h) (Pg h) w T al) (hl : l < 2 ^ (dt h 0 0).toNat) (h0 : l ≠ 0) (hp : (p = -1 ∧ l = s) ∨ (0 ≤ p ∧ p < dt h 0 0 ∧ (l ||| 2 ^ p.toNat) < 2 ^ (dt h 0 0).toNat ∧ (l ||| 2 ^ p.toNat) &&& al = (l ||| 2 ^ p.toNat) ∧ l.testBit p.toNat = false)) :
    ∃ q, 0 ≤ q ∧ q < 0 + 8 ∧ plC (dt h) (Pg h) w T (plD T a s l p) l p q = true := by
  have h256 := two8 (D8 m)
  have hd0 := m.2.2.1
  rcases hp with ⟨e, e'⟩ | ⟨p0, p1, hu1, hu2, hu3⟩
  · obtain ⟨o, h1, h2, h3⟩ := mnB_ex (f := fun p => T (8 * (l : Int) + p)) (l := l) (by omega) h0 (fun n _ => ht _)
    refine ⟨o, by omega, by omega, ?_⟩
    unfold plC plD lrV
    rw [if_pos (by omega), if_pos (by omega), h2, ← e', if_neg h0]
    simpa using h3
  · have pb : (l ||| 2 ^ p.toNat).testBit p.toNat = true := by rw [Nat.testBit_or, Nat.testBit_two_pow_self, Bool.or_true]
    have dr : (l ||| 2 ^ p.toNat) - 2 ^ p.toNat = l := by
      have key : ∀ l : Nat, l < 256 → ∀ p : Nat, p < 8 → l.testBit p = false → (l ||| 2 ^ p) - 2 ^ p = l := by decide +kernel
      exact key l (by omega) p.toNat (by omega) hu3
    have fx := hx (l ||| 2 ^ p.toNat) p.toNat (by have := Nat.left_le_or (n := l) (m := 2 ^ p.toNat); omega) hu1 hu2 (by omega) pb
    unfold bst at fx
    rw [dr, if_neg h0, show ((p.toNat : Nat) : Int) = p by omega] at fx
    obtain ⟨o, h1, h2, h3⟩ := mnB_ex (f := fun o => rb1 (dt h) (Pg h) w T l o p) (l := l) (by omega) h0 (fun n hb => rb1_ok m hg ht hw (by have := bit_lt hl hb; omega) ⟨p0, p1⟩)
    refine ⟨o, by omega, by omega, ?_⟩
    unfold plC plD
    rw [if_neg (by omega), if_neg (by omega), h2, fx]
    simpa using h3
