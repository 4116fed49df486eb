/-! the reference's settles, error, fails -/
def scO (f : Int → Int) (S : Nat) (p : Int) (q : Int × Int × Int) : Nat → Int × Int × Int
  | 0 => q
  | n + 1 => if n = 1 ∨ (2 ≤ n ∧ S.testBit (n - 2) = false) then scO f S p q n else if 0 ≤ (scO f S p q n).1 ∧ (scO f S p q n).2.1 ≤ f ((n : Int) - 2) then scO f S p q n else (p, f ((n : Int) - 2), (n : Int) - 2)
def scP (g : Int → Int → Int) (S m : Nat) : Nat → Int × Int × Int
  | 0 => (-1, 0, -2)
  | n + 1 => if S.testBit n then scP g S m n else scO (g n) S n (scP g S m n) (m + 2)
def seS (g : (Int → Int) → Int → Int → Int) (m : Nat) (E G : Int → Int) : Nat → Nat × (Int → Int) × (Int → Int)
  | 0 => (0, E, G)
  | k + 1 => ((seS g m E G k).1 ||| 2 ^ (scP (g (seS g m E G k).2.1) (seS g m E G k).1 m m).1.toNat, up (seS g m E G k).2.1 (scP (g (seS g m E G k).2.1) (seS g m E G k).1 m m).1 (scP (g (seS g m E G k).2.1) (seS g m E G k).1 m m).2.1, up (seS g m E G k).2.2 (scP (g (seS g m E G k).2.1) (seS g m E G k).1 m m).1 (scP (g (seS g m E G k).2.1) (seS g m E G k).1 m m).2.2)
theorem scO_in (f : Int → Int) (S : Nat) (p : Int) (q : Int × Int × Int) : ∀ n, scO f S p q n = q ∨ (scO f S p q n).1 = p
  | 0 => Or.inl rfl
  | n + 1 => by
    have ih := scO_in f S p q n
    unfold scO
    split
    · exact ih
    · split
      · exact ih
      · exact Or.inr rfl
theorem scO_1 (f : Int → Int) (S : Nat) (p : Int) (q : Int × Int × Int) (hp : 0 ≤ p) : ∀ n, 0 < n → 0 ≤ (scO f S p q n).1
  | 0, h => by omega
  | 1, _ => by
    unfold scO
    rw [if_neg (by simp)]
    split
    · rename_i c; exact c.1
    · exact hp
  | n + 2, _ => by
    have ih := scO_1 f S p q hp (n + 1) (by omega)
    unfold scO
    split
    · exact ih
    · split
      · exact ih
      · exact hp
theorem scP_in (g : Int → Int → Int) (S m : Nat) : ∀ n, (scP g S m n).1 = -1 ∧ (∀ p, p < n → S.testBit p = true) ∨ ∃ p : Nat, p < n ∧ S.testBit p = false ∧ (scP g S m n).1 = p
  | 0 => Or.inl ⟨rfl, fun p hp => by omega⟩
  | n + 1 => by
    have ih := scP_in g S m n
    unfold scP
    by_cases hb : S.testBit n = true
    · rw [if_pos hb]
      rcases ih with ⟨a, b⟩ | ⟨p, a, b, c⟩
      · refine Or.inl ⟨a, fun p hp => ?_⟩
        by_cases e : p = n
        · rw [e]; exact hb
        · exact b p (by omega)
      · exact Or.inr ⟨p, by omega, b, c⟩
    · rw [if_neg hb]
      have hbf : S.testBit n = false := by simpa using hb
      rcases scO_in (g n) S n (scP g S m n) (m + 2) with e | e
      · have h1 := scO_1 (g n) S n (scP g S m n) (by omega) (m + 2) (by omega)
        rw [e] at h1 ⊢
        rcases ih with ⟨a, b⟩ | ⟨p, a, b, c⟩
        · omega
        · exact Or.inr ⟨p, by omega, b, c⟩
      · exact Or.inr ⟨n, by omega, hbf, e⟩
theorem pcN_all (s : Nat) : ∀ n, (∀ p, p < n → s.testBit p = true) → pcN s n = n
  | 0, _ => rfl
  | n + 1, h => by
    unfold pcN
    rw [pcN_all s n (fun p hp => h p (by omega)), if_pos (h n (by omega))]
theorem pcN_mono (s : Nat) {m : Nat} : ∀ n, m ≤ n → pcN s m ≤ pcN s n
  | 0, h => by
    have : m = 0 := by omega
    subst this; exact Nat.le_refl _
  | n + 1, h => by
    by_cases e : m = n + 1
    · rw [e]; exact Nat.le_refl _
    · have := pcN_mono s n (show m ≤ n by omega)
      have e : pcN s (n + 1) = pcN s n + (if s.testBit n then 1 else 0) := rfl
      omega
theorem pcN_or : ∀ s : Nat, s < 256 → ∀ p : Nat, p < 8 → s.testBit p = false → pcN (s ||| 2 ^ p) 8 = pcN s 8 + 1 := by decide +kernel
theorem or_lt {s p n : Nat} (hs : s < 2 ^ n) (hp : p < n) : (s ||| 2 ^ p) < 2 ^ n := Nat.or_lt_two_pow hs (Nat.pow_lt_pow_right (by decide) hp)
/-- what is settled after k steps: k parts -/
theorem seS_in (g : (Int → Int) → Int → Int → Int) {m : Nat} (hm : m ≤ 8) (E G : Int → Int) : ∀ k, k ≤ m → (seS g m E G k).1 < 2 ^ m ∧ pcN (seS g m E G k).1 8 = k ∧ (k < m → ∃ p : Nat, p < m ∧ (seS g m E G k).1.testBit p = false ∧ (scP (g (seS g m E G k).2.1) (seS g m E G k).1 m m).1 = p)
  | 0, h => by
    refine ⟨Nat.two_pow_pos m, by show pcN 0 8 = 0; decide, fun hk => ?_⟩
    rcases scP_in (g E) 0 m m with ⟨a, b⟩ | ⟨p, a, b, c⟩
    · have := b 0 hk
      rw [Nat.zero_testBit] at this
      exact absurd this (by decide)
    · exact ⟨p, a, b, c⟩
  | k + 1, h => by
    obtain ⟨h1, h2, h3⟩ := seS_in g hm E G k (by omega)
    obtain ⟨p, p1, p2, p3⟩ := h3 (by omega)
    have h256 := two8 hm
    have e : (seS g m E G (k + 1)).1 = (seS g m E G k).1 ||| 2 ^ p := by
      show (seS g m E G k).1 ||| 2 ^ (scP (g (seS g m E G k).2.1) (seS g m E G k).1 m m).1.toNat = _
      rw [p3, Int.toNat_natCast]
    have l := or_lt h1 p1
    have c := pcN_or (seS g m E G k).1 (by omega) p (by omega) p2
    rw [← e] at l c
    refine ⟨l, by omega, fun hk => ?_⟩
    rcases scP_in (g (seS g m E G (k + 1)).2.1) (seS g m E G (k + 1)).1 m m with ⟨_, b⟩ | r
    · have a1 := pcN_all _ m b
      have a2 := pcN_mono (seS g m E G (k + 1)).1 8 hm
      omega
    · exact r
theorem m_se_L65 {F : Nat} {h0 : Hp} {L : Lw} {S : Nat} {k p : Int} (hF : 1000 ≤ F) (R7 : Int → Int → Hp → Option (Int × Hp)) (R31 : Int → Int → Int → Int → Int → Int → Hp → Option (Int × Hp)) (m : Mo h0) (pk : pegOk (dt h0)) (g : RLw h0 3 L) (hp : 0 ≤ p ∧ p < dt h0 0 0) (hS : S < 256) (h79 : rd h0 194 79 = S) (q : Int × Int × Int) :
    ∀ (j n i : Nat) (h : Hp), i + j = (dt h0 0 0).toNat + 2 → j < n → Lk h0 h → ∃ h', Lk h0 h' ∧ Mod_settles_L65 F R7 R31 n 194 k (scO (erV (dt h0) L (rd h0 247) p) S p q i).1 (scO (erV (dt h0) L (rd h0 247) p) S p q i).2.1 (scO (erV (dt h0) L (rd h0 247) p) S p q i).2.2 p ((i : Int) - 2) h = R31 194 k (scO (erV (dt h0) L (rd h0 247) p) S p q ((dt h0 0 0).toNat + 2)).1 (scO (erV (dt h0) L (rd h0 247) p) S p q ((dt h0 0 0).toNat + 2)).2.1 (scO (erV (dt h0) L (rd h0 247) p) S p q ((dt h0 0 0).toNat + 2)).2.2 (p + 1) h' := by
  have hd := m.2.2.1
  intro j
  induction j with
  | zero =>
    intro n i h hi hn l
    obtain ⟨n, rfl⟩ : ∃ j, n = j + 1 := ⟨n - 1, by omega⟩
    have mo := Lk_Mo l m
    have hl := mo.2.1
    have e0 : rd h 203 (rd h 194 18) = dt h0 0 0 := by rw [← Lk_dt l]; rfl
    refine ⟨h, l, ?_⟩
    show Mod_settles_L65s F R7 R31 _ 194 k _ _ _ p _ h = _
    unfold Mod_settles_L65s
    rw [gM22 mo.1, gM18 mo.1, aM22 mo.1 (by omega) (by omega), e0, if_neg (by omega), w32_id (x := p + 1) (by omega) (by omega), show (dt h0 0 0).toNat + 2 = i by omega]
  | succ j ih =>
    intro n i h hi hn l
    obtain ⟨n, rfl⟩ : ∃ j, n = j + 1 := ⟨n - 1, by omega⟩
    have mo := Lk_Mo l m
    have hl := mo.2.1
    have e0 : rd h 203 (rd h 194 18) = dt h0 0 0 := by rw [← Lk_dt l]; rfl
    have e1 : rd h 194 79 = S := by rw [l.2.2.2 79 (by decide)]; exact h79
    have ew : w32 ((i : Int) - 2 + 1) = ((i + 1 : Nat) : Int) - 2 := by rw [w32_id (by omega) (by omega)]; omega
    have st : scO (erV (dt h0) L (rd h0 247) p) S p q (i + 1) = if i = 1 ∨ (2 ≤ i ∧ S.testBit (i - 2) = false) then scO (erV (dt h0) L (rd h0 247) p) S p q i else if 0 ≤ (scO (erV (dt h0) L (rd h0 247) p) S p q i).1 ∧ (scO (erV (dt h0) L (rd h0 247) p) S p q i).2.1 ≤ erV (dt h0) L (rd h0 247) p ((i : Int) - 2) then scO (erV (dt h0) L (rd h0 247) p) S p q i else (p, erV (dt h0) L (rd h0 247) p ((i : Int) - 2), (i : Int) - 2) := rfl
    have nx := fun h' (l' : Lk h0 h') => ih n (i + 1) h' (by omega) (by omega) l'
    have es : Mod_settles_L65 F R7 R31 (n + 1) 194 k (scO (erV (dt h0) L (rd h0 247) p) S p q i).1 (scO (erV (dt h0) L (rd h0 247) p) S p q i).2.1 (scO (erV (dt h0) L (rd h0 247) p) S p q i).2.2 p ((i : Int) - 2) h = Mod_settles_L65s F R7 R31 (Mod_settles_L65 F R7 R31 n) 194 k (scO (erV (dt h0) L (rd h0 247) p) S p q i).1 (scO (erV (dt h0) L (rd h0 247) p) S p q i).2.1 (scO (erV (dt h0) L (rd h0 247) p) S p q i).2.2 p ((i : Int) - 2) h := rfl
    rw [es]
    rw [st] at nx
    generalize scO (erV (dt h0) L (rd h0 247) p) S p q i = r at nx ⊢
    unfold Mod_settles_L65s
    rw [gM22 mo.1, gM18 mo.1, aM22 mo.1 (by omega) (by omega), e0, if_pos (by omega), ew]
    have B : ¬ (i = 1 ∨ (2 ≤ i ∧ S.testBit (i - 2) = false)) → ∃ h', Lk h0 h' ∧ Mod_settles_B105 F R7 R31 (Mod_settles_L65 F R7 R31 n) 194 k r.1 r.2.1 r.2.2 p ((i : Int) - 2) h = R31 194 k (scO (erV (dt h0) L (rd h0 247) p) S p q ((dt h0 0 0).toNat + 2)).1 (scO (erV (dt h0) L (rd h0 247) p) S p q ((dt h0 0 0).toNat + 2)).2.1 (scO (erV (dt h0) L (rd h0 247) p) S p q ((dt h0 0 0).toNat + 2)).2.2 (p + 1) h' := by
      intro hc
      obtain ⟨h', e, l'⟩ := m_errorFrom (F := F) (h := h) (p := p) (o := (i : Int) - 2) (L := L) hF mo (by rw [Lk_dt l]; exact pk) (Lk_RL l g) (by rw [Lk_dt l]; exact hp) (by rw [Lk_dt l]; omega)
      rw [Lk_dt l, l.2.2.1 247 (by decide) (by decide)] at e
      have l2 := Lk_trans l l'
      unfold Mod_settles_B105
      rw [ivM mo.1, e, cl_some, ew]
      rw [if_neg hc] at nx
      by_cases r0 : r.1 < 0
      · rw [if_pos r0]
        rw [if_neg (by omega)] at nx
        exact nx h' l2
      · rw [if_neg r0]
        by_cases r1 : erV (dt h0) L (rd h0 247) p ((i : Int) - 2) < r.2.1
        · rw [if_pos r1]
          rw [if_neg (by omega)] at nx
          exact nx h' l2
        · rw [if_neg r1]
          rw [if_pos (by omega)] at nx
          exact nx h' l2
    by_cases i1 : i = 1
    · rw [if_pos (by omega)]
      rw [if_pos (Or.inl i1)] at nx
      exact nx h l
    · rw [if_neg (by omega)]
      by_cases i0 : (i : Int) - 2 < 0
      · rw [if_pos i0]
        exact B (by omega)
      · rw [if_neg i0, gM79 mo.1, e1, show (i : Int) - 2 = ((i - 2 : Nat) : Int) by omega, bit_I S hS (i - 2) (by omega), show ((i - 2 : Nat) : Int) = (i : Int) - 2 by omega]
        by_cases hb : S.testBit (i - 2) = true
        · rw [if_pos hb, if_neg (by decide)]
          exact B (by rw [hb]; simp; omega)
        · rw [if_neg hb, if_pos rfl]
          have hbf : S.testBit (i - 2) = false := by simpa using hb
          rw [if_pos (Or.inr ⟨by omega, hbf⟩)] at nx
          exact nx h l
theorem m_se_L31 {F : Nat} {h0 : Hp} {L : Lw} {S : Nat} {k : Int} (hF : 1000 ≤ F) (R7 : Int → Int → Hp → Option (Int × Hp)) (m : Mo h0) (pk : pegOk (dt h0)) (g : RLw h0 3 L) (hS : S < 256) (h79 : rd h0 194 79 = S) :
    ∀ (j n i : Nat) (h : Hp), i + j = (dt h0 0 0).toNat → j < n → Lk h0 h → ∃ h', Lk h0 h' ∧ Mod_settles_L31 F R7 n 194 k (scP (erV (dt h0) L (rd h0 247)) S (dt h0 0 0).toNat i).1 (scP (erV (dt h0) L (rd h0 247)) S (dt h0 0 0).toNat i).2.1 (scP (erV (dt h0) L (rd h0 247)) S (dt h0 0 0).toNat i).2.2 i h = Mod_settles_B150 F R7 194 k (scP (erV (dt h0) L (rd h0 247)) S (dt h0 0 0).toNat (dt h0 0 0).toNat).1 (scP (erV (dt h0) L (rd h0 247)) S (dt h0 0 0).toNat (dt h0 0 0).toNat).2.1 (scP (erV (dt h0) L (rd h0 247)) S (dt h0 0 0).toNat (dt h0 0 0).toNat).2.2 h' := by
  have hd := m.2.2.1
  intro j
  induction j with
  | zero =>
    intro n i h hi hn l
    obtain ⟨n, rfl⟩ : ∃ j, n = j + 1 := ⟨n - 1, by omega⟩
    have mo := Lk_Mo l m
    have hl := mo.2.1
    have e0 : rd h 203 (rd h 194 18) = dt h0 0 0 := by rw [← Lk_dt l]; rfl
    refine ⟨h, l, ?_⟩
    show Mod_settles_L31s F R7 _ 194 k _ _ _ _ h = _
    unfold Mod_settles_L31s
    rw [gM22 mo.1, gM18 mo.1, aM22 mo.1 (by omega) (by omega), e0, if_neg (by omega), show (dt h0 0 0).toNat = i by omega]
  | succ j ih =>
    intro n i h hi hn l
    obtain ⟨n, rfl⟩ : ∃ j, n = j + 1 := ⟨n - 1, by omega⟩
    have mo := Lk_Mo l m
    have hl := mo.2.1
    have e0 : rd h 203 (rd h 194 18) = dt h0 0 0 := by rw [← Lk_dt l]; rfl
    have e1 : rd h 194 79 = S := by rw [l.2.2.2 79 (by decide)]; exact h79
    have st : scP (erV (dt h0) L (rd h0 247)) S (dt h0 0 0).toNat (i + 1) = if S.testBit i then scP (erV (dt h0) L (rd h0 247)) S (dt h0 0 0).toNat i else scO (erV (dt h0) L (rd h0 247) i) S i (scP (erV (dt h0) L (rd h0 247)) S (dt h0 0 0).toNat i) ((dt h0 0 0).toNat + 2) := rfl
    have nx := fun h' (l' : Lk h0 h') => ih n (i + 1) h' (by omega) (by omega) l'
    show ∃ h', Lk h0 h' ∧ Mod_settles_L31s F R7 (Mod_settles_L31 F R7 n) 194 k _ _ _ _ h = _
    unfold Mod_settles_L31s
    rw [gM22 mo.1, gM18 mo.1, aM22 mo.1 (by omega) (by omega), e0, if_pos (by omega), gM79 mo.1, e1, bit_I S hS i (by omega)]
    rw [st] at nx
    by_cases hb : S.testBit i = true
    · rw [if_pos hb, if_pos rfl, w32_nat (by omega)]
      rw [if_pos hb] at nx
      exact nx h l
    · rw [if_neg hb, if_neg (by decide)]
      rw [if_neg hb] at nx
      obtain ⟨h1, l1, e⟩ := m_se_L65 (F := F) (k := k) (p := i) hF R7 (Mod_settles_L31 F R7 n) m pk g (by omega) hS h79 (scP (erV (dt h0) L (rd h0 247)) S (dt h0 0 0).toNat i) ((dt h0 0 0).toNat + 2) F 0 h (by omega) (by omega) l
      have e' : Mod_settles_L65 F R7 (Mod_settles_L31 F R7 n) F 194 k (scP (erV (dt h0) L (rd h0 247)) S (dt h0 0 0).toNat i).1 (scP (erV (dt h0) L (rd h0 247)) S (dt h0 0 0).toNat i).2.1 (scP (erV (dt h0) L (rd h0 247)) S (dt h0 0 0).toNat i).2.2 i (-2) h = _ := e
      rw [e']
      exact nx h1 l1
