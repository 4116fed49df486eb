/-! the row of a plan, whole; planAt -/
def plI (D : Nat → Int → Int) (al s n i : Nat) (q : Nat × Int × (Int → Int)) : Prop := q.1 < 2 ^ (D 0 0).toNat ∧ q.1 &&& al = q.1 ∧ pcN q.1 8 + i = n ∧ ((i = 0 ∧ q.2.1 = -1 ∧ q.1 = s) ∨ (0 < i ∧ 0 ≤ q.2.1 ∧ q.2.1 < D 0 0 ∧ (q.1 ||| 2 ^ q.2.1.toNat) < 2 ^ (D 0 0).toNat ∧ (q.1 ||| 2 ^ q.2.1.toNat) &&& al = (q.1 ||| 2 ^ q.2.1.toNat) ∧ q.1.testBit q.2.1.toNat = false))
theorem drp_f : ∀ s : Nat, s < 256 → ∀ p : Nat, p < 8 → s.testBit p = true → (s - 2 ^ p).testBit p = false := by decide +kernel
theorem plX_in {h : Hp} {w a : Int} {s n i al : Nat} {q : Nat × Int × (Int → Int)} (m : Mo h) (hg : Gok (dt h) (Pg h)) {T : Int → Int} (ht : ∀ i, Vok (T i)) (hw : 0 ≤ w ∧ w < dt h 1 0) (hx : Fix (dt h) (Pg h) w T al) (hi : plI (dt h) al s n i q) (hn : i < n) :
    (∃ u, 0 ≤ u ∧ u < 0 + 8 ∧ plC (dt h) (Pg h) w T (plD T a s q.1 q.2.1) q.1 q.2.1 u = true) ∧ q.1.testBit (plX (dt h) (Pg h) w T a s q.1 q.2.1) = true ∧ plX (dt h) (Pg h) w T a s q.1 q.2.1 < 8 ∧ plX (dt h) (Pg h) w T a s q.1 q.2.1 < (dt h 0 0).toNat := by
  obtain ⟨h1, h2, h3, h4⟩ := hi
  have h0 : q.1 ≠ 0 := fun e => by
    rw [e] at h3
    have : pcN 0 8 = 0 := by decide
    omega
  have ex := plX_ok (a := a) (s := s) (l := q.1) (p := q.2.1) m hg ht hw hx h1 h0 (by
    rcases h4 with ⟨_, a, b⟩ | ⟨_, a, b, c, d, e⟩
    · exact Or.inl ⟨a, b⟩
    · exact Or.inr ⟨a, b, c, d, e⟩)
  obtain ⟨f1, f2, f3⟩ := fsN_ok 8 0 ex
  unfold plC at f1
  rw [Bool.and_eq_true] at f1
  exact ⟨ex, f1.1, by unfold plX; omega, bit_lt h1 f1.1⟩
theorem plI_step {h : Hp} {w a : Int} {s n i al : Nat} {A : Int → Int} (m : Mo h) (hg : Gok (dt h) (Pg h)) {T : Int → Int} (ht : ∀ i, Vok (T i)) (hw : 0 ≤ w ∧ w < dt h 1 0) (hl : al < 256) (hx : Fix (dt h) (Pg h) w T al) (hi : plI (dt h) al s n i (plS (dt h) (Pg h) w T a s n A i)) (hn : i < n) : plI (dt h) al s n (i + 1) (plS (dt h) (Pg h) w T a s n A (i + 1)) := by
  have h256 := two8 (D8 m)
  have hd0 := m.2.2.1
  obtain ⟨-, b1, b2, b3⟩ := plX_in (a := a) m hg ht hw hx hi hn
  obtain ⟨h1, h2, h3, -⟩ := hi
  rw [plS]
  generalize plX (dt h) (Pg h) w T a s (plS (dt h) (Pg h) w T a s n A i).1 (plS (dt h) (Pg h) w T a s n A i).2.1 = x at b1 b2 b3 ⊢
  generalize (plS (dt h) (Pg h) w T a s n A i).1 = l at h1 h2 h3 b1 ⊢
  have hd := drop_lt b1
  have hp := pcN_drop l (by omega) x b2 b1
  refine ⟨by show l - 2 ^ x < _; omega, sub_drop h2 b1 (by omega) hl, by show pcN (l - 2 ^ x) 8 + (i + 1) = n; omega, Or.inr ⟨by omega, ?_, ?_, ?_, ?_, ?_⟩⟩
  · show (0 : Int) ≤ (x : Int); omega
  · show (x : Int) < _; omega
  · show ((l - 2 ^ x) ||| 2 ^ ((x : Int)).toNat) < _
    rw [Int.toNat_natCast, or_drop l (by omega) x b2 b1]; exact h1
  · show ((l - 2 ^ x) ||| 2 ^ ((x : Int)).toNat) &&& al = ((l - 2 ^ x) ||| 2 ^ ((x : Int)).toNat)
    rw [Int.toNat_natCast, or_drop l (by omega) x b2 b1]; exact h2
  · show (l - 2 ^ x).testBit ((x : Int)).toNat = false
    rw [Int.toNat_natCast]
    exact drp_f l (by omega) x b2 b1
theorem sr243 {h : Hp} (m : Mo h) (T : Int → Int) : Mo (sr h 243 T) ∧ dt (sr h 243 T) = dt h ∧ Pg (sr h 243 T) = Pg h ∧ rd (sr h 243 T) 242 = rd h 242 ∧ rd (sr h 243 T) 194 = rd h 194 := by
  refine ⟨Mo_sr m (by decide) (by decide), dt_sr (by decide) (by decide) (by decide), ?_, rd_sr_ne (by decide), rd_sr_ne (by decide)⟩
  funext k
  unfold Pg
  rw [rd_sr_ne (by decide)]
theorem m_fp_L21 {F : Nat} {h : Hp} {w : Int} {s n al : Nat} {A : Int → Int} (hF : 1000 ≤ F) (m : Mo h) (hg : Gok (dt h) (Pg h)) (ht : ∀ i, Vok (rd h 242 i)) (hw : 0 ≤ w ∧ w < dt h 1 0) (hl : al < 256) (hx : Fix (dt h) (Pg h) w (rd h 242) al) (hs : s < 256) (hn : n ≤ 8) :
    ∀ q N i : Nat, i + q = n → q < N → plI (dt h) al s n i (plS (dt h) (Pg h) w (rd h 242) (rd h 194 69) s n A i) → Mod_fillsPlan_L21 F N 194 w s (plS (dt h) (Pg h) w (rd h 242) (rd h 194 69) s n A i).1 (plS (dt h) (Pg h) w (rd h 242) (rd h 194 69) s n A i).2.1 (n - 1 - i : Int) (sr h 243 (plS (dt h) (Pg h) w (rd h 242) (rd h 194 69) s n A i).2.2) = some (0, sr h 243 (plS (dt h) (Pg h) w (rd h 242) (rd h 194 69) s n A n).2.2) := by
  have h256 := two8 (D8 m)
  have hd0 := m.2.2.1
  intro q
  induction q with
  | zero =>
    intro N i hi hN _
    obtain ⟨N, rfl⟩ : ∃ j, N = j + 1 := ⟨N - 1, by omega⟩
    show Mod_fillsPlan_L21s F _ 194 w s _ _ _ _ = _
    unfold Mod_fillsPlan_L21s
    have : i = n := by omega
    subst this
    rw [if_pos (by omega)]
  | succ q ih =>
    intro N i hi hN hI
    obtain ⟨N, rfl⟩ : ∃ j, N = j + 1 := ⟨N - 1, by omega⟩
    have nx := ih N (i + 1) (by omega) (by omega) (plI_step m hg ht hw hl hx hI (by omega))
    obtain ⟨ex, b1, b2, b3⟩ := plX_in (a := rd h 194 69) m hg ht hw hx hI (by omega)
    have hI' := hI
    obtain ⟨h1, h2, h3, h4⟩ := hI
    rw [plS] at nx
    have hxx : plX (dt h) (Pg h) w (rd h 242) (rd h 194 69) s (plS (dt h) (Pg h) w (rd h 242) (rd h 194 69) s n A i).1 (plS (dt h) (Pg h) w (rd h 242) (rd h 194 69) s n A i).2.1 = fsN (plC (dt h) (Pg h) w (rd h 242) (plD (rd h 242) (rd h 194 69) s (plS (dt h) (Pg h) w (rd h 242) (rd h 194 69) s n A i).1 (plS (dt h) (Pg h) w (rd h 242) (rd h 194 69) s n A i).2.1) (plS (dt h) (Pg h) w (rd h 242) (rd h 194 69) s n A i).1 (plS (dt h) (Pg h) w (rd h 242) (rd h 194 69) s n A i).2.1) 8 0 := rfl
    generalize plX (dt h) (Pg h) w (rd h 242) (rd h 194 69) s (plS (dt h) (Pg h) w (rd h 242) (rd h 194 69) s n A i).1 (plS (dt h) (Pg h) w (rd h 242) (rd h 194 69) s n A i).2.1 = x at nx b1 b2 b3 hxx
    generalize plS (dt h) (Pg h) w (rd h 242) (rd h 194 69) s n A i = P at nx b1 ex hxx h1 h2 h3 h4 ⊢
    obtain ⟨l, p, B⟩ := P
    simp only at nx b1 ex hxx h1 h2 h3 h4 ⊢
    obtain ⟨m', d', g', t', f'⟩ := sr243 m B
    have L := fun due => m_fp_L61 (F := F) (h := sr h 243 B) (w := w) (k := (n : Int) - 1 - i) (due := due) (s := s) (l := l) (p := p) (Mod_fillsPlan_L21 F N) m' (by rw [d', g']; exact hg) (by rw [t']; exact ht) (by rw [d']; exact hw) (by rw [d']; exact h1) (by rw [d']; omega) 8 F 0
    rw [d', g', t'] at L
    have fin : Mod_fillsPlan_L61 F (Mod_fillsPlan_L21 F N) F 194 w s l p ((n : Int) - 1 - i) (plD (rd h 242) (rd h 194 69) s l p) ((0 : Nat) : Int) (sr h 243 B) = some (0, sr h 243 (plS (dt h) (Pg h) w (rd h 242) (rd h 194 69) s n A n).2.2) := by
      rw [L _ ex (by omega) (by omega), ← hxx]
      unfold Mod_fillsPlan_B111
      rw [gM72 m'.1, sM72 m'.1 (by omega) (by omega), wr_up, lt_eq, drp_I l (by omega) x b2 b1, w32_id (x := (n : Int) - 1 - i + -1) (by omega) (by omega), show (n : Int) - 1 - i + -1 = (n : Int) - 1 - (i + 1 : Nat) by omega]
      exact nx
    show Mod_fillsPlan_L21s F (Mod_fillsPlan_L21 F N) 194 w s l p ((n : Int) - 1 - i) _ = _
    unfold Mod_fillsPlan_L21s
    rw [if_neg (by omega)]
    rcases h4 with ⟨_, e1, e2⟩ | ⟨_, p0, p1, hu1, _, _⟩
    · rw [if_pos (by omega), ivM m'.1, m_leastReady hF m'.1 hs, cl_some, t', f']
      unfold plD at fin
      rw [if_pos (by omega)] at fin
      exact fin
    · have hor : ior l (ishl 1 p) = ((l ||| 2 ^ p.toNat : Nat) : Int) := by
        have := ior_p (a := l) (p := p.toNat) (by omega) (by omega)
        rw [show ((p.toNat : Nat) : Int) = p by omega] at this
        exact this
      have hlt : (l ||| 2 ^ p.toNat) < 256 := by omega
      rw [if_neg (by omega), hor, gM66 m'.1, w32_id (x := 8 * ((l ||| 2 ^ p.toNat : Nat) : Int)) (by omega) (by omega), w32_id (x := 8 * ((l ||| 2 ^ p.toNat : Nat) : Int) + p) (by omega) (by omega), aM66 m'.1 (by omega) (by omega), t']
      unfold plD at fin
      rw [if_neg (by omega)] at fin
      exact fin
def plA (D : Nat → Int → Int) (G : Nat → Int) (w : Int) (T : Int → Int) (a : Int) (s : Nat) (A : Int → Int) : Int → Int := (plS D G w T a s (pcN s 8) A (pcN s 8)).2.2
theorem m_fillsPlan {F : Nat} {h : Hp} {w : Int} {s al : Nat} (hF : 1000 ≤ F) (m : Mo h) (hg : Gok (dt h) (Pg h)) (ht : ∀ i, Vok (rd h 242 i)) (hw : 0 ≤ w ∧ w < dt h 1 0) (hl : al < 256) (hx : Fix (dt h) (Pg h) w (rd h 242) al) (hs : s < 2 ^ (dt h 0 0).toNat) (ha : s &&& al = s) :
    Mod_fillsPlan F 194 w s h = some (0, sr (wr h 194 73 ((pcN s 8 : Nat) : Int)) 243 (plA (dt h) (Pg h) w (rd h 242) (rd h 194 69) s (rd h 243))) := by
  have h256 := two8 (D8 m)
  have hpc := pcN_le s 8
  have e : dt (wr h 194 73 ((pcN s 8 : Nat) : Int)) = dt h := dt_wr (by decide) (by decide) (by decide)
  have m1 : Mo (wr h 194 73 ((pcN s 8 : Nat) : Int)) := by
    refine ⟨sh73 m.1 _, ?_, ?_⟩
    · rw [rd_i (by decide)]; exact m.2.1
    · rw [e]; exact m.2.2
  have g : Pg (wr h 194 73 ((pcN s 8 : Nat) : Int)) = Pg h := by
    funext k
    unfold Pg
    split <;> rw [rd_i (by decide)]
  have t : rd (wr h 194 73 ((pcN s 8 : Nat) : Int)) 242 = rd h 242 := rd_wr_ne (by decide)
  have t3 : rd (wr h 194 73 ((pcN s 8 : Nat) : Int)) 243 = rd h 243 := rd_wr_ne (by decide)
  have t9 : rd (wr h 194 73 ((pcN s 8 : Nat) : Int)) 194 69 = rd h 194 69 := rd_i (by decide)
  have key := m_fp_L21 (F := F) (h := wr h 194 73 ((pcN s 8 : Nat) : Int)) (w := w) (s := s) (n := pcN s 8) (al := al) (A := rd h 243) hF m1 (by rw [e, g]; exact hg) (by rw [t]; exact ht) (by rw [e]; exact hw) hl (by rw [e, g, t]; exact hx) (by omega) hpc (pcN s 8) F 0 (by omega) (by omega)
  rw [e, g, t, t9] at key
  have key2 := key ⟨hs, ha, by show pcN s 8 + 0 = pcN s 8; omega, Or.inl ⟨rfl, rfl, rfl⟩⟩
  unfold Mod_fillsPlan
  rw [m_bits hF (by omega), cl_some, pM73 m.1, gM73 m1.1, rd_same, w32_id (x := ((pcN s 8 : Nat) : Int) - 1) (by omega) (by omega), lt_eq]
  rw [plS] at key2
  simp only [Int.natCast_zero, Int.sub_zero, Int.cast_ofNat_Int, Int.ofNat_eq_natCast] at key2
  rw [show sr (wr h 194 73 ((pcN s 8 : Nat) : Int)) 243 (rd h 243) = wr h 194 73 ((pcN s 8 : Nat) : Int) by rw [← t3, sr_self]] at key2
  exact key2
