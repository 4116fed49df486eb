/-! the reference's best set of parts -/
def lrV (T : Int → Int) (a : Int) (s : Nat) : Int := mnB (fun p => T (8 * (s : Int) + p)) s (if s = 0 then a else 100000) 8
theorem m_leastReady_L {F : Nat} {h : Hp} {i : Int} {s : Nat} (hF : 1000 ≤ F) (sh : Sh h) (hs : s < 256) : Mod_leastReady_L17 F F 194 s i 0 h = some (mnB (fun p => rd h 242 (8 * (s : Int) + p)) s i 8, h) := by
  refine loop0 (fun n p => Mod_leastReady_L17 F n 194 s (mnB (fun p => rd h 242 (8 * (s : Int) + p)) s i p) (p : Int) h) 8 F _ (by omega) (fun n p hp => ?_) (fun n => ?_)
  · show Mod_leastReady_L17s F (Mod_leastReady_L17 F n) 194 s _ (p : Int) h = _
    generalize hf : (fun p : Int => rd h 242 (8 * (s : Int) + p)) = f
    have e : mnB f s i (p + 1) = if s.testBit p = true ∧ f p < mnB f s i p then f p else mnB f s i p := rfl
    have hfp : rd h 242 (8 * (s : Int) + p) = f p := by rw [← hf]
    unfold Mod_leastReady_L17s
    rw [if_pos (by omega), bit_I s hs p hp, w32_nat (by omega), e]
    by_cases hbit : s.testBit p = true
    · rw [if_pos hbit, if_pos rfl, gM66 sh, w32_id (x := 8 * (s : Int)) (by omega) (by omega), w32_id (x := 8 * (s : Int) + (p : Int)) (by omega) (by omega), aM66 sh (by omega) (by omega), hfp]
      by_cases hl : f p < mnB f s i p
      · rw [if_pos hl, gM66 sh, aM66 sh (by omega) (by omega), hfp, if_pos ⟨hbit, hl⟩]
      · rw [if_neg hl, if_neg (fun q => hl q.2)]
    · rw [if_neg hbit, if_neg (by decide), if_neg (fun q => hbit q.1)]
  · show Mod_leastReady_L17s F (Mod_leastReady_L17 F n) 194 s _ _ h = _
    unfold Mod_leastReady_L17s
    rw [if_neg (by decide)]
theorem m_leastReady {F : Nat} {h : Hp} {s : Nat} (hF : 1000 ≤ F) (sh : Sh h) (hs : s < 256) : Mod_leastReady F 194 s h = some (lrV (rd h 242) (rd h 194 69) s, h) := by
  unfold Mod_leastReady lrV
  by_cases h0 : s = 0
  · rw [if_pos (by omega), gM69 sh, m_leastReady_L hF sh hs, if_pos h0]
  · rw [if_neg (by omega), m_leastReady_L hF sh hs, if_neg h0]
def wbS (D : Nat → Int → Int) (s n : Nat) : Int := smN (fun p => if s.testBit p.toNat = true then D 2 p else 0) n
def wbV (D : Nat → Int → Int) (s : Nat) : Int := wbS D s 8
theorem wbS_in {D : Nat → Int → Int} (hd : Dok D) {s : Nat} (hs : s < 2 ^ (D 0 0).toNat) : ∀ n : Nat, 0 ≤ wbS D s n ∧ wbS D s n ≤ 99 * n
  | 0 => by simp [wbS, smN]
  | n + 1 => by
    have ih := wbS_in hd hs n
    have e : wbS D s (n + 1) = wbS D s n + (if s.testBit n = true then D 2 n else 0) := rfl
    rw [e]
    split
    · rename_i hb
      have := bit_lt hs hb
      have := hd.2.2.1 n (by omega) (by omega)
      omega
    · omega
theorem m_worthBy {F : Nat} {h : Hp} {s : Nat} (hF : 1000 ≤ F) (m : Mo h) (hs : s < 2 ^ (dt h 0 0).toNat) : Mod_worthBy F 194 s h = some (wbV (dt h) s, h) := by
  have sh := m.1
  have hl := m.2.1
  have hp8 := m.2.2.1
  have h256 := two8 (n := (dt h 0 0).toNat) (by omega)
  refine loop0 (fun n p => Mod_worthBy_L4 F n 194 s (wbS (dt h) s p) (p : Int) h) 8 F _ (by omega) (fun n p hp => ?_) (fun n => ?_)
  · show Mod_worthBy_L4s F (Mod_worthBy_L4 F n) 194 s _ (p : Int) h = _
    have hb := wbS_in m.2.2 hs p
    have e : wbS (dt h) s (p + 1) = wbS (dt h) s p + (if s.testBit p = true then dt h 2 p else 0) := rfl
    have e2 : rd h 206 (8 * rd h 194 18 + p) = dt h 2 p := rfl
    unfold Mod_worthBy_L4s
    rw [if_pos (by omega), bit_I s (by omega) p hp, w32_nat (by omega), e]
    by_cases hbit : s.testBit p = true
    · have hpl := bit_lt hs hbit
      have h2 := m.2.2.2.2.1 p (by omega) (by omega)
      rw [if_pos hbit, if_pos rfl, if_pos hbit, gM25 sh, gM18 sh, w32_id (x := 8 * rd h 194 18) (by omega) (by omega), w32_id (x := 8 * rd h 194 18 + (p : Int)) (by omega) (by omega), aM25 sh (by omega) (by omega), e2, w32_id (x := wbS (dt h) s p + dt h 2 p) (by omega) (by omega), lt_eq]
    · rw [if_neg hbit, if_neg (by decide), if_neg hbit, Int.add_zero]
  · show Mod_worthBy_L4s F (Mod_worthBy_L4 F n) 194 s _ _ h = _
    unfold Mod_worthBy_L4s
    rw [if_neg (by decide)]
    rfl
theorem m_canBy {F : Nat} {h : Hp} {s : Nat} {b : Int} (hF : 1000 ≤ F) (sh : Sh h) (hs : s < 256) : Mod_canBy F 194 s b h = some (if s = 0 ∨ lrV (rd h 242) (rd h 194 69) s ≤ b then 1 else 0, h) := by
  unfold Mod_canBy
  by_cases h0 : s = 0
  · rw [if_pos (by omega), if_pos (Or.inl h0)]; rfl
  · rw [if_neg (by omega), ivM sh, m_leastReady hF sh hs, cl_some]
    by_cases hb : b < lrV (rd h 242) (rd h 194 69) s
    · rw [if_pos hb, if_neg (by omega)]; rfl
    · rw [if_neg hb, if_pos (by omega)]; rfl
/-- the best of the sets 0 .. n -/
def bsR (D : Nat → Int → Int) (T : Int → Int) (a b : Int) (al : Nat) : Nat → Nat
  | 0 => 0
  | n + 1 => if ((n + 1) &&& al = n + 1 ∧ lrV T a (n + 1) ≤ b) ∧ (wbV D (bsR D T a b al n) < wbV D (n + 1) ∨ (wbV D (n + 1) = wbV D (bsR D T a b al n) ∧ lrV T a (n + 1) < lrV T a (bsR D T a b al n))) then n + 1 else bsR D T a b al n
theorem bsR_le (D : Nat → Int → Int) (T : Int → Int) (a b : Int) (al : Nat) : ∀ n, bsR D T a b al n ≤ n
  | 0 => Nat.le_refl 0
  | n + 1 => by
    have := bsR_le D T a b al n
    unfold bsR
    split <;> omega
theorem m_bestRow_L {F : Nat} {h : Hp} {b : Int} {al : Nat} (hF : 1000 ≤ F) (m : Mo h) (ha : al < 256) : Mod_bestRow_L12 F F 194 al b 0 1 h = some (((bsR (dt h) (rd h 242) (rd h 194 69) b al (2 ^ (dt h 0 0).toNat - 1) : Nat) : Int), h) := by
  have sh := m.1
  have hp8 := m.2.2.1
  have hl := m.2.1
  have h256 := two8 (n := (dt h 0 0).toNat) (by omega)
  have hpos : 0 < 2 ^ (dt h 0 0).toNat := Nat.two_pow_pos _
  have e0 : rd h 203 (rd h 194 18) = dt h 0 0 := rfl
  have e2 : ishl 1 (dt h 0 0) = ((2 ^ (dt h 0 0).toNat : Nat) : Int) := by
    have := ishl_1 (dt h 0 0).toNat (by omega)
    rw [show (((dt h 0 0).toNat : Nat) : Int) = dt h 0 0 by omega] at this
    exact this
  refine loop0 (fun n s => Mod_bestRow_L12 F n 194 al b ((bsR (dt h) (rd h 242) (rd h 194 69) b al s : Nat) : Int) ((s + 1 : Nat) : Int) h) (2 ^ (dt h 0 0).toNat - 1) F _ (by omega) (fun n s hs => ?_) (fun n => ?_)
  · show Mod_bestRow_L12s F (Mod_bestRow_L12 F n) 194 al b _ ((s + 1 : Nat) : Int) h = _
    have hk := bsR_le (dt h) (rd h 242) (rd h 194 69) b al s
    have e : bsR (dt h) (rd h 242) (rd h 194 69) b al (s + 1) = if ((s + 1) &&& al = s + 1 ∧ lrV (rd h 242) (rd h 194 69) (s + 1) ≤ b) ∧ (wbV (dt h) (bsR (dt h) (rd h 242) (rd h 194 69) b al s) < wbV (dt h) (s + 1) ∨ (wbV (dt h) (s + 1) = wbV (dt h) (bsR (dt h) (rd h 242) (rd h 194 69) b al s) ∧ lrV (rd h 242) (rd h 194 69) (s + 1) < lrV (rd h 242) (rd h 194 69) (bsR (dt h) (rd h 242) (rd h 194 69) b al s))) then s + 1 else bsR (dt h) (rd h 242) (rd h 194 69) b al s := rfl
    rw [e]
    generalize bsR (dt h) (rd h 242) (rd h 194 69) b al s = k at hk ⊢
    have w1 := wbS_in m.2.2 (s := s + 1) (by omega) 8
    have w2 := wbS_in m.2.2 (s := k) (by omega) 8
    have w1' : wbS (dt h) (s + 1) 8 = wbV (dt h) (s + 1) := rfl
    have w2' : wbS (dt h) k 8 = wbV (dt h) k := rfl
    rw [w1'] at w1
    rw [w2'] at w2
    unfold Mod_bestRow_L12s
    rw [gM22 sh, gM18 sh, aM22 sh (by omega) (by omega), e0, e2, if_pos (by omega), w32_nat (by omega)]
    by_cases hsub : (s + 1) &&& al = s + 1
    · rw [if_pos ((sub_I (s + 1) (by omega) al ha).2 hsub), ivM sh, m_canBy hF sh (by omega), cl_some]
      by_cases hb : lrV (rd h 242) (rd h 194 69) (s + 1) ≤ b
      · rw [if_pos (Or.inr hb), if_neg (by decide), ivM sh, m_worthBy hF m (by omega), cl_some, ivM sh, m_worthBy hF m (by omega), cl_some, w32_id (x := wbV (dt h) (s + 1) - wbV (dt h) k) (by omega) (by omega), lt_eq]
        by_cases h1 : 0 < wbV (dt h) (s + 1) - wbV (dt h) k
        · rw [if_pos h1, if_pos ⟨⟨hsub, hb⟩, Or.inl (by omega)⟩]
        · rw [if_neg h1]
          by_cases h2 : wbV (dt h) (s + 1) - wbV (dt h) k = 0
          · rw [if_pos h2, ivM sh, m_leastReady hF sh (by omega), cl_some, ivM sh, m_leastReady hF sh (by omega), cl_some]
            by_cases h3 : lrV (rd h 242) (rd h 194 69) (s + 1) < lrV (rd h 242) (rd h 194 69) k
            · rw [if_pos h3, if_pos ⟨⟨hsub, hb⟩, Or.inr ⟨by omega, h3⟩⟩]
            · rw [if_neg h3, if_neg (by omega)]
          · rw [if_neg h2, if_neg (by omega)]
      · rw [if_neg (show ¬ (s + 1 = 0 ∨ lrV (rd h 242) (rd h 194 69) (s + 1) ≤ b) from fun q => q.elim (fun q => by omega) hb), if_pos rfl, if_neg (fun q => hb q.1.2)]
    · rw [if_neg (fun q => hsub ((sub_I (s + 1) (by omega) al ha).1 q)), if_neg (fun q => hsub q.1.1)]
  · show Mod_bestRow_L12s F (Mod_bestRow_L12 F n) 194 al b _ _ h = _
    unfold Mod_bestRow_L12s
    rw [gM22 sh, gM18 sh, aM22 sh (by omega) (by omega), e0, e2, if_neg (by omega)]
/-- the table, and the best set by it -/
def tabF (D : Nat → Int → Int) (G : Nat → Int) (w : Int) (T : Int → Int) (al : Nat) : Int → Int := tabS D G w T al (2 ^ (D 0 0).toNat - 1)
def bstF (D : Nat → Int → Int) (T : Int → Int) (a b : Int) (al : Nat) : Nat := bsR D T a b al (2 ^ (D 0 0).toNat - 1)
theorem bstF_lt {D : Nat → Int → Int} (T : Int → Int) (a b : Int) (al : Nat) : bstF D T a b al < 2 ^ (D 0 0).toNat := by
  have h1 := bsR_le D T a b al (2 ^ (D 0 0).toNat - 1)
  have hpos : 0 < 2 ^ (D 0 0).toNat := Nat.two_pow_pos _
  unfold bstF
  omega
theorem m_bestRow {F : Nat} {h : Hp} {w b : Int} {al : Nat} (hF : 1000 ≤ F) (m : Mo h) (hg : Gok (dt h) (Pg h)) (ht : ∀ i, Vok (rd h 242 i)) (hw : 0 ≤ w ∧ w < dt h 1 0) (ha : al < 256) :
    Mod_bestRow F 194 w al b h = some (((bstF (dt h) (tabF (dt h) (Pg h) w (rd h 242) al) (rd h 194 69) b al : Nat) : Int), sr h 242 (tabF (dt h) (Pg h) w (rd h 242) al)) := by
  unfold Mod_bestRow
  rw [ivM m.1, m_fillsRows hF m hg ht hw ha, cl_some]
  obtain ⟨mo, ed, eg, et⟩ := sr242 m (tabS (dt h) (Pg h) w (rd h 242) al (2 ^ (dt h 0 0).toNat - 1))
  have := m_bestRow_L (b := b) hF mo ha
  rw [ed, et, rd_sr_ne (by decide)] at this
  exact this
def stH (h : Hp) (w d : Int) : Hp := wr (wr (wr (wr (wr h 194 67 (rd h 240 (32 + w))) 194 68 (rd h 240 (35 + w))) 194 69 (rd h 240 (38 + w) + d)) 194 70 0) 194 71 0
theorem m_startsAs {F : Nat} {h : Hp} {w d : Int} (sh : Sh h) (hw : 0 ≤ w ∧ w < 3) (hd : 0 ≤ d ∧ d ≤ 600) (hr : 0 ≤ rd h 240 (38 + w) ∧ rd h 240 (38 + w) ≤ 2000) : Mod_startsAs F 194 w d h = some (0, stH h w d) := by
  unfold Mod_startsAs stH
  have s1 := sh67 sh (rd h 240 (32 + w))
  have s2 := sh68 s1 (rd h 240 (35 + w))
  have s3 := sh69 s2 (rd h 240 (38 + w) + d)
  have s4 := sh70 s3 0
  rw [gM63 sh, w32_id (x := 32 + w) (by omega) (by omega), aM63 sh (by omega) (by omega), pM67 sh, gM63 s1, w32_id (x := 35 + w) (by omega) (by omega), aM63 s1 (by omega) (by omega), rd_a (by decide), pM68 s1, gM63 s2, w32_id (x := 38 + w) (by omega) (by omega), aM63 s2 (by omega) (by omega), rd_a (by decide), rd_a (by decide), w32_id (x := rd h 240 (38 + w) + d) (by omega) (by omega), pM69 s2, pM70 s3, pM71 s4 (Or.inl rfl)]
def setsR (h : Hp) (f : Int → Bool) : Nat := setN f (dt h 0 0).toNat
theorem m_neverDone {F : Nat} {h : Hp} (hF : 1000 ≤ F) (m : Mo h) : Mod_neverDone F 194 h = some (((setN (fun p => decide (rd h 240 p = -2)) (dt h 0 0).toNat : Nat) : Int), h) := by
  have s := m.1
  have hl := m.2.1
  have hp8 := m.2.2.1
  have e0 : rd h 203 (rd h 194 18) = dt h 0 0 := rfl
  refine loop0 (fun n i => Mod_neverDone_L4 F n 194 ((setN (fun p => decide (rd h 240 p = -2)) i : Nat) : Int) (i : Int) h) (dt h 0 0).toNat F _ (by omega) (fun n i hi => ?_) (fun n => ?_)
  · show Mod_neverDone_L4s F (Mod_neverDone_L4 F n) 194 _ i h = _
    have h8 := setN_8 (fun p => decide (rd h 240 p = -2)) i (by omega)
    have e : setN (fun p => decide (rd h 240 p = -2)) (i + 1) = if decide (rd h 240 i = -2) = true then setN (fun p => decide (rd h 240 p = -2)) i ||| 2 ^ i else setN (fun p => decide (rd h 240 p = -2)) i := rfl
    unfold Mod_neverDone_L4s
    rw [gM22 s, gM18 s, aM22 s (by omega) (by omega), e0, if_pos (by omega), gM63 s, aM63 s (by omega) (by omega), w32_nat (by omega), e]
    by_cases hc : rd h 240 i = -2
    · rw [if_pos hc, if_pos (by rw [hc]; rfl), ior_p h8 (by omega), lt_eq]
    · rw [if_neg hc, if_neg (by simpa using hc)]
  · show Mod_neverDone_L4s F (Mod_neverDone_L4 F n) 194 _ _ h = _
    unfold Mod_neverDone_L4s
    rw [gM22 s, gM18 s, aM22 s (by omega) (by omega), e0, if_neg (by omega)]
theorem m_crossedNow {F : Nat} {h : Hp} (hF : 1000 ≤ F) (m : Mo h) : Mod_crossedNow F 194 h = some (((setN (fun p => decide (rd h 240 (8 + p) = 1)) (dt h 0 0).toNat : Nat) : Int), h) := by
  have s := m.1
  have hl := m.2.1
  have hp8 := m.2.2.1
  have e0 : rd h 203 (rd h 194 18) = dt h 0 0 := rfl
  refine loop0 (fun n i => Mod_crossedNow_L4 F n 194 ((setN (fun p => decide (rd h 240 (8 + p) = 1)) i : Nat) : Int) (i : Int) h) (dt h 0 0).toNat F _ (by omega) (fun n i hi => ?_) (fun n => ?_)
  · show Mod_crossedNow_L4s F (Mod_crossedNow_L4 F n) 194 _ i h = _
    have h8 := setN_8 (fun p => decide (rd h 240 (8 + p) = 1)) i (by omega)
    have e : setN (fun p => decide (rd h 240 (8 + p) = 1)) (i + 1) = if decide (rd h 240 (8 + i) = 1) = true then setN (fun p => decide (rd h 240 (8 + p) = 1)) i ||| 2 ^ i else setN (fun p => decide (rd h 240 (8 + p) = 1)) i := rfl
    unfold Mod_crossedNow_L4s
    rw [gM22 s, gM18 s, aM22 s (by omega) (by omega), e0, if_pos (by omega), gM63 s, w32_id (x := 8 + (i : Int)) (by omega) (by omega), aM63 s (by omega) (by omega), w32_nat (by omega), e]
    by_cases hc : rd h 240 (8 + i) = 1
    · rw [if_pos hc, if_pos (by rw [hc]; rfl), ior_p h8 (by omega), lt_eq]
    · rw [if_neg hc, if_neg (by simpa using hc)]
  · show Mod_crossedNow_L4s F (Mod_crossedNow_L4 F n) 194 _ _ h = _
    unfold Mod_crossedNow_L4s
    rw [gM22 s, gM18 s, aM22 s (by omega) (by omega), e0, if_neg (by omega)]
