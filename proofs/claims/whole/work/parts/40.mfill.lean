/-! the table of the rows: filled set by set -/
/-- the least over a set's parts -/
def mnB (f : Int → Int) (b : Nat) (i : Int) : Nat → Int
  | 0 => i
  | n + 1 => if b.testBit n = true ∧ f n < mnB f b i n then f n else mnB f b i n
def bst (D : Nat → Int → Int) (G : Nat → Int) (w : Int) (T : Int → Int) (s p : Nat) : Int := mnB (fun o => rb1 D G w T ((s - 2 ^ p : Nat) : Int) o p) (s - 2 ^ p) (if s - 2 ^ p = 0 then rb0 D G w p else 100000) 8
def tabP (D : Nat → Int → Int) (G : Nat → Int) (w : Int) (T : Int → Int) (s : Nat) : Nat → Int → Int
  | 0 => T
  | n + 1 => if s.testBit n then up (tabP D G w T s n) (8 * s + n) (bst D G w (tabP D G w T s n) s n) else tabP D G w T s n
def tabS (D : Nat → Int → Int) (G : Nat → Int) (w : Int) (T : Int → Int) (al : Nat) : Nat → Int → Int
  | 0 => T
  | n + 1 => if (n + 1) &&& al = n + 1 then tabP D G w (tabS D G w T al n) (n + 1) 8 else tabS D G w T al n
theorem bit_lt {s n p : Nat} (hs : s < 2 ^ n) (hb : s.testBit p = true) : p < n := by
  refine Nat.lt_of_not_le (fun hle => ?_)
  have h2 : s < 2 ^ p := Nat.lt_of_lt_of_le hs (Nat.pow_le_pow_right (by decide) hle)
  rw [Nat.testBit_lt_two_pow h2] at hb
  exact absurd hb (by decide)
theorem drp_bit {s n p o : Nat} (hs : s < 2 ^ n) (hb : (s - 2 ^ p).testBit o = true) : o < n := bit_lt (Nat.lt_of_le_of_lt (Nat.sub_le _ _) hs) hb
theorem mnB_ok {f : Int → Int} {b : Nat} {i : Int} (hi : Vok i) (hf : ∀ n : Nat, b.testBit n = true → Vok (f n)) : ∀ n, Vok (mnB f b i n)
  | 0 => hi
  | n + 1 => by
    unfold mnB
    split
    · rename_i h; exact hf n h.1
    · exact mnB_ok hi hf n
theorem rb0_ok {h : Hp} (m : Mo h) {G : Nat → Int} (hg : Gok (dt h) G) {w p : Int} (hw : 0 ≤ w ∧ w < dt h 1 0) (hp : 0 ≤ p ∧ p < dt h 0 0) : Vok (rb0 (dt h) G w p) := stepV_ok m hg.1 hw hg.2.1 hg.2.2.1 hg.2.2.2.1 hp
theorem rb1_ok {h : Hp} (m : Mo h) {G : Nat → Int} (hg : Gok (dt h) G) {T : Int → Int} (ht : ∀ i, Vok (T i)) {w b o p : Int} (hw : 0 ≤ w ∧ w < dt h 1 0) (ho : 0 ≤ o ∧ o < dt h 0 0) (hp : 0 ≤ p ∧ p < dt h 0 0) : Vok (rb1 (dt h) G w T b o p) := by
  obtain ⟨q1, q2, q3, q4⟩ := hg.1.2 o ho.1 ho.2
  have hv := ht (8 * b + o)
  unfold rb1
  split
  · exact Or.inl rfl
  · exact stepV_ok m hg.1 hw q1 q2 (by unfold Vok at hv; omega) hp
theorem bst_ok {h : Hp} (m : Mo h) {G : Nat → Int} (hg : Gok (dt h) G) {T : Int → Int} (ht : ∀ i, Vok (T i)) {w : Int} {s p : Nat} (hw : 0 ≤ w ∧ w < dt h 1 0) (hs : s < 2 ^ (dt h 0 0).toNat) (hp : p < (dt h 0 0).toNat) : Vok (bst (dt h) G w T s p) := by
  refine mnB_ok ?_ (fun o ho => ?_) 8
  · split
    · exact rb0_ok m hg hw ⟨by omega, by omega⟩
    · exact Or.inl rfl
  · have := drp_bit hs ho
    exact rb1_ok m hg ht hw ⟨by omega, by omega⟩ ⟨by omega, by omega⟩
theorem up_ok {T : Int → Int} (ht : ∀ i, Vok (T i)) {j v : Int} (hv : Vok v) : ∀ i, Vok (up T j v i) := fun i => by
  unfold up
  split
  · exact hv
  · exact ht i
theorem tabP_ok {h : Hp} (m : Mo h) {G : Nat → Int} (hg : Gok (dt h) G) {T : Int → Int} (ht : ∀ i, Vok (T i)) {w : Int} {s : Nat} (hw : 0 ≤ w ∧ w < dt h 1 0) (hs : s < 2 ^ (dt h 0 0).toNat) : ∀ n i, Vok (tabP (dt h) G w T s n i)
  | 0 => ht
  | n + 1 => by
    have ih := tabP_ok m hg ht hw hs n
    unfold tabP
    split
    · rename_i hb
      exact up_ok ih (bst_ok m hg ih hw hs (bit_lt hs hb))
    · exact ih
theorem tabS_ok {h : Hp} (m : Mo h) {G : Nat → Int} (hg : Gok (dt h) G) {T : Int → Int} (ht : ∀ i, Vok (T i)) {w : Int} {al : Nat} (hw : 0 ≤ w ∧ w < dt h 1 0) : ∀ n, n < 2 ^ (dt h 0 0).toNat → ∀ i, Vok (tabS (dt h) G w T al n i)
  | 0 => fun _ => ht
  | n + 1 => fun hn => by
    have ih := tabS_ok m hg ht (al := al) hw n (by omega)
    unfold tabS
    split
    · exact tabP_ok m hg ih hw hn 8
    · exact ih
theorem two8 {n : Nat} (hn : n ≤ 8) : 2 ^ n ≤ 256 := Nat.pow_le_pow_right (by decide) hn
theorem m_fills_L85 {F : Nat} {h : Hp} {w al i : Int} {s p : Nat} (hF : 1000 ≤ F) (R2 : Int → Int → Int → Int → Hp → Option (Int × Hp)) (R31 : Int → Int → Int → Int → Int → Hp → Option (Int × Hp)) (m : Mo h) (hg : Gok (dt h) (Pg h)) (ht : ∀ i, Vok (rd h 242 i)) (hw : 0 ≤ w ∧ w < dt h 1 0) (hs : s < 2 ^ (dt h 0 0).toNat) (hp : p < (dt h 0 0).toNat) :
    Mod_fillsRows_L85 F R2 R31 F 194 w al s p ((s - 2 ^ p : Nat) : Int) i 0 h = Mod_fillsRows_B135 F R2 R31 194 w al s p (mnB (fun o => rb1 (dt h) (Pg h) w (rd h 242) ((s - 2 ^ p : Nat) : Int) o p) (s - 2 ^ p) i 8) h := by
  have hp8 := m.2.2.1
  have sh := m.1
  have h256 := two8 (n := (dt h 0 0).toNat) (by omega)
  refine loop0 (fun n o => Mod_fillsRows_L85 F R2 R31 n 194 w al s p ((s - 2 ^ p : Nat) : Int) (mnB (fun o => rb1 (dt h) (Pg h) w (rd h 242) ((s - 2 ^ p : Nat) : Int) o p) (s - 2 ^ p) i o) (o : Int) h) 8 F _ (by omega) (fun n o ho => ?_) (fun n => ?_)
  · show Mod_fillsRows_L85s F R2 R31 (Mod_fillsRows_L85 F R2 R31 n) 194 w al s p ((s - 2 ^ p : Nat) : Int) _ (o : Int) h = _
    have hb : s - 2 ^ p < 256 := Nat.lt_of_le_of_lt (Nat.sub_le _ _) (by omega)
    generalize hf : (fun o : Int => rb1 (dt h) (Pg h) w (rd h 242) ((s - 2 ^ p : Nat) : Int) o p) = f
    have e : mnB f (s - 2 ^ p) i (o + 1) = if (s - 2 ^ p).testBit o = true ∧ f o < mnB f (s - 2 ^ p) i o then f o else mnB f (s - 2 ^ p) i o := rfl
    unfold Mod_fillsRows_L85s
    rw [if_pos (by omega), bit_I _ hb o ho, w32_nat (by omega), e]
    by_cases hbit : (s - 2 ^ p).testBit o = true
    · have hol := drp_bit hs hbit
      rw [if_pos hbit, if_neg (by decide), ivM sh, m_rb1 m hg ht hw ⟨by omega, by omega⟩ ⟨by omega, by omega⟩ ⟨by omega, by omega⟩, cl_some]
      have hfo : rb1 (dt h) (Pg h) w (rd h 242) ((s - 2 ^ p : Nat) : Int) o p = f o := by rw [← hf]
      rw [hfo]
      by_cases hl : f o < mnB f (s - 2 ^ p) i o
      · rw [if_pos hl, if_pos ⟨hbit, hl⟩]
      · rw [if_neg hl, if_neg (fun q => hl q.2)]
    · rw [if_neg hbit, if_pos rfl, if_neg (fun q => hbit q.1)]
  · show Mod_fillsRows_L85s F R2 R31 (Mod_fillsRows_L85 F R2 R31 n) 194 w al s p ((s - 2 ^ p : Nat) : Int) _ _ h = _
    unfold Mod_fillsRows_L85s
    rw [if_neg (by decide)]
theorem sr242 {h : Hp} (m : Mo h) (T : Int → Int) : Mo (sr h 242 T) ∧ dt (sr h 242 T) = dt h ∧ Pg (sr h 242 T) = Pg h ∧ rd (sr h 242 T) 242 = T := ⟨Mo_sr m (by decide) (by decide), dt_sr (by decide) (by decide) (by decide), by funext k; unfold Pg; rw [rd_sr_ne (by decide)], rd_sr _ _ _⟩
theorem m_fills_L31 {F : Nat} {h : Hp} {w al : Int} {s : Nat} {T : Int → Int} (hF : 1000 ≤ F) (R2 : Int → Int → Int → Int → Hp → Option (Int × Hp)) (m : Mo h) (hg : Gok (dt h) (Pg h)) (ht : ∀ i, Vok (T i)) (hw : 0 ≤ w ∧ w < dt h 1 0) (hs : s < 2 ^ (dt h 0 0).toNat) :
    Mod_fillsRows_L31 F R2 F 194 w al s 0 (sr h 242 T) = R2 194 w al ((s + 1 : Nat) : Int) (sr h 242 (tabP (dt h) (Pg h) w T s 8)) := by
  have hp8 := m.2.2.1
  have h256 := two8 (n := (dt h 0 0).toNat) (by omega)
  refine loop0 (fun n p => Mod_fillsRows_L31 F R2 n 194 w al s (p : Int) (sr h 242 (tabP (dt h) (Pg h) w T s p))) 8 F _ (by omega) (fun n p hp => ?_) (fun n => ?_)
  · show Mod_fillsRows_L31s F R2 (Mod_fillsRows_L31 F R2 n) 194 w al s (p : Int) _ = _
    have ok := tabP_ok m hg ht hw hs p
    have e : tabP (dt h) (Pg h) w T s (p + 1) = if s.testBit p then up (tabP (dt h) (Pg h) w T s p) (8 * s + p) (bst (dt h) (Pg h) w (tabP (dt h) (Pg h) w T s p) s p) else tabP (dt h) (Pg h) w T s p := rfl
    rw [e]
    generalize tabP (dt h) (Pg h) w T s p = U at ok ⊢
    obtain ⟨mo, ed, eg, et⟩ := sr242 m U
    unfold Mod_fillsRows_L31s
    rw [if_pos (by omega), bit_I s (by omega) p hp]
    by_cases hbit : s.testBit p = true
    · have hpl := bit_lt hs hbit
      rw [if_pos hbit, if_neg (by decide), if_pos hbit, drp_I s (by omega) p hp hbit, lt_eq]
      have fin : ∀ i, Mod_fillsRows_L85 F R2 (Mod_fillsRows_L31 F R2 n) F 194 w al s p ((s - 2 ^ p : Nat) : Int) i 0 (sr h 242 U) = Mod_fillsRows_L31 F R2 n 194 w al s ((p + 1 : Nat) : Int) (sr h 242 (up U (8 * s + p) (mnB (fun o => rb1 (dt h) (Pg h) w U ((s - 2 ^ p : Nat) : Int) o p) (s - 2 ^ p) i 8))) := by
        intro i
        have := m_fills_L85 (al := al) (i := i) (s := s) (p := p) hF R2 (Mod_fillsRows_L31 F R2 n) mo (by rw [ed, eg]; exact hg) (by rw [et]; exact ok) (by rw [ed]; exact hw) (by rw [ed]; exact hs) (by rw [ed]; exact hpl)
        rw [ed, eg, et] at this
        rw [this]
        unfold Mod_fillsRows_B135
        rw [gM66 mo.1, w32_id (x := 8 * (s : Int)) (by omega) (by omega), w32_id (x := 8 * (s : Int) + (p : Int)) (by omega) (by omega), sM66 mo.1 (by omega) (by omega), wr_up, w32_nat (by omega)]
      unfold bst
      by_cases hz : s - 2 ^ p = 0
      · have hz' : ((s - 2 ^ p : Nat) : Int) = 0 := by omega
        rw [if_pos hz', if_pos hz, ivM mo.1, m_rb0 mo (by rw [ed, eg]; exact hg) (by rw [ed]; exact hw) (by rw [ed]; omega), cl_some, ed, eg]
        exact fin _
      · have hz' : ¬ ((s - 2 ^ p : Nat) : Int) = 0 := by omega
        rw [if_neg hz', if_neg hz]
        exact fin _
    · rw [if_neg hbit, if_pos rfl, if_neg hbit, w32_nat (by omega)]
  · show Mod_fillsRows_L31s F R2 (Mod_fillsRows_L31 F R2 n) 194 w al s _ _ = _
    unfold Mod_fillsRows_L31s
    rw [if_neg (by decide), w32_nat (by omega)]
theorem m_fillsRows {F : Nat} {h : Hp} {w : Int} {al : Nat} (hF : 1000 ≤ F) (m : Mo h) (hg : Gok (dt h) (Pg h)) (ht : ∀ i, Vok (rd h 242 i)) (hw : 0 ≤ w ∧ w < dt h 1 0) (ha : al < 256) :
    Mod_fillsRows F 194 w al h = some (0, sr h 242 (tabS (dt h) (Pg h) w (rd h 242) al (2 ^ (dt h 0 0).toNat - 1))) := by
  have hp8 := m.2.2.1
  have hl := m.2.1
  have h256 := two8 (n := (dt h 0 0).toNat) (by omega)
  have hpos : 0 < 2 ^ (dt h 0 0).toNat := Nat.two_pow_pos _
  have e0 : rd h 203 (rd h 194 18) = dt h 0 0 := rfl
  have e2 : ishl 1 (dt h 0 0) = ((2 ^ (dt h 0 0).toNat : Nat) : Int) := by
    have := ishl_1 (dt h 0 0).toNat (by omega)
    rw [show (((dt h 0 0).toNat : Nat) : Int) = dt h 0 0 by omega] at this
    exact this
  have key := loop0 (fun n s => Mod_fillsRows_L2 F n 194 w al ((s + 1 : Nat) : Int) (sr h 242 (tabS (dt h) (Pg h) w (rd h 242) al s))) (2 ^ (dt h 0 0).toNat - 1) F (some (0, sr h 242 (tabS (dt h) (Pg h) w (rd h 242) al (2 ^ (dt h 0 0).toNat - 1)))) (by omega) (fun n s hs => ?_) (fun n => ?_)
  · have e : tabS (dt h) (Pg h) w (rd h 242) al 0 = rd h 242 := rfl
    rw [e, sr_self] at key
    exact key
  · show Mod_fillsRows_L2s F (Mod_fillsRows_L2 F n) 194 w al ((s + 1 : Nat) : Int) _ = _
    have ok := tabS_ok m hg ht (al := al) hw s (by omega)
    have e : tabS (dt h) (Pg h) w (rd h 242) al (s + 1) = if (s + 1) &&& al = s + 1 then tabP (dt h) (Pg h) w (tabS (dt h) (Pg h) w (rd h 242) al s) (s + 1) 8 else tabS (dt h) (Pg h) w (rd h 242) al s := rfl
    rw [e]
    generalize tabS (dt h) (Pg h) w (rd h 242) al s = U at ok ⊢
    obtain ⟨mo, ed, eg, et⟩ := sr242 m U
    unfold Mod_fillsRows_L2s
    rw [gM22 mo.1, gM18 mo.1, rd_sr_ne (by decide), aM22 mo.1 (by omega) (by omega), rd_sr_ne (by decide), e0, e2, if_pos (by omega)]
    by_cases hsub : (s + 1) &&& al = s + 1
    · rw [if_pos ((sub_I (s + 1) (by omega) al ha).2 hsub), if_pos hsub]
      exact m_fills_L31 hF _ m hg ok hw (by omega)
    · rw [if_neg (fun q => hsub ((sub_I (s + 1) (by omega) al ha).1 q)), if_neg hsub, w32_nat (by omega)]
  · show Mod_fillsRows_L2s F (Mod_fillsRows_L2 F n) 194 w al _ _ = _
    generalize tabS (dt h) (Pg h) w (rd h 242) al (2 ^ (dt h 0 0).toNat - 1) = U
    obtain ⟨mo, ed, eg, et⟩ := sr242 m U
    unfold Mod_fillsRows_L2s
    rw [gM22 mo.1, gM18 mo.1, rd_sr_ne (by decide), aM22 mo.1 (by omega) (by omega), rd_sr_ne (by decide), e0, e2, if_neg (by omega)]
