/-! the reference's calls that tell sets, and those that keep -/
def setN (f : Int → Bool) : Nat → Nat
  | 0 => 0
  | n + 1 => if f n then setN f n ||| 2 ^ n else setN f n
theorem setN_lt (f : Int → Bool) : ∀ n : Nat, setN f n < 2 ^ n
  | 0 => Nat.one_pos
  | n + 1 => by
    have h1 := setN_lt f n
    have h2 : 2 ^ n < 2 ^ (n + 1) := Nat.pow_lt_pow_right (by decide) (by omega)
    unfold setN
    split
    · exact Nat.or_lt_two_pow (by omega) h2
    · omega
theorem setN_8 (f : Int → Bool) (n : Nat) (hn : n ≤ 8) : setN f n < 256 := Nat.lt_of_lt_of_le (setN_lt f n) (Nat.pow_le_pow_right (by decide) hn)
theorem setN_bit (f : Int → Bool) (i : Nat) : ∀ n : Nat, (setN f n).testBit i = (decide (i < n) && f i)
  | 0 => by simp [setN]
  | n + 1 => by
    have h1 := setN_bit f i n
    have e : setN f (n + 1) = if f n then setN f n ||| 2 ^ n else setN f n := rfl
    rw [e]
    by_cases hf : f n = true
    · rw [if_pos hf, Nat.testBit_or, h1, Nat.testBit_two_pow]
      by_cases hi : i = n
      · subst hi; simp [hf]
      · have hi' : ¬ n = i := fun q => hi q.symm
        by_cases hl : i < n
        · simp [hl, show i < n + 1 by omega]
          intro q; exact absurd q hi'
        · simp [hl, hi', show ¬ i < n + 1 by omega]
    · rw [if_neg hf, h1]
      by_cases hi : i = n
      · subst hi; simp [hf]
      · by_cases hl : i < n
        · simp [hl, show i < n + 1 by omega]
        · simp [hl, show ¬ i < n + 1 by omega]
theorem ior_p {a p : Nat} (ha : a < 256) (hp : p < 8) : ior a (ishl 1 p) = ((a ||| 2 ^ p : Nat) : Int) := by
  have h2 : 2 ^ p < 2147483648 := Nat.lt_of_lt_of_le (Nat.pow_lt_pow_right (by decide) hp) (by decide)
  rw [ishl_1 p (by omega)]
  exact ior_nat (by omega) h2
theorem m_seen_L {F : Nat} {t : Int} {h : Hp} (hF : 1000 ≤ F) (m : Mo h) (hr : Rok (dt h) (rd h 240)) : Mod_seen_L17 F F 194 t 0 0 h = some (((setN (fun p => seenD (dt h) (rd h 240) p t) (dt h 0 0).toNat : Nat) : Int), h) := by
  have s := m.1
  have hl := m.2.1
  have hp8 := m.2.2.1
  have e0 : rd h 203 (rd h 194 18) = dt h 0 0 := rfl
  refine loop0 (fun n i => Mod_seen_L17 F n 194 t ((setN (fun p => seenD (dt h) (rd h 240) p t) i : Nat) : Int) (i : Int) h) (dt h 0 0).toNat F _ (by omega) (fun n i hi => ?_) (fun n => ?_)
  · show Mod_seen_L17s F (Mod_seen_L17 F n) 194 t _ i h = _
    have h8 := setN_8 (fun p => seenD (dt h) (rd h 240) p t) i (by omega)
    have e : setN (fun p => seenD (dt h) (rd h 240) p t) (i + 1) = if seenD (dt h) (rd h 240) i t then setN (fun p => seenD (dt h) (rd h 240) p t) i ||| 2 ^ i else setN (fun p => seenD (dt h) (rd h 240) p t) i := rfl
    unfold Mod_seen_L17s
    rw [gM22 s, gM18 s, aM22 s (by omega) (by omega), e0, if_pos (by omega), ivM s, m_isSeen hF m hr ⟨by omega, by omega⟩, cl_some, w32_nat (by omega), e]
    cases hc : seenD (dt h) (rd h 240) i t
    · rw [b01, if_pos rfl]; rfl
    · rw [b11, if_neg (by decide), ior_p h8 (by omega)]; rfl
  · show Mod_seen_L17s F (Mod_seen_L17 F n) 194 t _ _ h = _
    unfold Mod_seen_L17s
    rw [gM22 s, gM18 s, aM22 s (by omega) (by omega), e0, if_neg (by omega)]
def senA (h : Hp) (t : Int) : Int := if 0 ≤ t ∧ t < 600 then ((setN (fun p => seenD (dt h) (rd h 239) p t) (dt h 0 0).toNat : Nat) : Int) else -1
def cpI (h : Hp) (t : Int) : Hp := if 0 ≤ t ∧ t < 600 then cpH h else h
theorem cp_facts {h : Hp} (m : MS h) : Mo (cpH h) ∧ Rok (dt (cpH h)) (rd (cpH h) 240) := ⟨cpH_mo m.1, by rw [cpH_dt, cpH_240]; exact m.2.2.2.1⟩
theorem m_seen {F : Nat} {t : Int} {h : Hp} (hF : 1000 ≤ F) (m : MS h) : Mod_seen F 194 t h = some (senA h t, cpI h t) := by
  obtain ⟨mc, rc⟩ := cp_facts m
  unfold Mod_seen senA cpI
  rw [m_isMinute, cl_some]
  by_cases ht : 0 ≤ t ∧ t < 600
  · rw [if_pos ht, if_neg (by decide), if_pos ht, if_pos ht, ivM m.1.1, m_copies' hF m, cl_some]
    have := m_seen_L (F := F) (t := t) hF mc rc
    rw [cpH_dt, cpH_240] at this
    exact this
  · rw [if_neg ht, if_pos rfl, if_neg ht, if_neg ht]
def phoV (h : Hp) (t : Int) : Int := phS (dt h) (rd h 239) t (dt h 0 0).toNat * dt h 14 t
def phoA (h : Hp) (t : Int) : Int := if 0 ≤ t ∧ t < 600 then phoV h t else -1
theorem m_photoC {F : Nat} {t : Int} {h : Hp} (hF : 1000 ≤ F) (m : MS h) (ht : 0 ≤ t ∧ t < 600) : Mod_photoOf F 194 t (cpH h) = some (phoV h t, cpH h) := by
  obtain ⟨mc, rc⟩ := cp_facts m
  have := m_photoOf (F := F) (t := t) hF mc rc ht
  rw [cpH_dt, cpH_240] at this
  exact this
theorem m_photo {F : Nat} {t : Int} {h : Hp} (hF : 1000 ≤ F) (m : MS h) : Mod_photo F 194 t h = some (phoA h t, cpI h t) := by
  obtain ⟨mc, rc⟩ := cp_facts m
  unfold Mod_photo phoA cpI
  rw [m_isMinute, cl_some]
  by_cases ht : 0 ≤ t ∧ t < 600
  · rw [if_pos ht, if_neg (by decide), if_pos ht, if_pos ht, ivM m.1.1, m_copies' hF m, cl_some]
    show iv (cpH h) 194 112 (Mod_photoOf F 194 t (cpH h)) _ = _
    rw [ivM mc.1, m_photoC hF m ht, cl_some]
  · rw [if_neg ht, if_pos rfl, if_neg ht, if_neg ht]
/-- the first of the greatest -/
def bmx (f : Int → Int) : Nat → Int
  | 0 => 0
  | n + 1 => if f (bmx f n) < f ((n + 1 : Nat) : Int) then ((n + 1 : Nat) : Int) else bmx f n
theorem bmx_in (f : Int → Int) : ∀ n : Nat, 0 ≤ bmx f n ∧ bmx f n ≤ n
  | 0 => by show (0 : Int) ≤ 0 ∧ (0 : Int) ≤ 0; decide
  | n + 1 => by
    have := bmx_in f n
    unfold bmx
    split <;> omega
theorem m_bestMinute {F : Nat} {h : Hp} (hF : 1000 ≤ F) (m : MS h) : Mod_bestMinute F 194 h = some (bmx (phoV h) 599, cpH h) := by
  obtain ⟨mc, rc⟩ := cp_facts m
  unfold Mod_bestMinute
  rw [ivM m.1.1, m_copies' hF m, cl_some]
  refine loop0 (fun n i => Mod_bestMinute_L8 F n 194 (bmx (phoV h) i) ((i + 1 : Nat) : Int) (cpH h)) 599 F _ (by omega) (fun n i hi => ?_) (fun n => ?_)
  · show Mod_bestMinute_L8s F (Mod_bestMinute_L8 F n) 194 _ _ (cpH h) = _
    have hb := bmx_in (phoV h) i
    have e : bmx (phoV h) (i + 1) = if phoV h (bmx (phoV h) i) < phoV h ((i + 1 : Nat) : Int) then ((i + 1 : Nat) : Int) else bmx (phoV h) i := rfl
    unfold Mod_bestMinute_L8s
    rw [if_pos (by omega), ivM mc.1, m_photoC hF m (by omega), cl_some, ivM mc.1, m_photoC hF m (by omega), cl_some, w32_nat (by omega), e]
    by_cases hc : phoV h (bmx (phoV h) i) < phoV h ((i + 1 : Nat) : Int)
    · rw [if_pos hc, if_pos hc]
    · rw [if_neg hc, if_neg hc]
  · show Mod_bestMinute_L8s F (Mod_bestMinute_L8 F n) 194 _ _ (cpH h) = _
    unfold Mod_bestMinute_L8s
    rw [if_neg (by decide)]
abbrev isS (k : Int) : Prop := 0 ≤ k ∧ k ≤ 2
def hldH (h : Hp) (k : Int) : Hp := if isS k then sr (wr h 252 k 1) 253 (hisB (rd h 253) (rd h 239) k) else h
theorem m_hold {F : Nat} {k : Int} {h : Hp} (hF : 1000 ≤ F) (m : MS h) : Mod_hold F 194 k h = some (if isS k then 1 else 0, hldH h k) := by
  have s := m.1.1
  unfold Mod_hold hldH
  rw [m_in, cl_some]
  by_cases hk : isS k
  · have hk' : 0 ≤ k ∧ k ≤ 2 := hk
    rw [if_pos hk', if_neg (by decide), if_pos hk, gM84 s, sM84 s (by omega) (by omega) (Or.inr rfl)]
    generalize hg : wr h 252 k 1 = g
    have sg : Sh g := by rw [← hg]; exact shA s (by decide) (by decide)
    have g1 : rd g 239 = rd h 239 := by rw [← hg]; exact rd_wr_ne (by decide)
    have g2 : rd g 253 = rd h 253 := by rw [← hg]; exact rd_wr_ne (by decide)
    have hs : ∀ R, Sh (sr g 253 R) := fun R => Sh_sr sg (by decide) (by decide)
    have key := loop0 (fun n i => Mod_hold_L20 F n 194 k (i : Int) (sr g 253 (hisC (rd g 253) (rd g 239) k i))) 140 F (some (1, sr g 253 (hisB (rd g 253) (rd g 239) k))) (by omega) (fun n i hi => ?_) (fun n => ?_)
    · have e0 : hisC (rd g 253) (rd g 239) k ((0 : Nat) : Int) = rd g 253 := by
        funext j
        unfold hisC
        rw [if_neg (by omega)]
      rw [e0, sr_self] at key
      rw [g1, g2] at key
      exact key
    · show Mod_hold_L20s F (Mod_hold_L20 F n) 194 k i _ = _
      have s1 := hs (hisC (rd g 253) (rd g 239) k i)
      unfold Mod_hold_L20s
      rw [if_pos (by omega), gM85 s1, gM62 s1, aM62 s1 (by omega) (by omega), rd_sr_ne (by decide), w32_id (x := 140 * k) (by omega) (by omega), w32_id (x := 140 * k + (i : Int)) (by omega) (by omega), sM85 s1 (by omega) (by omega), wr_up, hisC_up, w32_nat (by omega)]
    · show Mod_hold_L20s F (Mod_hold_L20 F n) 194 k _ _ = _
      unfold Mod_hold_L20s
      rw [if_neg (by decide)]
      rfl
  · have hk' : ¬ (0 ≤ k ∧ k ≤ 2) := hk
    rw [if_neg hk', if_pos rfl, if_neg hk]; rfl
def rstH (h : Hp) (k : Int) : Hp := if isS k ∧ rd h 252 k ≠ 0 then wr (sr h 239 (fl (fun j => rd h 253 (140 * k + j)) (rd h 239) 140)) 194 64 0 else h
theorem m_restore {F : Nat} {k : Int} {h : Hp} (hF : 1000 ≤ F) (m : MS h) : Mod_restore F 194 k h = some (if isS k ∧ rd h 252 k ≠ 0 then 1 else 0, rstH h k) := by
  have s := m.1.1
  unfold Mod_restore rstH
  rw [m_in, cl_some]
  by_cases hk : isS k
  · have hk' : 0 ≤ k ∧ k ≤ 2 := hk
    rw [if_pos hk', if_neg (by decide), gM84 s, aM84 s (by omega) (by omega)]
    by_cases h0 : rd h 252 k = 0
    · rw [if_pos h0, if_neg (fun q => q.2 h0), if_neg (fun q => q.2 h0)]; rfl
    · rw [if_neg h0, if_pos ⟨hk, h0⟩, if_pos ⟨hk, h0⟩]
      have hs : ∀ R, Sh (sr h 239 R) := fun R => Sh_sr s (by decide) (by decide)
      have key := loop0 (fun n i => Mod_restore_L22 F n 194 k (i : Int) (sr h 239 (fl (fun j => rd h 253 (140 * k + j)) (rd h 239) i))) 140 F (some (1, wr (sr h 239 (fl (fun j => rd h 253 (140 * k + j)) (rd h 239) 140)) 194 64 0)) (by omega) (fun n i hi => ?_) (fun n => ?_)
      · rw [show ((0 : Nat) : Int) = 0 from rfl, fl_0, sr_self] at key
        exact key
      · show Mod_restore_L22s F (Mod_restore_L22 F n) 194 k i _ = _
        have s1 := hs (fl (fun j => rd h 253 (140 * k + j)) (rd h 239) i)
        have e := fl_up (fun j => rd h 253 (140 * k + j)) (rd h 239) i
        unfold Mod_restore_L22s
        rw [if_pos (by omega), gM62 s1, gM85 s1, w32_id (x := 140 * k) (by omega) (by omega), w32_id (x := 140 * k + (i : Int)) (by omega) (by omega), aM85 s1 (by omega) (by omega), rd_sr_ne (by decide), sM62 s1 (by omega) (by omega), wr_up, e, w32_nat (by omega)]
      · show Mod_restore_L22s F (Mod_restore_L22 F n) 194 k _ _ = _
        unfold Mod_restore_L22s
        rw [if_neg (by decide), pM64 (hs _)]
        rfl
  · have hk' : ¬ (0 ≤ k ∧ k ≤ 2) := hk
    rw [if_neg hk', if_pos rfl, if_neg (fun q => hk q.1), if_neg (fun q => hk q.1)]; rfl
abbrev telD (h : Hp) (p t : Int) : Prop := ¬ rd h 194 80 = 20 ∧ (0 ≤ p ∧ p < dt h 0 0) ∧ (0 ≤ t ∧ t < 600)
def telH (h : Hp) (p t b : Int) : Hp := if telD h p t then wr (wr (wr (wr h 249 (rd h 194 80) p) 250 (rd h 194 80) t) 251 (rd h 194 80) b) 194 80 (rd h 194 80 + 1) else h
theorem m_tell {F : Nat} {p t b : Int} {h : Hp} (m : MS h) (hb : b = 0 ∨ b = 1) : Mod_tell F 194 p t b h = some (if telD h p t then rd h 194 80 else -1, telH h p t b) := by
  have mo := m.1
  have s := mo.1
  have ht := m.2.2.2.2.2.2
  unfold Mod_tell telH
  rw [gM80 s]
  by_cases h20 : rd h 194 80 = 20
  · rw [if_pos h20, if_neg (fun q => q.1 h20), if_neg (fun q => q.1 h20)]
  · rw [if_neg h20, ivM s, m_isPart mo, cl_some]
    by_cases hp : 0 ≤ p ∧ p < dt h 0 0
    · rw [if_pos hp, if_neg (by decide), m_isMinute, cl_some]
      by_cases hm : 0 ≤ t ∧ t < 600
      · have s1 : Sh (wr h 249 (rd h 194 80) p) := shA s (by decide) (by decide)
        have s2 : Sh (wr (wr h 249 (rd h 194 80) p) 250 (rd h 194 80) t) := shA s1 (by decide) (by decide)
        have s3 : Sh (wr (wr (wr h 249 (rd h 194 80) p) 250 (rd h 194 80) t) 251 (rd h 194 80) b) := shA s2 (by decide) (by decide)
        rw [if_pos hm, if_neg (by decide), if_pos ⟨h20, hp, hm⟩, if_pos ⟨h20, hp, hm⟩, gM81 s, gM80 s, sM81 s (by omega) (by omega), gM82 s1, gM80 s1, rd_a (by decide), sM82 s1 (by omega) (by omega), gM83 s2, gM80 s2, rd_a (by decide), rd_a (by decide), sM83 s2 (by omega) (by omega) hb, gM80 s3, rd_a (by decide), rd_a (by decide), rd_a (by decide), w32_id (by omega) (by omega), pM80 s3, gM80 (sh80 s3 _), rd_same, w32_id (by omega) (by omega), Int.add_sub_cancel]
      · rw [if_neg hm, if_pos rfl, if_neg (fun q => hm q.2.2), if_neg (fun q => hm q.2.2)]
    · rw [if_neg hp, if_pos rfl, if_neg (fun q => hp q.2.1), if_neg (fun q => hp q.2.1)]
theorem m_forget {F : Nat} {h : Hp} (s : Sh h) : Mod_forget F 194 h = some (rd h 194 80, wr h 194 80 0) := by
  unfold Mod_forget
  rw [gM80 s, pM80 s]
theorem m_place {F : Nat} {h : Hp} (s : Sh h) : Mod_place F 194 h = some (rd h 194 17, h) := by
  unfold Mod_place
  rw [gM17 s]
abbrev bckD (h : Hp) (n : Int) : Prop := 0 ≤ n ∧ n ≤ rd h 194 2
theorem m_back {F : Nat} {n : Int} {h : Hp} (s : Sh h) (hl : 0 ≤ rd h 194 2 ∧ rd h 194 2 ≤ 2000) : Mod_back F 194 n h = some (if bckD h n then rd h 194 2 - n else -1, if bckD h n then wr h 194 2 (rd h 194 2 - n) else h) := by
  unfold Mod_back
  by_cases h1 : n < 0
  · have hn : ¬ bckD h n := fun q => absurd q.1 (by omega)
    rw [if_pos h1, if_neg hn, if_neg hn]
  · rw [if_neg h1, gM2 s]
    by_cases h2 : rd h 194 2 < n
    · have hn : ¬ bckD h n := fun q => absurd q.2 (by omega)
      rw [if_pos h2, if_neg hn, if_neg hn]
    · have hn : bckD h n := ⟨by omega, by omega⟩
      rw [if_neg h2, if_pos hn, if_pos hn, gM2 s, w32_id (by omega) (by omega), pM2 s, gM2 (sh2 s _), rd_same]
