/-! a whole array put in place of another; the row's acts -/
def sr (h : Hp) (a : Int) (R : Int → Int) : Hp := (h.1, h.2.1, h.2.2.1, h.2.2.2.1, fun b => if b = a then R else h.2.2.2.2 b)
def up (R : Int → Int) (i v : Int) : Int → Int := fun j => if j = i then v else R j
theorem up_s (R : Int → Int) (i v : Int) : up R i v i = v := if_pos rfl
theorem up_n {R : Int → Int} {i v j : Int} (h : j ≠ i) : up R i v j = R j := if_neg h
theorem rd_sr (h : Hp) (a : Int) (R : Int → Int) : rd (sr h a R) a = R := if_pos rfl
theorem rd_sr_ne {h : Hp} {a b : Int} {R : Int → Int} (hb : b ≠ a) : rd (sr h a R) b = rd h b := if_neg hb
theorem hp_ext {h h' : Hp} (e1 : hsz h = hsz h') (e2 : hus h = hus h') (e3 : hkd h = hkd h') (e4 : hln h = hln h') (e5 : ∀ b j, rd h b j = rd h' b j) : h = h' := by
  obtain ⟨a1, a2, a3, a4, a5⟩ := h
  obtain ⟨b1, b2, b3, b4, b5⟩ := h'
  have q5 : a5 = b5 := by funext b j; exact e5 b j
  rw [show a1 = b1 from e1, show a2 = b2 from e2, show a3 = b3 from e3, show a4 = b4 from e4, q5]
theorem w32_nat {n : Nat} (h : n < 1000000) : w32 ((n : Int) + 1) = ((n + 1 : Nat) : Int) := by rw [w32_id (by omega) (by omega)]; omega
theorem b01 : (if false = true then (1 : Int) else 0) = 0 := rfl
theorem b11 : (if true = true then (1 : Int) else 0) = 1 := rfl
theorem wr_sr (h : Hp) (a i v : Int) : wr h a i v = sr h a (up (rd h a) i v) := by
  refine hp_ext rfl rfl rfl rfl (fun b j => ?_)
  rw [rd_wr]
  by_cases hb : b = a
  · subst hb
    rw [rd_sr]
    unfold up
    by_cases hj : j = i
    · rw [if_pos ⟨rfl, hj⟩, if_pos hj]
    · rw [if_neg (fun q => hj q.2), if_neg hj]
  · rw [if_neg (fun q => hb q.1), rd_sr_ne hb]
theorem sr_sr (h : Hp) (a : Int) (R R' : Int → Int) : sr (sr h a R) a R' = sr h a R' := by
  refine hp_ext rfl rfl rfl rfl (fun b j => ?_)
  by_cases hb : b = a
  · subst hb; rw [rd_sr, rd_sr]
  · rw [rd_sr_ne hb, rd_sr_ne hb, rd_sr_ne hb]
theorem sr_self (h : Hp) (a : Int) : sr h a (rd h a) = h := by
  refine hp_ext rfl rfl rfl rfl (fun b j => ?_)
  by_cases hb : b = a
  · subst hb; rw [rd_sr]
  · rw [rd_sr_ne hb]
theorem sr_comm {h : Hp} {a b : Int} {R R' : Int → Int} (hab : a ≠ b) : sr (sr h a R) b R' = sr (sr h b R') a R := by
  refine hp_ext rfl rfl rfl rfl (fun c j => ?_)
  by_cases ha : c = a
  · subst ha
    rw [rd_sr, rd_sr_ne hab, rd_sr]
  · rw [rd_sr_ne (h := sr h b R') ha]
    by_cases hb : c = b
    · subst hb; rw [rd_sr, rd_sr]
    · rw [rd_sr_ne hb, rd_sr_ne hb, rd_sr_ne ha]
theorem wr_up (h : Hp) (a i v : Int) (R : Int → Int) : wr (sr h a R) a i v = sr h a (up R i v) := by rw [wr_sr, rd_sr, sr_sr]
theorem Sh_sr {h : Hp} (s : Sh h) {a : Int} {R : Int → Int} (h1 : 195 ≤ a) (h2 : a ≤ 253) : Sh (sr h a R) := by
  refine ⟨s.1, s.2.1, fun q hq => ?_⟩
  obtain ⟨g1, g2, g3⟩ := refL_kinds q hq
  have hk : ∀ n : Nat, n < 254 → 195 ≤ n → kL.getD n 0 < 4 := by decide +kernel
  rw [rd_sr_ne (fun e => by
    rw [e] at g1 g3
    have := hk a.toNat (by omega) (by omega)
    omega)]
  exact s.2.2 q hq
theorem dt_sr {h : Hp} {a : Int} {R : Int → Int} (h1 : a < 203 ∨ 218 < a) (h2 : a < 229 ∨ 238 < a) (h3 : a ≠ 194) : dt (sr h a R) = dt h := dt_eq ⟨by rw [rd_sr_ne (fun e => h3 e.symm)], fun b hb1 hb2 => rd_sr_ne (by omega), fun b hb1 hb2 => rd_sr_ne (by omega)⟩
theorem Mo_sr {h : Hp} (m : Mo h) {a : Int} {R : Int → Int} (h1 : 239 ≤ a) (h2 : a ≤ 253) : Mo (sr h a R) := by
  refine ⟨Sh_sr m.1 (by omega) h2, ?_, ?_⟩
  · rw [rd_sr_ne (by omega)]; exact m.2.1
  · rw [dt_sr (by omega) (by omega) (by omega)]; exact m.2.2
/-- from which minute a part could be raked -/
def nxD (D : Nat → Int → Int) (p m : Int) : Int := if 599 < m then -2 else D 12 (601 * p + m)
/-- a worker is sent: from which minute it is done, or -2; the row then -/
def sndV (D : Nat → Int → Int) (R : Int → Int) (w p : Int) : Int := if ¬ R p = -2 ∧ covD D p (R p) (comeR D R w p) = false then -2 else if nxD D p (comeR D R w p) < 0 then -2 else nxD D p (comeR D R w p) + D 8 p
def goR (D : Nat → Int → Int) (R : Int → Int) (w p r : Int) : Int → Int := up (up (up R (32 + w) (D 6 p)) (35 + w) (D 7 p)) (38 + w) r
def sndR (D : Nat → Int → Int) (R : Int → Int) (w p : Int) : Int → Int := goR D (up (up (up (up (up R p (sndV D R w p)) (8 + p) 0) (16 + p) (-2)) (24 + p) w) (41 + w) (w32 (R (41 + w) + D 2 p))) w p (sndV D R w p)
theorem nxD_in {h : Hp} (m : Mo h) {p c : Int} (hp : 0 ≤ p ∧ p < dt h 0 0) (hc : 0 ≤ c) : nxD (dt h) p c = -2 ∨ (c ≤ nxD (dt h) p c ∧ nxD (dt h) p c + dt h 8 p ≤ 600) := by
  unfold nxD
  split
  · exact Or.inl rfl
  · exact m.2.2.2.2.2.2.2.2.2.1 p c hp.1 hp.2 hc (by omega)
theorem sndV_in {h : Hp} (m : Mo h) {R : Int → Int} {w p : Int} (hp : 0 ≤ p ∧ p < dt h 0 0) (hc : 0 ≤ comeR (dt h) R w p) : sndV (dt h) R w p = -2 ∨ (0 < sndV (dt h) R w p ∧ sndV (dt h) R w p ≤ 600) := by
  have h8 := m.2.2.2.2.2.2.2.1 p hp.1 hp.2
  unfold sndV
  split
  · exact Or.inl rfl
  · split
    · exact Or.inl rfl
    · rcases nxD_in m hp hc with q | q
      · omega
      · omega
theorem m_sends {F : Nat} {w p : Int} {h : Hp} (hF : 1000 ≤ F) (m : Mo h) (hr : Rok (dt h) (rd h 240)) (hw : 0 ≤ w ∧ w < dt h 1 0) (hp : 0 ≤ p ∧ p < dt h 0 0) :
    Mod_sends F 194 w p h = some (sndV (dt h) (rd h 240) w p, if sndV (dt h) (rd h 240) w p < 0 then h else sr h 240 (sndR (dt h) (rd h 240) w p)) := by
  have s := m.1
  have hl := m.2.1
  have hw3 := m.2.2.2.1
  have hp8 := m.2.2.1
  have h8 := m.2.2.2.2.2.2.2.1 p hp.1 hp.2
  obtain ⟨hc1, hc2, hc3⟩ := m_comesAt (F := F) m hr hw hp
  have hrp := hr.2 p hp.1 (by omega)
  have B : ¬ (¬ rd h 240 p = -2 ∧ covD (dt h) p (rd h 240 p) (comeR (dt h) (rd h 240) w p) = false) → Mod_sends_B36 F 194 w p (comeR (dt h) (rd h 240) w p) h = some (sndV (dt h) (rd h 240) w p, if sndV (dt h) (rd h 240) w p < 0 then h else sr h 240 (sndR (dt h) (rd h 240) w p)) := by
    intro hcv
    have hnx := nxD_in m hp hc2
    have e12 : nxD (dt h) p (comeR (dt h) (rd h 240) w p) = if 599 < comeR (dt h) (rd h 240) w p then -2 else rd h 238 (601 * p + comeR (dt h) (rd h 240) w p) := rfl
    have e8 : dt h 8 p = rd h 234 p := rfl
    have e2 : dt h 2 p = rd h 206 (8 * rd h 194 18 + p) := rfl
    have hsn : sndV (dt h) (rd h 240) w p = if nxD (dt h) p (comeR (dt h) (rd h 240) w p) < 0 then -2 else nxD (dt h) p (comeR (dt h) (rd h 240) w p) + dt h 8 p := by
      unfold sndV; rw [if_neg hcv]
    unfold Mod_sends_B36
    rw [ivM s, m_firstFrom s (by omega) hc2, cl_some, ← e12]
    by_cases hn : nxD (dt h) p (comeR (dt h) (rd h 240) w p) < 0
    · rw [if_pos hn, hsn, if_pos hn, if_pos (by decide)]
    · rw [if_neg hn]
      rw [if_neg hn] at hsn
      have hpos : ¬ sndV (dt h) (rd h 240) w p < 0 := by omega
      rw [if_neg hpos]
      have hgo := fun h' (s' : Sh h') => m_goesThere (F := F) (w := w) (p := p) (r := sndV (dt h) (rd h 240) w p) s' (by omega) (by omega)
      rw [e8] at hsn hnx h8
      simp (disch := (repeat' (first | assumption | omega | apply shA))) only [gM57, aM57, w32_id, lt_eq, ← hsn, gM63, sM63, aM63, gM25, gM18, aM25, ivM, rd_a, rd_i, hgo, cl_some]
      congr 2
      unfold sndR goR
      rw [e2]
      simp only [wr_sr h, wr_up]
      rfl
  unfold Mod_sends
  rw [ivM s, hc1, cl_some, gM63 s, aM63 s (by omega) (by omega)]
  by_cases hd : rd h 240 p = -2
  · rw [if_pos hd]
    exact B (fun q => q.1 hd)
  · rw [if_neg hd, gM63 s, aM63 s (by omega) (by omega), ivM s, m_isCovered hF s (by omega) (by omega), cl_some]
    by_cases hcv : covD (dt h) p (rd h 240 p) (comeR (dt h) (rd h 240) w p) = true
    · rw [hcv, if_pos rfl, if_neg (by decide)]
      exact B (fun q => by rw [hcv] at q; exact absurd q.2 (by decide))
    · have hcf : covD (dt h) p (rd h 240 p) (comeR (dt h) (rd h 240) w p) = false := by simpa using hcv
      have hsn : sndV (dt h) (rd h 240) w p = -2 := by unfold sndV; rw [if_pos ⟨hd, hcf⟩]
      rw [hcf, b01, if_pos rfl, hsn, if_pos (by decide)]
def crsV (R : Int → Int) (p : Int) : Int := if R p = -2 ∨ R (8 + p) = 1 then 0 else 1
theorem m_crosses {F : Nat} {p : Int} {h : Hp} (m : Mo h) (hp : 0 ≤ p ∧ p < dt h 0 0) : Mod_crosses F 194 p h = some (crsV (rd h 240) p, if crsV (rd h 240) p = 0 then h else sr h 240 (up (rd h 240) (8 + p) 1)) := by
  have s := m.1
  have hp8 := m.2.2.1
  unfold Mod_crosses crsV
  simp (disch := (repeat' (first | assumption | omega | apply shA))) only [gM63, aM63, w32_id, sM63, wr_sr, rz_0, rz_1]
  by_cases h1 : rd h 240 p = -2
  · simp [h1]
  · by_cases h2 : rd h 240 (8 + p) = 1
    · simp [h1, h2]
    · simp [h1, h2]
def mndV (D : Nat → Int → Int) (R : Int → Int) (w p : Int) : Int := if R (8 + p) = 0 ∨ 600 < comeR D R w p + (D 8 p + 2) / 3 then -2 else comeR D R w p + (D 8 p + 2) / 3
def mndR (D : Nat → Int → Int) (R : Int → Int) (w p : Int) : Int → Int := goR D (up (up R (8 + p) 0) (16 + p) (mndV D R w p)) w p (mndV D R w p)
theorem m_mendsOne {F : Nat} {w p : Int} {h : Hp} (m : Mo h) (hr : Rok (dt h) (rd h 240)) (hw : 0 ≤ w ∧ w < dt h 1 0) (hp : 0 ≤ p ∧ p < dt h 0 0) :
    Mod_mendsOne F 194 w p h = some (mndV (dt h) (rd h 240) w p, if mndV (dt h) (rd h 240) w p < 0 then h else sr h 240 (mndR (dt h) (rd h 240) w p)) := by
  have s := m.1
  have hw3 := m.2.2.2.1
  have hp8 := m.2.2.1
  have h8 := m.2.2.2.2.2.2.2.1 p hp.1 hp.2
  obtain ⟨hc1, hc2, hc3⟩ := m_comesAt (F := F) m hr hw hp
  have e8 : dt h 8 p = rd h 234 p := rfl
  rw [e8] at h8
  have h3 : w32 ((rd h 234 p + 2).tdiv 3) = (rd h 234 p + 2) / 3 := by
    rw [Int.tdiv_eq_ediv_of_nonneg (by omega)]
    exact w32_id (by omega) (by omega)
  unfold Mod_mendsOne
  rw [ivM s, hc1, cl_some]
  simp (disch := (repeat' (first | assumption | omega | apply shA))) only [gM57, aM57, w32_id, dv_ok, h3, lt_eq, gM63, aM63]
  have hv : mndV (dt h) (rd h 240) w p = if rd h 240 (8 + p) = 0 ∨ 600 < comeR (dt h) (rd h 240) w p + (rd h 234 p + 2) / 3 then -2 else comeR (dt h) (rd h 240) w p + (rd h 234 p + 2) / 3 := rfl
  by_cases h1 : rd h 240 (8 + p) = 0
  · rw [if_pos h1]
    rw [if_pos (Or.inl h1)] at hv
    rw [hv, if_pos (by decide)]
  · rw [if_neg h1]
    by_cases h2 : 600 < comeR (dt h) (rd h 240) w p + (rd h 234 p + 2) / 3
    · rw [if_pos h2]
      rw [if_pos (Or.inr h2)] at hv
      rw [hv, if_pos (by decide)]
    · rw [if_neg h2]
      rw [if_neg (by omega)] at hv
      have hgo := fun h' (s' : Sh h') => m_goesThere (F := F) (w := w) (p := p) (r := mndV (dt h) (rd h 240) w p) s' (by omega) (by omega)
      rw [← hv]
      simp (disch := (repeat' (first | assumption | omega | apply shA))) only [sM63, gM63, w32_id, ivM, hgo, cl_some, rd_a]
      rw [if_neg (by omega)]
      congr 2
      unfold mndR goR
      simp only [wr_sr h, wr_up]
      rfl
def seenD (D : Nat → Int → Int) (R : Int → Int) (p m : Int) : Bool := !(R p == -2) && decide (R p ≤ m) && decide (R (16 + p) ≤ m) && (R (8 + p) == 0) && !covD D p (R p) m
theorem m_isSeen {F : Nat} {p t : Int} {h : Hp} (hF : 1000 ≤ F) (m : Mo h) (hr : Rok (dt h) (rd h 240)) (hp : 0 ≤ p ∧ p < dt h 0 0) : Mod_isSeen F 194 p t h = some (if seenD (dt h) (rd h 240) p t then 1 else 0, h) := by
  have s := m.1
  have hp8 := m.2.2.1
  have hrp := hr.2 p hp.1 (by omega)
  unfold Mod_isSeen seenD
  simp (disch := (repeat' (first | assumption | omega | apply shA))) only [gM63, aM63, w32_id, rz_0, rz_1, ivM]
  by_cases h1 : rd h 240 p = -2
  · simp [h1]
  · rw [if_neg h1]
    by_cases h2 : t < rd h 240 p
    · rw [if_pos h2]; simp [show ¬ rd h 240 p ≤ t by omega]
    · rw [if_neg h2]
      by_cases h3 : t < rd h 240 (16 + p)
      · rw [if_pos h3]; simp [show ¬ rd h 240 (16 + p) ≤ t by omega]
      · rw [if_neg h3]
        by_cases h4 : rd h 240 (8 + p) = 0
        · rw [if_pos h4, m_isCovered hF s (by omega) (by omega), cl_some]
          cases hc : covD (dt h) p (rd h 240 p) t
          · simp [h1, h4, show rd h 240 p ≤ t by omega, show rd h 240 (16 + p) ≤ t by omega]
          · simp
        · rw [if_neg h4]; simp [h4]
/-- sums over parts -/
def smN (f : Int → Int) : Nat → Int
  | 0 => 0
  | n + 1 => smN f n + f n
def phS (D : Nat → Int → Int) (R : Int → Int) (t : Int) (n : Nat) : Int := smN (fun p => if seenD D R p t then D 2 p else 0) n
theorem phS_in {D : Nat → Int → Int} (hd : Dok D) {R : Int → Int} {t : Int} : ∀ n : Nat, (n : Int) ≤ D 0 0 → 0 ≤ phS D R t n ∧ phS D R t n ≤ 99 * n
  | 0, _ => by simp [phS, smN]
  | n + 1, h => by
    have ih := phS_in hd (R := R) (t := t) n (by omega)
    have h2 := hd.2.2.1 n (by omega) (by omega)
    have e : phS D R t (n + 1) = phS D R t n + (if seenD D R n t then D 2 n else 0) := rfl
    rw [e]
    split <;> omega
theorem m_photoOf {F : Nat} {t : Int} {h : Hp} (hF : 1000 ≤ F) (m : Mo h) (hr : Rok (dt h) (rd h 240)) (ht : 0 ≤ t ∧ t < 600) : Mod_photoOf F 194 t h = some (phS (dt h) (rd h 240) t (dt h 0 0).toNat * dt h 14 t, h) := by
  have s := m.1
  have hl := m.2.1
  have hp8 := m.2.2.1
  have e0 : rd h 203 (rd h 194 18) = dt h 0 0 := rfl
  have key : ∀ (k n : Nat) (p : Nat), (p : Int) + k = dt h 0 0 → k < n → Mod_photoOf_L4 F n 194 t (phS (dt h) (rd h 240) t p) p h = some (phS (dt h) (rd h 240) t (dt h 0 0).toNat * dt h 14 t, h) := by
    intro k
    induction k with
    | zero =>
      intro n p hk hn
      obtain ⟨n, rfl⟩ : ∃ j, n = j + 1 := ⟨n - 1, by omega⟩
      show Mod_photoOf_L4s F _ 194 t _ _ h = _
      unfold Mod_photoOf_L4s
      have hpp : (dt h 0 0).toNat = p := by omega
      have hb := phS_in m.2.2 (R := rd h 240) (t := t) p (by omega)
      have hsun := m.2.2.2.2.2.2.2.2.2.2 t ht.1 ht.2
      have e14 : dt h 14 t = rd h 230 t := rfl
      rw [e14] at hsun
      simp (disch := (repeat' (first | assumption | omega | apply shA))) only [gM22, gM18, aM22, gM53, aM53, e0]
      rw [if_neg (by omega), hpp, e14]
      have hm1 : 0 ≤ phS (dt h) (rd h 240) t p * rd h 230 t := Int.mul_nonneg hb.1 hsun.1
      have hm2 : phS (dt h) (rd h 240) t p * rd h 230 t ≤ 792 * 100 := Int.mul_le_mul (by omega) hsun.2 hsun.1 (by decide)
      rw [w32_id (by omega) (by omega)]
    | succ k ih =>
      intro n p hk hn
      obtain ⟨n, rfl⟩ : ∃ j, n = j + 1 := ⟨n - 1, by omega⟩
      show Mod_photoOf_L4s F (Mod_photoOf_L4 F n) 194 t _ _ h = _
      unfold Mod_photoOf_L4s
      have hb := phS_in m.2.2 (R := rd h 240) (t := t) p (by omega)
      have h2 := m.2.2.2.2.1 p (by omega) (by omega)
      have e2 : dt h 2 p = rd h 206 (8 * rd h 194 18 + p) := rfl
      rw [e2] at h2
      have hp7 : p < 8 := by omega
      have hlt : (p : Int) < dt h 0 0 := by omega
      have a3 : 0 ≤ 8 * rd h 194 18 + (p : Int) ∧ 8 * rd h 194 18 + (p : Int) < 16 := by omega
      have a4 : 0 ≤ phS (dt h) (rd h 240) t p + rd h 206 (8 * rd h 194 18 + p) ∧ phS (dt h) (rd h 240) t p + rd h 206 (8 * rd h 194 18 + p) ≤ 1000 := by omega
      have a5 : 0 ≤ rd h 194 18 ∧ rd h 194 18 < 2 := by omega
      have hkn : ((p + 1 : Nat) : Int) + k = dt h 0 0 ∧ k < n := by omega
      have hse := m_isSeen (F := F) (p := p) (t := t) hF m hr ⟨by omega, hlt⟩
      have nx : phS (dt h) (rd h 240) t (p + 1) = phS (dt h) (rd h 240) t p + (if seenD (dt h) (rd h 240) p t then dt h 2 p else 0) := rfl
      have ih' := ih n (p + 1) hkn.1 hkn.2
      rw [nx] at ih'
      clear nx ih hb h2 hk hn
      simp (disch := (repeat' (first | assumption | omega | apply shA))) only [gM22, gM18, aM22, e0, ivM, hse, cl_some]
      rw [if_pos hlt]
      cases hc : seenD (dt h) (rd h 240) p t
      · rw [hc] at ih'
        simp only [Bool.false_eq_true, if_false, Int.add_zero] at ih'
        rw [b01, if_pos rfl, w32_nat (by omega)]
        exact ih'
      · rw [hc] at ih'
        simp only [if_true] at ih'
        rw [b11, if_neg (by decide), gM25 s, w32_id (x := 8 * rd h 194 18) (by omega) (by omega), w32_id (x := 8 * rd h 194 18 + (p : Int)) (by omega) (by omega), aM25 s a3.1 a3.2, lt_eq, w32_id (x := phS (dt h) (rd h 240) t p + rd h 206 (8 * rd h 194 18 + p)) (by omega) (by omega), w32_nat (by omega), ← e2]
        exact ih'
  exact key (dt h 0 0).toNat F 0 (by omega) (by omega)
