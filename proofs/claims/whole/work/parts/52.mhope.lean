/-! the reference's dogs -/
def mixV (s v : Int) : Int := ixor (w32 (w32 (ixor s v * 1103515245) + 12345)) (iushr (w32 (w32 (ixor s v * 1103515245) + 12345)) 15)
theorem m_mixed {F : Nat} {s v : Int} {h : Hp} : Mod_mixed F s v h = some (mixV s v, h) := rfl
def lotV (s v : Int) : Int := irem (iushr (mixV (mixV s 29) v) 1) 100
theorem m_lotOf {F : Nat} {s v : Int} {h : Hp} : Mod_lotOf F s v 100 h = some (lotV s v, h) := by
  unfold Mod_lotOf
  rw [m_mixed, cl_some, m_mixed, cl_some, dm_ok (by decide)]
  rfl
def exN (g : Int → Bool) : Int → Nat → Bool
  | _, 0 => false
  | a, n + 1 => g a || exN g (a + 1) n
def u0R (R : Int → Int) (p : Int) : Int := if R (16 + p) < R p then R p else R (16 + p)
def runD (D : Nat → Int → Int) (R : Int → Int) (s p t : Int) : Bool := exN (fun u => decide (lotV s (8 * u + p) < D 15 (600 * p + u))) (u0R R p) (t + 1 - u0R R p).toNat
theorem m_isRunOver_L {F : Nat} {s p t : Int} {h : Hp} (sh : Sh h) (hp : 0 ≤ p ∧ p < 8) (ht : t < 600) : ∀ (k n : Nat) (a : Int), 0 ≤ a → k = (t + 1 - a).toNat → k < n → Mod_isRunOver_L38 F n 194 s p t a h = some (if exN (fun u => decide (lotV s (8 * u + p) < dt h 15 (600 * p + u))) a k then 1 else 0, h) := by
  intro k
  induction k with
  | zero =>
    intro n a ha hk hn
    obtain ⟨n, rfl⟩ : ∃ j, n = j + 1 := ⟨n - 1, by omega⟩
    show Mod_isRunOver_L38s F (Mod_isRunOver_L38 F n) 194 s p t a h = _
    unfold Mod_isRunOver_L38s
    rw [if_pos (by omega)]
    rfl
  | succ k ih =>
    intro n a ha hk hn
    obtain ⟨n, rfl⟩ : ∃ j, n = j + 1 := ⟨n - 1, by omega⟩
    show Mod_isRunOver_L38s F (Mod_isRunOver_L38 F n) 194 s p t a h = _
    have e15 : rd h 231 (600 * p + a) = dt h 15 (600 * p + a) := rfl
    unfold Mod_isRunOver_L38s
    rw [if_neg (by omega), w32_id (x := 8 * a) (by omega) (by omega), w32_id (x := 8 * a + p) (by omega) (by omega), m_lotOf, cl_some, gM54 sh, w32_id (x := 600 * p) (by omega) (by omega), w32_id (x := 600 * p + a) (by omega) (by omega), aM54 sh (by omega) (by omega), e15, exN]
    by_cases hc : lotV s (8 * a + p) < dt h 15 (600 * p + a)
    · rw [if_pos hc]
      simp [hc]
      rfl
    · rw [if_neg hc, w32_id (x := a + 1) (by omega) (by omega), ih n (a + 1) (by omega) (by omega) (by omega)]
      simp [hc]
theorem m_isRunOver {F : Nat} {s p t : Int} {h : Hp} (hF : 1000 ≤ F) (sh : Sh h) (hp : 0 ≤ p ∧ p < 8) (ht : t < 600) (h0 : 0 ≤ rd h 240 p) : Mod_isRunOver F 194 s p t h = some (if runD (dt h) (rd h 240) s p t then 1 else 0, h) := by
  unfold Mod_isRunOver runD u0R
  rw [gM63 sh, aM63 sh (by omega) (by omega), gM63 sh, w32_id (x := 16 + p) (by omega) (by omega), aM63 sh (by omega) (by omega)]
  by_cases hc : rd h 240 (16 + p) < rd h 240 p
  · rw [if_pos hc, if_pos hc, gM63 sh, aM63 sh (by omega) (by omega)]
    exact m_isRunOver_L sh hp ht _ F _ h0 rfl (by omega)
  · rw [if_neg hc, if_neg hc, gM63 sh, aM63 sh (by omega) (by omega)]
    exact m_isRunOver_L sh hp ht _ F _ (by omega) rfl (by omega)
def pbS (D : Nat → Int → Int) (R : Int → Int) (s t : Int) (n : Nat) : Int := smN (fun p => if (seenD D R p t && !runD D R s p t) = true then D 2 p else 0) n
theorem pbS_in {D : Nat → Int → Int} (hd : Dok D) {R : Int → Int} {s t : Int} : ∀ n : Nat, (n : Int) ≤ D 0 0 → 0 ≤ pbS D R s t n ∧ pbS D R s t n ≤ 99 * n
  | 0, _ => by simp [pbS, smN]
  | n + 1, h => by
    have ih := pbS_in hd (R := R) (s := s) (t := t) n (by omega)
    have h2 := hd.2.2.1 n (by omega) (by omega)
    have e : pbS D R s t (n + 1) = pbS D R s t n + (if (seenD D R n t && !runD D R s n t) = true then D 2 n else 0) := rfl
    rw [e]
    split <;> omega
def pbV (D : Nat → Int → Int) (R : Int → Int) (s t : Int) : Int := pbS D R s t (D 0 0).toNat * D 14 t
theorem seenD_0 {D : Nat → Int → Int} {R : Int → Int} (hr : Rok D R) {p t : Int} (hp : 0 ≤ p ∧ p < 8) (h : seenD D R p t = true) : 0 ≤ R p := by
  have h1 := hr.2 p hp.1 hp.2
  by_cases h2 : R p = -2
  · unfold seenD at h
    simp [h2] at h
  · omega
theorem pbV_in {h : Hp} (m : Mo h) {R : Int → Int} {s t : Int} (ht : 0 ≤ t ∧ t < 600) : 0 ≤ pbV (dt h) R s t ∧ pbV (dt h) R s t ≤ 79200 := by
  have hp8 := m.2.2.1
  have hb := pbS_in m.2.2 (R := R) (s := s) (t := t) (dt h 0 0).toNat (by omega)
  have hsun := m.2.2.2.2.2.2.2.2.2.2 t ht.1 ht.2
  unfold pbV
  exact ⟨Int.mul_nonneg hb.1 hsun.1, Int.le_trans (Int.mul_le_mul (show _ ≤ 792 by omega) hsun.2 hsun.1 (by decide)) (by decide)⟩
theorem m_photoBy {F : Nat} {s t : Int} {h : Hp} (hF : 1000 ≤ F) (m : Mo h) (hr : Rok (dt h) (rd h 240)) (ht : 0 ≤ t ∧ t < 600) : Mod_photoBy F 194 s t h = some (pbV (dt h) (rd h 240) s t, h) := by
  have sh := m.1
  have hl := m.2.1
  have hp8 := m.2.2.1
  have e0 : rd h 203 (rd h 194 18) = dt h 0 0 := rfl
  refine loop0 (fun n i => Mod_photoBy_L5 F n 194 s t (pbS (dt h) (rd h 240) s t i) (i : Int) h) (dt h 0 0).toNat F _ (by omega) (fun n i hi => ?_) (fun n => ?_)
  · show Mod_photoBy_L5s F (Mod_photoBy_L5 F n) 194 s t _ i h = _
    have hb := pbS_in m.2.2 (R := rd h 240) (s := s) (t := t) i (by omega)
    have h2 := m.2.2.2.2.1 i (by omega) (by omega)
    have e2 : rd h 206 (8 * rd h 194 18 + i) = dt h 2 i := rfl
    have e : pbS (dt h) (rd h 240) s t (i + 1) = pbS (dt h) (rd h 240) s t i + (if (seenD (dt h) (rd h 240) i t && !runD (dt h) (rd h 240) s i t) = true then dt h 2 i else 0) := rfl
    have hse := m_isSeen (F := F) (p := i) (t := t) hF m hr ⟨by omega, by omega⟩
    rw [e]
    unfold Mod_photoBy_L5s
    rw [gM22 sh, gM18 sh, aM22 sh (by omega) (by omega), e0, if_pos (by omega), ivM sh, hse, cl_some, w32_nat (by omega)]
    cases hc : seenD (dt h) (rd h 240) i t
    · rw [b01, if_pos rfl, Bool.false_and, if_neg (by decide), Int.add_zero]
    · rw [b11, if_neg (by decide), ivM sh, m_isRunOver hF sh ⟨by omega, by omega⟩ ht.2 (seenD_0 hr ⟨by omega, by omega⟩ hc), cl_some, Bool.true_and]
      cases hd : runD (dt h) (rd h 240) s i t
      · rw [b01, if_pos rfl, gM25 sh, gM18 sh, w32_id (x := 8 * rd h 194 18) (by omega) (by omega), w32_id (x := 8 * rd h 194 18 + (i : Int)) (by omega) (by omega), aM25 sh (by omega) (by omega), e2, w32_id (x := pbS (dt h) (rd h 240) s t i + dt h 2 i) (by omega) (by omega), lt_eq]
        rfl
      · rw [b11, if_neg (by decide), if_neg (by decide), Int.add_zero]
  · show Mod_photoBy_L5s F (Mod_photoBy_L5 F n) 194 s t _ _ h = _
    have hv := pbV_in m (R := rd h 240) (s := s) (t := t) ht
    have e14 : rd h 230 t = dt h 14 t := rfl
    unfold Mod_photoBy_L5s
    rw [gM22 sh, gM18 sh, aM22 sh (by omega) (by omega), e0, if_neg (by omega), gM53 sh, aM53 sh (by omega) (by omega), e14]
    unfold pbV at hv ⊢
    rw [w32_id (by omega) (by omega)]
def hpN (f : Int → Int) (v : Int) (n : Nat) : Int := smN (fun k => if f k < v then 0 else 1) n
def seedOk (h : Hp) : Prop := 0 ≤ dt h 19 0 ∧ dt h 19 0 ≤ 9999
def hpsA (h : Hp) (t v n : Int) : Int := if ¬ ((0 ≤ t ∧ t < 600) ∧ 0 ≤ v ∧ (1 ≤ n ∧ n ≤ 50)) then -1 else hpN (fun k => pbV (dt h) (rd h 239) (dt h 19 0 + k) t) v n.toNat
theorem m_hopes {F : Nat} {t v n : Int} {h : Hp} (hF : 1000 ≤ F) (m : MT h) (hs : seedOk h) : ∃ h', Mod_hopes F 194 t v n h = some (hpsA h t v n, h') ∧ Fr h h' := by
  have fc := Fr_cp m
  obtain ⟨mc, rc⟩ := cp_facts m.1
  unfold Mod_hopes hpsA
  rw [m_isMinute, cl_some]
  by_cases ht : 0 ≤ t ∧ t < 600
  · rw [if_pos ht, if_neg (by decide)]
    by_cases hv : v < 0
    · rw [if_pos hv, if_pos (fun z => by omega)]
      exact ⟨h, rfl, Fr_refl m⟩
    · rw [if_neg hv, m_in, cl_some]
      by_cases hn : 1 ≤ n ∧ n ≤ 50
      · rw [if_pos hn, if_neg (by decide), if_neg (not_not_intro ⟨ht, by omega, hn⟩), ivM m.1.1.1, m_copies' hF m.1, cl_some]
        refine ⟨cpH h, ?_, fc⟩
        have hs' := hs
        unfold seedOk at hs'
        have e19 : rd (cpH h) 216 (rd (cpH h) 194 18) = dt h 19 0 := congrFun (congrFun (cpH_dt h) 19) 0
        have hl := mc.2.1
        refine loop0 (fun k i => Mod_hopes_L33 F k 194 t v n (hpN (fun k => pbV (dt h) (rd h 239) (dt h 19 0 + k) t) v i) (i : Int) (cpH h)) n.toNat F _ (by omega) (fun k i hi => ?_) (fun k => ?_)
        · show Mod_hopes_L33s F (Mod_hopes_L33 F k) 194 t v n _ i (cpH h) = _
          have b := sm_in (f := fun k => if pbV (dt h) (rd h 239) (dt h 19 0 + k) t < v then 0 else 1) (k := 50) (fun p _ => by show 0 ≤ (if pbV (dt h) (rd h 239) (dt h 19 0 + p) t < v then (0 : Int) else 1) ∧ (if pbV (dt h) (rd h 239) (dt h 19 0 + p) t < v then (0 : Int) else 1) ≤ 1; split <;> decide) i (by omega)
          have eh : smN (fun k => if pbV (dt h) (rd h 239) (dt h 19 0 + k) t < v then 0 else 1) i = hpN (fun k => pbV (dt h) (rd h 239) (dt h 19 0 + k) t) v i := rfl
          rw [eh] at b
          have e : hpN (fun k => pbV (dt h) (rd h 239) (dt h 19 0 + k) t) v (i + 1) = hpN (fun k => pbV (dt h) (rd h 239) (dt h 19 0 + k) t) v i + (if pbV (dt h) (rd h 239) (dt h 19 0 + i) t < v then 0 else 1) := rfl
          have pb := m_photoBy (F := F) (s := dt h 19 0 + i) hF mc rc ht
          rw [cpH_dt, cpH_240] at pb
          rw [e]
          unfold Mod_hopes_L33s
          rw [if_pos (by omega), gM35 mc.1, gM18 mc.1, aM35 mc.1 (by omega) (by omega), e19, w32_id (x := dt h 19 0 + (i : Int)) (by omega) (by omega), ivM mc.1, pb, cl_some, w32_nat (by omega)]
          by_cases hc : pbV (dt h) (rd h 239) (dt h 19 0 + i) t < v
          · rw [if_pos hc, if_pos hc, Int.add_zero]
          · rw [if_neg hc, if_neg hc, w32_id (by omega) (by omega)]
        · show Mod_hopes_L33s F (Mod_hopes_L33 F k) 194 t v n _ _ (cpH h) = _
          unfold Mod_hopes_L33s
          rw [if_neg (by omega)]
      · rw [if_neg hn, if_pos rfl, if_pos (fun z => hn z.2.2)]
        exact ⟨h, rfl, Fr_refl m⟩
  · rw [if_neg ht, if_pos rfl, if_pos (fun z => ht z.1)]
    exact ⟨h, rfl, Fr_refl m⟩
