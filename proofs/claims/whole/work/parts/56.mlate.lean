/-! the reference's isSo -/
theorem m_isSo_L20s {F : Nat} {h : Hp} {k : Int} {i : Nat} {R : Int → Int} (hF : 1000 ≤ F) (Q : Int → Int → Int → Hp → Option (Int × Hp)) (m : Mo h) (hr : Rok (dt h) R) (ha : Aok (dt h) (rd h 239)) (hi : (i : Int) < rd h 239 44) (h30 : i < 30) :
    Mod_isSo_L20s F Q 194 k i (sr h 240 R) = Q 194 k ((i + 1 : Nat) : Int) (sr h 240 (actS (dt h) R (rd h 239 (45 + 3 * i)) (rd h 239 (46 + 3 * i)) (rd h 239 (47 + 3 * i)))) := by
  obtain ⟨a1, a2⟩ := ha i hi h30
  have hs : ∀ X, Sh (sr h 240 X) := fun X => Sh_sr m.1 (by decide) (by decide)
  have ms : ∀ X, Mo (sr h 240 X) := fun X => Mo_sr m (by decide) (by decide)
  have ed : ∀ X, dt (sr h 240 X) = dt h := fun X => dt_sr (by decide) (by decide) (by decide)
  unfold Mod_isSo_L20s
  rw [gM62 (hs R), aM62 (hs R) (by decide) (by decide), rd_sr_ne (by decide), if_pos hi, gM62 (hs R), w32_id (x := 3 * (i : Int)) (by omega) (by omega), w32_id (x := 45 + 3 * (i : Int)) (by omega) (by omega), aM62 (hs R) (by omega) (by omega), gM62 (hs R), w32_id (x := 46 + 3 * (i : Int)) (by omega) (by omega), aM62 (hs R) (by omega) (by omega), gM62 (hs R), w32_id (x := 47 + 3 * (i : Int)) (by omega) (by omega), aM62 (hs R) (by omega) (by omega), rd_sr_ne (by decide)]
  generalize rd h 239 (45 + 3 * i) = c at a1
  generalize rd h 239 (46 + 3 * i) = w at a1
  generalize rd h 239 (47 + 3 * i) = p at a2
  unfold Mod_isSo_B88 Mod_isSo_B101 actS
  by_cases k0 : c = 0
  · have hw : 0 ≤ w ∧ w < dt h 1 0 := by omega
    have sn := m_sends (F := F) (h := sr h 240 R) (w := w) (p := p) hF (ms R) (by rw [ed, rd_sr]; exact hr) (by rw [ed]; exact hw) (by rw [ed]; exact a2)
    rw [ed, rd_sr, sr_sr] at sn
    rw [if_pos k0, if_pos k0, ivM (hs R), sn, cl_some, if_neg (by omega), if_neg (by omega), w32_nat (by omega)]
    by_cases hv : sndV (dt h) R w p < 0
    · rw [if_pos hv, if_pos hv]
    · rw [if_neg hv, if_neg hv]
  · rw [if_neg k0, if_neg k0]
    by_cases k1 : c = 1
    · have cs := m_crosses (F := F) (h := sr h 240 R) (p := p) (ms R) (by rw [ed]; exact a2)
      rw [rd_sr, sr_sr] at cs
      rw [if_pos k1, if_pos k1, ivM (hs R), cs, cl_some, if_neg (by omega), w32_nat (by omega)]
      by_cases hv : crsV R p = 0
      · rw [if_pos hv, if_pos hv]
      · rw [if_neg hv, if_neg hv]
    · rw [if_neg k1, if_neg k1]
      by_cases k2 : c = 2
      · have hw : 0 ≤ w ∧ w < dt h 1 0 := by omega
        have sn := m_mendsOne (F := F) (h := sr h 240 R) (w := w) (p := p) (ms R) (by rw [ed, rd_sr]; exact hr) (by rw [ed]; exact hw) (by rw [ed]; exact a2)
        rw [ed, rd_sr, sr_sr] at sn
        rw [if_pos k2, if_pos k2, ivM (hs R), sn, cl_some, w32_nat (by omega)]
        by_cases hv : mndV (dt h) R w p < 0
        · rw [if_pos hv, if_pos hv]
        · rw [if_neg hv, if_neg hv]
      · rw [if_neg k2, if_neg k2, w32_nat (by omega)]
