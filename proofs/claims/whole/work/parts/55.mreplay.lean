/-! acts done again -/
def actS (D : Nat → Int → Int) (R : Int → Int) (k w p : Int) : Int → Int := if k = 0 then (if sndV D R w p < 0 then R else sndR D R w p) else if k = 1 then (if crsV R p = 0 then R else up R (8 + p) 1) else if k = 2 then (if mndV D R w p < 0 then R else mndR D R w p) else R
def rpR (D : Nat → Int → Int) (R N : Int → Int) : Nat → Int → Int
  | 0 => R
  | i + 1 => actS D (rpR D R N i) (N (45 + 3 * i)) (N (46 + 3 * i)) (N (47 + 3 * i))
/-- the acts that are noted are acts -/
def Aok (D : Nat → Int → Int) (N : Int → Int) : Prop := ∀ i : Nat, (i : Int) < N 44 → i < 30 → (N (45 + 3 * i) = 1 ∨ (0 ≤ N (46 + 3 * i) ∧ N (46 + 3 * i) < D 1 0)) ∧ (0 ≤ N (47 + 3 * i) ∧ N (47 + 3 * i) < D 0 0)
theorem mndV_in {h : Hp} {R : Int → Int} {w p : Int} (h0 : ¬ mndV (dt h) R w p < 0) : 0 ≤ mndV (dt h) R w p ∧ mndV (dt h) R w p ≤ 600 := by
  refine ⟨by omega, ?_⟩
  unfold mndV at h0 ⊢
  split
  · decide
  · rename_i q
    omega
theorem comeR_in {h : Hp} (m : Mo h) {R : Int → Int} (hr : Rok (dt h) R) {w p : Int} (hw : 0 ≤ w ∧ w < dt h 1 0) (hp : 0 ≤ p ∧ p < dt h 0 0) : 0 ≤ comeR (dt h) R w p := by
  have e : dt (sr h 240 R) = dt h := dt_sr (by decide) (by decide) (by decide)
  have m' : Mo (sr h 240 R) := Mo_sr m (by decide) (by decide)
  have := (m_comesAt (F := 0) (h := sr h 240 R) (w := w) (p := p) m' (by rw [e, rd_sr]; exact hr) (by rw [e]; exact hw) (by rw [e]; exact hp)).2.1
  rw [e, rd_sr] at this
  exact this
theorem actS_ok {h : Hp} (m : Mo h) {R : Int → Int} (hr : Rok (dt h) R) {k w p : Int} (hw : k = 1 ∨ (0 ≤ w ∧ w < dt h 1 0)) (hp : 0 ≤ p ∧ p < dt h 0 0) : Rok (dt h) (actS (dt h) R k w p) := by
  have h3 := m.2.2.2.1
  have hp8 := m.2.2.1
  unfold actS
  by_cases k0 : k = 0
  · have hw' : 0 ≤ w ∧ w < dt h 1 0 := by omega
    rw [if_pos k0]
    split
    · exact hr
    · rename_i q
      rcases sndV_in m (R := R) (w := w) hp (comeR_in m hr hw' hp) with a | a
      · omega
      · exact Rok_snd m hr hw' hp (by omega)
  · rw [if_neg k0]
    by_cases k1 : k = 1
    · rw [if_pos k1]
      split
      · exact hr
      · exact Rok_up hr h3.2 (by omega)
    · rw [if_neg k1]
      have hw' : 0 ≤ w ∧ w < dt h 1 0 := by omega
      split
      · split
        · exact hr
        · rename_i q
          exact Rok_mnd m hr hw' hp (mndV_in q)
      · exact hr
theorem rpR_ok {h : Hp} (m : Mo h) {R N : Int → Int} (hr : Rok (dt h) R) (ha : Aok (dt h) N) : ∀ i : Nat, (i : Int) ≤ N 44 → i ≤ 30 → Rok (dt h) (rpR (dt h) R N i)
  | 0, _, _ => hr
  | i + 1, h1, h2 => by
    have ih := rpR_ok m hr ha i (by omega) (by omega)
    obtain ⟨a, b⟩ := ha i (by omega) (by omega)
    exact actS_ok m ih a b
