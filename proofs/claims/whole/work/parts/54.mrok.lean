/-! the rows that acts make are in order -/
theorem Rok_up {D : Nat → Int → Int} {R : Int → Int} (hr : Rok D R) (h3 : D 1 0 ≤ 3) {j v : Int} (hj : (8 ≤ j ∧ j < 32) ∨ 41 ≤ j) : Rok D (up R j v) := by
  refine ⟨fun w h1 h2 => ?_, fun p h1 h2 => ?_⟩
  · rw [up_n (by omega), up_n (by omega), up_n (by omega)]; exact hr.1 w h1 h2
  · rw [up_n (by omega)]; exact hr.2 p h1 h2
theorem Rok_upP {D : Nat → Int → Int} {R : Int → Int} (hr : Rok D R) (h3 : D 1 0 ≤ 3) {j v : Int} (hj : 0 ≤ j ∧ j < 8) (hv : v = -2 ∨ (0 ≤ v ∧ v ≤ 600)) : Rok D (up R j v) := by
  refine ⟨fun w h1 h2 => ?_, fun p h1 h2 => ?_⟩
  · rw [up_n (by omega), up_n (by omega), up_n (by omega)]; exact hr.1 w h1 h2
  · by_cases hp : p = j
    · rw [hp, up_s]; exact hv
    · rw [up_n hp]; exact hr.2 p h1 h2
theorem Rok_go {D : Nat → Int → Int} {R : Int → Int} (hr : Rok D R) (h3 : D 1 0 ≤ 3) {w p r : Int} (hw : 0 ≤ w ∧ w < 3) (h6 : -1000 ≤ D 6 p ∧ D 6 p ≤ 1000) (h7 : -1000 ≤ D 7 p ∧ D 7 p ≤ 1000) (h8 : 0 ≤ r ∧ r ≤ 2000) : Rok D (goR D R w p r) := by
  unfold goR
  refine ⟨fun v h1 h2 => ?_, fun q h1 h2 => ?_⟩
  · have a := hr.1 v h1 h2
    by_cases hv : v = w
    · subst hv
      rw [up_n (by omega), up_n (by omega), up_s, up_n (by omega), up_s, up_s]
      omega
    · rw [up_n (by omega), up_n (by omega), up_n (by omega), up_n (by omega), up_n (by omega), up_n (by omega), up_n (by omega), up_n (by omega), up_n (by omega)]
      exact a
  · rw [up_n (by omega), up_n (by omega), up_n (by omega)]; exact hr.2 q h1 h2
theorem Rok_snd {h : Hp} (m : Mo h) {R : Int → Int} (hr : Rok (dt h) R) {w p : Int} (hw : 0 ≤ w ∧ w < dt h 1 0) (hp : 0 ≤ p ∧ p < dt h 0 0) (hv : 0 ≤ sndV (dt h) R w p ∧ sndV (dt h) R w p ≤ 600) : Rok (dt h) (sndR (dt h) R w p) := by
  have h3 := m.2.2.2.1
  have hp8 := m.2.2.1
  obtain ⟨d1, d2, d3, d4, -⟩ := m.2.2.2.2.2.2.2.1 p hp.1 hp.2
  unfold sndR
  exact Rok_go (Rok_up (Rok_up (Rok_up (Rok_up (Rok_upP hr h3.2 (by omega) (Or.inr hv)) h3.2 (by omega)) h3.2 (by omega)) h3.2 (by omega)) h3.2 (by omega)) h3.2 (by omega) ⟨d1, d2⟩ ⟨d3, d4⟩ (by omega)
theorem Rok_mnd {h : Hp} (m : Mo h) {R : Int → Int} (hr : Rok (dt h) R) {w p : Int} (hw : 0 ≤ w ∧ w < dt h 1 0) (hp : 0 ≤ p ∧ p < dt h 0 0) (hv : 0 ≤ mndV (dt h) R w p ∧ mndV (dt h) R w p ≤ 600) : Rok (dt h) (mndR (dt h) R w p) := by
  have h3 := m.2.2.2.1
  have hp8 := m.2.2.1
  obtain ⟨d1, d2, d3, d4, -⟩ := m.2.2.2.2.2.2.2.1 p hp.1 hp.2
  unfold mndR
  exact Rok_go (Rok_up (Rok_up hr h3.2 (by omega)) h3.2 (by omega)) h3.2 (by omega) ⟨d1, d2⟩ ⟨d3, d4⟩ (by omega)
theorem Rok_bg {h : Hp} (m : Mo h) : Rok (dt h) (bgR (dt h)) := by
  have h3 := m.2.2.2.1
  have h4 := m.2.2.2.2.2.2.1
  refine ⟨fun w h1 h2 => ?_, fun p h1 h2 => ?_⟩
  · have a := h4 w h1 h2
    have e1 : bgR (dt h) (32 + w) = dt h 4 w := by
      unfold bgR
      rw [if_neg (by omega), if_neg (by omega), if_pos (by omega), show 32 + w - 32 = w by omega]
    have e2 : bgR (dt h) (35 + w) = dt h 5 w := by
      unfold bgR
      rw [if_neg (by omega), if_neg (by omega), if_neg (by omega), if_pos (by omega), show 35 + w - 35 = w by omega]
    have e3 : bgR (dt h) (38 + w) = 0 := by
      unfold bgR
      rw [if_neg (by omega), if_neg (by omega), if_neg (by omega), if_neg (by omega)]
    rw [e1, e2, e3]
    omega
  · left
    unfold bgR
    rw [if_pos (by omega)]
