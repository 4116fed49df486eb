/-! the reference's rows of parts over all sets -/
def stepV (D : Nat → Int → Int) (M w x y r q : Int) : Int := if M = 0 then (if nxD D q (r + wayI (D 3 w) x y (D 6 q) (D 7 q)) < 0 then 100000 else nxD D q (r + wayI (D 3 w) x y (D 6 q) (D 7 q)) + D 8 q) else (if 600 < r + wayI (D 3 w) x y (D 6 q) (D 7 q) + (D 8 q + 2) / 3 then 100000 else r + wayI (D 3 w) x y (D 6 q) (D 7 q) + (D 8 q + 2) / 3)
/-- the parts that the rows speak of -/
def Qok (D : Nat → Int → Int) (L : Int) : Prop := (L = 0 ∨ L = 8) ∧ ∀ p, 0 ≤ p → p < D 0 0 → (-1000 ≤ D 6 (L + p) ∧ D 6 (L + p) ≤ 1000) ∧ (-1000 ≤ D 7 (L + p) ∧ D 7 (L + p) ≤ 1000) ∧ (1 ≤ D 8 (L + p) ∧ D 8 (L + p) ≤ 250) ∧ ∀ m, 0 ≤ m → m < 600 → D 12 (601 * (L + p) + m) = -2 ∨ (0 ≤ D 12 (601 * (L + p) + m) ∧ D 12 (601 * (L + p) + m) + D 8 (L + p) ≤ 600)
def Vok (v : Int) : Prop := v = 100000 ∨ (0 ≤ v ∧ v ≤ 600)
theorem stepV_ok {h : Hp} (m : Mo h) {L M w x y r p : Int} (hq : Qok (dt h) L) (hw : 0 ≤ w ∧ w < dt h 1 0) (hx : -1000 ≤ x ∧ x ≤ 1000) (hy : -1000 ≤ y ∧ y ≤ 1000) (hr : 0 ≤ r) (hp : 0 ≤ p ∧ p < dt h 0 0) : Vok (stepV (dt h) M w x y r (L + p)) := by
  obtain ⟨q1, q2, q3, q4⟩ := hq.2 p hp.1 hp.2
  have hs := m.2.2.2.2.2.1 w hw.1 hw.2
  have hg := wayI_in hs.1 hs.2 hx hy q1 q2
  unfold stepV Vok
  generalize wayI (dt h 3 w) x y (dt h 6 (L + p)) (dt h 7 (L + p)) = g at hg
  split
  · split
    · exact Or.inl rfl
    · rename_i h1
      unfold nxD at h1 ⊢
      split at h1
      · omega
      · rw [if_neg (by assumption)]
        rcases q4 (r + g) (by omega) (by omega) with q | q
        · omega
        · omega
  · split
    · exact Or.inl rfl
    · right; omega
theorem m_stepTo {F : Nat} {w x y r p : Int} {h : Hp} (m : Mo h) (hq : Qok (dt h) (rd h 194 70)) (hw : 0 ≤ w ∧ w < dt h 1 0) (hx : -1000 ≤ x ∧ x ≤ 1000) (hy : -1000 ≤ y ∧ y ≤ 1000) (hr : 0 ≤ r ∧ r ≤ 100000) (hp : 0 ≤ p ∧ p < dt h 0 0) :
    Mod_stepTo F 194 w x y r p h = some (stepV (dt h) (rd h 194 71) w x y r (rd h 194 70 + p), h) := by
  obtain ⟨q1, q2, q3, q4⟩ := hq.2 p hp.1 hp.2
  have hL := hq.1
  have s := m.1
  have hp8 := m.2.2.1
  have hs := m.2.2.2.2.2.1 w hw.1 hw.2
  have hg := wayI_in hs.1 hs.2 hx hy q1 q2
  have hwy := m_wayOf (F := F) m hw hx hy q1 q2
  have ok := stepV_ok m (M := rd h 194 71) hq hw hx hy hr.1 hp
  have e6 : rd h 232 (rd h 194 70 + p) = dt h 6 (rd h 194 70 + p) := rfl
  have e7 : rd h 233 (rd h 194 70 + p) = dt h 7 (rd h 194 70 + p) := rfl
  have e8 : rd h 234 (rd h 194 70 + p) = dt h 8 (rd h 194 70 + p) := rfl
  have e12 : ∀ c, (if 599 < c then -2 else rd h 238 (601 * (rd h 194 70 + p) + c)) = nxD (dt h) (rd h 194 70 + p) c := fun c => rfl
  unfold Mod_stepTo
  rw [gM70 s, w32_id (x := rd h 194 70 + p) (by omega) (by omega), lt_eq, gM55 s, aM55 s (by omega) (by omega), gM56 s, aM56 s (by omega) (by omega), e6, e7, ivM s, hwy, cl_some]
  unfold stepV at ok ⊢
  generalize wayI (dt h 3 w) x y (dt h 6 (rd h 194 70 + p)) (dt h 7 (rd h 194 70 + p)) = g at hg ok ⊢
  rw [w32_id (x := r + g) (by omega) (by omega), lt_eq, gM71 s]
  by_cases hM : rd h 194 71 = 0
  · rw [if_pos hM, if_pos hM, ivM s, m_firstFrom s (by omega) (by omega), cl_some, e12]
    rw [if_pos hM] at ok
    by_cases hn : nxD (dt h) (rd h 194 70 + p) (r + g) < 0
    · rw [if_pos hn, if_pos hn]
    · rw [if_neg hn, if_neg hn]
      rw [if_neg hn] at ok
      rw [gM57 s, aM57 s (by omega) (by omega), e8, w32_id (by unfold Vok at ok; omega) (by unfold Vok at ok; omega)]
  · rw [if_neg hM, if_neg hM, gM57 s, aM57 s (by omega) (by omega), e8]
    have h3 : w32 ((w32 (dt h 8 (rd h 194 70 + p) + 2)).tdiv 3) = (dt h 8 (rd h 194 70 + p) + 2) / 3 := by
      rw [w32_id (x := dt h 8 (rd h 194 70 + p) + 2) (by omega) (by omega), Int.tdiv_eq_ediv_of_nonneg (by omega)]
      exact w32_id (by omega) (by omega)
    rw [dv_ok (by decide), h3, w32_id (x := r + g + (dt h 8 (rd h 194 70 + p) + 2) / 3) (by omega) (by omega)]
    by_cases hn : 600 < r + g + (dt h 8 (rd h 194 70 + p) + 2) / 3
    · rw [if_pos hn, if_pos hn]
    · rw [if_neg hn, if_neg hn, gM57 s, aM57 s (by omega) (by omega), e8, dv_ok (by decide), h3, w32_id (x := r + g + (dt h 8 (rd h 194 70 + p) + 2) / 3) (by omega) (by omega)]
/-- how the rows start: place, minute, which parts, mending -/
def Pg (h : Hp) (k : Nat) : Int := match k with | 0 => rd h 194 67 | 1 => rd h 194 68 | 2 => rd h 194 69 | 3 => rd h 194 70 | _ => rd h 194 71
def Gok (D : Nat → Int → Int) (G : Nat → Int) : Prop := Qok D (G 3) ∧ (-1000 ≤ G 0 ∧ G 0 ≤ 1000) ∧ (-1000 ≤ G 1 ∧ G 1 ≤ 1000) ∧ (0 ≤ G 2 ∧ G 2 ≤ 3000)
def rb0 (D : Nat → Int → Int) (G : Nat → Int) (w p : Int) : Int := stepV D (G 4) w (G 0) (G 1) (G 2) (G 3 + p)
def rb1 (D : Nat → Int → Int) (G : Nat → Int) (w : Int) (T : Int → Int) (b o p : Int) : Int := if T (8 * b + o) = 100000 then 100000 else stepV D (G 4) w (D 6 (G 3 + o)) (D 7 (G 3 + o)) (T (8 * b + o)) (G 3 + p)
theorem m_rb0 {F : Nat} {w p : Int} {h : Hp} (m : Mo h) (hg : Gok (dt h) (Pg h)) (hw : 0 ≤ w ∧ w < dt h 1 0) (hp : 0 ≤ p ∧ p < dt h 0 0) : Mod_readyBehind F 194 w 0 (-1) p h = some (rb0 (dt h) (Pg h) w p, h) := by
  have s := m.1
  obtain ⟨g0, g1, g2, g3⟩ := hg
  unfold Mod_readyBehind
  rw [if_pos (by decide), gM67 s, gM68 s, gM69 s, ivM s, m_stepTo (x := rd h 194 67) (y := rd h 194 68) (r := rd h 194 69) m g0 hw g1 g2 ⟨g3.1, Int.le_trans g3.2 (by decide)⟩ hp, cl_some]
  rfl
theorem m_rb1 {F : Nat} {w b o p : Int} {h : Hp} (m : Mo h) (hg : Gok (dt h) (Pg h)) (ht : ∀ i, Vok (rd h 242 i)) (hw : 0 ≤ w ∧ w < dt h 1 0) (hb : 0 ≤ b ∧ b < 256) (ho : 0 ≤ o ∧ o < dt h 0 0) (hp : 0 ≤ p ∧ p < dt h 0 0) : Mod_readyBehind F 194 w b o p h = some (rb1 (dt h) (Pg h) w (rd h 242) b o p, h) := by
  have s := m.1
  have hp8 := m.2.2.1
  obtain ⟨g0, g1, g2, g3⟩ := hg
  have e3 : Pg h 3 = rd h 194 70 := rfl
  obtain ⟨q1, q2, q3, q4⟩ := g0.2 o ho.1 ho.2
  have hL := g0.1
  rw [e3] at q1 q2 hL
  have hv := ht (8 * b + o)
  unfold Mod_readyBehind rb1
  rw [if_neg (by omega), gM66 s, w32_id (x := 8 * b) (by omega) (by omega), w32_id (x := 8 * b + o) (by omega) (by omega), aM66 s (by omega) (by omega)]
  by_cases hn : rd h 242 (8 * b + o) = 100000
  · rw [if_pos hn, if_pos hn]
  · rw [if_neg hn, if_neg hn, gM55 s, gM70 s, w32_id (x := rd h 194 70 + o) (by omega) (by omega), aM55 s (by omega) (by omega), gM56 s, gM70 s, w32_id (x := rd h 194 70 + o) (by omega) (by omega), aM56 s (by omega) (by omega), ivM s,
      m_stepTo (x := rd h 232 (rd h 194 70 + o)) (y := rd h 233 (rd h 194 70 + o)) (r := rd h 242 (8 * b + o)) m g0 hw q1 q2 (by unfold Vok at hv; omega) hp, cl_some]
    rfl
