/-! THE REFERENCE's methods over the heap: data of the text and the day, the row -/
theorem m_in (F : Nat) (v a b : Int) (h : Hp) : Mod_in F v a b h = some (if a ≤ v ∧ v ≤ b then 1 else 0, h) := by
  unfold Mod_in
  by_cases h1 : v < a
  · rw [if_pos h1, if_neg (by omega)]; rfl
  · rw [if_neg h1]
    by_cases h2 : b < v
    · rw [if_pos h2, if_neg (by omega)]; rfl
    · rw [if_neg h2, if_pos (by omega)]; rfl
/-- the data of the text in place: 0 parts, 1 workers, 2 worth, 3 speed, 4 workerX, 5 workerY, 6 atX, 7 atY, 8 takes, 9 high, 10 free, 11 holdsOn, 12 nextAt, 13 tide, 14 sun, 15 dogAt, 16 minutes, 17 holdsFrom, 18 holdsTo, 19 seed, 20 pegX, 21 pegY, 22 partX, 23 partY -/
def dt (h : Hp) (k : Nat) (i : Int) : Int := match k with
  | 0 => rd h 203 (rd h 194 18)
  | 1 => rd h 208 (rd h 194 18)
  | 2 => rd h 206 (8 * rd h 194 18 + i)
  | 3 => rd h 211 (3 * rd h 194 18 + i)
  | 4 => rd h 209 (3 * rd h 194 18 + i)
  | 5 => rd h 210 (3 * rd h 194 18 + i)
  | 6 => rd h 232 i
  | 7 => rd h 233 i
  | 8 => rd h 234 i
  | 9 => rd h 235 i
  | 10 => rd h 236 i
  | 11 => rd h 237 i
  | 12 => rd h 238 i
  | 13 => rd h 229 i
  | 14 => rd h 230 i
  | 15 => rd h 231 i
  | 16 => rd h 207 (8 * rd h 194 18 + i)
  | 17 => rd h 212 (rd h 194 18)
  | 18 => rd h 213 (rd h 194 18)
  | 19 => rd h 216 (rd h 194 18)
  | 20 => rd h 214 (rd h 194 18)
  | 21 => rd h 215 (rd h 194 18)
  | 22 => rd h 204 (8 * rd h 194 18 + i)
  | _ => rd h 205 (8 * rd h 194 18 + i)
/-- two heaps tell the same text -/
def dtS (h h' : Hp) : Prop := rd h' 194 18 = rd h 194 18 ∧ (∀ a : Int, 203 ≤ a → a ≤ 218 → rd h' a = rd h a) ∧ ∀ a : Int, 229 ≤ a → a ≤ 238 → rd h' a = rd h a
theorem dt_eq {h h' : Hp} (e : dtS h h') : dt h' = dt h := by
  obtain ⟨e1, e2, e3⟩ := e
  funext k i
  unfold dt
  split <;> first | rw [e2 _ (by decide) (by decide), e1] | rw [e3 _ (by decide) (by decide)]
theorem dtS_wr {h : Hp} {a i v : Int} (h1 : a < 203 ∨ 218 < a) (h2 : a < 229 ∨ 238 < a) (h3 : a ≠ 194 ∨ i ≠ 18) : dtS h (wr h a i v) := by
  refine ⟨?_, fun b hb1 hb2 => rd_wr_ne (by omega), fun b hb1 hb2 => rd_wr_ne (by omega)⟩
  rw [rd_wr, if_neg (by omega)]
theorem dt_wr {h : Hp} {a i v : Int} (h1 : a < 203 ∨ 218 < a) (h2 : a < 229 ∨ 238 < a) (h3 : a ≠ 194 ∨ i ≠ 18) : dt (wr h a i v) = dt h := dt_eq (dtS_wr h1 h2 h3)
/-- the data are as a text tells them -/
def Dok (D : Nat → Int → Int) : Prop := (0 ≤ D 0 0 ∧ D 0 0 ≤ 8) ∧ (0 ≤ D 1 0 ∧ D 1 0 ≤ 3) ∧ (∀ p, 0 ≤ p → p < D 0 0 → 0 ≤ D 2 p ∧ D 2 p ≤ 99) ∧ (∀ w, 0 ≤ w → w < D 1 0 → 1 ≤ D 3 w ∧ D 3 w ≤ 20) ∧ (∀ w, 0 ≤ w → w < D 1 0 → 0 ≤ D 4 w ∧ D 4 w ≤ 99 ∧ 0 ≤ D 5 w ∧ D 5 w ≤ 99) ∧
  (∀ p, 0 ≤ p → p < D 0 0 → -1000 ≤ D 6 p ∧ D 6 p ≤ 1000 ∧ -1000 ≤ D 7 p ∧ D 7 p ≤ 1000 ∧ 1 ≤ D 8 p ∧ D 8 p ≤ 60) ∧ (∀ p m, 0 ≤ p → p < D 0 0 → 0 ≤ m → m < 600 → 0 ≤ D 10 (600 * p + m) ∧ D 10 (600 * p + m) ≤ m + 1) ∧
  (∀ p m, 0 ≤ p → p < D 0 0 → 0 ≤ m → m < 600 → D 12 (601 * p + m) = -2 ∨ (m ≤ D 12 (601 * p + m) ∧ D 12 (601 * p + m) + D 8 p ≤ 600)) ∧ (∀ m, 0 ≤ m → m < 600 → 0 ≤ D 14 m ∧ D 14 m ≤ 100)
/-- the reference stands: its cells, its text -/
def Mo (h : Hp) : Prop := Sh h ∧ (rd h 194 18 = 0 ∨ rd h 194 18 = 1) ∧ Dok (dt h)
theorem Mo_row {h : Hp} (m : Mo h) {a i v : Int} (h1 : 239 ≤ a) (h2 : a ≤ 253) : Mo (wr h a i v) := by
  refine ⟨shA m.1 (by omega) h2, ?_, ?_⟩
  · rw [rd_a (by omega)]; exact m.2.1
  · rw [dt_wr (by omega) (by omega) (by omega)]; exact m.2.2
theorem m_isPart {F : Nat} {p : Int} {h : Hp} (m : Mo h) : Mod_isPart F 194 p h = some (if 0 ≤ p ∧ p < dt h 0 0 then 1 else 0, h) := by
  have s := m.1
  have hl := m.2.1
  have hd := m.2.2.1
  have e : dt h 0 0 = rd h 203 (rd h 194 18) := rfl
  rw [e] at hd ⊢
  unfold Mod_isPart
  simp (disch := (repeat' (first | assumption | omega | apply shA))) only [gM22, gM18, aM22, w32_id, m_in, cl_some]
  by_cases hp : 0 ≤ p ∧ p < rd h 203 (rd h 194 18)
  · rw [if_pos (by omega), if_pos hp]; rfl
  · rw [if_neg (by omega), if_neg hp]; rfl
theorem m_isWorker {F : Nat} {p : Int} {h : Hp} (m : Mo h) : Mod_isWorker F 194 p h = some (if 0 ≤ p ∧ p < dt h 1 0 then 1 else 0, h) := by
  have s := m.1
  have hl := m.2.1
  have hd := m.2.2.2.1
  have e : dt h 1 0 = rd h 208 (rd h 194 18) := rfl
  rw [e] at hd ⊢
  unfold Mod_isWorker
  simp (disch := (repeat' (first | assumption | omega | apply shA))) only [gM27, gM18, aM27, w32_id, m_in, cl_some]
  by_cases hp : 0 ≤ p ∧ p < rd h 208 (rd h 194 18)
  · rw [if_pos (by omega), if_pos hp]; rfl
  · rw [if_neg (by omega), if_neg hp]; rfl
theorem m_firstFrom {F : Nat} {p m : Int} {h : Hp} (s : Sh h) (hp : 0 ≤ p ∧ p < 16) (hm : 0 ≤ m) : Mod_firstFrom F 194 p m h = some (if 599 < m then -2 else rd h 238 (601 * p + m), h) := by
  unfold Mod_firstFrom
  split
  · rfl
  · simp (disch := omega) only [gM61 s, w32_id, aM61 s]
theorem m_goesThere {F : Nat} {w p r : Int} {h : Hp} (s : Sh h) (hw : 0 ≤ w ∧ w < 3) (hp : 0 ≤ p ∧ p < 16) : Mod_goesThere F 194 w p r h = some (0, wr (wr (wr h 240 (32 + w) (rd h 232 p)) 240 (35 + w) (rd h 233 p)) 240 (38 + w) r) := by
  unfold Mod_goesThere
  simp (disch := (repeat' (first | assumption | omega | apply shA))) only [gM63, gM55, gM56, w32_id, aM55, aM56, sM63, rd_a]
theorem m_apart {F : Nat} {a b : Int} {h : Hp} (ha : -1000 ≤ a ∧ a ≤ 1000) (hb : -1000 ≤ b ∧ b ≤ 1000) : Mod_apart F a b h = some (if a < b then b - a else a - b, h) := by
  unfold Mod_apart
  split <;> simp (disch := omega) only [w32_id]
/-- how far, and the minutes of a way -/
def awayI (x y u v : Int) : Int := (if x < u then u - x else x - u) + (if y < v then v - y else y - v)
def wayI (sp x y u v : Int) : Int := (awayI x y u v + sp - 1) / sp
theorem awayI_in {x y u v : Int} (hx : -1000 ≤ x ∧ x ≤ 1000) (hy : -1000 ≤ y ∧ y ≤ 1000) (hu : -1000 ≤ u ∧ u ≤ 1000) (hv : -1000 ≤ v ∧ v ≤ 1000) : 0 ≤ awayI x y u v ∧ awayI x y u v ≤ 4000 := by
  unfold awayI
  constructor <;> split <;> split <;> omega
theorem wayI_in {sp x y u v : Int} (hs : 1 ≤ sp) (hs2 : sp ≤ 20) (hx : -1000 ≤ x ∧ x ≤ 1000) (hy : -1000 ≤ y ∧ y ≤ 1000) (hu : -1000 ≤ u ∧ u ≤ 1000) (hv : -1000 ≤ v ∧ v ≤ 1000) : 0 ≤ wayI sp x y u v ∧ wayI sp x y u v ≤ 4020 := by
  obtain ⟨h1, h2⟩ := awayI_in hx hy hu hv
  unfold wayI
  exact ⟨Int.ediv_nonneg (by omega) (by omega), Int.le_trans (Int.ediv_le_self _ (by omega)) (by omega)⟩
theorem m_wayOf {F : Nat} {w x y u v : Int} {h : Hp} (m : Mo h) (hw : 0 ≤ w ∧ w < dt h 1 0) (hx : -1000 ≤ x ∧ x ≤ 1000) (hy : -1000 ≤ y ∧ y ≤ 1000) (hu : -1000 ≤ u ∧ u ≤ 1000) (hv : -1000 ≤ v ∧ v ≤ 1000) :
    Mod_wayOf F 194 w x y u v h = some (wayI (dt h 3 w) x y u v, h) := by
  have s := m.1
  have hl := m.2.1
  have hw3 := m.2.2.2.1
  have hs := m.2.2.2.2.2.1 w hw.1 hw.2
  obtain ⟨g1, g2⟩ := awayI_in hx hy hu hv
  obtain ⟨g3, g4⟩ := wayI_in hs.1 hs.2 hx hy hu hv
  have e : dt h 3 w = rd h 211 (3 * rd h 194 18 + w) := rfl
  rw [e] at hs g3 g4 ⊢
  unfold Mod_wayOf
  unfold awayI at g1 g2
  simp (disch := (repeat' (first | assumption | omega | apply shA))) only [gM30, gM18, w32_id, aM30, m_apart hx hu, m_apart hy hv, cl_some, dv_ok]
  congr 2
  rw [Int.tdiv_eq_ediv_of_nonneg (by omega)]
  exact w32_id (by unfold wayI awayI at g3; omega) (by unfold wayI awayI at g4; omega)
/-- the row's rules: places within the shore -/
def Rok (D : Nat → Int → Int) (R : Int → Int) : Prop := (∀ w, 0 ≤ w → w < D 1 0 → -1000 ≤ R (32 + w) ∧ R (32 + w) ≤ 1000 ∧ -1000 ≤ R (35 + w) ∧ R (35 + w) ≤ 1000 ∧ 0 ≤ R (38 + w) ∧ R (38 + w) ≤ 2000) ∧ (∀ p, 0 ≤ p → p < 8 → R p = -2 ∨ (0 ≤ R p ∧ R p ≤ 600))
def comeR (D : Nat → Int → Int) (R : Int → Int) (w p : Int) : Int := R (38 + w) + wayI (D 3 w) (R (32 + w)) (R (35 + w)) (D 6 p) (D 7 p)
theorem m_comesAt {F : Nat} {w p : Int} {h : Hp} (m : Mo h) (hr : Rok (dt h) (rd h 240)) (hw : 0 ≤ w ∧ w < dt h 1 0) (hp : 0 ≤ p ∧ p < dt h 0 0) : Mod_comesAt F 194 w p h = some (comeR (dt h) (rd h 240) w p, h) ∧ 0 ≤ comeR (dt h) (rd h 240) w p ∧ comeR (dt h) (rd h 240) w p ≤ 7000 := by
  have s := m.1
  have hw3 := m.2.2.2.1
  have hp8 := m.2.2.1
  obtain ⟨r1, r2, r3, r4, r5, r6⟩ := hr.1 w hw.1 hw.2
  obtain ⟨d1, d2, d3, d4, -⟩ := m.2.2.2.2.2.2.2.1 p hp.1 hp.2
  have hs := m.2.2.2.2.2.1 w hw.1 hw.2
  have hq := wayI_in hs.1 hs.2 ⟨r1, r2⟩ ⟨r3, r4⟩ ⟨d1, d2⟩ ⟨d3, d4⟩
  have hwy := m_wayOf (F := F) m hw ⟨r1, r2⟩ ⟨r3, r4⟩ ⟨d1, d2⟩ ⟨d3, d4⟩
  have e6 : dt h 6 p = rd h 232 p := rfl
  have e7 : dt h 7 p = rd h 233 p := rfl
  rw [e6, e7] at hq hwy
  refine ⟨?_, by unfold comeR; rw [e6, e7]; omega, by unfold comeR; rw [e6, e7]; omega⟩
  unfold Mod_comesAt comeR
  rw [e6, e7]
  simp (disch := (repeat' (first | assumption | omega | apply shA))) only [gM63, gM55, gM56, w32_id, aM63, aM55, aM56, ivM, hwy, cl_some]
/-- is a part covered in one of the minutes a .. b of the day -/
def covN (f : Int → Int) : Int → Nat → Bool
  | _, 0 => false
  | a, n + 1 => f a == 0 || covN f (a + 1) n
theorem covN_iff (f : Int → Int) : ∀ (n : Nat) (a : Int), covN f a n = true ↔ ∃ m, a ≤ m ∧ m < a + n ∧ f m = 0
  | 0, a => by simp [covN]; intro x h1 h2; omega
  | n + 1, a => by
    rw [covN, Bool.or_eq_true, covN_iff f n (a + 1)]
    constructor
    · rintro (h | ⟨m, h1, h2, h3⟩)
      · exact ⟨a, by omega, by omega, by simpa using h⟩
      · exact ⟨m, by omega, by omega, h3⟩
    · rintro ⟨m, h1, h2, h3⟩
      by_cases hm : m = a
      · left; subst hm; simpa using h3
      · right; exact ⟨m, by omega, by omega, h3⟩
def covD (D : Nat → Int → Int) (p a b : Int) : Bool := covN (fun m => D 10 (600 * p + m)) a ((if b < 600 then b + 1 else 600) - a).toNat
theorem covD_iff {D : Nat → Int → Int} {p a b : Int} : covD D p a b = true ↔ ∃ m, a ≤ m ∧ m ≤ b ∧ m < 600 ∧ D 10 (600 * p + m) = 0 := by
  unfold covD
  rw [covN_iff]
  constructor
  · rintro ⟨m, h1, h2, h3⟩
    refine ⟨m, h1, ?_, ?_, h3⟩ <;> split at h2 <;> omega
  · rintro ⟨m, h1, h2, h3, h4⟩
    refine ⟨m, h1, ?_, h4⟩
    split <;> omega
theorem m_isCovered_L {F : Nat} {p b : Int} {h : Hp} (s : Sh h) (hp : 0 ≤ p ∧ p < 16) : ∀ (k n : Nat) (a : Int), 0 ≤ a → k = ((if b < 600 then b + 1 else 600) - a).toNat → k < n → Mod_isCovered_L3 F n 194 p b a h = some (if covN (fun m => rd h 236 (600 * p + m)) a k then 1 else 0, h) := by
  intro k
  induction k with
  | zero =>
    intro n a ha hk hn
    obtain ⟨n, rfl⟩ : ∃ j, n = j + 1 := ⟨n - 1, by omega⟩
    show Mod_isCovered_L3s F _ 194 p b a h = _
    unfold Mod_isCovered_L3s
    by_cases h1 : b < a
    · rw [if_pos h1]; rfl
    · rw [if_neg h1, if_neg (by intro q; rw [if_pos (by omega)] at hk; omega)] <;> rfl
  | succ k ih =>
    intro n a ha hk hn
    obtain ⟨n, rfl⟩ : ∃ j, n = j + 1 := ⟨n - 1, by omega⟩
    show Mod_isCovered_L3s F (Mod_isCovered_L3 F n) 194 p b a h = _
    have hab : a ≤ b ∧ a < 600 := by split at hk <;> omega
    unfold Mod_isCovered_L3s
    rw [if_neg (by omega), if_pos hab.2]
    simp (disch := omega) only [gM59 s, w32_id, aM59 s]
    rw [covN]
    by_cases hz : rd h 236 (600 * p + a) = 0
    · rw [if_pos hz]; simp [hz]; rfl
    · rw [if_neg hz, ih n (a + 1) (by omega) (by split at hk <;> split <;> omega) (by omega)]
      simp [hz]
theorem m_isCovered {F : Nat} {p a b : Int} {h : Hp} (hF : 1000 ≤ F) (s : Sh h) (hp : 0 ≤ p ∧ p < 16) (ha : 0 ≤ a) : Mod_isCovered F 194 p a b h = some (if covD (dt h) p a b then 1 else 0, h) := by
  unfold Mod_isCovered
  rw [m_isCovered_L s hp _ F a ha rfl (by split <;> omega)]
  rfl
