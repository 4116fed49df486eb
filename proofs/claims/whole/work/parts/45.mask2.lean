/-! the reference's mends, stays, window, count, feed -/
def mdSet (D : Nat → Int → Int) (N : Int → Int) (w b : Int) : Nat := bstF D (CT D (plG N w 0 1) w (crsN D N)) (N (38 + w) + 0) b (crsN D N)
def mdLr (D : Nat → Int → Int) (N : Int → Int) (w : Int) (s : Nat) : Int := lrV (CT D (plG N w 0 1) w (crsN D N)) (N (38 + w) + 0) s
def mdsA (h : Hp) (w b q : Int) : Int := if ¬ ((0 ≤ w ∧ w < dt h 1 0) ∧ (0 ≤ b ∧ b ≤ 600) ∧ (0 ≤ q ∧ q ≤ 2)) then -1 else if q = 0 then wbV (dt h) (mdSet (dt h) (rd h 239) w b) else if q = 1 then mdLr (dt h) (rd h 239) w (mdSet (dt h) (rd h 239) w b) else ((mdSet (dt h) (rd h 239) w b : Nat) : Int)
theorem m_mends {F : Nat} {h : Hp} {w b q : Int} (hF : 1000 ≤ F) (m : MT h) : ∃ h', Mod_mends F 194 w b q h = some (mdsA h w b q, h') ∧ Fr h h' := by
  have mo := m.1.1
  have s := mo.1
  have h256 := two8 (D8 mo)
  have hw3 := mo.2.2.2.1
  have hr := m.1.2.2.2.1
  unfold Mod_mends mdsA
  rw [ivM s, m_isWorker mo, cl_some]
  by_cases hw : 0 ≤ w ∧ w < dt h 1 0
  · rw [if_pos hw, if_neg (by decide), m_isBy, cl_some]
    by_cases hb : 0 ≤ b ∧ b ≤ 600
    · rw [if_pos hb, if_neg (by decide), m_in, cl_some]
      by_cases hq : 0 ≤ q ∧ q ≤ 2
      · have hr6 := hr.1 w hw.1 hw.2
        have fc := Fr_cp m
        have fs0 := Fr_st fc w 0
        have fs : Fr h (wr (stH (cpH h) w 0) 194 71 1) := Fr_f fs0 (sh71 fs0.2.1 _) (by decide)
        have ms := Fr_MT m fs
        have e240 : rd (wr (stH (cpH h) w 0) 194 71 1) 240 = rd h 239 := by rw [rd_wr_ne (by decide), st_240, cpH_240]
        have e242 : rd (wr (stH (cpH h) w 0) 194 71 1) 242 = rd h 242 := by rw [rd_wr_ne (by decide), st_242, cpH_ne (by decide)]
        have eQ : Pg (stH (cpH h) w 0) = plG (rd h 239) w 0 0 := by rw [Pg_st, cpH_240]
        have eP : Pg (wr (stH (cpH h) w 0) 194 71 1) = plG (rd h 239) w 0 1 := by
          funext k
          match k with
          | 0 => show rd (wr (stH (cpH h) w 0) 194 71 1) 194 67 = _; rw [rd_i (by decide)]; exact congrFun eQ 0
          | 1 => show rd (wr (stH (cpH h) w 0) 194 71 1) 194 68 = _; rw [rd_i (by decide)]; exact congrFun eQ 1
          | 2 => show rd (wr (stH (cpH h) w 0) 194 71 1) 194 69 = _; rw [rd_i (by decide)]; exact congrFun eQ 2
          | 3 => show rd (wr (stH (cpH h) w 0) 194 71 1) 194 70 = _; rw [rd_i (by decide)]; exact congrFun eQ 3
          | n + 4 => show rd (wr (stH (cpH h) w 0) 194 71 1) 194 71 = 1; rw [rd_same]
        have ed := Fr_dt fs
        have g := G_pl mo hr (e := 1) (d := 0) hw (by decide)
        have cn := m_crossedNow (F := F) hF ms.1.1
        rw [ed, e240] at cn
        have br := m_bestRow (F := F) (b := b) (al := crsN (dt h) (rd h 239)) hF ms.1.1 (by rw [ed, eP]; exact g) ms.2 (by rw [ed]; exact hw) (crs8 mo _)
        have e69 : rd (wr (stH (cpH h) w 0) 194 71 1) 194 69 = rd h 239 (38 + w) + 0 := congrFun eP 2
        rw [ed, eP, e242, e69, bstF_CT (D8 mo) (crs8 mo _)] at br
        have tok := tabF_ok mo g m.2 (al := crsN (dt h) (rd h 239)) hw
        have f := Fr_242 fs tok
        have m' := Fr_MT m f
        have hlt : mdSet (dt h) (rd h 239) w b < 2 ^ (dt h 0 0).toNat := bstF_lt _ _ _ _
        have wb := m_worthBy (s := mdSet (dt h) (rd h 239) w b) hF m'.1.1 (by rw [Fr_dt f]; exact hlt)
        have lr := m_leastReady (s := mdSet (dt h) (rd h 239) w b) hF m'.1.1.1 (by omega)
        rw [Fr_dt f] at wb
        rw [rd_sr, rd_sr_ne (by decide), e69, lrV_CT (D8 mo) (crs8 mo _) hlt (bsR_sub _)] at lr
        refine ⟨_, ?_, f⟩
        rw [if_pos hq, if_neg (by decide), if_neg (not_not_intro ⟨hw, hb, hq⟩), ivM s, m_copies' hF m.1, cl_some]
        show iv (cpH h) 194 112 (Mod_startsAs F 194 w 0 (cpH h)) _ = _
        rw [ivM fc.2.1, m_startsAs fc.2.1 (by omega) (by decide) (by rw [cpH_240]; omega), cl_some, pM71 fs0.2.1 (Or.inr rfl), ivM ms.1.1.1, cn, cl_some, ivM ms.1.1.1]
        show cl (Mod_bestRow F 194 w ((crsN (dt h) (rd h 239) : Nat) : Int) b (wr (stH (cpH h) w 0) 194 71 1)) _ = _
        rw [br, cl_some]
        show (if q = 0 then iv _ 194 112 (Mod_worthBy F 194 ((mdSet (dt h) (rd h 239) w b : Nat) : Int) _) _ else if q = 1 then iv _ 194 112 (Mod_leastReady F 194 ((mdSet (dt h) (rd h 239) w b : Nat) : Int) _) _ else _) = _
        rw [ivM m'.1.1.1, ivM m'.1.1.1, wb, lr, cl_some, cl_some]
        by_cases h0 : q = 0
        · rw [if_pos h0, if_pos h0]
        · rw [if_neg h0, if_neg h0]
          by_cases h1 : q = 1
          · rw [if_pos h1, if_pos h1]; rfl
          · rw [if_neg h1, if_neg h1]; rfl
      · rw [if_neg hq, if_pos rfl, if_pos (fun z => hq z.2.2)]
        exact ⟨h, rfl, Fr_refl m⟩
    · rw [if_neg hb, if_pos rfl, if_pos (fun z => hb z.2.1)]
      exact ⟨h, rfl, Fr_refl m⟩
  · rw [if_neg hw, if_pos rfl, if_pos (fun z => hw z.1)]
    exact ⟨h, rfl, Fr_refl m⟩
/-- how far a row of minutes goes on -/
def stL (f : Int → Int) : Nat → Int → Int
  | 0, n => n
  | k + 1, n => if 0 < f n then stL f k (n + 1) else n
def styA (h : Hp) (p t : Int) : Int := if ¬ ((0 ≤ p ∧ p < dt h 0 0) ∧ (0 ≤ t ∧ t < 600)) then -1 else stL (fun n => dt h 10 (600 * p + t + n)) (600 - t).toNat 0
theorem m_stays_L {F : Nat} {h : Hp} {p t : Int} (s : Sh h) (hp : 0 ≤ p ∧ p < 8) (ht : 0 ≤ t ∧ t < 600) : ∀ (k n : Nat) (i : Int), 0 ≤ i → t + i + k = 600 → k < n → Mod_stays_L19 F n 194 p t i h = some (stL (fun n => dt h 10 (600 * p + t + n)) k i, h) := by
  intro k
  induction k with
  | zero =>
    intro n i hi hk hn
    obtain ⟨n, rfl⟩ : ∃ j, n = j + 1 := ⟨n - 1, by omega⟩
    show Mod_stays_L19s F (Mod_stays_L19 F n) 194 p t i h = _
    unfold Mod_stays_L19s
    rw [w32_id (x := t + i) (by omega) (by omega), if_neg (by omega)]
    rfl
  | succ k ih =>
    intro n i hi hk hn
    obtain ⟨n, rfl⟩ : ∃ j, n = j + 1 := ⟨n - 1, by omega⟩
    show Mod_stays_L19s F (Mod_stays_L19 F n) 194 p t i h = _
    have e : stL (fun n => dt h 10 (600 * p + t + n)) (k + 1) i = if 0 < rd h 236 (600 * p + t + i) then stL (fun n => dt h 10 (600 * p + t + n)) k (i + 1) else i := rfl
    unfold Mod_stays_L19s
    rw [w32_id (x := t + i) (by omega) (by omega), if_pos (by omega), gM59 s, w32_id (x := 600 * p) (by omega) (by omega), w32_id (x := 600 * p + t) (by omega) (by omega), w32_id (x := 600 * p + t + i) (by omega) (by omega), aM59 s (by omega) (by omega), e]
    by_cases hc : 0 < rd h 236 (600 * p + t + i)
    · rw [if_pos hc, if_pos hc, w32_id (x := i + 1) (by omega) (by omega), ih n (i + 1) (by omega) (by omega) (by omega)]
    · rw [if_neg hc, if_neg hc]
theorem m_stays {F : Nat} {p t : Int} {h : Hp} (hF : 1000 ≤ F) (m : Mo h) : Mod_stays F 194 p t h = some (styA h p t, h) := by
  have s := m.1
  have hp8 := m.2.2.1
  unfold Mod_stays styA
  rw [ivM s, m_isPart m, cl_some]
  by_cases hp : 0 ≤ p ∧ p < dt h 0 0
  · rw [if_pos hp, if_neg (by decide), m_isMinute, cl_some]
    by_cases ht : 0 ≤ t ∧ t < 600
    · rw [if_pos ht, if_neg (by decide), if_neg (not_not_intro ⟨hp, ht⟩)]
      exact m_stays_L s (by omega) ht _ F 0 (by decide) (by omega) (by omega)
    · rw [if_neg ht, if_pos rfl, if_pos (fun q => ht q.2)]
  · rw [if_neg hp, if_pos rfl, if_pos (fun q => hp q.1)]
/-- the windows of a part as the reference goes over them -/
def wnM (f : Int → Int) (i l : Int) : Nat → Int → Int → Int
  | 0, n, _ => if i = -1 then n else -1
  | k + 1, n, t => if t < 600 then (if 0 < f t ∧ n = i then (if l = 0 then t else t + f t - 1) else wnM f i l k (if 0 < f t then n + 1 else n) (if 0 < f t then t + f t else t + 1)) else (if i = -1 then n else -1)
theorem m_window_L {F : Nat} {h : Hp} {p i l : Int} (s : Sh h) (hp : 0 ≤ p ∧ p < 8) (hf : ∀ t, 0 ≤ t → t < 600 → 0 ≤ dt h 11 (600 * p + t) ∧ dt h 11 (600 * p + t) ≤ 600) : ∀ (k n : Nat) (c t : Int), 0 ≤ t → 600 ≤ t + k → t ≤ 1200 → 0 ≤ c → c + k ≤ 1000 → k < n → Mod_window_L21 F n 194 p i l c t h = some (wnM (fun t => dt h 11 (600 * p + t)) i l k c t, h) := by
  intro k
  induction k with
  | zero =>
    intro n c t ht hk _ _ _ hn
    obtain ⟨n, rfl⟩ : ∃ j, n = j + 1 := ⟨n - 1, by omega⟩
    show Mod_window_L21s F (Mod_window_L21 F n) 194 p i l c t h = _
    unfold Mod_window_L21s Mod_window_B99
    rw [if_neg (by omega)]
    show _ = some (if i = -1 then c else -1, h)
    by_cases h1 : i = -1
    · rw [if_pos h1, if_pos h1]
    · rw [if_neg h1, if_neg h1]
  | succ k ih =>
    intro n c t ht hk h12 hc hck hn
    obtain ⟨n, rfl⟩ : ∃ j, n = j + 1 := ⟨n - 1, by omega⟩
    show Mod_window_L21s F (Mod_window_L21 F n) 194 p i l c t h = _
    have e : wnM (fun t => dt h 11 (600 * p + t)) i l (k + 1) c t = if t < 600 then (if 0 < dt h 11 (600 * p + t) ∧ c = i then (if l = 0 then t else t + dt h 11 (600 * p + t) - 1) else wnM (fun t => dt h 11 (600 * p + t)) i l k (if 0 < dt h 11 (600 * p + t) then c + 1 else c) (if 0 < dt h 11 (600 * p + t) then t + dt h 11 (600 * p + t) else t + 1)) else (if i = -1 then c else -1) := rfl
    have e11 : rd h 237 (600 * p + t) = dt h 11 (600 * p + t) := rfl
    rw [e]
    unfold Mod_window_L21s Mod_window_B99 Mod_window_B55 Mod_window_B72 Mod_window_B80
    by_cases h6 : t < 600
    · have hff := hf t ht h6
      rw [if_pos h6, if_pos h6, gM60 s, w32_id (x := 600 * p) (by omega) (by omega), w32_id (x := 600 * p + t) (by omega) (by omega), aM60 s (by omega) (by omega), e11]
      generalize dt h 11 (600 * p + t) = v at hff
      by_cases h1 : 0 < v
      · rw [if_pos h1]
        by_cases h2 : c = i
        · rw [if_pos h2, if_pos (show 0 < v ∧ c = i from ⟨h1, h2⟩)]
          by_cases h3 : l = 0
          · rw [if_pos h3, if_pos h3]
          · rw [if_neg h3, if_neg h3, w32_id (x := t + v) (by omega) (by omega), w32_id (x := t + v - 1) (by omega) (by omega)]
        · rw [if_neg h2, if_pos h1, if_pos h1, if_neg (fun z => h2 z.2), if_pos h1, if_pos h1, w32_id (x := t + v) (by omega) (by omega), w32_id (x := c + 1) (by omega) (by omega), lt_eq]
          exact ih n _ _ (by omega) (by omega) (by omega) (by omega) (by omega) (by omega)
      · rw [if_neg h1, if_neg h1, if_neg h1, if_neg (fun z => h1 z.1), if_neg h1, if_neg h1, w32_id (x := t + 1) (by omega) (by omega), lt_eq]
        exact ih n _ _ (by omega) (by omega) (by omega) (by omega) (by omega) (by omega)
    · rw [if_neg h6, if_neg h6]
      by_cases h1 : i = -1
      · rw [if_pos h1, if_pos h1]
      · rw [if_neg h1, if_neg h1]
def wndA (h : Hp) (p i l : Int) : Int := if ¬ ((0 ≤ p ∧ p < dt h 0 0) ∧ -1 ≤ i) then -1 else wnM (fun t => dt h 11 (600 * p + t)) i l 600 0 0
theorem m_window {F : Nat} {p i l : Int} {h : Hp} (hF : 1000 ≤ F) (m : Mo h) (hf : ∀ p, 0 ≤ p → p < dt h 0 0 → ∀ t, 0 ≤ t → t < 600 → 0 ≤ dt h 11 (600 * p + t) ∧ dt h 11 (600 * p + t) ≤ 600) : Mod_window F 194 p i l h = some (wndA h p i l, h) := by
  have s := m.1
  have hp8 := m.2.2.1
  unfold Mod_window wndA
  rw [ivM s, m_isPart m, cl_some]
  by_cases hp : 0 ≤ p ∧ p < dt h 0 0
  · rw [if_pos hp, if_neg (by decide)]
    by_cases hi : i < -1
    · rw [if_pos hi, if_pos (fun z => by omega)]
    · rw [if_neg hi, if_neg (not_not_intro ⟨hp, by omega⟩)]
      exact m_window_L s (by omega) (hf p hp.1 hp.2) 600 F 0 0 (by decide) (by decide) (by decide) (by decide) (by decide) (by omega)
  · rw [if_neg hp, if_pos rfl, if_pos (fun q => hp q.1)]
