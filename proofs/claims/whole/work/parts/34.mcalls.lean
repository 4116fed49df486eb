/-! the reference's small calls -/
theorem tsw_no {α : Type} {x lo : Int} {n : Nat} {f : Nat → α} {d : α} (hx : x < lo ∨ lo + n ≤ x) : tsw x lo n f d = d := by
  unfold tsw
  by_cases h1 : x < lo
  · rw [if_pos h1]
  · rw [if_neg h1, if_pos (by omega)]
theorem tsw_at {α : Type} {x lo : Int} {n : Nat} {f : Nat → α} {d : α} (k : Nat) (hx : x = lo + k) (hk : k < n) : tsw x lo n f d = f k := by
  unfold tsw
  rw [if_neg (by omega), if_neg (by omega), show (x - lo).toNat = k by omega]
def prtM (h : Hp) (p what : Int) : Int := if ¬ (0 ≤ p ∧ p < dt h 0 0) then -10000 else if what = 0 then dt h 9 p else if what = 1 then rd h 239 p else if what = 2 then rd h 239 (8 + p) else if what = 3 then dt h 2 p else if what = 4 then dt h 16 p else if what = 5 then rd h 239 (24 + p) else -10000
theorem m_part {F : Nat} {p what : Int} {h : Hp} (m : Mo h) : Mod_part F 194 p what h = some (prtM h p what, h) := by
  have s := m.1
  have hl := m.2.1
  have hp8 := m.2.2.1
  unfold Mod_part prtM
  rw [ivM s, m_isPart m, cl_some]
  by_cases hp : 0 ≤ p ∧ p < dt h 0 0
  · rw [if_pos hp, if_neg (by decide), if_neg (not_not_intro hp)]
    by_cases h0 : what = 0
    · rw [tsw_at 0 (by omega) (by decide), if_pos h0]; simp (disch := (repeat' (first | assumption | omega | apply shA | apply Sh_sr | apply sh18))) only [gM58, aM58, sM58, gM62, aM62, sM62, gM25, aM25, sM25, gM26, aM26, sM26, gM18, pM18, w32_id, ivM, cl_some, rz_0, rz_1, lt_eq]; rfl
    rw [if_neg h0]
    by_cases h1 : what = 1
    · rw [tsw_at 1 (by omega) (by decide), if_pos h1]; simp (disch := (repeat' (first | assumption | omega | apply shA | apply Sh_sr | apply sh18))) only [gM58, aM58, sM58, gM62, aM62, sM62, gM25, aM25, sM25, gM26, aM26, sM26, gM18, pM18, w32_id, ivM, cl_some, rz_0, rz_1, lt_eq]
    rw [if_neg h1]
    by_cases h2 : what = 2
    · rw [tsw_at 2 (by omega) (by decide), if_pos h2]; simp (disch := (repeat' (first | assumption | omega | apply shA | apply Sh_sr | apply sh18))) only [gM58, aM58, sM58, gM62, aM62, sM62, gM25, aM25, sM25, gM26, aM26, sM26, gM18, pM18, w32_id, ivM, cl_some, rz_0, rz_1, lt_eq]
    rw [if_neg h2]
    by_cases h3 : what = 3
    · rw [tsw_at 3 (by omega) (by decide), if_pos h3]; simp (disch := (repeat' (first | assumption | omega | apply shA | apply Sh_sr | apply sh18))) only [gM58, aM58, sM58, gM62, aM62, sM62, gM25, aM25, sM25, gM26, aM26, sM26, gM18, pM18, w32_id, ivM, cl_some, rz_0, rz_1, lt_eq]; rfl
    rw [if_neg h3]
    by_cases h4 : what = 4
    · rw [tsw_at 4 (by omega) (by decide), if_pos h4]; simp (disch := (repeat' (first | assumption | omega | apply shA | apply Sh_sr | apply sh18))) only [gM58, aM58, sM58, gM62, aM62, sM62, gM25, aM25, sM25, gM26, aM26, sM26, gM18, pM18, w32_id, ivM, cl_some, rz_0, rz_1, lt_eq]; rfl
    rw [if_neg h4]
    by_cases h5 : what = 5
    · rw [tsw_at 5 (by omega) (by decide), if_pos h5]; simp (disch := (repeat' (first | assumption | omega | apply shA | apply Sh_sr | apply sh18))) only [gM58, aM58, sM58, gM62, aM62, sM62, gM25, aM25, sM25, gM26, aM26, sM26, gM18, pM18, w32_id, ivM, cl_some, rz_0, rz_1, lt_eq]
    rw [if_neg h5, tsw_no (by omega)]
  · rw [if_neg hp, if_pos rfl, if_pos hp]
def wrkM (h : Hp) (w what : Int) : Int := if ¬ (0 ≤ w ∧ w < dt h 1 0) then -1 else if what = 0 then rd h 239 (32 + w) else if what = 1 then rd h 239 (35 + w) else if what = 2 then rd h 239 (38 + w) else if what = 3 then dt h 3 w else if what = 4 then rd h 239 (41 + w) else -1
theorem m_worker {F : Nat} {w what : Int} {h : Hp} (m : Mo h) : Mod_worker F 194 w what h = some (wrkM h w what, h) := by
  have s := m.1
  have hl := m.2.1
  have hw3 := m.2.2.2.1
  unfold Mod_worker wrkM
  rw [ivM s, m_isWorker m, cl_some]
  by_cases hp : 0 ≤ w ∧ w < dt h 1 0
  · rw [if_pos hp, if_neg (by decide), if_neg (not_not_intro hp)]
    by_cases h0 : what = 0
    · rw [tsw_at 0 (by omega) (by decide), if_pos h0]; simp (disch := (repeat' (first | assumption | omega | apply shA | apply Sh_sr | apply sh18))) only [gM62, aM62, sM62, gM30, aM30, sM30, gM18, pM18, w32_id, ivM, cl_some, rz_0, rz_1, lt_eq]
    rw [if_neg h0]
    by_cases h1 : what = 1
    · rw [tsw_at 1 (by omega) (by decide), if_pos h1]; simp (disch := (repeat' (first | assumption | omega | apply shA | apply Sh_sr | apply sh18))) only [gM62, aM62, sM62, gM30, aM30, sM30, gM18, pM18, w32_id, ivM, cl_some, rz_0, rz_1, lt_eq]
    rw [if_neg h1]
    by_cases h2 : what = 2
    · rw [tsw_at 2 (by omega) (by decide), if_pos h2]; simp (disch := (repeat' (first | assumption | omega | apply shA | apply Sh_sr | apply sh18))) only [gM62, aM62, sM62, gM30, aM30, sM30, gM18, pM18, w32_id, ivM, cl_some, rz_0, rz_1, lt_eq]
    rw [if_neg h2]
    by_cases h3 : what = 3
    · rw [tsw_at 3 (by omega) (by decide), if_pos h3]; simp (disch := (repeat' (first | assumption | omega | apply shA | apply Sh_sr | apply sh18))) only [gM62, aM62, sM62, gM30, aM30, sM30, gM18, pM18, w32_id, ivM, cl_some, rz_0, rz_1, lt_eq]; rfl
    rw [if_neg h3]
    by_cases h4 : what = 4
    · rw [tsw_at 4 (by omega) (by decide), if_pos h4]; simp (disch := (repeat' (first | assumption | omega | apply shA | apply Sh_sr | apply sh18))) only [gM62, aM62, sM62, gM30, aM30, sM30, gM18, pM18, w32_id, ivM, cl_some, rz_0, rz_1, lt_eq]
    rw [if_neg h4, tsw_no (by omega)]
  · rw [if_neg hp, if_pos rfl, if_pos hp]
theorem m_isMinute {F : Nat} {t : Int} {h : Hp} : Mod_isMinute F t h = some (if 0 ≤ t ∧ t < 600 then 1 else 0, h) := by
  unfold Mod_isMinute
  rw [m_in, cl_some]
  by_cases ht : 0 ≤ t ∧ t < 600
  · rw [if_pos ht, if_pos (by omega)]; rfl
  · rw [if_neg ht, if_neg (by omega)]; rfl
def mnuM (h : Hp) (t what : Int) : Int := if ¬ (0 ≤ t ∧ t < 600) then -10000 else if what = 0 then dt h 13 t else if what = 1 then dt h 14 t else -10000
theorem m_minute {F : Nat} {t what : Int} {h : Hp} (m : Mo h) : Mod_minute F 194 t what h = some (mnuM h t what, h) := by
  have s := m.1
  unfold Mod_minute mnuM
  rw [m_isMinute, cl_some]
  by_cases ht : 0 ≤ t ∧ t < 600
  · rw [if_pos ht, if_neg (by decide), if_neg (not_not_intro ht), m_in, cl_some]
    by_cases hi : 0 ≤ what ∧ what ≤ 1
    · rw [if_pos hi, if_neg (by decide)]
      by_cases h0 : what = 0
      · rw [if_pos h0, if_pos h0]; simp (disch := (repeat' (first | assumption | omega | apply shA | apply Sh_sr))) only [gM52, aM52, sM52, gM53, aM53, sM53, w32_id, ivM, cl_some, rz_0, rz_1, lt_eq]; rfl
      · rw [if_neg h0, if_neg h0, if_pos (show what = 1 by omega)]; simp (disch := (repeat' (first | assumption | omega | apply shA | apply Sh_sr))) only [gM52, aM52, sM52, gM53, aM53, sM53, w32_id, ivM, cl_some, rz_0, rz_1, lt_eq]; rfl
    · rw [if_neg hi, if_pos rfl, if_neg (by omega), if_neg (by omega)]
  · rw [if_neg ht, if_pos rfl, if_pos ht]
def freM (h : Hp) (p t : Int) : Int := if (0 ≤ p ∧ p < dt h 0 0) ∧ (0 ≤ t ∧ t < 600) then dt h 10 (600 * p + t) else -1
theorem m_free {F : Nat} {p t : Int} {h : Hp} (m : Mo h) : Mod_free F 194 p t h = some (freM h p t, h) := by
  have s := m.1
  have hp8 := m.2.2.1
  unfold Mod_free freM
  rw [ivM s, m_isPart m, cl_some]
  by_cases hp : 0 ≤ p ∧ p < dt h 0 0
  · rw [if_pos hp, if_neg (by decide), m_isMinute, cl_some]
    by_cases ht : 0 ≤ t ∧ t < 600
    · rw [if_pos ht, if_neg (by decide), if_pos ⟨hp, ht⟩]; simp (disch := (repeat' (first | assumption | omega | apply shA | apply Sh_sr))) only [gM59, aM59, sM59, w32_id, ivM, cl_some, rz_0, rz_1, lt_eq]; rfl
    · rw [if_neg ht, if_pos rfl, if_neg (fun q => ht q.2)]
  · rw [if_neg hp, if_pos rfl, if_neg (fun q => hp q.1)]
def dogM (h : Hp) (p t : Int) : Int := if (0 ≤ p ∧ p < dt h 0 0) ∧ (0 ≤ t ∧ t < 600) then dt h 15 (600 * p + t) else -1
theorem m_dog {F : Nat} {p t : Int} {h : Hp} (m : Mo h) : Mod_dog F 194 p t h = some (dogM h p t, h) := by
  have s := m.1
  have hp8 := m.2.2.1
  unfold Mod_dog dogM
  rw [ivM s, m_isPart m, cl_some]
  by_cases hp : 0 ≤ p ∧ p < dt h 0 0
  · rw [if_pos hp, if_neg (by decide), m_isMinute, cl_some]
    by_cases ht : 0 ≤ t ∧ t < 600
    · rw [if_pos ht, if_neg (by decide), if_pos ⟨hp, ht⟩]; simp (disch := (repeat' (first | assumption | omega | apply shA | apply Sh_sr))) only [gM54, aM54, sM54, w32_id, ivM, cl_some, rz_0, rz_1, lt_eq]; rfl
    · rw [if_neg ht, if_pos rfl, if_neg (fun q => ht q.2)]
  · rw [if_neg hp, if_pos rfl, if_neg (fun q => hp q.1)]
def whnM (h : Hp) (p t : Int) : Int := if (0 ≤ p ∧ p < dt h 0 0) ∧ (0 ≤ t ∧ t < 600) then nxD (dt h) p t else -1
theorem m_when {F : Nat} {p t : Int} {h : Hp} (m : Mo h) : Mod_when F 194 p t h = some (whnM h p t, h) := by
  have s := m.1
  have hp8 := m.2.2.1
  unfold Mod_when whnM
  rw [ivM s, m_isPart m, cl_some]
  by_cases hp : 0 ≤ p ∧ p < dt h 0 0
  · rw [if_pos hp, if_neg (by decide), m_isMinute, cl_some]
    by_cases ht : 0 ≤ t ∧ t < 600
    · rw [if_pos ht, if_neg (by decide), if_pos ⟨hp, ht⟩, ivM s, m_firstFrom s (by omega) (by omega), cl_some]; rfl
    · rw [if_neg ht, if_pos rfl, if_neg (fun q => ht q.2)]
  · rw [if_neg hp, if_pos rfl, if_neg (fun q => hp q.1)]
