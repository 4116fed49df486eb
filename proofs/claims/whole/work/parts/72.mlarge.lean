/-! the reference's large: the sized parts -/
def szX (D : Nat → Int → Int) (k p : Int) : Int := D 20 0 + ((D 22 p - D 20 0) * k).tdiv 4
def szY (D : Nat → Int → Int) (k p : Int) : Int := D 21 0 + ((D 23 p - D 21 0) * k).tdiv 4
def szT (D : Nat → Int → Int) (k p : Int) : Int := (D 16 p * k + 3) / 4
def szN (D : Nat → Int → Int) (L : Lw) (k p m : Int) : Int := nxI (frI (D 13) (hgV L (szX D k p) (szY D k p))) (D 17 0) (D 18 0) (szT D k p) m
/-- a text's ranges -/
def Tex (D : Nat → Int → Int) : Prop := (0 ≤ D 0 0 ∧ D 0 0 ≤ 8) ∧ (0 ≤ D 1 0 ∧ D 1 0 ≤ 3) ∧ (∀ p, 0 ≤ p → p < D 0 0 → (0 ≤ D 22 p ∧ D 22 p ≤ 99) ∧ (0 ≤ D 23 p ∧ D 23 p ≤ 99) ∧ (0 ≤ D 2 p ∧ D 2 p ≤ 99) ∧ (1 ≤ D 16 p ∧ D 16 p ≤ 60)) ∧ (∀ w, 0 ≤ w → w < D 1 0 → (0 ≤ D 4 w ∧ D 4 w ≤ 99) ∧ (0 ≤ D 5 w ∧ D 5 w ≤ 99) ∧ (1 ≤ D 3 w ∧ D 3 w ≤ 20)) ∧ (1 ≤ D 17 0 ∧ D 17 0 ≤ 600) ∧ (1 ≤ D 18 0 ∧ D 18 0 ≤ 600) ∧ (0 ≤ D 20 0 ∧ D 20 0 ≤ 99) ∧ (0 ≤ D 21 0 ∧ D 21 0 ≤ 99) ∧ (0 ≤ D 19 0 ∧ D 19 0 ≤ 9999)
theorem sz_in {x k : Int} (hx : -99 ≤ x ∧ x ≤ 99) (hk : 1 ≤ k ∧ k ≤ 16) : -1584 ≤ x * k ∧ x * k ≤ 1584 ∧ -396 ≤ (x * k).tdiv 4 ∧ (x * k).tdiv 4 ≤ 396 := by
  have h1 : x * k ≤ 99 * 16 := by
    rcases Int.le_total 0 x with h | h
    · exact Int.mul_le_mul hx.2 hk.2 (by omega) (by decide)
    · have := Int.mul_nonneg_of_nonpos_of_nonpos (a := x) (b := -k) h (by omega)
      have e : x * -k = -(x * k) := Int.mul_neg x k
      omega
  have h2 : -(99 * 16) ≤ x * k := by
    rcases Int.le_total 0 x with h | h
    · have := Int.mul_nonneg (a := x) (b := k) h (by omega); omega
    · have : (-x) * k ≤ 99 * 16 := Int.mul_le_mul (by omega) hk.2 (by omega) (by decide)
      have e : (-x) * k = -(x * k) := Int.neg_mul x k
      omega
  generalize x * k = y at h1 h2 ⊢
  rcases Int.le_total 0 y with c | c
  · rw [Int.tdiv_eq_ediv_of_nonneg c]; omega
  · have e : y.tdiv 4 = -((-y).tdiv 4) := by
      have := Int.neg_tdiv (a := -y) (b := 4)
      rw [Int.neg_neg] at this
      exact this
    rw [e, Int.tdiv_eq_ediv_of_nonneg (by omega)]; omega
theorem szT_in {t k : Int} (ht : 1 ≤ t ∧ t ≤ 60) (hk : 1 ≤ k ∧ k ≤ 16) : 1 ≤ t * k ∧ t * k ≤ 960 ∧ 1 ≤ (t * k + 3) / 4 ∧ (t * k + 3) / 4 ≤ 240 := by
  have h1 : t * k ≤ 60 * 16 := Int.mul_le_mul ht.2 hk.2 (by omega) (by decide)
  have h2 : 1 * 1 ≤ t * k := Int.mul_le_mul ht.1 hk.1 (by decide) (by omega)
  refine ⟨by omega, by omega, by omega, by omega⟩
/-- the parts' own rows stand, the sized ones up to one are laid out -/
def Sz (h h' : Hp) (L : Lw) (k i : Int) : Prop := (∀ a, 229 ≤ a → a ≤ 231 → rd h' a = rd h a) ∧ (∀ a j, 232 ≤ a → a ≤ 235 → j < 8 → rd h' a j = rd h a j) ∧ (∀ a j, 236 ≤ a → a ≤ 237 → j < 4800 → rd h' a j = rd h a j) ∧ (∀ j, j < 4808 → rd h' 238 j = rd h 238 j) ∧ ∀ p, 0 ≤ p → p < i → rd h' 232 (8 + p) = szX (dt h) k p ∧ rd h' 233 (8 + p) = szY (dt h) k p ∧ rd h' 234 (8 + p) = szT (dt h) k p ∧ ∀ m, 0 ≤ m → m < 600 → rd h' 238 (601 * (8 + p) + m) = szN (dt h) L k p m
theorem m_lg_L17 {F : Nat} {h0 : Hp} {L : Lw} {k b al : Int} (hF : 1000 ≤ F) (s0 : Sh h0) (hl : rd h0 194 18 = 0 ∨ rd h0 194 18 = 1) (tx : Tex (dt h0)) (g0 : RLw h0 0 L) (hk : 1 ≤ k ∧ k ≤ 16) :
    ∀ (j n i : Nat) (h : Hp), i + j = (dt h0 0 0).toNat → j < n → Fy h0 h → Sz h0 h L k i →
    ∃ h', Fy h0 h' ∧ Sz h0 h' L k (dt h0 0 0) ∧ Mod_isLarge_L17 F n 194 k b al i h = Mod_isLarge_L178 F F 194 b al 0 h' := by
  have hd := tx.1
  intro j
  induction j with
  | zero =>
    intro n i h hi hn f z
    obtain ⟨n, rfl⟩ : ∃ j, n = j + 1 := ⟨n - 1, by omega⟩
    have s := f.2.1
    have hl1 : rd h 194 18 = 0 ∨ rd h 194 18 = 1 := by rw [f.2.2.2 18 (by decide)]; exact hl
    have e0 : rd h 203 (rd h 194 18) = dt h0 0 0 := congrFun (Fy_txt f 0 (by decide)) 0
    refine ⟨h, f, by rw [show dt h0 0 0 = (i : Int) by omega]; exact z, ?_⟩
    show Mod_isLarge_L17s F _ 194 k b al _ h = _
    unfold Mod_isLarge_L17s
    rw [gM22 s, gM18 s, aM22 s (by omega) (by omega), e0, if_neg (by omega)]
  | succ j ih =>
    intro n i h hi hn f z
    obtain ⟨n, rfl⟩ : ∃ j, n = j + 1 := ⟨n - 1, by omega⟩
    have s := f.2.1
    have e18 := f.2.2.2 18 (by decide)
    have hl1 : rd h 194 18 = 0 ∨ rd h 194 18 = 1 := by rw [e18]; exact hl
    have e0 : rd h 203 (rd h 194 18) = dt h0 0 0 := congrFun (Fy_txt f 0 (by decide)) 0
    obtain ⟨t22, t23, -, t16⟩ := tx.2.2.1 i (by omega) (by omega)
    obtain ⟨-, -, t20, t21, -⟩ := tx.2.2.2.2
    have zx := sz_in (x := dt h0 22 i - dt h0 20 0) (k := k) (by omega) hk
    have zy := sz_in (x := dt h0 23 i - dt h0 21 0) (k := k) (by omega) hk
    have zt := szT_in (t := dt h0 16 i) (k := k) t16 hk
    have f1 : Fy h0 (wr h 232 (8 + (i : Int)) (szX (dt h0) k i)) := Fy_wr f (by decide)
    have f2 : Fy h0 (wr (wr h 232 (8 + (i : Int)) (szX (dt h0) k i)) 233 (8 + (i : Int)) (szY (dt h0) k i)) := Fy_wr f1 (by decide)
    have f3 : Fy h0 (wr (wr (wr h 232 (8 + (i : Int)) (szX (dt h0) k i)) 233 (8 + (i : Int)) (szY (dt h0) k i)) 234 (8 + (i : Int)) (szT (dt h0) k i)) := Fy_wr f2 (by decide)
    have u20 : rd h 214 (rd h 194 18) = dt h0 20 0 := congrFun (Fy_txt f 20 (by decide)) 0
    have u22 : rd h 204 (8 * rd h 194 18 + i) = dt h0 22 i := congrFun (Fy_txt f 22 (by decide)) i
    have l1 : rd (wr h 232 (8 + (i : Int)) (szX (dt h0) k i)) 194 18 = rd h0 194 18 := f1.2.2.2 18 (by decide)
    have l2 : rd (wr (wr h 232 (8 + (i : Int)) (szX (dt h0) k i)) 233 (8 + (i : Int)) (szY (dt h0) k i)) 194 18 = rd h0 194 18 := f2.2.2.2 18 (by decide)
    have u21 : rd (wr h 232 (8 + (i : Int)) (szX (dt h0) k i)) 215 (rd (wr h 232 (8 + (i : Int)) (szX (dt h0) k i)) 194 18) = dt h0 21 0 := congrFun (Fy_txt f1 21 (by decide)) 0
    have u23 : rd (wr h 232 (8 + (i : Int)) (szX (dt h0) k i)) 205 (8 * rd (wr h 232 (8 + (i : Int)) (szX (dt h0) k i)) 194 18 + i) = dt h0 23 i := congrFun (Fy_txt f1 23 (by decide)) i
    have u16 : rd (wr (wr h 232 (8 + (i : Int)) (szX (dt h0) k i)) 233 (8 + (i : Int)) (szY (dt h0) k i)) 207 (8 * rd (wr (wr h 232 (8 + (i : Int)) (szX (dt h0) k i)) 233 (8 + (i : Int)) (szY (dt h0) k i)) 194 18 + i) = dt h0 16 i := congrFun (Fy_txt f2 16 (by decide)) i
    have td : ((dt h0 16 i * k + 3).tdiv 4) = (dt h0 16 i * k + 3) / 4 := Int.tdiv_eq_ediv_of_nonneg (by omega)
    have es : Mod_isLarge_L17 F (n + 1) 194 k b al i h = Mod_isLarge_L17s F (Mod_isLarge_L17 F n) 194 k b al i h := rfl
    unfold Mod_isLarge_L17s at es
    rw [gM22 s, gM18 s, aM22 s (by omega) (by omega), e0, if_pos (by omega), gM55 s, gM33 s, gM18 s, aM33 s (by omega) (by omega), u20, gM23 s, gM18 s, w32_id (x := 8 * rd h 194 18) (by omega) (by omega), w32_id (x := 8 * rd h 194 18 + (i : Int)) (by omega) (by omega), aM23 s (by omega) (by omega), u22, gM33 s, gM18 s, aM33 s (by omega) (by omega), u20, w32_id (x := dt h0 22 i - dt h0 20 0) (by omega) (by omega), w32_id (x := (dt h0 22 i - dt h0 20 0) * k) (by omega) (by omega), dv_ok (by decide), w32_id (x := ((dt h0 22 i - dt h0 20 0) * k).tdiv 4) (by omega) (by omega), w32_id (x := dt h0 20 0 + ((dt h0 22 i - dt h0 20 0) * k).tdiv 4) (by omega) (by omega), w32_id (x := 8 + (i : Int)) (by omega) (by omega), sM55 s (by omega) (by omega), show dt h0 20 0 + ((dt h0 22 i - dt h0 20 0) * k).tdiv 4 = szX (dt h0) k i from rfl,
      gM56 f1.2.1, gM34 f1.2.1, gM18 f1.2.1, aM34 f1.2.1 (by rw [l1]; omega) (by rw [l1]; omega), u21, gM24 f1.2.1, gM18 f1.2.1, w32_id (x := 8 * rd (wr h 232 (8 + (i : Int)) (szX (dt h0) k i)) 194 18) (by rw [l1]; omega) (by rw [l1]; omega), w32_id (x := 8 * rd (wr h 232 (8 + (i : Int)) (szX (dt h0) k i)) 194 18 + (i : Int)) (by rw [l1]; omega) (by rw [l1]; omega), aM24 f1.2.1 (by rw [l1]; omega) (by rw [l1]; omega), u23, gM34 f1.2.1, gM18 f1.2.1, aM34 f1.2.1 (by rw [l1]; omega) (by rw [l1]; omega), u21, w32_id (x := dt h0 23 i - dt h0 21 0) (by omega) (by omega), w32_id (x := (dt h0 23 i - dt h0 21 0) * k) (by omega) (by omega), dv_ok (by decide), w32_id (x := ((dt h0 23 i - dt h0 21 0) * k).tdiv 4) (by omega) (by omega), w32_id (x := dt h0 21 0 + ((dt h0 23 i - dt h0 21 0) * k).tdiv 4) (by omega) (by omega), sM56 f1.2.1 (by omega) (by omega), show dt h0 21 0 + ((dt h0 23 i - dt h0 21 0) * k).tdiv 4 = szY (dt h0) k i from rfl,
      gM57 f2.2.1, gM26 f2.2.1, gM18 f2.2.1, w32_id (x := 8 * rd (wr (wr h 232 (8 + (i : Int)) (szX (dt h0) k i)) 233 (8 + (i : Int)) (szY (dt h0) k i)) 194 18) (by rw [l2]; omega) (by rw [l2]; omega), w32_id (x := 8 * rd (wr (wr h 232 (8 + (i : Int)) (szX (dt h0) k i)) 233 (8 + (i : Int)) (szY (dt h0) k i)) 194 18 + (i : Int)) (by rw [l2]; omega) (by rw [l2]; omega), aM26 f2.2.1 (by rw [l2]; omega) (by rw [l2]; omega), u16, w32_id (x := dt h0 16 i * k) (by omega) (by omega), w32_id (x := dt h0 16 i * k + 3) (by omega) (by omega), dv_ok (by decide), td, w32_id (x := (dt h0 16 i * k + 3) / 4) (by omega) (by omega), sM57 f2.2.1 (by omega) (by omega), show (dt h0 16 i * k + 3) / 4 = szT (dt h0) k i from rfl] at es
    have r2 : ∀ a, a ≠ 232 → a ≠ 233 → a ≠ 234 → rd (wr (wr (wr h 232 (8 + (i : Int)) (szX (dt h0) k i)) 233 (8 + (i : Int)) (szY (dt h0) k i)) 234 (8 + (i : Int)) (szT (dt h0) k i)) a = rd h a := fun a q1 q2 q3 => by rw [rd_wr_ne q3, rd_wr_ne q2, rd_wr_ne q1]
    have r32 : rd (wr (wr (wr h 232 (8 + (i : Int)) (szX (dt h0) k i)) 233 (8 + (i : Int)) (szY (dt h0) k i)) 234 (8 + (i : Int)) (szT (dt h0) k i)) 232 = up (rd h 232) (8 + (i : Int)) (szX (dt h0) k i) := by rw [rd_wr_ne (by decide), rd_wr_ne (by decide), wr_sr, rd_sr]
    have r33 : rd (wr (wr (wr h 232 (8 + (i : Int)) (szX (dt h0) k i)) 233 (8 + (i : Int)) (szY (dt h0) k i)) 234 (8 + (i : Int)) (szT (dt h0) k i)) 233 = up (rd h 233) (8 + (i : Int)) (szY (dt h0) k i) := by rw [rd_wr_ne (by decide), wr_sr, rd_sr, rd_wr_ne (by decide)]
    have r34 : rd (wr (wr (wr h 232 (8 + (i : Int)) (szX (dt h0) k i)) 233 (8 + (i : Int)) (szY (dt h0) k i)) 234 (8 + (i : Int)) (szT (dt h0) k i)) 234 = up (rd h 234) (8 + (i : Int)) (szT (dt h0) k i) := by rw [wr_sr, rd_sr, rd_wr_ne (by decide), rd_wr_ne (by decide)]
    generalize wr (wr (wr h 232 (8 + (i : Int)) (szX (dt h0) k i)) 233 (8 + (i : Int)) (szY (dt h0) k i)) 234 (8 + (i : Int)) (szT (dt h0) k i) = h3 at es f3 r2 r32 r33 r34
    have hl3 : rd h3 194 18 = rd h0 194 18 := f3.2.2.2 18 (by decide)
    obtain ⟨h4, k4, q4⟩ := m_laysPart (F := F) (h := h3) (p := 8 + (i : Int)) (L := L) hF f3.2.1 (by rw [hl3]; exact hl) (by omega) (Fy_RL f3 g0)
    have a12 : rd h3 212 (rd h3 194 18) = dt h0 17 0 := congrFun (Fy_txt f3 17 (by decide)) 0
    have a13 : rd h3 213 (rd h3 194 18) = dt h0 18 0 := congrFun (Fy_txt f3 18 (by decide)) 0
    rw [a12, a13, r32, r33, r34, up_s, up_s, up_s, r2 229 (by decide) (by decide) (by decide), z.1 229 (by decide) (by decide), r2 236 (by decide) (by decide) (by decide), r2 237 (by decide) (by decide) (by decide), r2 238 (by decide) (by decide) (by decide)] at q4
    have f4 : Fy h0 (wr h4 235 (8 + (i : Int)) (hgV L (szX (dt h0) k i) (szY (dt h0) k i))) := Fy_wr (Fy_Lk f3 k4) (by decide)
    rw [ivM f3.2.1, q4, cl_some, w32_nat (by omega)] at es
    rw [es]
    have f5 : ∀ A B C, Fy h0 (lyH (wr h4 235 (8 + (i : Int)) (hgV L (szX (dt h0) k i) (szY (dt h0) k i))) A B C) := fun A B C => Fy_sr (Fy_sr (Fy_sr f4 (by decide)) (by decide)) (by decide)
    have v5 : ∀ A B C a, 229 ≤ a → a ≤ 234 → rd (lyH (wr h4 235 (8 + (i : Int)) (hgV L (szX (dt h0) k i) (szY (dt h0) k i))) A B C) a = rd h3 a := fun A B C a q1 q2 => by rw [lyH_ne (by omega), rd_wr_ne (by omega), k4.2.2.1 a (by omega) (by omega)]
    have v35 : ∀ A B C j, j ≠ 8 + (i : Int) → rd (lyH (wr h4 235 (8 + (i : Int)) (hgV L (szX (dt h0) k i) (szY (dt h0) k i))) A B C) 235 j = rd h 235 j := fun A B C j hj => by rw [lyH_ne (by decide), rd_i hj, k4.2.2.1 235 (by decide) (by decide), r2 235 (by decide) (by decide) (by decide)]
    refine ih n (i + 1) _ (by omega) (by omega) (f5 _ _ _) ⟨fun a q1 q2 => ?_, fun a j q1 q2 q3 => ?_, fun a j q1 q2 q3 => ?_, fun j q3 => ?_, fun p p0 p1 => ?_⟩
    · rw [v5 _ _ _ a (by omega) (by omega), r2 a (by omega) (by omega) (by omega)]; exact z.1 a q1 q2
    · have zz := z.2.1 a j q1 q2 q3
      by_cases e35 : a = 235
      · subst e35
        rw [v35 _ _ _ j (by omega)]; exact zz
      · rw [v5 _ _ _ a (by omega) (by omega), ← zz]
        by_cases e32 : a = 232
        · rw [e32, r32, up_n (by omega)]
        · by_cases e33 : a = 233
          · rw [e33, r33, up_n (by omega)]
          · rw [show a = 234 by omega, r34, up_n (by omega)]
    · have zz := z.2.2.1 a j q1 q2 q3
      by_cases e36 : a = 236
      · subst e36
        rw [lyH_6, putA_out (by omega)]; exact zz
      · have e37 : a = 237 := by omega
        subst e37
        rw [lyH_7, putA_out (by omega)]; exact zz
    · rw [lyH_8, putA_out (by omega)]; exact z.2.2.2.1 j q3
    · rw [v5 _ _ _ 232 (by decide) (by decide), v5 _ _ _ 233 (by decide) (by decide), v5 _ _ _ 234 (by decide) (by decide), r32, r33, r34, lyH_8]
      by_cases pe : p = i
      · subst pe
        rw [up_s, up_s, up_s]
        refine ⟨rfl, rfl, rfl, fun m m0 m1 => ?_⟩
        rw [putA_in (by omega)]
        rfl
      · obtain ⟨z1, z2, z3, z4⟩ := z.2.2.2.2 p p0 (by omega)
        rw [up_n (by omega), up_n (by omega), up_n (by omega)]
        refine ⟨z1, z2, z3, fun m m0 m1 => ?_⟩
        rw [putA_out (by omega)]
        exact z4 m m0 m1
