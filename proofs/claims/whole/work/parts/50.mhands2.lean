/-! hands, whole; count -/
def hanC (h : Hp) (b : Int) (w s : Nat) : Bool := wcan (dt h) (rd h 239) w b s
def hanS (h : Hp) (b : Int) : Nat := hnB (dt h) (shW (hanC h b) (dt h 1 0).toNat) 255
def hanA (h : Hp) (b q : Int) : Int := if ¬ ((0 ≤ b ∧ b ≤ 600) ∧ (0 ≤ q ∧ q ≤ 1)) then -1 else if q = 0 then wbV (dt h) (hanS h b) else ((hanS h b : Nat) : Int)
theorem m_hands {F : Nat} {h : Hp} {b q : Int} (hF : 1000 ≤ F) (m : MT h) : ∃ h', Mod_hands F 194 b q h = some (hanA h b q, h') ∧ Fr h h' := by
  have mo := m.1.1
  have s := mo.1
  have hw3 := mo.2.2.2.1
  unfold Mod_hands hanA
  rw [m_isBy, cl_some]
  by_cases hb : 0 ≤ b ∧ b ≤ 600
  · rw [if_pos hb, if_neg (by decide), m_in, cl_some]
    by_cases hq : 0 ≤ q ∧ q ≤ 1
    · rw [if_pos hq, if_neg (by decide), if_neg (not_not_intro ⟨hb, hq⟩), ivM s, m_copies' hF m.1, cl_some]
      refine loopE (fun n i g => Mod_hands_L24 F n 194 b q (i : Int) g) (dt h 1 0).toNat (fun i g => Fr h g ∧ rd g 240 = rd h 239 ∧ ∀ w : Nat, w < i → ∀ n : Nat, n < 256 → rd g 244 (256 * (w : Int) + n) = if hanC h b w n then 1 else 0) (fun o => ∃ h', o = some (if q = 0 then wbV (dt h) (hanS h b) else ((hanS h b : Nat) : Int), h') ∧ Fr h h') (fun n i g hi hp => ?_) (fun n g hp => ?_) (dt h 1 0).toNat F 0 (cpH h) (by omega) (by omega) ⟨Fr_cp m, cpH_240 h, fun w hw => by omega⟩
      · left
        obtain ⟨fg, p1, p2⟩ := hp
        show ∃ h', _ ∧ Mod_hands_L24s F (Mod_hands_L24 F n) 194 b q i g = _
        have sg := fg.2.1
        have hl := (Fr_MT m fg).1.1.2.1
        have e0 : rd g 208 (rd g 194 18) = dt h 1 0 := congrFun (congrFun (Fr_dt fg) 1) 0
        obtain ⟨a1, a2, a3, g1, a4, a5, a6, a7⟩ := m_canStep (F := F) (w := i) (b := b) hF m fg p1 ⟨by omega, by omega⟩
        have nd := m_neverDone (F := F) hF (Fr_MT m a2).1.1
        rw [Fr_dt a2, a3] at nd
        refine ⟨g1, ⟨a5, a6, fun w hw n hn => ?_⟩, ?_⟩
        · rw [a7]
          by_cases hwi : w = i
          · rw [hwi, putA_in (by omega), Int.toNat_natCast, wcV_if]; rfl
          · rw [putA_out (by omega)]; exact p2 w (by omega) n hn
        · unfold Mod_hands_L24s
          rw [gM27 sg, gM18 sg, aM27 sg (by omega) (by omega), e0, if_pos (by omega), ivM sg, a1, cl_some, ivM a2.2.1, nd, cl_some, ivM a2.2.1, w32_nat (by omega)]
          show cl (Mod_fillsCan F 194 i ((nevN (dt h) (rd h 239) : Nat) : Int) b (stH g i 0)) _ = _
          rw [a4, cl_some]
      · obtain ⟨fg, p1, p2⟩ := hp
        show ∃ h', Mod_hands_L24s F (Mod_hands_L24 F n) 194 b q _ g = _ ∧ _
        have sg := fg.2.1
        have hl := (Fr_MT m fg).1.1.2.1
        have e0 : rd g 208 (rd g 194 18) = dt h 1 0 := congrFun (congrFun (Fr_dt fg) 1) 0
        obtain ⟨g1, a1, a2, a3, a4⟩ := m_sharesAll (C := hanC h b) hF m fg (fun w hw n hn => p2 w (by omega) n hn)
        have m1 := Fr_MT m a2
        have hlt : ∀ v, shW (hanC h b) (dt h 1 0).toNat v = true → v < 2 ^ (dt h 0 0).toNat := fun v hv => shW_lt (fun w v h => wcan_lt h) _ v hv
        have k := m_hands_L68 (F := F) (q := q) (A := shW (hanC h b) (dt h 1 0).toNat) hF m1.1.1 (by rw [Fr_dt a2]; exact hlt) a4
        rw [Fr_dt a2] at k
        refine ⟨g1, ?_, a2⟩
        unfold Mod_hands_L24s Mod_hands_B59
        rw [gM27 sg, gM18 sg, aM27 sg (by omega) (by omega), e0, if_neg (by omega), ivM sg, a1, cl_some, k]
        rfl
    · rw [if_neg hq, if_pos rfl, if_pos (fun z => hq z.2)]
      exact ⟨h, rfl, Fr_refl m⟩
  · rw [if_neg hb, if_pos rfl, if_pos (fun z => hb z.1)]
    exact ⟨h, rfl, Fr_refl m⟩
def cntA (h : Hp) (q : Int) : Int := if q = 0 then dt h 0 0 else if q = 1 then dt h 1 0 else if q = 2 then dt h 17 0 else if q = 3 then dt h 18 0 else if q = 4 then smN (fun p => if rd h 239 p = -2 then 0 else 1) (dt h 0 0).toNat else if q = 5 then smN (fun p => rd h 239 (8 + p)) (dt h 0 0).toNat else if q = 6 then rd h 239 44 else if q = 7 then rd h 194 2 else if q = 8 then rd h 194 64 else if q = 9 then rd h 194 80 else if q = 10 then (if rd h 252 0 = 0 then 0 else 1) + (if rd h 252 1 = 0 then 0 else 1) + (if rd h 252 2 = 0 then 0 else 1) else -1
theorem sm_in {f : Int → Int} {k : Nat} (hf : ∀ p : Nat, p < k → 0 ≤ f p ∧ f p ≤ 1) : ∀ n : Nat, n ≤ k → 0 ≤ smN f n ∧ smN f n ≤ n
  | 0, _ => by simp [smN]
  | n + 1, hn => by
    have ih := sm_in hf n (by omega)
    have := hf n (by omega)
    have e : smN f (n + 1) = smN f n + f n := rfl
    rw [e]
    omega
theorem m_cnt227 {F : Nat} {h : Hp} {x y : Int} (s : Sh h) : Mod_count_B227 F 194 x y h = some (w32 (w32 (y + x) + (if rd h 252 2 = 0 then 0 else 1)), h) := by
  unfold Mod_count_B227
  rw [gM84 s, aM84 s (by decide) (by decide)]
  by_cases a2 : rd h 252 2 = 0
  · rw [if_pos a2, if_pos a2]
  · rw [if_neg a2, if_neg a2]
theorem m_cnt213 {F : Nat} {h : Hp} {y : Int} (s : Sh h) : Mod_count_B213 F 194 y h = some (w32 (w32 (y + (if rd h 252 1 = 0 then 0 else 1)) + (if rd h 252 2 = 0 then 0 else 1)), h) := by
  unfold Mod_count_B213
  rw [gM84 s, aM84 s (by decide) (by decide), m_cnt227 s, m_cnt227 s]
  by_cases a2 : rd h 252 1 = 0
  · rw [if_pos a2, if_pos a2]
  · rw [if_neg a2, if_neg a2]
theorem m_count {F : Nat} {h : Hp} {q : Int} (hF : 1000 ≤ F) (m : Mo h) (h01 : ∀ p : Int, 0 ≤ p → p < dt h 0 0 → 0 ≤ rd h 239 (8 + p) ∧ rd h 239 (8 + p) ≤ 1) : Mod_count F 194 q h = some (cntA h q, h) := by
  have s := m.1
  have hl := m.2.1
  have hp8 := m.2.2.1
  have e0 : rd h 203 (rd h 194 18) = dt h 0 0 := rfl
  unfold Mod_count cntA
  by_cases q0 : q = 0
  · rw [tsw_at 0 (by omega) (by decide), if_pos q0, gM22 s, gM18 s, aM22 s (by omega) (by omega)]; rfl
  rw [if_neg q0]
  by_cases q1 : q = 1
  · rw [tsw_at 1 (by omega) (by decide), if_pos q1, gM27 s, gM18 s, aM27 s (by omega) (by omega)]; rfl
  rw [if_neg q1]
  by_cases q2 : q = 2
  · rw [tsw_at 2 (by omega) (by decide), if_pos q2, gM31 s, gM18 s, aM31 s (by omega) (by omega)]; rfl
  rw [if_neg q2]
  by_cases q3 : q = 3
  · rw [tsw_at 3 (by omega) (by decide), if_pos q3, gM32 s, gM18 s, aM32 s (by omega) (by omega)]; rfl
  rw [if_neg q3]
  by_cases q4 : q = 4
  · rw [tsw_at 4 (by omega) (by decide), if_pos q4]
    refine loop0 (fun n i => Mod_count_L104 F n 194 (smN (fun p => if rd h 239 p = -2 then 0 else 1) i) (i : Int) h) (dt h 0 0).toNat F _ (by omega) (fun n i hi => ?_) (fun n => ?_)
    · show Mod_count_L104s F (Mod_count_L104 F n) 194 _ i h = _
      have b := sm_in (f := fun p => if rd h 239 p = -2 then 0 else 1) (k := 8) (fun p _ => by show 0 ≤ (if rd h 239 p = -2 then (0 : Int) else 1) ∧ (if rd h 239 p = -2 then (0 : Int) else 1) ≤ 1; split <;> decide) i (by omega)
      have e : smN (fun p => if rd h 239 p = -2 then 0 else 1) (i + 1) = smN (fun p => if rd h 239 p = -2 then 0 else 1) i + (if rd h 239 i = -2 then 0 else 1) := rfl
      rw [e]
      unfold Mod_count_L104s
      rw [gM22 s, gM18 s, aM22 s (by omega) (by omega), e0, if_pos (by omega), gM62 s, aM62 s (by omega) (by omega), w32_nat (by omega)]
      by_cases hc : rd h 239 i = -2
      · rw [if_pos hc, if_pos hc, Int.add_zero]
      · rw [if_neg hc, if_neg hc, w32_id (by omega) (by omega)]
    · show Mod_count_L104s F (Mod_count_L104 F n) 194 _ _ h = _
      unfold Mod_count_L104s
      rw [gM22 s, gM18 s, aM22 s (by omega) (by omega), e0, if_neg (by omega)]
  rw [if_neg q4]
  by_cases q5 : q = 5
  · rw [tsw_at 5 (by omega) (by decide), if_pos q5]
    refine loop0 (fun n i => Mod_count_L143 F n 194 (smN (fun p => rd h 239 (8 + p)) i) (i : Int) h) (dt h 0 0).toNat F _ (by omega) (fun n i hi => ?_) (fun n => ?_)
    · show Mod_count_L143s F (Mod_count_L143 F n) 194 _ i h = _
      have b := sm_in (f := fun p => rd h 239 (8 + p)) (k := (dt h 0 0).toNat) (fun p hp => h01 p (by omega) (by omega)) i (by omega)
      have b2 := h01 i (by omega) (by omega)
      have e : smN (fun p => rd h 239 (8 + p)) (i + 1) = smN (fun p => rd h 239 (8 + p)) i + rd h 239 (8 + i) := rfl
      rw [e]
      unfold Mod_count_L143s
      rw [gM22 s, gM18 s, aM22 s (by omega) (by omega), e0, if_pos (by omega), gM62 s, w32_id (x := 8 + (i : Int)) (by omega) (by omega), aM62 s (by omega) (by omega), w32_nat (by omega), w32_id (by omega) (by omega), lt_eq]
    · show Mod_count_L143s F (Mod_count_L143 F n) 194 _ _ h = _
      unfold Mod_count_L143s
      rw [gM22 s, gM18 s, aM22 s (by omega) (by omega), e0, if_neg (by omega)]
  rw [if_neg q5]
  by_cases q6 : q = 6
  · rw [tsw_at 6 (by omega) (by decide), if_pos q6, gM62 s, aM62 s (by decide) (by decide)]; rfl
  rw [if_neg q6]
  by_cases q7 : q = 7
  · rw [tsw_at 7 (by omega) (by decide), if_pos q7, gM2 s]; rfl
  rw [if_neg q7]
  by_cases q8 : q = 8
  · rw [tsw_at 8 (by omega) (by decide), if_pos q8, gM64 s]; rfl
  rw [if_neg q8]
  by_cases q9 : q = 9
  · rw [tsw_at 9 (by omega) (by decide), if_pos q9, gM80 s]; rfl
  rw [if_neg q9]
  by_cases q10 : q = 10
  · rw [tsw_at 10 (by omega) (by decide), if_pos q10]
    show (gf h 194 112 84 fun v18 => al h v18 2 0 fun v19 => if v19 = 0 then Mod_count_B213 F 194 0 h else Mod_count_B213 F 194 1 h) = _
    rw [gM84 s, aM84 s (by decide) (by decide), m_cnt213 s, m_cnt213 s]
    by_cases a0 : rd h 252 0 = 0
    · rw [if_pos a0, if_pos a0]
      by_cases a1 : rd h 252 1 = 0
      · rw [if_pos a1]
        by_cases a2 : rd h 252 2 = 0
        · rw [if_pos a2]; rfl
        · rw [if_neg a2]; rfl
      · rw [if_neg a1]
        by_cases a2 : rd h 252 2 = 0
        · rw [if_pos a2]; rfl
        · rw [if_neg a2]; rfl
    · rw [if_neg a0, if_neg a0]
      by_cases a1 : rd h 252 1 = 0
      · rw [if_pos a1]
        by_cases a2 : rd h 252 2 = 0
        · rw [if_pos a2]; rfl
        · rw [if_neg a2]; rfl
      · rw [if_neg a1]
        by_cases a2 : rd h 252 2 = 0
        · rw [if_pos a2]; rfl
        · rw [if_neg a2]; rfl
  rw [if_neg q10, tsw_no (by omega)]
