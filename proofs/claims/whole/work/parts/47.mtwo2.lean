/-! two, whole -/
theorem nev_lt (D : Nat → Int → Int) (N : Int → Int) : nevN D N < 2 ^ (D 0 0).toNat := setN_lt _ _
def wcV (D : Nat → Int → Int) (N : Int → Int) (w b : Int) (s : Nat) : Int := canV (CT D (plG N w 0 0) w (nevN D N)) (N (38 + w) + 0) b (nevN D N) s
def wcan (D : Nat → Int → Int) (N : Int → Int) (w b : Int) (s : Nat) : Bool := decide (wcV D N w b s = 1)
theorem wcV_if (D : Nat → Int → Int) (N : Int → Int) (w b : Int) (s : Nat) : wcV D N w b s = if wcan D N w b s then 1 else 0 := by
  unfold wcan
  rcases canV_01 (CT D (plG N w 0 0) w (nevN D N)) (N (38 + w) + 0) b (nevN D N) s with q | q
  · have q' : wcV D N w b s = 0 := q
    rw [q']; rfl
  · have q' : wcV D N w b s = 1 := q
    rw [q']; rfl
theorem wcan_lt {D : Nat → Int → Int} {N : Int → Int} {w b : Int} {s : Nat} (h : wcan D N w b s = true) : s < 2 ^ (D 0 0).toNat := by
  have h1 : wcV D N w b s = 1 := by unfold wcan at h; simpa using h
  unfold wcV canV at h1
  split at h1
  · rename_i h2
    have h3 : s ≤ nevN D N := by rw [← h2.1]; exact Nat.and_le_right
    have := nev_lt D N
    omega
  · exact absurd h1 (by decide)
theorem m_canStep {F : Nat} {h g : Hp} {w b : Int} (hF : 1000 ≤ F) (m : MT h) (fg : Fr h g) (r : rd g 240 = rd h 239) (hw : 0 ≤ w ∧ w < dt h 1 0) :
    Mod_startsAs F 194 w 0 g = some (0, stH g w 0) ∧ Fr h (stH g w 0) ∧ rd (stH g w 0) 240 = rd h 239 ∧ ∃ g', Mod_fillsCan F 194 w ((nevN (dt h) (rd h 239) : Nat) : Int) b (stH g w 0) = some (0, g') ∧ Fr h g' ∧ rd g' 240 = rd h 239 ∧ rd g' 244 = putA (rd g 244) (256 * w) 256 (fun j => wcV (dt h) (rd h 239) w b j.toNat) := by
  have mo := m.1.1
  have hw3 := mo.2.2.2.1
  have hr := m.1.2.2.2.1
  have hr6 := hr.1 w hw.1 hw.2
  have fs := Fr_st fg w 0
  have ms := Fr_MT m fs
  have e240 : rd (stH g w 0) 240 = rd h 239 := by rw [st_240, r]
  have e244 : rd (stH g w 0) 244 = rd g 244 := by
    unfold stH
    rw [rd_wr_ne (by decide), rd_wr_ne (by decide), rd_wr_ne (by decide), rd_wr_ne (by decide), rd_wr_ne (by decide)]
  have eP : Pg (stH g w 0) = plG (rd h 239) w 0 0 := by rw [Pg_st, r]
  have e69 : rd (stH g w 0) 194 69 = rd h 239 (38 + w) + 0 := congrFun eP 2
  have ed := Fr_dt fs
  have gk := G_pl mo hr (e := 0) (d := 0) hw (by decide)
  have fc := m_fillsCan (F := F) (b := b) (al := nevN (dt h) (rd h 239)) hF ms.1.1 (by rw [ed, eP]; exact gk) ms.2 (by rw [ed]; exact hw) (by rw [ed]; exact nev_lt _ _)
  have tok := tabF_ok mo gk ms.2 (al := nevN (dt h) (rd h 239)) hw
  rw [ed, eP, e69, e244] at fc
  refine ⟨m_startsAs fg.2.1 (by omega) (by decide) (by rw [r]; omega), fs, e240, _, fc, Fr_sr (Fr_242 fs tok) (by decide), ?_, ?_⟩
  · rw [rd_sr_ne (by decide), rd_sr_ne (by decide)]; exact e240
  · rw [rd_sr]; rfl
theorem putA_in {C g : Int → Int} {o i j : Int} (h : 0 ≤ j ∧ j < i) : putA C o i g (o + j) = g j := by
  unfold putA
  rw [if_pos (by omega), show o + j - o = j by omega]
theorem putA_out {C g : Int → Int} {o i j : Int} (h : j < o ∨ o + i ≤ j) : putA C o i g j = C j := by
  unfold putA
  rw [if_neg (by omega)]
theorem m_two_L87 {F : Nat} {h : Hp} {w o q : Int} {cw co : Nat → Bool} (hF : 1000 ≤ F) (m : Mo h) (hw : 0 ≤ w ∧ w < 3) (ho : 0 ≤ o ∧ o < 3) (hcw : ∀ n, cw n = true → n < 2 ^ (dt h 0 0).toNat) (hc : ∀ n, co n = true → n < 2 ^ (dt h 0 0).toNat) (hvw : ∀ n : Nat, n < 256 → rd h 244 (256 * w + n) = if cw n then 1 else 0) (hv : ∀ n : Nat, n < 256 → rd h 244 (256 * o + n) = if co n then 1 else 0) :
    Mod_two_L87 F F 194 w o q 0 0 0 h = some (if q = 0 then wbV (dt h) ((twO (dt h) cw co 256).1 ||| (twO (dt h) cw co 256).2) else if q = 1 then (((twO (dt h) cw co 256).1 : Nat) : Int) else (((twO (dt h) cw co 256).2 : Nat) : Int), h) := by
  have sh := m.1
  have h256 := two8 (D8 m)
  have hpos : 0 < 2 ^ (dt h 0 0).toNat := Nat.two_pow_pos _
  refine loop0 (fun n i => Mod_two_L87 F n 194 w o q (((twO (dt h) cw co i).1 : Nat) : Int) (((twO (dt h) cw co i).2 : Nat) : Int) (i : Int) h) 256 F _ (by omega) (fun n i hi => ?_) (fun n => ?_)
  · show Mod_two_L87s F (Mod_two_L87 F n) 194 w o q _ _ i h = _
    have lt := twO_lt (D := dt h) hpos hcw hc i
    have e : twO (dt h) cw co (i + 1) = if cw i then twI (dt h) co i (twO (dt h) cw co i) 256 else twO (dt h) cw co i := rfl
    rw [e]
    unfold Mod_two_L87s
    rw [if_pos (by omega), gM74 sh, w32_id (x := 256 * w) (by omega) (by omega), w32_id (x := 256 * w + (i : Int)) (by omega) (by omega), aM74 sh (by omega) (by omega), hvw i hi, w32_nat (by omega)]
    by_cases h2 : cw i = true
    · rw [if_pos h2, if_neg (by decide), if_pos h2]
      exact m_two_L117 hF _ m ho (hcw i h2) lt hc hv
    · rw [if_neg h2, if_pos rfl, if_neg h2]
  · show Mod_two_L87s F (Mod_two_L87 F n) 194 w o q _ _ _ h = _
    have lt := twO_lt (D := dt h) hpos hcw hc 256
    have o2 := Nat.or_lt_two_pow lt.1 lt.2
    unfold Mod_two_L87s Mod_two_B193
    rw [if_neg (by decide), ior_nat (by omega) (by omega), ivM sh, m_worthBy hF m o2, cl_some]
    by_cases h0 : q = 0
    · rw [if_pos h0, if_pos h0]
    · rw [if_neg h0, if_neg h0]
      by_cases h1 : q = 1
      · rw [if_pos h1, if_pos h1]
      · rw [if_neg h1, if_neg h1]
def twoR (h : Hp) (w o b : Int) : Nat × Nat := twO (dt h) (wcan (dt h) (rd h 239) w b) (wcan (dt h) (rd h 239) o b) 256
def twoA (h : Hp) (w o b q : Int) : Int := if ¬ (((0 ≤ w ∧ w < dt h 1 0) ∧ (0 ≤ o ∧ o < dt h 1 0) ∧ ¬ w = o) ∧ (0 ≤ b ∧ b ≤ 600) ∧ (0 ≤ q ∧ q ≤ 2)) then -1 else if q = 0 then wbV (dt h) ((twoR h w o b).1 ||| (twoR h w o b).2) else if q = 1 then (((twoR h w o b).1 : Nat) : Int) else (((twoR h w o b).2 : Nat) : Int)
theorem m_two {F : Nat} {h : Hp} {w o b q : Int} (hF : 1000 ≤ F) (m : MT h) : ∃ h', Mod_two F 194 w o b q h = some (twoA h w o b q, h') ∧ Fr h h' := by
  have mo := m.1.1
  have s := mo.1
  have hw3 := mo.2.2.2.1
  unfold Mod_two twoA
  rw [ivM s, m_isWorker mo, cl_some]
  by_cases hw : 0 ≤ w ∧ w < dt h 1 0
  · rw [if_pos hw, if_neg (by decide), ivM s, m_isWorker mo, cl_some]
    by_cases ho : 0 ≤ o ∧ o < dt h 1 0
    · rw [if_pos ho, if_neg (by decide)]
      by_cases hwo : w = o
      · rw [if_pos hwo, if_pos (fun z => z.1.2.2 hwo)]
        exact ⟨h, rfl, Fr_refl m⟩
      · rw [if_neg hwo, m_isBy, cl_some]
        by_cases hb : 0 ≤ b ∧ b ≤ 600
        · rw [if_pos hb, if_neg (by decide), m_in, cl_some]
          by_cases hq : 0 ≤ q ∧ q ≤ 2
          · rw [if_pos hq, if_neg (by decide), if_neg (not_not_intro ⟨⟨hw, ho, hwo⟩, hb, hq⟩)]
            have fc := Fr_cp m
            have mc := Fr_MT m fc
            have nd := m_neverDone (F := F) hF mc.1.1
            rw [cpH_dt, cpH_240] at nd
            obtain ⟨a1, a2, a3, g1, a4, a5, a6, a7⟩ := m_canStep (F := F) (b := b) hF m fc (cpH_240 h) hw
            obtain ⟨b1, b2, b3, g2, b4, b5, b6, b7⟩ := m_canStep (F := F) (b := b) hF m a5 a6 ho
            have m2 := Fr_MT m b5
            have key := m_two_L87 (F := F) (h := g2) (w := w) (o := o) (q := q) (cw := wcan (dt h) (rd h 239) w b) (co := wcan (dt h) (rd h 239) o b) hF m2.1.1 (by omega) (by omega) (fun n hn => by rw [Fr_dt b5]; exact wcan_lt hn) (fun n hn => by rw [Fr_dt b5]; exact wcan_lt hn)
              (fun n hn => by rw [b7, putA_out (by omega), a7, putA_in (by omega), Int.toNat_natCast, wcV_if]) (fun n hn => by rw [b7, putA_in (by omega), Int.toNat_natCast, wcV_if])
            rw [Fr_dt b5] at key
            refine ⟨g2, ?_, b5⟩
            rw [ivM s, m_copies' hF m.1, cl_some]
            show iv (cpH h) 194 112 (Mod_neverDone F 194 (cpH h)) _ = _
            rw [ivM fc.2.1, nd, cl_some, ivM fc.2.1, a1, cl_some, ivM a2.2.1]
            show cl (Mod_fillsCan F 194 w ((nevN (dt h) (rd h 239) : Nat) : Int) b (stH (cpH h) w 0)) _ = _
            rw [a4, cl_some, ivM a5.2.1, b1, cl_some, ivM b2.2.1]
            show cl (Mod_fillsCan F 194 o ((nevN (dt h) (rd h 239) : Nat) : Int) b (stH g1 o 0)) _ = _
            rw [b4, cl_some]
            exact key
          · rw [if_neg hq, if_pos rfl, if_pos (fun z => hq z.2.2)]
            exact ⟨h, rfl, Fr_refl m⟩
        · rw [if_neg hb, if_pos rfl, if_pos (fun z => hb z.2.1)]
          exact ⟨h, rfl, Fr_refl m⟩
    · rw [if_neg ho, if_pos rfl, if_pos (fun z => ho z.1.2.1)]
      exact ⟨h, rfl, Fr_refl m⟩
  · rw [if_neg hw, if_pos rfl, if_pos (fun z => hw z.1.1)]
    exact ⟨h, rfl, Fr_refl m⟩
