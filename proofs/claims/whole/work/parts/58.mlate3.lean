/-! isSo -/
theorem bg38 {h : Hp} (m : Mo h) {w : Int} (hw : 0 ≤ w ∧ w < dt h 1 0) : bgR (dt h) (38 + w) = 0 := by
  have h3 := m.2.2.2.1
  unfold bgR
  rw [if_neg (by omega), if_neg (by omega), if_neg (by omega), if_neg (by omega)]
theorem Rok_late {h : Hp} (m : Mo h) {w d : Int} (hw : 0 ≤ w ∧ w < dt h 1 0) (hd : 0 ≤ d ∧ d ≤ 600) : Rok (dt h) (up (bgR (dt h)) (38 + w) d) := by
  have h3 := m.2.2.2.1
  have hr := Rok_bg m
  refine ⟨fun v h1 h2 => ?_, fun p h1 h2 => ?_⟩
  · have a := hr.1 v h1 h2
    by_cases hv : v = w
    · subst hv
      rw [up_n (by omega), up_n (by omega), up_s]
      omega
    · rw [up_n (by omega), up_n (by omega), up_n (by omega)]
      exact a
  · rw [up_n (by omega)]; exact hr.2 p h1 h2
def soR (h : Hp) (w d : Int) : Int → Int := rpR (dt h) (up (bgR (dt h)) (38 + w) d) (rd h 239) (rd h 239 44).toNat
theorem m_isSo {F : Nat} {h : Hp} {w d : Int} {k : Nat} (hF : 1000 ≤ F) (m : MS h) (ha : Aok (dt h) (rd h 239)) (ht : Tdk h) (hw : 0 ≤ w ∧ w < dt h 1 0) (hd : 0 ≤ d ∧ d ≤ 600) (hk : (k : Int) ≤ rd h 194 80) (h30 : rd h 239 44 ≤ 30) : Mod_isSo F 194 w d k h = some (if alN (sayD h (soR h w d)) k then 1 else 0, sr h 240 (soR h w d)) := by
  have mo := m.1
  have h3 := mo.2.2.2.1
  have h44 := m.2.2.2.2.1
  have hs : ∀ X, Sh (sr h 240 X) := fun X => Sh_sr mo.1 (by decide) (by decide)
  have hr := Rok_late mo hw hd
  unfold Mod_isSo
  rw [ivM mo.1, m_begins hF mo m.2.2.1, cl_some, gM63 (hs _), w32_id (x := 38 + w) (by omega) (by omega), aM63 (hs _) (by omega) (by omega), rd_sr, bg38 mo hw, w32_id (x := 0 + d) (by omega) (by omega), Int.zero_add, sM63 (hs _) (by omega) (by omega), wr_up]
  refine loop0 (fun n i => Mod_isSo_L20 F n 194 k (i : Int) (sr h 240 (rpR (dt h) (up (bgR (dt h)) (38 + w) d) (rd h 239) i))) (rd h 239 44).toNat F _ (by omega) (fun n i hi => ?_) (fun n => ?_)
  · show Mod_isSo_L20s F (Mod_isSo_L20 F n) 194 k i _ = _
    rw [m_isSo_L20s hF _ mo (rpR_ok mo hr ha i (by omega) (by omega)) ha (by omega) (by omega)]
    rfl
  · show Mod_isSo_L20s F (Mod_isSo_L20 F n) 194 k _ _ = _
    unfold Mod_isSo_L20s
    rw [gM62 (hs _), aM62 (hs _) (by decide) (by decide), rd_sr_ne (by decide), if_neg (by omega), m_isSo_L125 hF mo (rpR_ok mo hr ha _ (by omega) (by omega)) ht hk m.2.2.2.2.2.2.2]
    rfl
