/-! hope -/
theorem smP_in {f : Int → Int} (hf : ∀ k, 0 ≤ f k ∧ f k ≤ 79200) : ∀ n : Nat, 0 ≤ smN f n ∧ smN f n ≤ 79200 * n
  | 0 => by simp [smN]
  | n + 1 => by
    have ih := smP_in hf n
    have := hf n
    have e : smN f (n + 1) = smN f n + f n := rfl
    rw [e]
    omega
def hopA (h : Hp) (t n : Int) : Int := if ¬ ((0 ≤ t ∧ t < 600) ∧ (1 ≤ n ∧ n ≤ 50)) then -1 else smN (fun k => pbV (dt h) (rd h 239) (dt h 19 0 + k) t) n.toNat
theorem m_hope {F : Nat} {t n : Int} {h : Hp} (hF : 1000 ≤ F) (m : MT h) (hs : seedOk h) : ∃ h', Mod_hope F 194 t n h = some (hopA h t n, h') ∧ Fr h h' := by
  have fc := Fr_cp m
  obtain ⟨mc, rc⟩ := cp_facts m.1
  unfold Mod_hope hopA
  rw [m_isMinute, cl_some]
  by_cases ht : 0 ≤ t ∧ t < 600
  · rw [if_pos ht, if_neg (by decide), m_in, cl_some]
    by_cases hn : 1 ≤ n ∧ n ≤ 50
    · rw [if_pos hn, if_neg (by decide), if_neg (not_not_intro ⟨ht, hn⟩), ivM m.1.1.1, m_copies' hF m.1, cl_some]
      refine ⟨cpH h, ?_, fc⟩
      have hs' := hs
      unfold seedOk at hs'
      have e19 : rd (cpH h) 216 (rd (cpH h) 194 18) = dt h 19 0 := congrFun (congrFun (cpH_dt h) 19) 0
      have hl := mc.2.1
      refine loop0 (fun k i => Mod_hope_L28 F k 194 t n (smN (fun k => pbV (dt h) (rd h 239) (dt h 19 0 + k) t) i) (i : Int) (cpH h)) n.toNat F _ (by omega) (fun k i hi => ?_) (fun k => ?_)
      · show Mod_hope_L28s F (Mod_hope_L28 F k) 194 t n _ i (cpH h) = _
        have b := smP_in (f := fun k => pbV (dt h) (rd h 239) (dt h 19 0 + k) t) (fun k => pbV_in m.1.1 ht) i
        have b2 := pbV_in m.1.1 (R := rd h 239) (s := dt h 19 0 + i) ht
        have e : smN (fun k => pbV (dt h) (rd h 239) (dt h 19 0 + k) t) (i + 1) = smN (fun k => pbV (dt h) (rd h 239) (dt h 19 0 + k) t) i + pbV (dt h) (rd h 239) (dt h 19 0 + i) t := rfl
        have pb := m_photoBy (F := F) (s := dt h 19 0 + i) hF mc rc ht
        rw [cpH_dt, cpH_240] at pb
        rw [e]
        unfold Mod_hope_L28s
        rw [if_pos (by omega), gM35 mc.1, gM18 mc.1, aM35 mc.1 (by omega) (by omega), e19, w32_id (x := dt h 19 0 + (i : Int)) (by omega) (by omega), ivM mc.1, pb, cl_some, w32_nat (by omega), w32_id (by omega) (by omega), lt_eq]
      · show Mod_hope_L28s F (Mod_hope_L28 F k) 194 t n _ _ (cpH h) = _
        unfold Mod_hope_L28s
        rw [if_neg (by omega)]
    · rw [if_neg hn, if_pos rfl, if_pos (fun z => hn z.2)]
      exact ⟨h, rfl, Fr_refl m⟩
  · rw [if_neg ht, if_pos rfl, if_pos (fun z => ht z.1)]
    exact ⟨h, rfl, Fr_refl m⟩
