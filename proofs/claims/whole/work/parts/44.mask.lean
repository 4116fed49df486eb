/-! the reference's plan, mends, spare, quickest -/
theorem loopE (L : Nat → Nat → Hp → Option (Int × Hp)) (N : Nat) (P : Nat → Hp → Prop) (Q : Option (Int × Hp) → Prop) (hs : ∀ n i h, i < N → P i h → (∃ h', P (i + 1) h' ∧ L (n + 1) i h = L n (i + 1) h') ∨ Q (L (n + 1) i h)) (he : ∀ n h, P N h → Q (L (n + 1) N h)) : ∀ k n i h, i + k = N → k < n → P i h → Q (L n i h) := by
  intro k
  induction k with
  | zero =>
    intro n i h hi hn hp
    obtain ⟨n, rfl⟩ : ∃ j, n = j + 1 := ⟨n - 1, by omega⟩
    have : i = N := by omega
    subst this
    exact he n h hp
  | succ k ih =>
    intro n i h hi hn hp
    obtain ⟨n, rfl⟩ : ∃ j, n = j + 1 := ⟨n - 1, by omega⟩
    rcases hs n i h (by omega) hp with ⟨h', hp', e⟩ | q
    · rw [e]
      exact ih n (i + 1) h' (by omega) (by omega) hp'
    · exact q
def plSet (D : Nat → Int → Int) (N : Int → Int) (w d b : Int) : Nat := bstF D (CT D (plG N w d 0) w (nevN D N)) (N (38 + w) + d) b (nevN D N)
def plLr (D : Nat → Int → Int) (N : Int → Int) (w d : Int) (s : Nat) : Int := lrV (CT D (plG N w d 0) w (nevN D N)) (N (38 + w) + d) s
theorem D8 {h : Hp} (m : Mo h) : (dt h 0 0).toNat ≤ 8 := by
  have := m.2.2.1
  omega
theorem nev8 {h : Hp} (m : Mo h) (N : Int → Int) : nevN (dt h) N < 256 := setN_8 _ _ (D8 m)
theorem crs8 {h : Hp} (m : Mo h) (N : Int → Int) : crsN (dt h) N < 256 := setN_8 _ _ (D8 m)
theorem plSet_lt {D : Nat → Int → Int} {N : Int → Int} {w d b : Int} : plSet D N w d b < 2 ^ (D 0 0).toNat := bstF_lt _ _ _ _
theorem plSet_sub {D : Nat → Int → Int} {N : Int → Int} {w d b : Int} : plSet D N w d b &&& nevN D N = plSet D N w d b := bsR_sub _
theorem m_planNow' {F : Nat} {h : Hp} {w b d : Int} (hF : 1000 ≤ F) (m : MT h) (hw : 0 ≤ w ∧ w < dt h 1 0) (hd : 0 ≤ d ∧ d ≤ 600) :
    ∃ h', Mod_planNow F 194 w b d h = some (((plSet (dt h) (rd h 239) w d b : Nat) : Int), h') ∧ Fr h h' ∧ rd h' 242 = tabF (dt h) (plG (rd h 239) w d 0) w (rd h 242) (nevN (dt h) (rd h 239)) ∧ Pg h' = plG (rd h 239) w d 0 ∧ rd h' 240 = rd h 239 := by
  obtain ⟨h', e, r⟩ := m_planNow (b := b) hF m hw hd
  refine ⟨h', ?_, r⟩
  rw [e, bstF_CT (D8 m.1.1) (nev8 m.1.1 _)]
  rfl
theorem m_isBy {F : Nat} {b : Int} {h : Hp} : Mod_isBy F b h = some (if 0 ≤ b ∧ b ≤ 600 then 1 else 0, h) := by
  unfold Mod_isBy
  rw [m_in, cl_some]
  by_cases hb : 0 ≤ b ∧ b ≤ 600
  · rw [if_pos hb]; rfl
  · rw [if_neg hb]; rfl
def plnA (h : Hp) (w b q : Int) : Int := if ¬ ((0 ≤ w ∧ w < dt h 1 0) ∧ (0 ≤ b ∧ b ≤ 600) ∧ (0 ≤ q ∧ q ≤ 2)) then -1 else if q = 0 then wbV (dt h) (plSet (dt h) (rd h 239) w 0 b) else if q = 1 then plLr (dt h) (rd h 239) w 0 (plSet (dt h) (rd h 239) w 0 b) else ((plSet (dt h) (rd h 239) w 0 b : Nat) : Int)
theorem m_plan {F : Nat} {h : Hp} {w b q : Int} (hF : 1000 ≤ F) (m : MT h) : ∃ h', Mod_plan F 194 w b q h = some (plnA h w b q, h') ∧ Fr h h' := by
  have mo := m.1.1
  have s := mo.1
  have h256 := two8 (D8 mo)
  unfold Mod_plan plnA
  rw [ivM s, m_isWorker mo, cl_some]
  by_cases hw : 0 ≤ w ∧ w < dt h 1 0
  · rw [if_pos hw, if_neg (by decide), m_isBy, cl_some]
    by_cases hb : 0 ≤ b ∧ b ≤ 600
    · rw [if_pos hb, if_neg (by decide), m_in, cl_some]
      by_cases hq : 0 ≤ q ∧ q ≤ 2
      · obtain ⟨h', e, f, t, g, -⟩ := m_planNow' (b := b) (d := 0) hF m hw (by decide)
        have m' := Fr_MT m f
        have hlt : plSet (dt h) (rd h 239) w 0 b < 2 ^ (dt h 0 0).toNat := plSet_lt
        have wb := m_worthBy (s := plSet (dt h) (rd h 239) w 0 b) hF m'.1.1 (by rw [Fr_dt f]; exact hlt)
        have lr := m_leastReady (s := plSet (dt h) (rd h 239) w 0 b) hF m'.1.1.1 (by omega)
        rw [Fr_dt f] at wb
        have e69 : rd h' 194 69 = rd h 239 (38 + w) + 0 := congrFun g 2
        rw [t, e69, lrV_CT (D8 mo) (nev8 mo _) hlt plSet_sub] at lr
        refine ⟨h', ?_, f⟩
        rw [if_pos hq, if_neg (by decide), if_neg (not_not_intro ⟨hw, hb, hq⟩), ivM s, e, cl_some, ivM m'.1.1.1, ivM m'.1.1.1, wb, lr, cl_some, cl_some]
        by_cases h0 : q = 0
        · rw [if_pos h0, if_pos h0]
        · rw [if_neg h0, if_neg h0]
          by_cases h1 : q = 1
          · rw [if_pos h1, if_pos h1]; rfl
          · rw [if_neg h1, if_neg h1]
      · rw [if_neg hq, if_pos rfl, if_pos (fun z => hq z.2.2)]
        exact ⟨h, rfl, Fr_refl m⟩
    · rw [if_neg hb, if_pos rfl, if_pos (fun z => hb z.2.1)]
      exact ⟨h, rfl, Fr_refl m⟩
  · rw [if_neg hw, if_pos rfl, if_pos (fun z => hw z.1)]
    exact ⟨h, rfl, Fr_refl m⟩
/-- as far as the same is told -/
def spL (f : Int → Int) (v : Int) : Nat → Int → Int
  | 0, i => i
  | n + 1, i => if f (i + 1) = v then spL f v n (i + 1) else i
def spW (h : Hp) (w b d : Int) : Int := wbV (dt h) (plSet (dt h) (rd h 239) w d b)
def sprA (h : Hp) (w b : Int) : Int := if ¬ ((0 ≤ w ∧ w < dt h 1 0) ∧ (0 ≤ b ∧ b ≤ 600)) then -1 else spL (spW h w b) (spW h w b 0) 599 0
theorem m_spW {F : Nat} {h h' : Hp} {w b d : Int} (hF : 1000 ≤ F) (m : MT h) (f : Fr h h') (hw : 0 ≤ w ∧ w < dt h 1 0) (hd : 0 ≤ d ∧ d ≤ 600) : ∃ s h'', Mod_planNow F 194 w b d h' = some (s, h'') ∧ Fr h h'' ∧ Mod_worthBy F 194 s h'' = some (spW h w b d, h'') := by
  have m' := Fr_MT m f
  obtain ⟨h'', e, f2, -⟩ := m_planNow' (b := b) (d := d) hF m' (by rw [Fr_dt f]; exact hw) hd
  have m'' := Fr_MT m' f2
  refine ⟨_, h'', e, Fr_trans f f2, ?_⟩
  rw [m_worthBy hF m''.1.1 (by rw [Fr_dt f2]; exact plSet_lt), Fr_dt f2, Fr_dt f, Fr_239 f]
  rfl
theorem m_spare {F : Nat} {h : Hp} {w b : Int} (hF : 1000 ≤ F) (m : MT h) : ∃ h', Mod_spare F 194 w b h = some (sprA h w b, h') ∧ Fr h h' := by
  have mo := m.1.1
  have s := mo.1
  unfold Mod_spare sprA
  rw [ivM s, m_isWorker mo, cl_some]
  by_cases hw : 0 ≤ w ∧ w < dt h 1 0
  · rw [if_pos hw, if_neg (by decide), m_isBy, cl_some]
    by_cases hb : 0 ≤ b ∧ b ≤ 600
    · rw [if_pos hb, if_neg (by decide), if_neg (not_not_intro ⟨hw, hb⟩)]
      obtain ⟨v, h1, e1, f1, w1⟩ := m_spW (b := b) (d := 0) hF m (Fr_refl m) hw (by decide)
      rw [ivM s, e1, cl_some, ivM f1.2.1, w1, cl_some]
      refine loopE (fun n i g => Mod_spare_L32 F n 194 w b (spW h w b 0) (i : Int) g) 599 (fun i g => Fr h g ∧ spL (spW h w b) (spW h w b 0) 599 0 = spL (spW h w b) (spW h w b 0) (599 - i) i) (fun o => ∃ h', o = some (spL (spW h w b) (spW h w b 0) 599 0, h') ∧ Fr h h') (fun n i g hi hp => ?_) (fun n g hp => ?_) 599 F 0 h1 (by omega) (by omega) ⟨f1, rfl⟩
      · show (∃ h', _ ∧ Mod_spare_L32s F (Mod_spare_L32 F n) 194 w b (spW h w b 0) i g = _) ∨ _
        obtain ⟨fg, hv⟩ := hp
        obtain ⟨v2, g2, e2, f2, w2⟩ := m_spW (b := b) (d := (i : Int) + 1) hF m fg hw (by omega)
        obtain ⟨k, hk⟩ : ∃ k, 599 - i = k + 1 := ⟨599 - i - 1, by omega⟩
        have e3 : spL (spW h w b) (spW h w b 0) (599 - i) i = if spW h w b ((i : Int) + 1) = spW h w b 0 then spL (spW h w b) (spW h w b 0) k ((i : Int) + 1) else i := by rw [hk]; rfl
        have estep : Mod_spare_L32s F (Mod_spare_L32 F n) 194 w b (spW h w b 0) i g = if spW h w b ((i : Int) + 1) = spW h w b 0 then Mod_spare_L32 F n 194 w b (spW h w b 0) ((i + 1 : Nat) : Int) g2 else some ((i : Int), g2) := by
          unfold Mod_spare_L32s
          rw [if_pos (by omega), w32_id (x := (i : Int) + 1) (by omega) (by omega), ivM fg.2.1, e2, cl_some, ivM f2.2.1, w2, cl_some]
          rfl
        by_cases hc : spW h w b ((i : Int) + 1) = spW h w b 0
        · left
          refine ⟨g2, ⟨f2, ?_⟩, ?_⟩
          · rw [hv, e3, if_pos hc, show 599 - (i + 1) = k by omega]; rfl
          · rw [estep, if_pos hc]
        · right
          refine ⟨g2, ?_, f2⟩
          show Mod_spare_L32s F (Mod_spare_L32 F n) 194 w b (spW h w b 0) i g = _
          rw [estep, if_neg hc, hv, e3, if_neg hc]
      · obtain ⟨fg, hv⟩ := hp
        refine ⟨g, ?_, fg⟩
        show Mod_spare_L32s F (Mod_spare_L32 F n) 194 w b (spW h w b 0) _ g = _
        unfold Mod_spare_L32s
        rw [if_neg (by decide), hv]
        rfl
    · rw [if_neg hb, if_pos rfl, if_pos (fun z => hb z.2)]
      exact ⟨h, rfl, Fr_refl m⟩
  · rw [if_neg hw, if_pos rfl, if_pos (fun z => hw z.1)]
    exact ⟨h, rfl, Fr_refl m⟩
/-- the first of the soonest -/
def qkB (f : Int → Int) : Nat → Int × Int
  | 0 => (-2, -2)
  | n + 1 => if f n < 0 then qkB f n else if (qkB f n).1 < 0 ∨ f n < (qkB f n).2 then ((n : Int), f n) else qkB f n
def qckA (h : Hp) (w q : Int) : Int := if ¬ ((0 ≤ w ∧ w < dt h 1 0) ∧ (0 ≤ q ∧ q ≤ 1)) then -1 else if q = 0 then (qkB (sndV (dt h) (rd h 239) w) (dt h 0 0).toNat).1 else (qkB (sndV (dt h) (rd h 239) w) (dt h 0 0).toNat).2
theorem m_quickest {F : Nat} {h : Hp} {w q : Int} (hF : 1000 ≤ F) (m : MT h) : ∃ h', Mod_quickest F 194 w q h = some (qckA h w q, h') ∧ Fr h h' := by
  have mo := m.1.1
  have s := mo.1
  have hp8 := mo.2.2.1
  unfold Mod_quickest qckA
  rw [ivM s, m_isWorker mo, cl_some]
  by_cases hw : 0 ≤ w ∧ w < dt h 1 0
  · rw [if_pos hw, if_neg (by decide), m_in, cl_some]
    by_cases hq : 0 ≤ q ∧ q ≤ 1
    · rw [if_pos hq, if_neg (by decide), if_neg (not_not_intro ⟨hw, hq⟩)]
      refine loopE (fun n i g => Mod_quickest_L29 F n 194 w q (qkB (sndV (dt h) (rd h 239) w) i).1 (qkB (sndV (dt h) (rd h 239) w) i).2 (i : Int) g) (dt h 0 0).toNat (fun i g => Fr h g) (fun o => ∃ h', o = some (if q = 0 then (qkB (sndV (dt h) (rd h 239) w) (dt h 0 0).toNat).1 else (qkB (sndV (dt h) (rd h 239) w) (dt h 0 0).toNat).2, h') ∧ Fr h h') (fun n i g hi fg => ?_) (fun n g fg => ?_) (dt h 0 0).toNat F 0 h (by omega) (by omega) (Fr_refl m)
      · left
        show ∃ h', _ ∧ Mod_quickest_L29s F (Mod_quickest_L29 F n) 194 w q _ _ i g = _
        have mg := Fr_MT m fg
        have fc := Fr_cp mg
        have mc := Fr_MT mg fc
        have e0 : rd g 203 (rd g 194 18) = dt h 0 0 := congrFun (congrFun (Fr_dt fg) 0) 0
        have hl := mg.1.1.2.1
        have sn := m_sends (F := F) (w := w) (p := i) hF mc.1.1 (by rw [cpH_240, cpH_dt]; exact mg.1.2.2.2.1) (by rw [cpH_dt, Fr_dt fg]; exact hw) (by rw [cpH_dt, Fr_dt fg]; exact ⟨by omega, by omega⟩)
        rw [cpH_240, cpH_dt, Fr_dt fg, Fr_239 fg] at sn
        have zs : Zo 140 (sndR (dt h) (rd h 239) w i) := Zo_snd mo m.1.2.1 hw ⟨by omega, by omega⟩
        have f2 : Fr h (if sndV (dt h) (rd h 239) w i < 0 then cpH g else sr (cpH g) 240 (sndR (dt h) (rd h 239) w i)) := by
          split
          · exact Fr_trans fg fc
          · exact Fr_240 (Fr_trans fg fc) zs
        refine ⟨_, f2, ?_⟩
        have e : qkB (sndV (dt h) (rd h 239) w) (i + 1) = if sndV (dt h) (rd h 239) w i < 0 then qkB (sndV (dt h) (rd h 239) w) i else if (qkB (sndV (dt h) (rd h 239) w) i).1 < 0 ∨ sndV (dt h) (rd h 239) w i < (qkB (sndV (dt h) (rd h 239) w) i).2 then ((i : Int), sndV (dt h) (rd h 239) w i) else qkB (sndV (dt h) (rd h 239) w) i := rfl
        rw [e]
        unfold Mod_quickest_L29s
        rw [gM22 fg.2.1, gM18 fg.2.1, aM22 fg.2.1 (by omega) (by omega), e0, if_pos (by omega), ivM fg.2.1, m_copies' hF mg.1, cl_some]
        show iv (cpH g) 194 112 (Mod_sends F 194 w i (cpH g)) _ = _
        rw [ivM fc.2.1, sn, cl_some, w32_nat (by omega)]
        generalize sndV (dt h) (rd h 239) w i = v
        generalize qkB (sndV (dt h) (rd h 239) w) i = k
        by_cases h1 : v < 0
        · rw [if_pos h1, if_pos h1, if_pos h1]
        · rw [if_neg h1, if_neg h1, if_neg h1]
          by_cases h2 : k.1 < 0
          · rw [if_pos h2, if_pos (Or.inl h2)]
          · rw [if_neg h2]
            by_cases h3 : v < k.2
            · rw [if_pos h3, if_pos (Or.inr h3)]
            · rw [if_neg h3, if_neg (show ¬ (k.1 < 0 ∨ v < k.2) from fun z => z.elim h2 h3)]
      · refine ⟨g, ?_, fg⟩
        show Mod_quickest_L29s F (Mod_quickest_L29 F n) 194 w q _ _ _ g = _
        have mg := Fr_MT m fg
        have e0 : rd g 203 (rd g 194 18) = dt h 0 0 := congrFun (congrFun (Fr_dt fg) 0) 0
        have hl := mg.1.1.2.1
        unfold Mod_quickest_L29s Mod_quickest_B88
        rw [gM22 fg.2.1, gM18 fg.2.1, aM22 fg.2.1 (by omega) (by omega), e0, if_neg (by omega)]
        by_cases h0 : q = 0
        · rw [if_pos h0, if_pos h0]
        · rw [if_neg h0, if_neg h0]
    · rw [if_neg hq, if_pos rfl, if_pos (fun z => hq z.2)]
      exact ⟨h, rfl, Fr_refl m⟩
  · rw [if_neg hw, if_pos rfl, if_pos (fun z => hw z.1)]
    exact ⟨h, rfl, Fr_refl m⟩
