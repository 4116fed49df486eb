/-! what a question leaves as it was; the reference's plans -/
def Fr (h h' : Hp) : Prop := (hsz h' = hsz h ∧ hus h' = hus h ∧ hkd h' = hkd h ∧ hln h' = hln h) ∧ Sh h' ∧ (∀ a : Int, a ≠ 194 → ¬ (a = 227 ∨ a = 228 ∨ a = 240 ∨ (242 ≤ a ∧ a ≤ 248)) → rd h' a = rd h a) ∧ (∀ k : Int, ¬ (k = 51 ∨ (67 ≤ k ∧ k ≤ 71) ∨ k = 73 ∨ k = 79) → rd h' 194 k = rd h 194 k) ∧ Zo 140 (rd h' 240) ∧ ∀ i, Vok (rd h' 242 i)
def MT (h : Hp) : Prop := MS h ∧ ∀ i, Vok (rd h 242 i)
theorem Fr_refl {h : Hp} (m : MT h) : Fr h h := ⟨⟨rfl, rfl, rfl, rfl⟩, m.1.1.1, fun _ _ _ => rfl, fun _ _ => rfl, m.1.2.2.1, m.2⟩
theorem Fr_trans {h h' h'' : Hp} (a : Fr h h') (b : Fr h' h'') : Fr h h'' := by
  obtain ⟨⟨a1, a2, a3, a4⟩, a5, a6, a7, a8, a9⟩ := a
  obtain ⟨⟨b1, b2, b3, b4⟩, b5, b6, b7, b8, b9⟩ := b
  exact ⟨⟨b1.trans a1, b2.trans a2, b3.trans a3, b4.trans a4⟩, b5, fun x h1 h2 => (b6 x h1 h2).trans (a6 x h1 h2), fun k hk => (b7 k hk).trans (a7 k hk), b8, b9⟩
theorem Fr_dt {h h' : Hp} (f : Fr h h') : dt h' = dt h := dt_eq ⟨f.2.2.2.1 18 (by decide), fun a h1 h2 => f.2.2.1 a (by omega) (by omega), fun a h1 h2 => f.2.2.1 a (by omega) (by omega)⟩
theorem Fr_239 {h h' : Hp} (f : Fr h h') : rd h' 239 = rd h 239 := f.2.2.1 239 (by decide) (by decide)
theorem Fr_MT {h h' : Hp} (m : MT h) (f : Fr h h') : MT h' := by
  obtain ⟨⟨m1, m2, m3, m4, m5, m6, m7⟩, m8⟩ := m
  refine ⟨⟨⟨f.2.1, ?_, ?_⟩, ?_, f.2.2.2.2.1, ?_, ?_, ?_, ?_⟩, f.2.2.2.2.2⟩
  · rw [f.2.2.2.1 18 (by decide)]; exact m1.2.1
  · rw [Fr_dt f]; exact m1.2.2
  · rw [Fr_239 f]; exact m2
  · rw [Fr_239 f, Fr_dt f]; exact m4
  · rw [Fr_239 f]; exact m5
  · rw [f.2.2.2.1 64 (by decide)]; exact m6
  · rw [f.2.2.2.1 80 (by decide)]; exact m7
theorem Fr_sr {h h' : Hp} (f : Fr h h') {a : Int} {R : Int → Int} (ha : a = 227 ∨ a = 228 ∨ (243 ≤ a ∧ a ≤ 248)) : Fr h (sr h' a R) := by
  obtain ⟨a1, a5, a6, a7, a8, a9⟩ := f
  refine ⟨a1, Sh_sr a5 (by omega) (by omega), fun x h1 h2 => ?_, fun k hk => ?_, ?_, ?_⟩
  · rw [rd_sr_ne (by omega)]; exact a6 x h1 h2
  · rw [rd_sr_ne (by omega)]; exact a7 k hk
  · rw [rd_sr_ne (by omega)]; exact a8
  · rw [rd_sr_ne (by omega)]; exact a9
theorem Fr_240 {h h' : Hp} (f : Fr h h') {R : Int → Int} (hR : Zo 140 R) : Fr h (sr h' 240 R) := by
  obtain ⟨a1, a5, a6, a7, a8, a9⟩ := f
  refine ⟨a1, Sh_sr a5 (by omega) (by omega), fun x h1 h2 => ?_, fun k hk => ?_, ?_, ?_⟩
  · rw [rd_sr_ne (by omega)]; exact a6 x h1 h2
  · rw [rd_sr_ne (by omega)]; exact a7 k hk
  · rw [rd_sr]; exact hR
  · rw [rd_sr_ne (by omega)]; exact a9
theorem Fr_242 {h h' : Hp} (f : Fr h h') {T : Int → Int} (hT : ∀ i, Vok (T i)) : Fr h (sr h' 242 T) := by
  obtain ⟨a1, a5, a6, a7, a8, a9⟩ := f
  refine ⟨a1, Sh_sr a5 (by omega) (by omega), fun x h1 h2 => ?_, fun k hk => ?_, ?_, ?_⟩
  · rw [rd_sr_ne (by omega)]; exact a6 x h1 h2
  · rw [rd_sr_ne (by omega)]; exact a7 k hk
  · rw [rd_sr_ne (by omega)]; exact a8
  · rw [rd_sr]; exact hT
theorem Fr_f {h h' : Hp} (f : Fr h h') {k v : Int} (hs : Sh (wr h' 194 k v)) (hk : k = 51 ∨ (67 ≤ k ∧ k ≤ 71) ∨ k = 73 ∨ k = 79) : Fr h (wr h' 194 k v) := by
  obtain ⟨a1, a5, a6, a7, a8, a9⟩ := f
  refine ⟨a1, hs, fun x h1 h2 => ?_, fun j hj => ?_, ?_, ?_⟩
  · rw [rd_wr_ne h1]; exact a6 x h1 h2
  · rw [rd_i (fun q => hj (by rw [q]; exact hk))]; exact a7 j hj
  · rw [rd_wr_ne (by omega)]; exact a8
  · rw [rd_wr_ne (by omega)]; exact a9
theorem Fr_cp {h : Hp} (m : MT h) : Fr h (cpH h) := Fr_240 (Fr_refl m) m.1.2.1
theorem Fr_st {h h' : Hp} (f : Fr h h') (w d : Int) : Fr h (stH h' w d) := by
  unfold stH
  have f1 := Fr_f f (v := rd h' 240 (32 + w)) (sh67 f.2.1 _) (by decide)
  have f2 := Fr_f f1 (v := rd h' 240 (35 + w)) (sh68 f1.2.1 _) (by decide)
  have f3 := Fr_f f2 (v := rd h' 240 (38 + w) + d) (sh69 f2.2.1 _) (by decide)
  have f4 := Fr_f f3 (v := 0) (sh70 f3.2.1 _) (by decide)
  exact Fr_f f4 (sh71 f4.2.1 _) (by decide)
/-- how the rows of a worker start as things stand -/
def plG (N : Int → Int) (w d e : Int) (k : Nat) : Int := match k with | 0 => N (32 + w) | 1 => N (35 + w) | 2 => N (38 + w) + d | 3 => 0 | _ => e
theorem Pg_st (h : Hp) (w d : Int) : Pg (stH h w d) = plG (rd h 240) w d 0 := by
  funext k
  match k with
  | 0 => show rd (stH h w d) 194 67 = rd h 240 (32 + w); unfold stH; rw [rd_i (by decide), rd_i (by decide), rd_i (by decide), rd_i (by decide), rd_same]
  | 1 => show rd (stH h w d) 194 68 = rd h 240 (35 + w); unfold stH; rw [rd_i (by decide), rd_i (by decide), rd_i (by decide), rd_same]
  | 2 => show rd (stH h w d) 194 69 = rd h 240 (38 + w) + d; unfold stH; rw [rd_i (by decide), rd_i (by decide), rd_same]
  | 3 => show rd (stH h w d) 194 70 = 0; unfold stH; rw [rd_i (by decide), rd_same]
  | n + 4 => show rd (stH h w d) 194 71 = 0; unfold stH; rw [rd_same]
theorem st_240 (h : Hp) (w d : Int) : rd (stH h w d) 240 = rd h 240 := by
  unfold stH
  rw [rd_wr_ne (by decide), rd_wr_ne (by decide), rd_wr_ne (by decide), rd_wr_ne (by decide), rd_wr_ne (by decide)]
theorem st_242 (h : Hp) (w d : Int) : rd (stH h w d) 242 = rd h 242 := by
  unfold stH
  rw [rd_wr_ne (by decide), rd_wr_ne (by decide), rd_wr_ne (by decide), rd_wr_ne (by decide), rd_wr_ne (by decide)]
theorem Q0 {h : Hp} (m : Mo h) : Qok (dt h) 0 := by
  refine ⟨Or.inl rfl, fun p h1 h2 => ?_⟩
  obtain ⟨d1, d2, d3, d4, d5, d6⟩ := m.2.2.2.2.2.2.2.1 p h1 h2
  rw [Int.zero_add]
  refine ⟨⟨d1, d2⟩, ⟨d3, d4⟩, ⟨d5, by omega⟩, fun t t1 t2 => ?_⟩
  rcases m.2.2.2.2.2.2.2.2.2.1 p t h1 h2 t1 t2 with q | q
  · exact Or.inl q
  · exact Or.inr ⟨by omega, q.2⟩
theorem G_pl {h : Hp} (m : Mo h) {N : Int → Int} (hr : Rok (dt h) N) {w d e : Int} (hw : 0 ≤ w ∧ w < dt h 1 0) (hd : 0 ≤ d ∧ d ≤ 600) : Gok (dt h) (plG N w d e) := by
  obtain ⟨r1, r2, r3, r4, r5, r6⟩ := hr.1 w hw.1 hw.2
  have a : 0 ≤ N (38 + w) + d ∧ N (38 + w) + d ≤ 3000 := by omega
  exact ⟨Q0 m, ⟨r1, r2⟩, ⟨r3, r4⟩, a⟩
def nevN (D : Nat → Int → Int) (N : Int → Int) : Nat := setN (fun p => decide (N p = -2)) (D 0 0).toNat
def crsN (D : Nat → Int → Int) (N : Int → Int) : Nat := setN (fun p => decide (N (8 + p) = 1)) (D 0 0).toNat
theorem tabF_ok {h : Hp} (m : Mo h) {G : Nat → Int} (hg : Gok (dt h) G) {T : Int → Int} (ht : ∀ i, Vok (T i)) {w : Int} {al : Nat} (hw : 0 ≤ w ∧ w < dt h 1 0) : ∀ i, Vok (tabF (dt h) G w T al i) := tabS_ok m hg ht hw _ (Nat.sub_lt (Nat.two_pow_pos _) (by decide))
/-- a plan: the set, and what it leaves -/
theorem m_planNow {F : Nat} {h : Hp} {w b d : Int} (hF : 1000 ≤ F) (m : MT h) (hw : 0 ≤ w ∧ w < dt h 1 0) (hd : 0 ≤ d ∧ d ≤ 600) :
    ∃ h', Mod_planNow F 194 w b d h = some (((bstF (dt h) (tabF (dt h) (plG (rd h 239) w d 0) w (rd h 242) (nevN (dt h) (rd h 239))) (rd h 239 (38 + w) + d) b (nevN (dt h) (rd h 239)) : Nat) : Int), h') ∧ Fr h h' ∧ rd h' 242 = tabF (dt h) (plG (rd h 239) w d 0) w (rd h 242) (nevN (dt h) (rd h 239)) ∧ Pg h' = plG (rd h 239) w d 0 ∧ rd h' 240 = rd h 239 := by
  have mo := m.1.1
  have hw3 := mo.2.2.2.1
  have hr := m.1.2.2.2.1
  have hr6 := hr.1 w hw.1 hw.2
  have fc := Fr_cp m
  have fs := Fr_st fc w d
  have ms := Fr_MT m fs
  have e240 : rd (stH (cpH h) w d) 240 = rd h 239 := by rw [st_240, cpH_240]
  have e242 : rd (stH (cpH h) w d) 242 = rd h 242 := by rw [st_242, cpH_ne (by decide)]
  have eP : Pg (stH (cpH h) w d) = plG (rd h 239) w d 0 := by rw [Pg_st, cpH_240]
  have e69 : rd (stH (cpH h) w d) 194 69 = rd h 239 (38 + w) + d := by
    have := congrFun eP 2
    exact this
  have ed := Fr_dt fs
  have g := G_pl mo hr (e := 0) hw hd
  have hn8 : nevN (dt h) (rd h 239) < 256 := setN_8 _ _ (by have := mo.2.2.1; omega)
  have nd := m_neverDone (F := F) hF ms.1.1
  rw [ed, e240] at nd
  have br := m_bestRow (F := F) (b := b) (al := nevN (dt h) (rd h 239)) hF ms.1.1 (by rw [ed, eP]; exact g) ms.2 (by rw [ed]; exact hw) hn8
  rw [ed, eP, e242, e69] at br
  have tok := tabF_ok mo g m.2 (al := nevN (dt h) (rd h 239)) hw
  refine ⟨sr (stH (cpH h) w d) 242 (tabF (dt h) (plG (rd h 239) w d 0) w (rd h 242) (nevN (dt h) (rd h 239))), ?_, Fr_242 fs tok, rd_sr _ _ _, ?_, ?_⟩
  · unfold Mod_planNow
    rw [ivM mo.1, m_copies' hF m.1, cl_some]
    show iv (cpH h) 194 112 (Mod_startsAs F 194 w d (cpH h)) _ = _
    rw [ivM fc.2.1, m_startsAs fc.2.1 (by omega) hd (by rw [cpH_240]; omega), cl_some, ivM ms.1.1.1, nd, cl_some, ivM ms.1.1.1]
    show cl (Mod_bestRow F 194 w ((nevN (dt h) (rd h 239) : Nat) : Int) b (stH (cpH h) w d)) _ = _
    rw [br, cl_some]
  · rw [(sr242 ms.1.1 _).2.2.1]; exact eP
  · rw [rd_sr_ne (by decide)]; exact e240
