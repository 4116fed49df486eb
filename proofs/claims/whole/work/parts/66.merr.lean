/-! the reference's errors of cords -/
/-- laws were looked at: variables, pile and flag alone may differ -/
def Lk (h h' : Hp) : Prop := (hsz h' = hsz h ∧ hus h' = hus h ∧ hkd h' = hkd h ∧ hln h' = hln h) ∧ Sh h' ∧ (∀ a : Int, a ≠ 194 → ¬ (a = 227 ∨ a = 228) → rd h' a = rd h a) ∧ ∀ k : Int, k ≠ 51 → rd h' 194 k = rd h 194 k
theorem Lk_refl {h : Hp} (s : Sh h) : Lk h h := ⟨⟨rfl, rfl, rfl, rfl⟩, s, fun _ _ _ => rfl, fun _ _ => rfl⟩
theorem Lk_trans {h h' h'' : Hp} (a : Lk h h') (b : Lk h' h'') : Lk h h'' := by
  obtain ⟨⟨a1, a2, a3, a4⟩, a5, a6, a7⟩ := a
  obtain ⟨⟨b1, b2, b3, b4⟩, b5, b6, b7⟩ := b
  exact ⟨⟨b1.trans a1, b2.trans a2, b3.trans a3, b4.trans a4⟩, b5, fun a h1 h2 => (b6 a h1 h2).trans (a6 a h1 h2), fun k hk => (b7 k hk).trans (a7 k hk)⟩
theorem Lk_ev {h h' : Hp} (a : Lk h h') (P : Int → Int) (z : Int) : Lk h (evH h' P z) := by
  obtain ⟨a1, a5, a6, a7⟩ := a
  exact ⟨a1, evH_sh a5 P z, fun a h1 h2 => by rw [evH_ne (by omega) h1]; exact a6 a h1 h2, fun k hk => by rw [evH_f hk]; exact a7 k hk⟩
theorem Lk_var {h h' : Hp} (a : Lk h h') (V : Int → Int) : Lk h (sr h' 227 V) := by
  obtain ⟨a1, a5, a6, a7⟩ := a
  exact ⟨a1, Sh_sr a5 (by decide) (by decide), fun a h1 h2 => by rw [rd_sr_ne (by omega)]; exact a6 a h1 h2, fun k hk => by rw [rd_sr_ne (by decide)]; exact a7 k hk⟩
theorem Lk_dt {h h' : Hp} (a : Lk h h') : dt h' = dt h := dt_eq ⟨a.2.2.2 18 (by decide), fun b h1 h2 => a.2.2.1 b (by omega) (by omega), fun b h1 h2 => a.2.2.1 b (by omega) (by omega)⟩
theorem Lk_Mo {h h' : Hp} (a : Lk h h') (m : Mo h) : Mo h' := ⟨a.2.1, by rw [a.2.2.2 18 (by decide)]; exact m.2.1, by rw [Lk_dt a]; exact m.2.2⟩
theorem seg_eq {h h' : Hp} (e4 : rd h' 224 = rd h 224) (e5 : rd h' 225 = rd h 225) {a b : Int} {cs : List (Int × Int)} (g : seg h a b cs) : seg h' a b cs := by
  unfold seg at g ⊢
  rw [e4, e5]; exact g
theorem RBs_eq {h h' : Hp} (e : ∀ a : Int, 219 ≤ a → a ≤ 225 → rd h' a = rd h a) : ∀ (L : Lw) (b : Int), RBs h b L → RBs h' b L
  | [], _, _ => trivial
  | q :: r, b, g => by
    refine ⟨?_, RBs_eq e r (b + 1) g.2⟩
    have g1 := g.1
    unfold RB at g1 ⊢
    have e4 := e 224 (by decide) (by decide)
    have e5 := e 225 (by decide) (by decide)
    rw [e 222 (by decide) (by decide), e 223 (by decide) (by decide)]
    refine ⟨seg_eq e4 e5 g1.1, ?_⟩
    have g2 := g1.2
    cases hq : q.1 with
    | none => rw [hq] at g2; simp only at g2 ⊢; rw [e 219 (by decide) (by decide)]; exact g2
    | some t =>
      rw [hq] at g2
      simp only at g2 ⊢
      rw [e 219 (by decide) (by decide), e 220 (by decide) (by decide), e 221 (by decide) (by decide)]
      exact ⟨g2.1, seg_eq e4 e5 g2.2.1, seg_eq e4 e5 g2.2.2⟩
theorem RL_eq {h h' : Hp} (e18 : rd h' 194 18 = rd h 194 18) (e : ∀ a : Int, 217 ≤ a → a ≤ 225 → rd h' a = rd h a) {k : Int} {L : Lw} (g : RLw h k L) : RLw h' k L := by
  unfold RLw at g ⊢
  rw [e18, e 217 (by decide) (by decide), e 218 (by decide) (by decide)]
  exact ⟨g.1, g.2.1, g.2.2.1, RBs_eq (fun a h1 h2 => e a (by omega) (by omega)) L _ g.2.2.2⟩
theorem Lk_RL {h h' : Hp} (a : Lk h h') {k : Int} {L : Lw} (g : RLw h k L) : RLw h' k L := RL_eq (a.2.2.2 18 (by decide)) (fun b h1 h2 => a.2.2.1 b (by omega) (by omega)) g
def vv (x y m f o : Int) : Int → Int := fun j => if j = 0 then x else if j = 1 then y else if j = 2 then m else if j = 3 then f else o
def vs5 (V : Int → Int) (x y m f o : Int) : Int → Int := up (up (up (up (up V 0 x) 1 y) 2 m) 3 f) 4 o
theorem vs5_vv (V : Int → Int) (x y m f o : Int) : ∀ i, 0 ≤ i → i < 5 → vs5 V x y m f o i = vv x y m f o i := by
  intro i h1 h2
  unfold vs5 vv up
  (repeat' split) <;> first | rfl | omega
theorem m_setsOf {F : Nat} {h : Hp} {x y m f o : Int} (s : Sh h) : Mod_setsOf F 194 x y m f o h = some (0, sr h 227 (vs5 (rd h 227) x y m f o)) := by
  unfold Mod_setsOf
  simp (disch := (repeat' (first | assumption | omega | apply shA | apply Sh_sr))) only [gM49, aM49, sM49, w32_id, ivM, cl_some, rz_0, rz_1, lt_eq]
  unfold vs5
  simp only [wr_sr h, wr_up]
/-- a law told of some things -/
theorem m_tellsAt {F : Nat} {h : Hp} {k pl lo hi x y m f o : Int} {L : Lw} (hF : 1000 ≤ F) (s : Sh h) (hlv : rd h 194 18 = 0 ∨ rd h 194 18 = 1) (hk : 0 ≤ k ∧ k < 5) (hl : lo ≤ 0 ∧ 0 ≤ hi) (g : RLw h k L) (hv : rd h 227 3 = f ∧ rd h 227 = vs5 (rd h 227) x y m f o) : ∃ h', Mod_tells F 194 k pl lo hi h = some (clm lo hi (lawV pl L (vv x y m f o)), h') ∧ Lk h h' ∧ rd h' 227 = rd h 227 := by
  obtain ⟨P, z, e⟩ := m_tells (F := F) (pl := pl) hF s hlv hk hl g
  refine ⟨_, ?_, Lk_ev (Lk_refl s) P z, evH_ne (by decide) (by decide)⟩
  rw [e, lawV_congr (v := rd h 227) (v' := vv x y m f o) (fun i h1 h2 => by rw [hv.2]; exact vs5_vv _ _ _ _ _ _ i h1 h2) (RBs_ok L _ g.2.2.2)]
theorem vs5_idem (V : Int → Int) (x y m f o : Int) : vs5 V x y m f o = vs5 (vs5 V x y m f o) x y m f o := by
  funext j
  unfold vs5 up
  (repeat' split) <;> rfl
theorem vs5_3 (V : Int → Int) (x y m f o : Int) : vs5 V x y m f o 3 = f := by rw [vs5_vv V x y m f o 3 (by decide) (by decide)]; rfl
theorem m_setsTells {F : Nat} {h : Hp} {k pl lo hi x y m f o : Int} {L : Lw} (hF : 1000 ≤ F) (s : Sh h) (hlv : rd h 194 18 = 0 ∨ rd h 194 18 = 1) (hk : 0 ≤ k ∧ k < 5) (hl : lo ≤ 0 ∧ 0 ≤ hi) (g : RLw h k L) : ∃ h', Mod_tells F 194 k pl lo hi (sr h 227 (vs5 (rd h 227) x y m f o)) = some (clm lo hi (lawV pl L (vv x y m f o)), h') ∧ Lk h h' ∧ rd h' 227 = vs5 (rd h 227) x y m f o := by
  have l1 := Lk_var (Lk_refl s) (vs5 (rd h 227) x y m f o)
  obtain ⟨h', e, l, r⟩ := m_tellsAt (F := F) (h := sr h 227 (vs5 (rd h 227) x y m f o)) (pl := pl) (x := x) (y := y) (m := m) (f := f) (o := o) hF l1.2.1 (by rw [rd_sr_ne (by decide)]; exact hlv) hk hl (Lk_RL l1 g) ⟨by rw [rd_sr, vs5_3], by rw [rd_sr]; exact vs5_idem _ _ _ _ _ _⟩
  exact ⟨h', e, Lk_trans l1 l, by rw [r, rd_sr]⟩
def slV (L : Lw) (f o : Int) : Int := clm 0 9999 (lawV f L (vv 0 0 0 f o))
def erV (D : Nat → Int → Int) (L : Lw) (E : Int → Int) (p o : Int) : Int := if o < 0 then slV L (awayI (D 20 0) (D 21 0) (D 6 p) (D 7 p)) 0 else w32 (E o + slV L (awayI (D 6 o) (D 7 o) (D 6 p) (D 7 p)) (E o))
def pegOk (D : Nat → Int → Int) : Prop := (-1000 ≤ D 20 0 ∧ D 20 0 ≤ 1000) ∧ (-1000 ≤ D 21 0 ∧ D 21 0 ≤ 1000)
theorem m_errorFrom_B61 {F : Nat} {h : Hp} {p x y off : Int} {L : Lw} (hF : 1000 ≤ F) (m : Mo h) (g : RLw h 3 L) (hp : 0 ≤ p ∧ p < dt h 0 0) (hx : -1000 ≤ x ∧ x ≤ 1000) (hy : -1000 ≤ y ∧ y ≤ 1000) : ∃ h', Mod_errorFrom_B61 F 194 p x y off h = some (w32 (off + slV L (awayI x y (dt h 6 p) (dt h 7 p)) off), h') ∧ Lk h h' := by
  have s := m.1
  have hp8 := m.2.2.1
  obtain ⟨d1, d2, d3, d4, -⟩ := m.2.2.2.2.2.2.2.1 p hp.1 hp.2
  have aw := awayI_in hx hy ⟨d1, d2⟩ ⟨d3, d4⟩
  have ap1 := m_apart (F := F) (h := h) hx ⟨d1, d2⟩
  have ap2 := m_apart (F := F) (h := h) hy ⟨d3, d4⟩
  obtain ⟨h', e, l, r⟩ := m_setsTells (F := F) (h := h) (k := 3) (pl := awayI x y (dt h 6 p) (dt h 7 p)) (lo := 0) (hi := 9999) (x := 0) (y := 0) (m := 0) (f := awayI x y (dt h 6 p) (dt h 7 p)) (o := off) hF s m.2.1 (by decide) (by decide) g
  refine ⟨h', ?_, l⟩
  have s1 : Sh (sr h 227 (vs5 (rd h 227) 0 0 0 (awayI x y (dt h 6 p) (dt h 7 p)) off)) := Sh_sr s (by decide) (by decide)
  unfold Mod_errorFrom_B61
  rw [gM55 s, aM55 s hp.1 (by omega), show rd h 232 p = dt h 6 p from rfl, ap1, cl_some, gM56 s, aM56 s hp.1 (by omega), show rd h 233 p = dt h 7 p from rfl, ap2, cl_some, ivM s]
  rw [show w32 ((if x < dt h 6 p then dt h 6 p - x else x - dt h 6 p) + (if y < dt h 7 p then dt h 7 p - y else y - dt h 7 p)) = awayI x y (dt h 6 p) (dt h 7 p) from w32_id (by unfold awayI at aw; omega) (by unfold awayI at aw; omega)]
  rw [m_setsOf s, cl_some, gM49 s1, aM49 s1 (by decide) (by decide), rd_sr, vs5_3, ivM s1, e, cl_some]
  rfl
theorem m_errorFrom {F : Nat} {h : Hp} {p o : Int} {L : Lw} (hF : 1000 ≤ F) (m : Mo h) (pk : pegOk (dt h)) (g : RLw h 3 L) (hp : 0 ≤ p ∧ p < dt h 0 0) (ho : o = -2 ∨ (0 ≤ o ∧ o < dt h 0 0)) : ∃ h', Mod_errorFrom F 194 p o h = some (erV (dt h) L (rd h 247) p o, h') ∧ Lk h h' := by
  have s := m.1
  have hp8 := m.2.2.1
  have hl := m.2.1
  unfold Mod_errorFrom Mod_errorFrom_B22 Mod_errorFrom_B45 erV
  rcases ho with ho | ho
  · obtain ⟨h', e, l⟩ := m_errorFrom_B61 (F := F) (off := 0) hF m g hp pk.1 pk.2
    refine ⟨h', ?_, l⟩
    rw [if_pos (by omega), gM33 s, gM18 s, aM33 s (by omega) (by omega), if_pos (by omega), gM34 s, gM18 s, aM34 s (by omega) (by omega), if_pos (by omega), if_pos (by omega)]
    rw [show rd h 214 (rd h 194 18) = dt h 20 0 from rfl, show rd h 215 (rd h 194 18) = dt h 21 0 from rfl, e]
    have := clm_in (x := lawV (awayI (dt h 20 0) (dt h 21 0) (dt h 6 p) (dt h 7 p)) L (vv 0 0 0 (awayI (dt h 20 0) (dt h 21 0) (dt h 6 p) (dt h 7 p)) 0)) (show (0 : Int) ≤ 9999 by decide)
    rw [Int.zero_add, w32_id (by unfold slV; omega) (by unfold slV; omega)]
  · obtain ⟨d1, d2, d3, d4, -⟩ := m.2.2.2.2.2.2.2.1 o ho.1 ho.2
    obtain ⟨h', e, l⟩ := m_errorFrom_B61 (F := F) (off := rd h 247 o) hF m g hp ⟨d1, d2⟩ ⟨d3, d4⟩
    refine ⟨h', ?_, l⟩
    rw [if_neg (by omega), gM55 s, aM55 s ho.1 (by omega), if_neg (by omega), gM56 s, aM56 s ho.1 (by omega), if_neg (by omega), if_neg (by omega), gM77 s, aM77 s ho.1 (by omega)]
    exact e
