/-! what a question leaves of both -/
theorem RwN_mono {n m : Int} {D : Nat → Int → Int} {N : Int → Int} (h : n ≤ m) (g : RwN n D N) : RwN m D N := ⟨g.1, g.2.1, g.2.2.1, ⟨g.2.2.2.1.1, by have := g.2.2.2.1.2; omega⟩, g.2.2.2.2⟩
theorem JM_mono {n m : Int} {h : Hp} {Λ : Nat → Lw} (hm : n ≤ m) (g : JM n h Λ) : JM m h Λ := ⟨g.1, g.2.1, g.2.2.1, g.2.2.2.1, g.2.2.2.2.1, g.2.2.2.2.2.1, g.2.2.2.2.2.2.1, g.2.2.2.2.2.2.2.1, RwN_mono hm g.2.2.2.2.2.2.2.2⟩
theorem PsI_mono {n m : Int} {h : Hp} {D : Nat → Int → Int} {u : Int} {N H : Int → Int} (hm : n ≤ m) (g : PsI n h D u N H) : PsI m h D u N H := ⟨g.1, g.2.1, g.2.2.1, fun k k0 k1 => ⟨RwN_mono hm (g.2.2.2 k k0 k1).1, (g.2.2.2 k k0 k1).2⟩⟩
theorem JHeld_mono {n m : Int} {h : Hp} {D : Nat → Int → Int} {E G : Int → Int} (hm : n ≤ m) (g : JHeld n h D E G) : JHeld m h D E G := fun i i0 i1 => ⟨(g i i0 i1).1, (g i i0 i1).2.1, fun z => ⟨((g i i0 i1).2.2 z).1, RwN_mono hm ((g i i0 i1).2.2 z).2⟩⟩
theorem JK0_mono {n m : Int} {h : Hp} {D : Nat → Int → Int} {B : Int → Int} {ln pl u td : Int} {N H A1 A2 A3 E G : Int → Int} {Λ : Nat → Lw} (hm : n ≤ m) (g : JK0 n h D B ln pl u td N H A1 A2 A3 E G Λ) : JK0 m h D B ln pl u td N H A1 A2 A3 E G Λ := ⟨g.1, g.2.1, g.2.2.1, g.2.2.2.1, PsI_mono hm g.2.2.2.2.1, JHeld_mono hm g.2.2.2.2.2.1, g.2.2.2.2.2.2⟩
theorem zH_dtE {h h' : Hp} (e : dt h' = dt h) (L : Lw) (k : Int) : dt (zH h' L k) = dt (zH h L k) := by
  funext i j
  by_cases c : i = 6 ∨ i = 7 ∨ i = 8 ∨ i = 12
  · rcases c with q | q | q | q <;> subst q
    · rw [zH_6, zH_6, e]
    · rw [zH_7, zH_7, e]
    · rw [zH_8, zH_8, e]
    · rw [zH_12, zH_12, e]
  · rw [zH_dt i c, zH_dt i c, e]
theorem lgB_dt {h h' : Hp} (e : dt h' = dt h) (L : Lw) (k b : Int) : lgB h' L k b = lgB h L k b := by
  have e1 : lgC h' L k b = lgC h L k b := by
    funext w s
    unfold lgC
    rw [zH_dtE e, e]
  unfold lgB
  rw [e1, e]
theorem Fr_Fl {h h' : Hp} (f : Fr h h') : Fl h h' := by
  obtain ⟨f1, f2, f3, f4, f5, f6⟩ := f
  exact ⟨f1, f2, fun a h1 h2 => f3 a h1 (by omega), f4, f5, f6, fun a j h1 h2 _ => by rw [f3 a (by omega) (by omega)], fun a j h1 h2 _ => by rw [f3 a (by omega) (by omega)], fun j _ => by rw [f3 238 (by decide) (by decide)]⟩
def Xr (b : Int) : Prop := 194 ≤ b ∧ b < 254
theorem Xr_q {b : Int} (h : Xr b) : Xq b := by unfold Xr at h; unfold Xq; omega
theorem FrX_Fl {h h' : Hp} (f : Fl h h') : FrX Xr h h' := FrX_of f.2.1 f.1 (fun b hb => f.2.2.1 b (by unfold Xr at hb; omega) (by unfold Xr at hb; omega)) (fun b hb => hb.2)
theorem Dy_Xr {h h' : Hp} (e : hsz h' = hsz h ∧ hus h' = hus h ∧ hkd h' = hkd h ∧ hln h' = hln h) (f : FrX Xr h h') (d : Dy h) : Dy h' := Dy_eq e (fun a k o => by
  have := own_in o
  rw [f.2.2.2.1 a (by omega) (by unfold Xr; omega)]) d
/-- a question: the class may have looked something up, the reference too -/
theorem JJ_q {X : Int → Prop} {n : Int} {h h1 h2 : Hp} {Λ : Nat → Lw} (j : JJ n h Λ) (f : FrX X h h1) (hX : ∀ b, X b → Xq b ∧ b < 194) (dy : Dy h1) (pl : JPl h1 (dt h) (rd h 239) (fun k b => lgB h (Λ 0) k b)) (fr : Fr h1 h2) : JJ (n + 1) h2 Λ := by
  obtain ⟨jm, jk, -, -⟩ := j
  have e := RfE_X f (fun b hb => (hX b hb).2)
  have jm1 := RfE_JM e jm
  have dk : Dok (dt h) := jm.1.1.1.2.2
  have jk1 : JK n h1 h Λ := JK0_X dk (FrX_mono (fun b hb => (hX b hb).1) f) jk
  have fl := Fr_Fl fr
  have fx := FrX_Fl fl
  have jk2 : JK n h2 h Λ := JK0_X dk (FrX_mono (fun b hb => Xr_q hb) fx) jk1
  have ed : dt h2 = dt h := (Fr_dt fr).trans (RfE_dt e)
  have ea : ∀ a, 194 < a → a < 254 → ¬ (a = 227 ∨ a = 228 ∨ a = 240 ∨ (242 ≤ a ∧ a ≤ 248)) → rd h2 a = rd h a := fun a h1' h2' h3' => (fr.2.2.1 a (by omega) h3').trans (e.2 a (by omega) h2')
  have ek : ∀ k, ¬ (k = 51 ∨ (67 ≤ k ∧ k ≤ 71) ∨ k = 73 ∨ k = 79) → rd h2 194 k = rd h 194 k := fun k hk => (fr.2.2.2.1 k hk).trans (by rw [e.2 194 (by decide) (by decide)])
  have e239 : rd h2 239 = rd h 239 := ea 239 (by decide) (by decide) (by decide)
  refine ⟨?_, ?_, ?_, Dy_Xr fr.1 fx dy⟩
  · obtain ⟨j1, j2, j3, j4, j5, j6, j7, j8, j9⟩ := JM_mono (show n ≤ n + 1 by omega) jm1
    have ed1 := Fr_dt fr
    refine ⟨Fr_MT j1 fr, by rw [ed1]; exact j2, by rw [ed1]; exact j3, fun k hk => RLr_eq (fr.2.2.2.1 18 (by decide)) (fun b q1 q2 => fr.2.2.1 b (by omega) (by omega)) (j4 k hk), ?_, ?_, ?_, ?_, by rw [ed1, Fr_239 fr]; exact j9⟩
    · unfold Keys; rw [fr.2.2.1 201 (by decide) (by decide)]; exact j5
    · unfold TkI; rw [fr.2.2.1 197 (by decide) (by decide), fr.2.2.1 198 (by decide) (by decide)]; exact j6
    · unfold BytI; rw [fr.2.2.2.1 2 (by decide), fr.2.2.1 195 (by decide) (by decide), fr.2.2.1 196 (by decide) (by decide)]; exact j7
    · unfold Tdk; rw [fr.2.2.2.1 80 (by decide), fr.2.2.1 249 (by decide) (by decide), fr.2.2.1 251 (by decide) (by decide), ed1]; exact j8
  · have := JK0_mono (show n ≤ n + 1 by omega) jk2
    unfold JK
    rw [ed, ea 195 (by decide) (by decide) (by decide), ek 2 (by decide), ek 17 (by decide), ek 64 (by decide), ek 80 (by decide), e239, ea 241 (by decide) (by decide) (by decide), ea 249 (by decide) (by decide) (by decide), ea 250 (by decide) (by decide) (by decide), ea 251 (by decide) (by decide) (by decide), ea 252 (by decide) (by decide) (by decide), ea 253 (by decide) (by decide) (by decide)]
    exact this
  · have hl : (fun k b => lgB h2 (Λ 0) k b) = (fun k b => lgB h (Λ 0) k b) := by funext k b; exact lgB_dt ed _ _ _
    rw [ed, e239, hl]
    exact JPl_X dk.1.2 fx (fun b hb => by unfold Xr at hb; omega) pl
/-- a question that leaves the class as it was -/
theorem JJ_q0 {n : Int} {h h2 : Hp} {Λ : Nat → Lw} (j : JJ n h Λ) (fr : Fr h h2) : JJ (n + 1) h2 Λ := JJ_q (X := fun _ => False) j (FrX_refl j.1.1.1.1.1) (fun b hb => hb.elim) j.2.2.2 j.2.2.1 fr
/-- the script is as it was -/
def Sc (h h' : Hp) : Prop := hln h' (-1) = hln h (-1) ∧ rd h' (-1) = rd h (-1)
theorem Sc_X {X : Int → Prop} {h h' : Hp} (s : Sh h) (f : FrX X h h') (hx : ¬ X (-1)) : Sc h h' := ⟨(f.2.2.1 (-1) (by have := s.1; omega)).2, f.2.2.2.1 (-1) (by decide) hx⟩
theorem Sc_Fr {h h' : Hp} (f : Fr h h') : Sc h h' := ⟨by rw [f.1.2.2.2], f.2.2.1 (-1) (by decide) (by decide)⟩
theorem Sc_Fl {h h' : Hp} (f : Fl h h') : Sc h h' := ⟨by rw [f.1.2.2.2], f.2.2.1 (-1) (by decide) (by decide)⟩
def Okc (n : Int) (h : Hp) (o : Option (Int × Hp)) (m : Hp → Option (Int × Hp)) : Prop := ∃ r h1 h2 Λ, o = some (r, h1) ∧ Sh h1 ∧ m h1 = some (r, h2) ∧ JJ (n + 1) h2 Λ ∧ Sc h h1 ∧ Sc h1 h2
theorem okc_q0 {n : Int} {h : Hp} {Λ : Nat → Lw} (j : JJ n h Λ) {o : Option (Int × Hp)} {m : Hp → Option (Int × Hp)} {r : Int} (ho : o = some (r, h)) (hm : ∃ h2, m h = some (r, h2) ∧ Fr h h2) : Okc n h o m := by
  obtain ⟨h2, e, f⟩ := hm
  exact ⟨r, h, h2, Λ, ho, j.1.1.1.1.1, e, JJ_q0 j f, ⟨rfl, rfl⟩, Sc_Fr f⟩
theorem c_isPart {F : Nat} {h : Hp} {p : Int} {D : Nat → Int → Int} (s : Sh h) (cd : CD h D) : Tide_isPart F 1 p h = some (if 0 ≤ p ∧ p < D 0 0 then 1 else 0, h) := by
  have ic := cd.1.1
  unfold Tide_isPart
  by_cases c : p < 0
  · rw [if_pos c, rz_0, if_neg (by omega)]
  · rw [if_neg c, gT4 s, gH0 s, gC4 s ic, cd.1.2.1]
    by_cases d : p < D 0 0
    · rw [if_pos d, rz_1, if_pos ⟨by omega, d⟩]
    · rw [if_neg d, rz_0, if_neg (by omega)]
theorem c_isWorker {F : Nat} {h : Hp} {p : Int} {D : Nat → Int → Int} (s : Sh h) (cd : CD h D) : Tide_isWorker F 1 p h = some (if 0 ≤ p ∧ p < D 1 0 then 1 else 0, h) := by
  have ic := cd.1.1
  unfold Tide_isWorker
  by_cases c : p < 0
  · rw [if_pos c, rz_0, if_neg (by omega)]
  · rw [if_neg c, gT4 s, gH0 s, gC8 s ic, cd.1.2.2.1]
    by_cases d : p < D 1 0
    · rw [if_pos d, rz_1, if_pos ⟨by omega, d⟩]
    · rw [if_neg d, rz_0, if_neg (by omega)]
theorem c_isMinute {F : Nat} {h : Hp} {t : Int} : Tide_isMinute F t h = some (if 0 ≤ t ∧ t < 600 then 1 else 0, h) := by
  unfold Tide_isMinute
  by_cases c : t < 0
  · rw [if_pos c, rz_0, if_neg (by omega)]
  · rw [if_neg c]
    by_cases d : t < 600
    · rw [if_pos d, rz_1, if_pos ⟨by omega, d⟩]
    · rw [if_neg d, rz_0, if_neg (by omega)]
theorem c_isBound {F : Nat} {h : Hp} {t : Int} : Tide_isBound F t h = some (if 0 ≤ t ∧ t ≤ 600 then 1 else 0, h) := by
  unfold Tide_isBound
  by_cases c : t < 0
  · rw [if_pos c, rz_0, if_neg (by omega)]
  · rw [if_neg c]
    by_cases d : 600 < t
    · rw [if_pos d, rz_0, if_neg (by omega)]
    · rw [if_neg d, rz_1, if_pos ⟨by omega, by omega⟩]
theorem c_isSlot {F : Nat} {h : Hp} {t : Int} : Tide_isSlot F t h = some (if 0 ≤ t ∧ t < 3 then 1 else 0, h) := by
  unfold Tide_isSlot
  by_cases c : t < 0
  · rw [if_pos c, rz_0, if_neg (by omega)]
  · rw [if_neg c]
    by_cases d : t < 3
    · rw [if_pos d, rz_1, if_pos ⟨by omega, d⟩]
    · rw [if_neg d, rz_0, if_neg (by omega)]
