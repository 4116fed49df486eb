/-! large leaves all as it was -/
theorem scO_cg {f f' : Int → Int} {S : Nat} {p : Int} {q : Int × Int × Int} {m : Nat} (h : ∀ o : Int, o < m → f o = f' o) : ∀ n : Nat, n ≤ m + 2 → scO f S p q n = scO f' S p q n := by
  intro n
  induction n with
  | zero => intro _; rfl
  | succ n ih =>
    intro hn
    unfold scO
    rw [ih (by omega), h ((n : Int) - 2) (by omega)]
theorem scP_cg {g g' : Int → Int → Int} {S m : Nat} (h : ∀ p : Nat, p < m → ∀ o : Int, o < m → g p o = g' p o) : ∀ n : Nat, n ≤ m → scP g S m n = scP g' S m n := by
  intro n
  induction n with
  | zero => intro _; rfl
  | succ n ih =>
    intro hn
    unfold scP
    rw [ih (by omega), scO_cg (h n (by omega)) (m + 2) (by omega)]
theorem seS_cg {g g' : (Int → Int) → Int → Int → Int} {m : Nat} {E G : Int → Int} (h : ∀ E, ∀ p : Nat, p < m → ∀ o : Int, o < m → g E p o = g' E p o) : ∀ k : Nat, seS g m E G k = seS g' m E G k := by
  intro k
  induction k with
  | zero => rfl
  | succ k ih =>
    unfold seS
    rw [ih, scP_cg (h _) m (by omega)]
theorem erF_l {g g' : Hp} {L : Lw} (m : MT g) (f : Fl g g') : erF (dt g') L = erF (dt g) L := by
  have t := fun k hk => Fl_txt f k hk
  have r := (Fl_rows f).1
  have h8 := D8 m.1.1
  unfold erF
  rw [t 0 (by decide), seS_cg (g' := erV (dt g) L) (fun E p hp o ho => ?_) _]
  unfold erV
  rw [t 20 (by decide), t 21 (by decide), r 6 (by decide) (by decide) p (by omega), r 7 (by decide) (by decide) p (by omega), r 6 (by decide) (by decide) o (by omega), r 7 (by decide) (by decide) o (by omega)]
theorem wbV_l {g g' : Hp} (f : Fl g g') : wbV (dt g') = wbV (dt g) := by
  funext s
  unfold wbV wbS
  rw [Fl_txt f 2 (by decide)]
theorem SdE_l {g g' h : Hp} {a p : Int} (f : Fl g g') (hp : 0 ≤ p ∧ p < 8) (e : SdE h a (dt g) p) : SdE h a (dt g') p := by
  obtain ⟨r1, r2, r3⟩ := Fl_rows f
  obtain ⟨e1, e2, e3, e4, e5, e6⟩ := e
  refine ⟨e1, by rw [r1 6 (by decide) (by decide) p hp.2]; exact e2, by rw [r1 7 (by decide) (by decide) p hp.2]; exact e3, by rw [r1 8 (by decide) (by decide) p hp.2]; exact e4, e5, fun m m0 m1 => ?_⟩
  rw [r3 _ (by omega)]; exact e6 m m0 m1
theorem CD_l {g g' h : Hp} (m : MT g) (f : Fl g g') (c : CD h (dt g)) : CD h (dt g') := by
  have t := fun k hk => Fl_txt f k hk
  have h8 := m.1.1.2.2.1.2
  obtain ⟨r1, r2, r3⟩ := Fl_rows f
  obtain ⟨c1, c2, c3, c4⟩ := c
  refine ⟨?_, ?_, fun p p0 p1 => ?_, fun s hs => ?_⟩
  · unfold CxE at c1 ⊢
    rw [t 0 (by decide), t 1 (by decide), t 22 (by decide), t 23 (by decide), t 2 (by decide), t 16 (by decide), t 4 (by decide), t 5 (by decide), t 3 (by decide), t 17 (by decide), t 18 (by decide), t 20 (by decide), t 21 (by decide), t 19 (by decide)]
    exact c1
  · rw [t 13 (by decide), t 14 (by decide)]; exact c2
  · rw [t 0 (by decide)] at p1
    obtain ⟨d1, d2, d3⟩ := c3 p p0 p1
    refine ⟨SdE_l f ⟨p0, by omega⟩ d1, ⟨by rw [r1 9 (by decide) (by decide) p (by omega)]; exact d2.1, d2.2.1, fun x x0 x1 => by rw [r2 10 (by decide) (by decide) _ (by omega)]; exact d2.2.2 x x0 x1⟩, fun x x0 x1 => ?_⟩
    rw [r2 10 (by decide) (by decide) _ (by omega), t 13 (by decide), r1 9 (by decide) (by decide) p (by omega)]; exact d3 x x0 x1
  · rw [t 0 (by decide)] at hs
    rw [wbV_l f]; exact c4 s hs
theorem Day_l {g g' : Hp} {Λ : Nat → Lw} (m : MT g) (f : Fl g g') (d : Day (dt g) Λ) : Day (dt g') Λ := by
  have t := fun k hk => Fl_txt f k hk
  have h8 := m.1.1.2.2.1.2
  obtain ⟨r1, r2, r3⟩ := Fl_rows f
  refine ⟨by rw [t 13 (by decide), t 14 (by decide)]; exact d.1, fun p p0 p1 => ?_⟩
  rw [t 0 (by decide)] at p1
  obtain ⟨d1, d2, d3, d4, d5⟩ := d.2 p p0 p1
  unfold DayP
  rw [r1 6 (by decide) (by decide) p (by omega), r1 7 (by decide) (by decide) p (by omega), r1 8 (by decide) (by decide) p (by omega), r1 9 (by decide) (by decide) p (by omega), t 22 (by decide), t 23 (by decide), t 16 (by decide), t 13 (by decide), t 17 (by decide), t 18 (by decide), t 15 (by decide)]
  refine ⟨d1, d2, d3, d4, fun x x0 x1 => ?_⟩
  rw [r2 10 (by decide) (by decide) _ (by omega), r2 11 (by decide) (by decide) _ (by omega), r3 _ (by omega)]
  exact d5 x x0 x1
theorem RwN_l {n : Int} {g g' : Hp} {N : Int → Int} (f : Fl g g') (r : RwN n (dt g) N) : RwN n (dt g') N := by
  have t := fun k hk => Fl_txt f k hk
  unfold RwN Rgd Rok Aok at r ⊢
  rw [t 0 (by decide), t 1 (by decide)]
  exact r
theorem StE_l {g g' h : Hp} {b : Int} {N : Int → Int} (f : Fl g g') (r : StE h b (dt g) N) : StE h b (dt g') N := by
  have t := fun k hk => Fl_txt f k hk
  unfold StE at r ⊢
  rw [t 1 (by decide), t 3 (by decide)]
  exact r
theorem CT_l {g g' : Hp} {N : Int → Int} {w : Int} {al : Nat} (m : MT g) (f : Fl g g') (hr : Rok (dt g) N) (hw : 0 ≤ w ∧ w < dt g 1 0) (hl : al < 256) {s p : Nat} (hs1 : 1 ≤ s) (hs : s < 2 ^ (dt g 0 0).toNat) (ha : s &&& al = s) (hp : p < 8) (hb : s.testBit p = true) : CT (dt g') (plG N w 0 0) w al (8 * s + p) = CT (dt g) (plG N w 0 0) w al (8 * s + p) := by
  have t := fun k hk => Fl_txt f k hk
  have m' := (Fl_MT m f).1.1
  have h8 := m.1.1.2.2.1.2
  obtain ⟨r1, r2, r3⟩ := Fl_rows f
  have hr' : Rok (dt g') N := by unfold Rok at hr ⊢; rw [t 1 (by decide)]; exact hr
  have hw' : 0 ≤ w ∧ w < dt g' 1 0 := by rw [t 1 (by decide)]; exact hw
  have rr := hr.1 w hw.1 hw.2
  refine CT_alk m.1.1 m' (G_pl m' hr' hw' (by decide)) hw hw' hl (show 0 ≤ N (38 + w) + 0 by omega) ⟨by rw [t 0 (by decide)], by rw [t 3 (by decide)], fun q q0 q1 => ?_⟩ hs1 hs ha hp hb
  show dt g' 6 (0 + q) = dt g 6 (0 + q) ∧ dt g' 7 (0 + q) = dt g 7 (0 + q) ∧ dt g' 8 (0 + q) = dt g 8 (0 + q) ∧ ∀ x, 0 ≤ x → x < 600 → dt g' 12 (601 * (0 + q) + x) = dt g 12 (601 * (0 + q) + x)
  exact ⟨r1 6 (by decide) (by decide) _ (by omega), r1 7 (by decide) (by decide) _ (by omega), r1 8 (by decide) (by decide) _ (by omega), fun x x0 x1 => r3 _ (by omega)⟩
theorem lr_l {g g' : Hp} {N : Int → Int} {w a : Int} {al : Nat} (m : MT g) (f : Fl g g') (hr : Rok (dt g) N) (hw : 0 ≤ w ∧ w < dt g 1 0) (hl : al < 256) {s : Nat} (hs : s < 2 ^ (dt g 0 0).toNat) (ha : s &&& al = s) : lrV (CT (dt g') (plG N w 0 0) w al) a s = lrV (CT (dt g) (plG N w 0 0) w al) a s := by
  unfold lrV
  refine mnB_congr 8 (fun o ho hob => ?_)
  have : 1 ≤ s := Nat.pos_of_ne_zero (fun z => by rw [z, Nat.zero_testBit] at hob; exact absurd hob (by decide))
  exact CT_l m f hr hw hl this hs ha ho hob
theorem wcan_l {g g' : Hp} {N : Int → Int} {w b : Int} (m : MT g) (f : Fl g g') (hr : Rok (dt g) N) (hw : 0 ≤ w ∧ w < dt g 1 0) : wcan (dt g') N w b = wcan (dt g) N w b := by
  have t := fun k hk => Fl_txt f k hk
  have en : nevN (dt g') N = nevN (dt g) N := by unfold nevN; rw [t 0 (by decide)]
  funext s
  unfold wcan wcV canV
  rw [en]
  by_cases ha : s &&& nevN (dt g) N = s
  · have hs : s < 2 ^ (dt g 0 0).toNat := Nat.lt_of_le_of_lt (by rw [← ha]; exact Nat.and_le_right) (nev_lt _ _)
    rw [lr_l m f hr hw (nev8 m.1.1 _) hs ha]
  · rw [if_neg (fun z => ha z.1), if_neg (fun z => ha z.1)]
theorem RwE_l {g g' h : Hp} {r w a : Int} {N : Int → Int} {al : Nat} (m : MT g) (f : Fl g g') (hr : Rok (dt g) N) (hw : 0 ≤ w ∧ w < dt g 1 0) (hl : al < 256) (e : RwE h r (dt g) (plG N w 0 0) w a al) : RwE h r (dt g') (plG N w 0 0) w a al := by
  have t := fun k hk => Fl_txt f k hk
  have h8 := m.1.1.2.2.1.2
  obtain ⟨r1, r2, r3⟩ := Fl_rows f
  obtain ⟨⟨c1, c2, c3, c4, c5⟩, e2, e3, e4⟩ := e
  refine ⟨⟨c1, c2, by rw [t 0 (by decide)]; exact c3, c4, fun p p0 p1 => ?_⟩, e2, fun o p o0 o1 p0 p1 => ?_, fun s hs => ?_⟩
  · rw [t 0 (by decide)] at p1
    have := c5 p p0 p1
    show SdE h (sdA 0 p) (dt g') (0 + p)
    exact SdE_l f ⟨by omega, by omega⟩ this
  · rw [t 0 (by decide)] at o1 p1
    rw [e3 o p o0 o1 p0 p1]
    unfold wyC
    show wayI (dt g 3 w) (dt g 6 (0 + o)) (dt g 7 (0 + o)) (dt g 6 (0 + p)) (dt g 7 (0 + p)) = wayI (dt g' 3 w) (dt g' 6 (0 + o)) (dt g' 7 (0 + o)) (dt g' 6 (0 + p)) (dt g' 7 (0 + p))
    rw [t 3 (by decide), r1 6 (by decide) (by decide) (0 + o) (by omega), r1 7 (by decide) (by decide) (0 + o) (by omega), r1 6 (by decide) (by decide) (0 + p) (by omega), r1 7 (by decide) (by decide) (0 + p) (by omega)]
  · rw [t 0 (by decide)] at hs
    obtain ⟨q1, q2⟩ := e4 s hs
    refine ⟨?_, fun s1 sa p hb => ?_⟩
    · rw [q1]
      unfold snC
      by_cases z : s = 0
      · rw [if_pos z, if_pos z]
      · rw [if_neg z, if_neg z]
        by_cases y : s &&& al = s
        · rw [if_pos y, if_pos y, lr_l m f hr hw hl hs y]
        · rw [if_neg y, if_neg y]
    · rw [q2 s1 sa p hb]
      have hp8 : p < 8 := by
        apply Classical.byContradiction
        intro c
        have h8' := D8 m.1.1
        rw [Nat.testBit_lt_two_pow (Nat.lt_of_lt_of_le hs (Nat.pow_le_pow_right (by decide) (by omega)))] at hb
        exact absurd hb (by decide)
      rw [CT_l m f hr hw hl s1 hs sa hp8 hb]
theorem JPl_l {g g' h : Hp} {N : Int → Int} {Λ : Nat → Lw} (m : MT g) (tx : Tex (dt g)) (f : Fl g g') (hr : Rok (dt g) N) (e : JPl h (dt g) N (fun k b => lgB g (Λ 0) k b)) : JPl h (dt g') N (fun k b => lgB g' (Λ 0) k b) := by
  have t := fun k hk => Fl_txt f k hk
  have en : nevN (dt g') N = nevN (dt g) N := by unfold nevN; rw [t 0 (by decide)]
  obtain ⟨e1, e2, e3⟩ := e
  refine ⟨fun w w0 w1 => ?_, ?_, fun k k0 k1 => ?_⟩
  · rcases e1 w w0 w1 with q | ⟨q1, q2, q3⟩
    · exact Or.inl q
    · refine Or.inr ⟨q1, by rw [t 1 (by decide)]; exact q2, ?_⟩
      rw [en]
      exact RwE_l m f hr ⟨w0, q2⟩ (nev8 m.1.1 _) q3
  · rcases e2 with q | ⟨q1, q2⟩
    · exact Or.inl q
    · refine Or.inr ⟨q1, fun v hv => ?_⟩
      rw [t 0 (by decide)] at hv
      obtain ⟨y1, y2⟩ := q2 v hv
      refine ⟨y1, fun b b0 b1 => ?_⟩
      rw [y2 b b0 b1, t 1 (by decide)]
      have : ∀ n : Nat, (n : Int) ≤ dt g 1 0 → shW (fun w s => wcan (dt g') N w b s) n = shW (fun w s => wcan (dt g) N w b s) n := by
        intro n
        induction n with
        | zero => intro _; rfl
        | succ n ih =>
          intro hn
          unfold shW
          rw [ih (by omega)]
          have := wcan_l (b := b) m f hr (w := (n : Int)) ⟨by omega, by omega⟩
          show shO _ (fun s => wcan (dt g') N n b s) _ 256 = shO _ (fun s => wcan (dt g) N n b s) _ 256
          rw [this]
      rw [this _ (by have := m.1.1.2.2.2.1; omega)]
  · rcases e3 k k0 k1 with q | ⟨q1, q2⟩
    · exact Or.inl q
    · exact Or.inr ⟨q1, fun b b0 b1 => by rw [q2 b b0 b1]; show lgB g (Λ 0) k b = true ↔ lgB g' (Λ 0) k b = true; rw [lgB_Fl m tx ⟨k0, k1⟩ f]⟩
theorem JJ_l {n : Int} {h h1 h2 : Hp} {Λ : Nat → Lw} (j : JJ n h Λ) (q : PL h h1 Λ) (fl : Fl h1 h2) : JJ (n + 1) h2 Λ := by
  have e := RfE_X q.1 (fun b hb => by unfold Xl at hb; omega)
  have d1 := RfE_dt e
  have jm := RfE_JM e j.1
  have dk := jD j
  have F := FrX_Fl fl
  have jk1 := JK0_X dk (FrX_mono (fun b hb => by unfold Xl at hb; unfold Xq; omega) q.1) (JK0_mono (show n ≤ n + 1 by omega) j.2.1)
  have jk2 := JK0_X dk (FrX_mono (fun b hb => Xr_q hb) F) jk1
  obtain ⟨m1, m2, m3, m4, m5, m6, m7, m8, m9⟩ := jm
  have t := fun k hk => Fl_txt fl k hk
  have na : ∀ a : Int, a ≠ 194 → ¬ ((227 ≤ a ∧ a ≤ 228) ∨ (232 ≤ a ∧ a ≤ 238) ∨ a = 240 ∨ (242 ≤ a ∧ a ≤ 248)) → rd h2 a = rd h1 a := fl.2.2.1
  have nk : ∀ k : Int, ¬ (k = 51 ∨ (67 ≤ k ∧ k ≤ 71) ∨ k = 73 ∨ k = 79) → rd h2 194 k = rd h1 194 k := fl.2.2.2.1
  have E : ∀ a : Int, 194 < a → a < 254 → ¬ ((227 ≤ a ∧ a ≤ 228) ∨ (232 ≤ a ∧ a ≤ 238) ∨ a = 240 ∨ (242 ≤ a ∧ a ≤ 248)) → rd h2 a = rd h a := fun a a1 a2 a3 => (na a (by omega) a3).trans (e.2 a (by omega) a2)
  have K : ∀ k : Int, ¬ (k = 51 ∨ (67 ≤ k ∧ k ≤ 71) ∨ k = 73 ∨ k = 79) → rd h2 194 k = rd h 194 k := fun k hk => (nk k hk).trans (by rw [e.2 194 (by decide) (by decide)])
  have e239 := E 239 (by decide) (by decide) (by decide)
  refine ⟨⟨Fl_MT m1 fl, Fl_Tex fl m2, Day_l m1 fl m3, fun k hk => RLr_eq (fl.2.2.2.1 18 (by decide)) (fun b q1 q2 => fl.2.2.1 b (by omega) (by omega)) (m4 k hk), ?_, ?_, ?_, ?_, ?_⟩, ?_, ?_, Dy_Xr fl.1 F q.2.1⟩
  · unfold Keys; rw [na 201 (by decide) (by decide)]; exact m5
  · unfold TkI; rw [na 197 (by decide) (by decide), na 198 (by decide) (by decide)]; exact m6
  · unfold BytI; rw [nk 2 (by decide), na 195 (by decide) (by decide), na 196 (by decide) (by decide)]; exact m7
  · unfold Tdk; rw [nk 80 (by decide), na 249 (by decide) (by decide), na 251 (by decide) (by decide), t 0 (by decide)]; exact m8
  · rw [na 239 (by decide) (by decide)]; exact RwN_mono (by omega) (RwN_l fl m9)
  · obtain ⟨g1, g2, ⟨c1, c2, c3, c4⟩, g4, g5, g6, g7⟩ := jk2
    rw [← d1] at c1 c3 g4 g5 g6
    unfold JK
    rw [E 195 (by decide) (by decide) (by decide), K 2 (by decide), K 17 (by decide), K 64 (by decide), K 80 (by decide), e239, E 241 (by decide) (by decide) (by decide), E 249 (by decide) (by decide) (by decide), E 250 (by decide) (by decide) (by decide), E 251 (by decide) (by decide) (by decide), E 252 (by decide) (by decide) (by decide), E 253 (by decide) (by decide) (by decide)]
    refine ⟨g1, g2, ⟨CD_l m1 fl c1, c2, ?_, c4⟩, StE_l fl g4, ?_, fun i i0 i1 => ?_, g7⟩
    · rw [t 0 (by decide), erF_l m1 fl]; exact c3
    · obtain ⟨p1, p2, p3, p4⟩ := g5
      refine ⟨p1, p2, p3, fun k k0 k1 => ?_⟩
      obtain ⟨y1, w, p, y2, y3, y4, y5⟩ := p4 k k0 k1
      exact ⟨RwN_l fl y1, w, p, y2, y3, by rw [t 1 (by decide)]; exact y4, y5⟩
    · obtain ⟨y1, y2, y3⟩ := g6 i i0 i1
      exact ⟨y1, y2, fun z => ⟨StE_l fl (y3 z).1, RwN_l fl (y3 z).2⟩⟩
  · have pl := q.2.2
    rw [← d1] at pl
    have hl : (fun k b => lgB h (Λ 0) k b) = (fun k b => lgB h1 (Λ 0) k b) := by funext k b; exact (lgB_dt d1 _ _ _).symm
    rw [hl] at pl
    rw [e239]
    exact JPl_X (by rw [t 0 (by decide), d1]; exact dk.1.2) F (fun b hb => by unfold Xr at hb; omega) (JPl_l m1 m2 fl (by rw [d1]; exact (jRw j).1.1) pl)
theorem k_large {F : Nat} {n b : Int} {h : Hp} {Λ : Nat → Lw} (hF : 6000 ≤ F) (j : JJ n h Λ) : Okc n h (Tide_large F 1 b h) (fun h1 => Mod_large F 194 b h1) := by
  have s := jS j
  have q0 := PL_0 j
  by_cases cb : 0 ≤ b ∧ b ≤ 600
  · obtain ⟨h1, a1, a2⟩ := c_largest (F := F) hF j cb 16 F h (by omega) (by omega) q0
    have e := RfE_X a2.1 (fun b hb => by unfold Xl at hb; omega)
    have jm := RfE_JM e j.1
    obtain ⟨h2, b1, b2⟩ := m_large (F := F) (b := b) (by omega) jm.1 jm.2.1 (RLr_w jm.1.1.1.2.1 (jm.2.2.2.1 0 (by decide)))
    refine ⟨lrgA h1 (Λ 0) b, h1, h2, Λ, ?_, a2.1.1, b1, JJ_l j a2 b2, Sc_X s a2.1 (by unfold Xl; omega), Sc_Fl b2⟩
    unfold Tide_large Plan_largest lrgA
    have a1' : Plan_largest_L3 F F 82 22 b 16 h = some (lgD (fun k => lgB h (Λ 0) k b) 16, h1) := a1
    rw [c_isBound, cl_some, if_pos cb, if_neg (by decide), gT9 s, gT4 s, ivN s, a1', cl_some, if_pos cb]
    congr 2
    congr 1
    funext k
    exact (lgB_dt (RfE_dt e) _ _ _).symm
  · obtain ⟨h2, b1, b2⟩ := m_large (F := F) (b := b) (by omega) j.1.1 j.1.2.1 (RLr_w (jMo j).2.1 (j.1.2.2.2.1 0 (by decide)))
    refine ⟨-1, h, h2, Λ, ?_, s, ?_, JJ_l j q0 b2, ⟨rfl, rfl⟩, Sc_Fl b2⟩
    · unfold Tide_large
      rw [c_isBound, cl_some, if_neg cb, if_pos rfl]
    · unfold lrgA at b1
      rw [if_neg cb] at b1
      exact b1
