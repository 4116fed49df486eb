/-! the class beside the reference -/
def rowR (H : Int → Int) (k : Int) : Int → Int := fun j => H (140 * k + j)
/-- a row of how things stand, in order; at most n acts -/
def RwN (n : Int) (D : Nat → Int → Int) (N : Int → Int) : Prop := Rgd D N ∧ Aok D N ∧ (∀ i : Nat, (i : Int) < N 44 → i < 30 → N (45 + 3 * i) = 0 ∨ N (45 + 3 * i) = 1 ∨ N (45 + 3 * i) = 2) ∧ (0 ≤ N 44 ∧ N 44 ≤ n) ∧ ∀ p, D 0 0 ≤ p → p < 8 → N p = -2 ∧ N (8 + p) = 0
/-- the k-th of the kept rows, and what is now behind the last -/
def hRw (H N : Int → Int) (u k : Int) : Int → Int := if k < u then rowR H k else N
def PsI (n : Int) (h : Hp) (D : Nat → Int → Int) (u : Int) (N H : Int → Int) : Prop := rd h 78 2 = u ∧ (0 ≤ u ∧ u ≤ 40) ∧ (0 ≤ rd h 78 1 ∧ rd h 78 1 < 41) ∧ ∀ k, 0 ≤ k → k < u → RwN n D (rowR H k) ∧ ∃ w p, (0 ≤ w ∧ w < 3) ∧ (0 ≤ p ∧ p < 8) ∧ NtC h (D 1 0) ((rd h 78 1 + 41 - u + k) % 41) w p (rowR H k) ∧ Lnk (rowR H k) (hRw H N u (k + 1)) w p
def JTape (h : Hp) (B : Int → Int) (ln pl : Int) : Prop := (rd h 1 1 = ln ∧ (0 ≤ ln ∧ ln ≤ 2000)) ∧ (∀ i, 0 ≤ i → i < ln → rd h 2 i = B i) ∧ rd h 1 2 = pl ∧ BtC h
def JRead (h : Hp) : Prop := WdI h ∧ CkI h ∧ ((rd h 3 5 = 9 ∧ rd h 22 0 = 23) ∨ (rd h 3 5 = 23 ∧ rd h 22 0 = 9))
def JShore (h : Hp) (D : Nat → Int → Int) (Λ : Nat → Lw) : Prop := CD h D ∧ CLz h (rd h 22 0) Λ ∧ (∀ p : Nat, p < (D 0 0).toNat → rd h 40 p = (erF D (Λ 3)).1 p ∧ rd h 41 p = (erF D (Λ 3)).2 p) ∧ rd h 39 0 = 0
def JHeld (n : Int) (h : Hp) (D : Nat → Int → Int) (E G : Int → Int) : Prop := ∀ i, 0 ≤ i → i < 3 → rd h 81 i = E i ∧ (E i = 0 ∨ E i = 1) ∧ (E i = 1 → StE h (158 + 12 * i) D (rowR G i) ∧ RwN n D (rowR G i))
def JTold (h : Hp) (td : Int) (A B C : Int → Int) : Prop := (rd h 139 4 = td ∧ (0 ≤ td ∧ td ≤ 20)) ∧ ∀ i, 0 ≤ i → i < td → rd h 140 i = A i ∧ rd h 141 i = B i ∧ rd h 142 i = C i ∧ (0 ≤ B i ∧ B i < 600)
/-- the class beside the reference, but for plans -/
def JK0 (n : Int) (h : Hp) (D : Nat → Int → Int) (B : Int → Int) (ln pl u td : Int) (N H A1 A2 A3 E G : Int → Int) (Λ : Nat → Lw) : Prop := JTape h B ln pl ∧ JRead h ∧ JShore h D Λ ∧ StE h 66 D N ∧ PsI n h D u N H ∧ JHeld n h D E G ∧ JTold h td A1 A2 A3
def Xq (b : Int) : Prop := b = 20 ∨ b = 21 ∨ b = 34 ∨ b = 35 ∨ (82 ≤ b ∧ b ≤ 138) ∨ (143 ≤ b ∧ b ≤ 157) ∨ 194 ≤ b
theorem NtC_eq {h h' : Hp} {n s w p : Int} {N : Int → Int} (e : rd h' 79 = rd h 79) (g : NtC h n s w p N) : NtC h' n s w p N := by
  unfold NtC at g ⊢
  rw [e]
  exact g
theorem JK0_X {n : Int} {h h' : Hp} {D : Nat → Int → Int} {B : Int → Int} {ln pl u td : Int} {N H A1 A2 A3 E G : Int → Int} {Λ : Nat → Lw} (dk : Dok D) (f : FrX Xq h h') (g : JK0 n h D B ln pl u td N H A1 A2 A3 E G Λ) : JK0 n h' D B ln pl u td N H A1 A2 A3 E G Λ := by
  obtain ⟨⟨t1, t2, t3, t4⟩, ⟨r1, r2, r3⟩, ⟨s1, s2, s3, s4⟩, st, ⟨p1, p2, p3, p4⟩, hd, ⟨d1, d2⟩⟩ := g
  have e : ∀ b, b < 194 → ¬ Xq b → rd h' b = rd h b := fun b h1 h2 => f.2.2.2.1 b (by omega) h2
  have e1 := e 1 (by decide) (by unfold Xq; omega)
  have e2 := e 2 (by decide) (by unfold Xq; omega)
  have e3 := e 3 (by decide) (by unfold Xq; omega)
  have e4 := e 4 (by decide) (by unfold Xq; omega)
  have e5 := e 5 (by decide) (by unfold Xq; omega)
  have e6 := e 6 (by decide) (by unfold Xq; omega)
  have e22 := e 22 (by decide) (by unfold Xq; omega)
  have e40 := e 40 (by decide) (by unfold Xq; omega)
  have e41 := e 41 (by decide) (by unfold Xq; omega)
  have e39 := e 39 (by decide) (by unfold Xq; omega)
  have e78 := e 78 (by decide) (by unfold Xq; omega)
  have e79 := e 79 (by decide) (by unfold Xq; omega)
  have e81 := e 81 (by decide) (by unfold Xq; omega)
  have e139 := e 139 (by decide) (by unfold Xq; omega)
  have e140 := e 140 (by decide) (by unfold Xq; omega)
  have e141 := e 141 (by decide) (by unfold Xq; omega)
  have e142 := e 142 (by decide) (by unfold Xq; omega)
  have c22 : rd h 22 0 = 9 ∨ rd h 22 0 = 23 := s1.1.1
  refine ⟨⟨?_, ?_, ?_, ?_⟩, ⟨?_, ?_, ?_⟩, ⟨?_, ?_, ?_, ?_⟩, StE_X dk.2.1.2 f (fun a h1 h2 => by unfold Xq; omega) st, ⟨?_, p2, ?_, fun k k0 k1 => ?_⟩, fun i i0 i1 => ?_, ⟨?_, ?_⟩⟩
  · rw [e1]; exact t1
  · rw [e2]; exact t2
  · rw [e1]; exact t3
  · unfold BtC; rw [e2]; exact t4
  · unfold WdI; rw [e4]; exact r1
  · unfold CkI; rw [e5, e6]; exact r2
  · rw [e3, e22]; exact r3
  · obtain ⟨g1, g2, g3, g4⟩ := s1
    refine ⟨?_, fun m m0 m1 => ?_, fun p p0 p1 => ?_, fun t ht => ?_⟩
    · rw [e22]; exact CxE_X f (fun b b1 b2 => by unfold Xq; omega) g1
    · rw [e 36 (by decide) (by unfold Xq; omega), e 37 (by decide) (by unfold Xq; omega)]; exact g2 m m0 m1
    · obtain ⟨z1, z2, z3⟩ := g3 p p0 p1
      have h8 : p < 8 := by have := dk.1.2; omega
      exact ⟨SdE_X f (by unfold Xq; omega) z1, SdF_X f z1.1 (by unfold Xq; omega) z2, z3⟩
    · rw [e39]; exact g4 t ht
  · rw [e22]; exact CLz_X s1.1.1 f (fun b b1 b2 => by unfold Xq; omega) s2
  · rw [e40, e41]; exact s3
  · rw [e39]; exact s4
  · rw [e78]; exact p1
  · rw [e78]; exact p3
  · obtain ⟨q1, w, p, q2, q3, q4, q5⟩ := p4 k k0 k1
    exact ⟨q1, w, p, q2, q3, by rw [e78]; exact NtC_eq e79 q4, q5⟩
  · obtain ⟨q1, q2, q3⟩ := hd i i0 i1
    exact ⟨by rw [e81]; exact q1, q2, fun z => ⟨StE_X dk.2.1.2 f (fun a h1 h2 => by unfold Xq; omega) (q3 z).1, (q3 z).2⟩⟩
  · rw [e139]; exact d1
  · rw [e140, e141, e142]; exact d2
/-- what is known of plans -/
def JPl (h : Hp) (D : Nat → Int → Int) (N : Int → Int) (LG : Int → Int → Bool) : Prop := (∀ w, 0 ≤ w → w < 3 → rd h 84 w = 0 ∨ (rd h 84 w = 1 ∧ w < D 1 0 ∧ RwE h (97 + 6 * w) D (plG N w 0 0) w (N (38 + w) + 0) (nevN D N))) ∧ (rd h 82 6 = 0 ∨ (rd h 82 6 = 1 ∧ ∀ v : Nat, v < 2 ^ (D 0 0).toNat → 0 ≤ rd h 93 v ∧ ∀ b, 0 ≤ b → b ≤ 600 → (rd h 93 v ≤ b ↔ shW (fun w s => wcan D N w b s) (D 1 0).toNat v = true))) ∧ ∀ k, 1 ≤ k → k ≤ 16 → rd h 96 k = -1 ∨ (0 ≤ rd h 96 k ∧ ∀ b, 0 ≤ b → b ≤ 600 → (rd h 96 k ≤ b ↔ LG k b = true))
theorem RwE_X {X : Int → Prop} {h h' : Hp} {r w a : Int} {D : Nat → Int → Int} {G : Nat → Int} {al : Nat} (h8 : D 0 0 ≤ 8) (f : FrX X h h') (hx : ¬ X r ∧ ¬ X (r + 2)) (hs : ∀ p, 0 ≤ p → p < 8 → ¬ X (sdA (G 3) p)) (g : RwE h r D G w a al) : RwE h' r D G w a al := by
  obtain ⟨rc, ⟨ve, vs⟩, wy, rb⟩ := g
  have ir := rc.1
  have hr := rw_cases ir
  have er := f.2.2.2.1 r (by omega) hx.1
  have e2 := f.2.2.2.1 (r + 2) (by omega) hx.2
  have e5 := f.2.2.2.2 r 5 (Or.inr ⟨ir, Or.inl rfl⟩) hx.1 ve.1.1
  have e6 := f.2.2.2.2 r 6 (Or.inr ⟨ir, Or.inr rfl⟩) hx.1 vs.1.1
  refine ⟨⟨ir, by rw [er]; exact rc.2.1, by rw [er]; exact rc.2.2.1, by rw [er]; exact rc.2.2.2.1, fun p p0 p1 => SdE_X f (hs p p0 (by omega)) (rc.2.2.2.2 p p0 p1)⟩, ⟨by rw [er]; exact vA_gr f.2.1 f.2.2.1 ve, by rw [er]; exact vA_gr f.2.1 f.2.2.1 vs⟩, fun o p o0 o1 p0 p1 => by rw [e2]; exact wy o p o0 o1 p0 p1, fun t ht => ?_⟩
  rw [er, e5, e6]
  exact rb t ht
theorem JPl_X {X : Int → Prop} {h h' : Hp} {D : Nat → Int → Int} {N : Int → Int} {LG : Int → Int → Bool} (h8 : D 0 0 ≤ 8) (f : FrX X h h') (hx : ∀ b, X b → b ≠ 82 ∧ b ≠ 84 ∧ b ≠ 93 ∧ b ≠ 96 ∧ ¬ (97 ≤ b ∧ b ≤ 111) ∧ ¬ (42 ≤ b ∧ b ≤ 63)) (g : JPl h D N LG) : JPl h' D N LG := by
  obtain ⟨g1, g2, g3⟩ := g
  have e : ∀ b, b < 254 → (b = 82 ∨ b = 84 ∨ b = 93 ∨ b = 96) → rd h' b = rd h b := fun b h1 h2 => f.2.2.2.1 b h1 (fun q => by have := hx b q; omega)
  refine ⟨fun w w0 w1 => ?_, ?_, ?_⟩
  · rw [e 84 (by decide) (by omega)]
    rcases g1 w w0 w1 with q | ⟨q1, q2, q3⟩
    · exact Or.inl q
    · refine Or.inr ⟨q1, q2, RwE_X h8 f ⟨fun q => by have := hx _ q; omega, fun q => by have := hx _ q; omega⟩ (fun p p0 p1 q => ?_) q3⟩
      have := hx _ q
      unfold sdA at this
      rw [if_pos (show plG N w 0 0 3 = 0 from rfl)] at this
      omega
  · rw [e 82 (by decide) (by omega), e 93 (by decide) (by omega)]; exact g2
  · rw [e 96 (by decide) (by omega)]; exact g3
/-- a law of the text in place, within its side -/
def RLr (h : Hp) (k : Int) (L : Lw) : Prop := ∃ bb cb, bb ≤ 130 * rd h 194 18 + 110 ∧ cb ≤ 420 * rd h 194 18 + 400 ∧ LB h (420 * rd h 194 18) cb bb (rd h 194 18) k L
theorem RLr_w {h : Hp} {k : Int} {L : Lw} (hl : rd h 194 18 = 0 ∨ rd h 194 18 = 1) (g : RLr h k L) : RLw h k L := by
  obtain ⟨bb, cb, _, h2, g⟩ := g
  exact LB_RL g rfl (by omega)
theorem RLr_eq {h h' : Hp} (e18 : rd h' 194 18 = rd h 194 18) (e : ∀ a : Int, 217 ≤ a → a ≤ 225 → rd h' a = rd h a) {k : Int} {L : Lw} (g : RLr h k L) : RLr h' k L := by
  obtain ⟨bb, cb, h1, h2, g⟩ := g
  refine ⟨bb, cb, by rw [e18]; exact h1, by rw [e18]; exact h2, ?_⟩
  rw [e18]
  exact LB_eq ⟨fun a j a1 a2 _ => by rw [e a (by omega) (by omega)], fun a j a1 a2 _ _ => by rw [e a (by omega) (by omega)]⟩ (Int.le_refl _) (Int.le_refl _) (by rw [e 217 (by decide) (by decide)]) (by rw [e 218 (by decide) (by decide)]) g
/-- the reference's side -/
def JM (n : Int) (h : Hp) (Λ : Nat → Lw) : Prop := MT h ∧ Tex (dt h) ∧ Day (dt h) Λ ∧ (∀ k : Nat, k < 5 → RLr h k (Λ k)) ∧ Keys h ∧ TkI h ∧ BytI h ∧ Tdk h ∧ RwN n (dt h) (rd h 239)
/-- both -/
def JK (n : Int) (h g : Hp) (Λ : Nat → Lw) : Prop := JK0 n h (dt g) (rd g 195) (rd g 194 2) (rd g 194 17) (rd g 194 64) (rd g 194 80) (rd g 239) (rd g 241) (rd g 249) (rd g 250) (rd g 251) (rd g 252) (rd g 253) Λ
def JJ (n : Int) (h : Hp) (Λ : Nat → Lw) : Prop := JM n h Λ ∧ JK n h h Λ ∧ JPl h (dt h) (rd h 239) (fun k b => lgB h (Λ 0) k b) ∧ Dy h
/-- cells of the reference alike -/
def RfE (h h' : Hp) : Prop := Sh h' ∧ ∀ a, 194 ≤ a → a < 254 → rd h' a = rd h a
theorem RfE_X {X : Int → Prop} {h h' : Hp} (f : FrX X h h') (hx : ∀ b, X b → b < 194) : RfE h h' := ⟨f.1, fun a h1 h2 => f.2.2.2.1 a h2 (fun q => by have := hx a q; omega)⟩
theorem RfE_dt {h h' : Hp} (e : RfE h h') : dt h' = dt h := dt_eq ⟨by rw [e.2 194 (by decide) (by decide)], fun a h1 h2 => e.2 a (by omega) (by omega), fun a h1 h2 => e.2 a (by omega) (by omega)⟩
theorem RfE_MT {h h' : Hp} (e : RfE h h') (m : MT h) : MT h' := by
  obtain ⟨⟨⟨s, l, d⟩, m2, m3, m4, m5, m6, m7⟩, m8⟩ := m
  refine ⟨⟨⟨e.1, ?_, ?_⟩, ?_, ?_, ?_, ?_, ?_, ?_⟩, ?_⟩
  · rw [e.2 194 (by decide) (by decide)]; exact l
  · rw [RfE_dt e]; exact d
  · rw [e.2 239 (by decide) (by decide)]; exact m2
  · rw [e.2 240 (by decide) (by decide)]; exact m3
  · rw [RfE_dt e, e.2 239 (by decide) (by decide)]; exact m4
  · rw [e.2 239 (by decide) (by decide)]; exact m5
  · rw [e.2 194 (by decide) (by decide)]; exact m6
  · rw [e.2 194 (by decide) (by decide)]; exact m7
  · rw [e.2 242 (by decide) (by decide)]; exact m8
theorem RfE_JM {n : Int} {h h' : Hp} {Λ : Nat → Lw} (e : RfE h h') (j : JM n h Λ) : JM n h' Λ := by
  obtain ⟨j1, j2, j3, j4, j5, j6, j7, j8, j9⟩ := j
  refine ⟨RfE_MT e j1, by rw [RfE_dt e]; exact j2, by rw [RfE_dt e]; exact j3, fun k hk => RLr_eq (by rw [e.2 194 (by decide) (by decide)]) (fun a h1 h2 => e.2 a (by omega) (by omega)) (j4 k hk), ?_, ?_, ?_, ?_, by rw [RfE_dt e, e.2 239 (by decide) (by decide)]; exact j9⟩
  · unfold Keys; rw [e.2 201 (by decide) (by decide)]; exact j5
  · unfold TkI; rw [e.2 197 (by decide) (by decide), e.2 198 (by decide) (by decide)]; exact j6
  · unfold BytI; rw [e.2 194 (by decide) (by decide), e.2 195 (by decide) (by decide), e.2 196 (by decide) (by decide)]; exact j7
  · unfold Tdk; rw [e.2 194 (by decide) (by decide), e.2 249 (by decide) (by decide), e.2 251 (by decide) (by decide), RfE_dt e]; exact j8
