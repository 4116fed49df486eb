/-! read: a FAULT -/
theorem lgB_r {h h' : Hp} {L : Lw} {k b : Int} (m : Mo h) (m' : Mo h') (tx : Tex (dt h)) (a : Ak (dt h) (dt h')) (hk : 1 ≤ k ∧ k ≤ 16) : lgB h' L k b = lgB h L k b := by
  have tx' := Tex_r a tx
  have h8 := m.2.2.1.2
  have h3 := m.2.2.2.1.2
  obtain ⟨a1, a2, a3, a4⟩ := a
  have eT : lgT (dt h') = lgT (dt h) := by unfold lgT; rw [a1 0 (by decide)]
  have eX : ∀ p, 0 ≤ p → p < 8 → szX (dt h') k p = szX (dt h) k p := fun p p0 p1 => by unfold szX; rw [a1 20 (by decide), a2 22 (by decide) p p0 p1]
  have eY : ∀ p, 0 ≤ p → p < 8 → szY (dt h') k p = szY (dt h) k p := fun p p0 p1 => by unfold szY; rw [a1 21 (by decide), a2 23 (by decide) p p0 p1]
  have eZ : ∀ p, 0 ≤ p → p < 8 → szT (dt h') k p = szT (dt h) k p := fun p p0 p1 => by unfold szT; rw [a2 16 (by decide) p p0 p1]
  have eN : ∀ p m, 0 ≤ p → p < 8 → szN (dt h') L k p m = szN (dt h) L k p m := fun p m p0 p1 => by unfold szN; rw [a4 13 (by decide) (by decide), a1 17 (by decide), a1 18 (by decide), eX p p0 p1, eY p p0 p1, eZ p p0 p1]
  have lt256 : lgT (dt h) < 256 := by
    have := Nat.pow_le_pow_right (n := 2) (by decide) (D8 m)
    have := Nat.two_pow_pos (dt h 0 0).toNat
    unfold lgT
    omega
  have hz0 : dt (zH h L k) 0 = dt h 0 := zH_dt 0 (by decide)
  have hz0' : dt (zH h' L k) 0 = dt h' 0 := zH_dt 0 (by decide)
  have hz1 : dt (zH h L k) 1 = dt h 1 := zH_dt 1 (by decide)
  have hz1' : dt (zH h' L k) 1 = dt h' 1 := zH_dt 1 (by decide)
  have hz3 : dt (zH h L k) 3 = dt h 3 := zH_dt 3 (by decide)
  have hz3' : dt (zH h' L k) 3 = dt h' 3 := zH_dt 3 (by decide)
  have qz : Qok (dt (zH h' L k)) 8 := Qok_sz tx' hk (by rw [hz0']) (fun p p0 p1 => ⟨by rw [zH_6, if_pos (by omega), show 8 + p - 8 = p by omega], by rw [zH_7, if_pos (by omega), show 8 + p - 8 = p by omega], by rw [zH_8, if_pos (by omega), show 8 + p - 8 = p by omega], fun m m0 m1 => zH_12p p0 ⟨m0, m1⟩⟩)
  have al : ∀ p, 0 ≤ p → p < dt (zH h L k) 0 0 → dt (zH h' L k) 6 (8 + p) = dt (zH h L k) 6 (8 + p) ∧ dt (zH h' L k) 7 (8 + p) = dt (zH h L k) 7 (8 + p) ∧ dt (zH h' L k) 8 (8 + p) = dt (zH h L k) 8 (8 + p) ∧ ∀ m, 0 ≤ m → m < 600 → dt (zH h' L k) 12 (601 * (8 + p) + m) = dt (zH h L k) 12 (601 * (8 + p) + m) := fun p p0 p1 => by
    rw [hz0] at p1
    refine ⟨?_, ?_, ?_, fun m m0 m1 => ?_⟩
    · rw [zH_6, zH_6, if_pos (by omega), if_pos (by omega)]; exact eX _ (by omega) (by omega)
    · rw [zH_7, zH_7, if_pos (by omega), if_pos (by omega)]; exact eY _ (by omega) (by omega)
    · rw [zH_8, zH_8, if_pos (by omega), if_pos (by omega)]; exact eZ _ (by omega) (by omega)
    · rw [zH_12p p0 ⟨m0, m1⟩, zH_12p p0 ⟨m0, m1⟩]; exact eN p m p0 (by omega)
  have eC : ∀ w : Nat, (w : Int) < dt h 1 0 → lgC h' L k b w = lgC h L k b w := by
    intro w hw
    funext s
    have wk := tx.2.2.2.1 w (by omega) hw
    have eG : lgG (dt h') w = lgG (dt h) w := by
      funext i
      rcases i with _ | _ | _ | _ | i
      · show dt h' 4 w = dt h 4 w
        exact a3 4 (by decide) (by decide) w (by omega) (by omega)
      · show dt h' 5 w = dt h 5 w
        exact a3 5 (by decide) (by decide) w (by omega) (by omega)
      · rfl
      · rfl
      · rfl
    have gkz : Gok (dt (zH h' L k)) (lgG (dt h) w) := ⟨qz, by show -1000 ≤ dt h 4 w ∧ dt h 4 w ≤ 1000; omega, by show -1000 ≤ dt h 5 w ∧ dt h 5 w ≤ 1000; omega, by show (0 : Int) ≤ 0 ∧ (0 : Int) ≤ 3000; decide⟩
    have w3 : 0 ≤ (w : Int) ∧ (w : Int) < dt (zH h L k) 1 0 := by rw [hz1]; omega
    have w3' : 0 ≤ (w : Int) ∧ (w : Int) < dt (zH h' L k) 1 0 := by rw [hz1', a1 1 (by decide)]; omega
    have ce : canV (CT (dt (zH h' L k)) (lgG (dt h) w) w (lgT (dt h))) 0 b (lgT (dt h)) s = canV (CT (dt (zH h L k)) (lgG (dt h) w) w (lgT (dt h))) 0 b (lgT (dt h)) s := by
      refine canV_eq (fun p hp hb ha h1' => ?_)
      exact CT_alk (h := zH h L k) (h' := zH h' L k) (zH_Mo m L k) (zH_Mo m' L k) gkz w3 w3' lt256 (by show (0 : Int) ≤ 0; decide) ⟨by rw [hz0, hz0', a1 0 (by decide)], by rw [hz3, hz3']; exact a3 3 (by decide) (by decide) w (by omega) (by omega), al⟩ h1' (by rw [hz0]; exact lgT_sub ha) ha hp hb
    unfold lgC
    rw [eT, eG, ce]
  unfold lgB
  rw [eT, a1 1 (by decide)]
  have h1n := m.2.2.2.1.1
  exact congrFun (shW_cg (dt h 1 0).toNat (fun w hw => eC w (by omega))) _
theorem JPl_r {g g' h : Hp} {N : Int → Int} {L : Lw} (m : Mo g) (m' : Mo g') (tx : Tex (dt g)) (a : Ak (dt g) (dt g')) (e : JPl h (dt g) N (fun k b => lgB g L k b)) : JPl h (dt g') N (fun k b => lgB g' L k b) := by
  obtain ⟨e1, e2, e3⟩ := e
  have h3 := m.2.2.2.1
  refine ⟨fun w w0 w1 => ?_, ?_, fun k k0 k1 => ?_⟩
  · rcases e1 w w0 w1 with q | ⟨q1, q2, q3⟩
    · exact Or.inl q
    · refine Or.inr ⟨q1, by rw [a.1 1 (by decide)]; exact q2, ?_⟩
      rw [nev_r a]
      exact RwE_r a ⟨w0, w1⟩ q3
  · rcases e2 with q | ⟨q1, q2⟩
    · exact Or.inl q
    · refine Or.inr ⟨q1, fun v hv => ?_⟩
      rw [a.1 0 (by decide)] at hv
      obtain ⟨y1, y2⟩ := q2 v hv
      refine ⟨y1, fun b b0 b1 => ?_⟩
      rw [y2 b b0 b1, a.1 1 (by decide), shW_cg (C := fun w s => wcan (dt g) N w b s) (C' := fun w s => wcan (dt g') N w b s) (dt g 1 0).toNat (fun w hw => ?_)]
      show wcan (dt g') N w b = wcan (dt g) N w b
      exact wcan_r a ⟨by omega, by omega⟩
  · rcases e3 k k0 k1 with q | ⟨q1, q2⟩
    · exact Or.inl q
    · exact Or.inr ⟨q1, fun b b0 b1 => by rw [q2 b b0 b1]; show lgB g L k b = true ↔ lgB g' L k b = true; rw [lgB_r m m' tx a ⟨k0, k1⟩]⟩
/-- laws stay where their side is not touched -/
theorem cdA_rg {C I C' I' : Int → Int} {lo m : Int} (h1 : ∀ j, lo ≤ j → j < m → C' j = C j) (h2 : ∀ j, lo ≤ j → j < m → I' j = I j) : ∀ (cs : Cds) (c : Int), lo ≤ c → c + cs.length ≤ m → cdA C I c cs → cdA C' I' c cs
  | [], _, _, _, _ => trivial
  | q :: cs, c, h0, hm, ⟨a, b, d⟩ => by
    have e : ((q :: cs).length : Int) = (cs.length : Int) + 1 := by simp
    exact ⟨by rw [h1 c h0 (by omega)]; exact a, by rw [h2 c h0 (by omega)]; exact b, cdA_rg h1 h2 cs (c + 1) (by omega) (by omega) d⟩
def Eqr (h h' : Hp) (lb bb lo cb : Int) : Prop := (∀ a j, 219 ≤ a → a ≤ 223 → lb ≤ j → j < bb → rd h' a j = rd h a j) ∧ ∀ a j, 224 ≤ a → a ≤ 225 → lo ≤ j → j < cb → rd h' a j = rd h a j
theorem segB_rg {h h' : Hp} {lb bb lo cb a b : Int} {cs : Cds} (e : Eqr h h' lb bb lo cb) (g : segB h lo cb a b cs) : segB h' lo cb a b cs := by
  obtain ⟨g1, g2, g3, g4, g5⟩ := g
  exact ⟨g1, g2, g3, cdA_rg (fun j q1 q2 => e.2 224 j (by decide) (by decide) q1 q2) (fun j q1 q2 => e.2 225 j (by decide) (by decide) q1 q2) cs a g1.2 (by omega) g4, g5⟩
theorem RBc_rg {h h' : Hp} {lb bb lo cb b : Int} {q : Option (Cds × Cds) × Cds} (e : Eqr h h' lb bb lo cb) (h0 : lb ≤ b) (hb : b < bb) (g : RBc h lo cb b q) : RBc h' lo cb b q := by
  unfold RBc at g ⊢
  rw [e.1 222 b (by decide) (by decide) h0 hb, e.1 223 b (by decide) (by decide) h0 hb]
  refine ⟨segB_rg e g.1, ?_⟩
  have g2 := g.2
  cases hq : q.1 with
  | none => rw [hq] at g2; simp only at g2 ⊢; rw [e.1 219 b (by decide) (by decide) h0 hb]; exact g2
  | some t =>
    rw [hq] at g2
    simp only at g2 ⊢
    rw [e.1 219 b (by decide) (by decide) h0 hb, e.1 220 b (by decide) (by decide) h0 hb, e.1 221 b (by decide) (by decide) h0 hb]
    exact ⟨g2.1, segB_rg e g2.2.1, segB_rg e g2.2.2⟩
theorem RBl_rg {h h' : Hp} {lb bb lo cb : Int} (e : Eqr h h' lb bb lo cb) : ∀ (L : Lw) (b : Int), lb ≤ b → b + L.length ≤ bb → RBl h lo cb b L → RBl h' lo cb b L
  | [], _, _, _, _ => trivial
  | q :: r, b, h0, hb, g => by
    have e1 : ((q :: r).length : Int) = (r.length : Int) + 1 := by simp
    exact ⟨RBc_rg e h0 (by omega) g.1, RBl_rg e r (b + 1) (by omega) (by omega) g.2⟩
theorem RLr_r {h h' : Hp} {k : Nat} {L : Lw} (hk : k < 5) (hl : rd h 194 18 = 0 ∨ rd h 194 18 = 1) (f : RdX h h') (g : RLr h k L) : RLr h' k L := by
  obtain ⟨-, -, f3, f4, f5, -, -, -, -⟩ := f
  have e18 : rd h' 194 18 = rd h 194 18 := f5 18 (by decide)
  obtain ⟨bb, cb, h1, h2, g1, g2, g3, g4, g5⟩ := g
  have e7 : rd h' 217 (5 * rd h 194 18 + k) = rd h 217 (5 * rd h 194 18 + k) := f4 217 _ (by decide) (by decide) (by rw [show wdt 217 = 5 from rfl]; omega)
  have e8 : rd h' 218 (5 * rd h 194 18 + k) = rd h 218 (5 * rd h 194 18 + k) := f4 218 _ (by decide) (by decide) (by rw [show wdt 218 = 5 from rfl]; omega)
  have eq : Eqr h h' (130 * rd h 194 18) bb (420 * rd h 194 18) cb := by
    refine ⟨fun a j a1 a2 j0 j1 => f4 a j (by omega) (by omega) ?_, fun a j a1 a2 j0 j1 => f4 a j (by omega) (by omega) ?_⟩
    · have : wdt a = 130 := by unfold wdt; rw [if_neg (by omega), if_neg (by omega), if_neg (by omega), if_neg (by omega), if_pos (by omega)]
      rw [this]; omega
    · have : wdt a = 420 := by unfold wdt; rw [if_neg (by omega), if_neg (by omega), if_neg (by omega), if_neg (by omega), if_neg (by omega)]
      rw [this]; omega
  refine ⟨bb, cb, by rw [e18]; exact h1, by rw [e18]; exact h2, ?_⟩
  rw [e18]
  unfold LB
  rw [e7, e8]
  refine ⟨g1, g2, g3, g4, ?_⟩
  rcases g3 with q | q
  · subst q; trivial
  · exact RBl_rg eq L _ q.1 (by omega) g5
/-- the shore stays where its script is not touched -/
theorem JShore_Y {X : Int → Prop} {h h' : Hp} {D : Nat → Int → Int} {Λ : Nat → Lw} (dk : Dok D) (f : FrX X h h') (hx : ∀ b, X b → ¬ (rd h 22 0 ≤ b ∧ b ≤ rd h 22 0 + 10) ∧ b ≠ 22 ∧ ¬ (36 ≤ b ∧ b ≤ 63)) (g : JShore h D Λ) : JShore h' D Λ := by
  obtain ⟨⟨c1, c2, c3, c4⟩, s2, s3, s4⟩ := g
  have e : ∀ b, b < 254 → ¬ X b → rd h' b = rd h b := fun b h1 h2 => f.2.2.2.1 b h1 h2
  have n : ∀ b, (36 ≤ b ∧ b ≤ 63) ∨ b = 22 → ¬ X b := fun b hb q => by have := hx b q; omega
  have e22 := e 22 (by decide) (n 22 (by omega))
  have ic := c1.1
  refine ⟨⟨?_, ?_, fun p p0 p1 => ?_, ?_⟩, ?_, ?_, ?_⟩
  · rw [e22]; exact CxE_X f (fun b b1 b2 q => by have := hx b q; omega) c1
  · rw [e 36 (by decide) (n 36 (by omega)), e 37 (by decide) (n 37 (by omega))]; exact c2
  · obtain ⟨d1, d2, d3⟩ := c3 p p0 p1
    have := dk.1.2
    exact ⟨SdE_X f (n _ (by omega)) d1, SdF_X f d1.1 (n _ (by omega)) d2, d3⟩
  · rw [e 39 (by decide) (n 39 (by omega))]; exact c4
  · rw [e22]; exact CLz_X ic f (fun b b1 b2 q => by have := hx b q; omega) s2
  · rw [e 40 (by decide) (n 40 (by omega)), e 41 (by decide) (n 41 (by omega))]; exact s3
  · rw [e 39 (by decide) (n 39 (by omega))]; exact s4
