/-! read -/
theorem rdR_cg {B B' : Int → Int} {n : Int} (h : ∀ i, 0 ≤ i → i < n → B' i = B i) : rdR B' n = rdR B n := by
  have e : tsF B' n = tsF B n := lx_congr h 2001 0 (by decide)
  unfold rdR KF VF PF MF
  rw [e]
def Xt (c b : Int) : Prop := b = 1 ∨ b = 3 ∨ (5 ≤ b ∧ b ≤ 8) ∨ (c ≤ b ∧ b ≤ c + 10)
theorem rd_bad {F : Nat} {n c cc pp : Int} {h h1 : Hp} {Λ : Nat → Lw} (hF : 6000 ≤ F) (hn : n < 900) (j : JJ n h Λ) (ic : isSc c) (h5 : rd h 3 5 = c) (f : FrX (Xt c) h h1) (z1 : hsz h1 = hsz h ∧ hus h1 = hus h ∧ hkd h1 = hkd h ∧ hln h1 = hln h) (k1 : CkI h1) (k2 : rd h1 3 5 = rd h 3 5) (t1 : rd h1 1 1 = 0) (t2 : rd h1 1 2 = pp) (hr : rdR (rd h 195) (rd h 194 2) = Sum.inl (cc, pp) ∨ ∃ q, rdR (rd h 195) (rd h 194 2) = Sum.inr q ∧ q.2.2.2 = (cc, pp) ∧ cc ≠ 0) : ∃ h2, Mod_read F 194 h1 = some (cc, h2) ∧ JJ (n + 1) h2 Λ ∧ Sc h1 h2 := by
  have hx : ∀ b, Xt c b → b < 194 := fun b hb => by unfold Xt at hb; unfold isSc at ic; omega
  have e := RfE_X f hx
  have jm := RfE_JM e j.1
  have d1 := RfE_dt e
  have dk := jD j
  obtain ⟨m1, m2, m3, m4, m5, m6, m7, m8, m9⟩ := jm
  have hl := m1.1.1.2.1
  obtain ⟨h2, b1, b2, b3⟩ := m_read_bad (F := F) (h := h1) (c := cc) (p := pp) (by omega) f.1 hl m7 m5 m6 (by rw [e.2 195 (by decide) (by decide), e.2 194 (by decide) (by decide)]; exact hr)
  refine ⟨h2, b1, ?_, ⟨by rw [b2.1.2.2.2], b2.2.2.1 (-1) (by decide) (by decide) (by decide)⟩⟩
  have a := Ak_rd hl b2
  obtain ⟨f1, f2, f3, -, f5, f6, f7, f8, -⟩ := id b2
  have na : ∀ x : Int, x ≠ 194 → ¬ (196 ≤ x ∧ x ≤ 200) → ¬ (202 ≤ x ∧ x ≤ 226) → rd h2 x = rd h1 x := f3
  have nk : ∀ k : Int, k = 18 ∨ k = 64 ∨ k = 80 → rd h2 194 k = rd h1 194 k := fun k hk => f5 k (by omega)
  have w : RfW h1 h2 := ⟨f1, f2, fun x hx => na x (by unfold Xr at hx; omega) (by unfold Xr at hx; omega) (by unfold Xr at hx; omega)⟩
  have G := RfW_X w
  have E : ∀ x : Int, 194 < x → x < 254 → ¬ (196 ≤ x ∧ x ≤ 200) → ¬ (202 ≤ x ∧ x ≤ 226) → rd h2 x = rd h x := fun x x1 x2 x3 x4 => (na x (by omega) x3 x4).trans (e.2 x (by omega) x2)
  have K : ∀ k : Int, k = 18 ∨ k = 64 ∨ k = 80 → rd h2 194 k = rd h 194 k := fun k hk => (nk k hk).trans (by rw [e.2 194 (by decide) (by decide)])
  have e239 := E 239 (by decide) (by decide) (by decide) (by decide)
  have tx2 := Tex_r a m2
  have h8 : dt h1 0 0 ≤ 8 := by rw [d1]; exact dk.1.2
  have h3 : dt h1 1 0 ≤ 3 := by rw [d1]; exact dk.2.1.2
  have dy2 := Day_r a h8 m3
  have dk2 := Dok_of tx2 dy2
  have rn2 : RwN (n + 1) (dt h2) (rd h2 239) := by rw [e239, ← e.2 239 (by decide) (by decide)]; exact RwN_mono (by omega) (RwN_r a m9)
  have mo2 : Mo h2 := ⟨f2, by rw [nk 18 (by omega)]; exact hl, dk2⟩
  have g1 := j.2.1.1
  have g2 := j.2.1.2.1
  have g3 := j.2.1.2.2.1
  have g4 := j.2.1.2.2.2.1
  have g5 := PsI_mono (show n ≤ n + 1 by omega) j.2.1.2.2.2.2.1
  have g6 := JHeld_mono (show n ≤ n + 1 by omega) j.2.1.2.2.2.2.2.1
  have g7 := j.2.1.2.2.2.2.2.2
  have c22 : rd h 22 0 = 9 ∨ rd h 22 0 = 23 := g3.1.1.1
  have cne : (c = 9 ∧ rd h 22 0 = 23) ∨ (c = 23 ∧ rd h 22 0 = 9) := by rw [← h5]; exact g2.2.2
  refine ⟨⟨⟨⟨mo2, by rw [e239]; exact j.1.1.1.2.1, by rw [E 240 (by decide) (by decide) (by decide) (by decide)]; exact j.1.1.1.2.2.1, rn2.1.1, ⟨rn2.2.2.2.1.1, by have := rn2.2.2.2.1.2; omega⟩, by rw [K 64 (by omega)]; exact j.1.1.1.2.2.2.2.2.1, by rw [K 80 (by omega)]; exact j.1.1.1.2.2.2.2.2.2⟩, by rw [E 242 (by decide) (by decide) (by decide) (by decide)]; exact j.1.1.2⟩, tx2, dy2, fun k hk => RLr_r hk hl b2 (m4 k hk), ?_, f8, f7, ?_, rn2⟩, ?_, ?_, RfW_Dy w (Dy_X z1 f (fun x k o q => by have := own_in o; unfold Xt at q; unfold isSc at ic; omega) j.2.2.2)⟩
  · unfold Keys; rw [na 201 (by decide) (by decide) (by decide)]; exact m5
  · unfold Tdk; rw [nk 80 (by omega), na 249 (by decide) (by decide) (by decide), na 251 (by decide) (by decide) (by decide), a.1 0 (by decide)]; exact m8
  · have w3 : ∀ b, b < 194 → rd h2 b = rd h1 b := fun b hb => w.2.2 b (by unfold Xr; omega)
    have same : ∀ b, b < 194 → ¬ Xt c b → rd h2 b = rd h b := fun b hb hq => (w3 b hb).trans (f.2.2.2.1 b (by omega) hq)
    unfold JK
    refine ⟨⟨⟨by rw [w3 1 (by decide), t1, f6], by rw [f6]; decide⟩, fun i i0 i1 => by rw [f6] at i1; omega, by rw [w3 1 (by decide), t2, b3], ?_⟩, ⟨?_, ?_, ?_⟩, ?_, ?_, ?_, ?_, ?_⟩
    · unfold BtC; rw [same 2 (by decide) (by unfold Xt; unfold isSc at ic; omega)]; exact g1.2.2.2
    · unfold WdI; rw [same 4 (by decide) (by unfold Xt; unfold isSc at ic; omega)]; exact g2.1
    · unfold CkI; rw [w3 5 (by decide), w3 6 (by decide)]; exact k1
    · rw [w3 3 (by decide), k2, same 22 (by decide) (by unfold Xt; omega)]; exact g2.2.2
    · have y := JShore_Y dk f (fun b hb => by unfold Xt at hb; omega) g3
      have y2 := JShore_X dk G (fun b hb => by unfold Xr at hb; omega) y
      rw [← d1] at y2
      obtain ⟨c1, c2, c3, c4⟩ := y2
      exact ⟨CD_r a h8 h3 c1, c2, by rw [a.1 0 (by decide), erF_r a]; exact c3, c4⟩
    · have y := StE_X dk.2.1.2 G (fun x q1 q2 => by unfold Xr; omega) (StE_X dk.2.1.2 f (fun x q1 q2 => by unfold Xt; unfold isSc at ic; omega) g4)
      rw [← d1] at y
      rw [e239]; exact StE_r a h3 y
    · have y := PsI_X G (by unfold Xr; omega) (PsI_X f (by unfold Xt; unfold isSc at ic; omega) g5)
      rw [← d1] at y
      rw [e239, E 241 (by decide) (by decide) (by decide) (by decide), K 64 (by omega)]
      obtain ⟨p1, p2, p3, p4⟩ := y
      refine ⟨p1, p2, p3, fun k k0 k1 => ?_⟩
      obtain ⟨y1, w, p, y2, y3, y4, y5⟩ := p4 k k0 k1
      exact ⟨RwN_r a y1, w, p, y2, y3, by rw [a.1 1 (by decide)]; exact y4, y5⟩
    · have y := JHeld_X dk G (fun b hb => by unfold Xr at hb; omega) (JHeld_X dk f (fun b hb => by unfold Xt at hb; unfold isSc at ic; omega) g6)
      rw [← d1] at y
      rw [E 252 (by decide) (by decide) (by decide) (by decide), E 253 (by decide) (by decide) (by decide) (by decide)]
      intro i i0 i1
      obtain ⟨y1, y2, y3⟩ := y i i0 i1
      exact ⟨y1, y2, fun z => ⟨StE_r a h3 (y3 z).1, RwN_r a (y3 z).2⟩⟩
    · rw [K 80 (by omega), E 249 (by decide) (by decide) (by decide) (by decide), E 250 (by decide) (by decide) (by decide) (by decide), E 251 (by decide) (by decide) (by decide) (by decide)]
      exact JTold_X G (fun b hb => by unfold Xr at hb; omega) (JTold_X f (fun b hb => by unfold Xt at hb; unfold isSc at ic; omega) g7)
  · have pl := JPl_X dk.1.2 f (fun b hb => by unfold Xt at hb; unfold isSc at ic; omega) j.2.2.1
    rw [← d1] at pl
    have hg : (fun k b => lgB h (Λ 0) k b) = (fun k b => lgB h1 (Λ 0) k b) := by funext k b; exact (lgB_dt d1 _ _ _).symm
    rw [hg] at pl
    rw [e239]
    exact JPl_X dk2.1.2 G (fun b hb => by unfold Xr at hb; omega) (JPl_r m1.1.1 mo2 m2 a pl)
