/-! the class's stand: acts -/
def FrS (b : Int) (h h' : Hp) : Prop := (hsz h' = hsz h ∧ hus h' = hus h ∧ hkd h' = hkd h ∧ hln h' = hln h) ∧ Sh h' ∧ ∀ a, ¬ (b ≤ a ∧ a ≤ b + 11) → rd h' a = rd h a
theorem FrS_refl {b : Int} {h : Hp} (s : Sh h) : FrS b h h := ⟨⟨rfl, rfl, rfl, rfl⟩, s, fun _ _ => rfl⟩
theorem FrS_wr {b : Int} {h h' : Hp} (f : FrS b h h') {a i v : Int} (ha : b ≤ a ∧ a ≤ b + 11) (ok : okW a i = true) : FrS b h (wr h' a i v) := ⟨f.1, shOk f.2.1 ok, fun x hx => by rw [rd_wr_ne (by omega)]; exact f.2.2 x hx⟩
theorem FrS_CD {b : Int} {h h' : Hp} {D : Nat → Int → Int} (hb : isSt b) (h8 : D 0 0 ≤ 8) (f : FrS b h h') (g : CD h D) : CD h' D := CD_eq h8 f.1.1 f.1.2.2.1 f.1.2.2.2 (fun x hx => f.2.2 x (by unfold isSt at hb; omega)) g
theorem actR_lo {R : Int → Int} {k w p j : Int} (h0 : 0 ≤ R 44) (hj : j < 44) : actR R k w p j = R j := by
  unfold actR
  rw [up_n (by omega)]
  split
  · rw [up_n (by omega), up_n (by omega), up_n (by omega)]
  · rfl
theorem actR_i {R : Int → Int} {k w p i : Int} (h0 : 0 ≤ i) (hi : i < R 44) : actR R k w p (45 + 3 * i) = R (45 + 3 * i) ∧ actR R k w p (46 + 3 * i) = R (46 + 3 * i) ∧ actR R k w p (47 + 3 * i) = R (47 + 3 * i) := by
  unfold actR
  rw [up_n (by omega), up_n (by omega), up_n (by omega)]
  split
  · rw [up_n (by omega), up_n (by omega), up_n (by omega), up_n (by omega), up_n (by omega), up_n (by omega), up_n (by omega), up_n (by omega), up_n (by omega)]
    exact ⟨rfl, rfl, rfl⟩
  · exact ⟨rfl, rfl, rfl⟩
theorem actR_n {R : Int → Int} {k w p : Int} (h0 : 0 ≤ R 44) (h30 : R 44 < 30) : actR R k w p (45 + 3 * R 44) = k ∧ actR R k w p (46 + 3 * R 44) = w ∧ actR R k w p (47 + 3 * R 44) = p := by
  unfold actR
  rw [up_n (by omega), up_n (by omega), up_n (by omega), if_pos h30]
  refine ⟨?_, ?_, ?_⟩
  · rw [up_n (by omega), up_n (by omega), up_s]
  · rw [up_n (by omega), up_s]
  · rw [up_s]
theorem c_addAct {F : Nat} {h : Hp} {b k w p : Int} {D : Nat → Int → Int} {R : Int → Int} (s : Sh h) (hw3 : D 1 0 ≤ 3) (st : StE h b D R) (h44 : 0 ≤ R 44 ∧ R 44 < 1000000) : ∃ h', Stan_addAct F b k w p h = some (0, h') ∧ FrS b h h' ∧ StE h' b D (actR R k w p) := by
  have st0 := st
  obtain ⟨hb, sw, sp, s8, sa⟩ := st
  have fr0 : FrS b h h := FrS_refl s
  have key : ∀ h', FrS b h h' → (∀ a, b ≤ a → a ≤ b + 11 → ¬ (a = b ∨ (b + 6 ≤ a ∧ a ≤ b + 8)) → rd h' a = rd h a) → rd h' b 8 = R 44 + 1 → (∀ i, 0 ≤ i → i < R 44 → i < 30 → rd h' (b + 6) i = rd h (b + 6) i ∧ rd h' (b + 7) i = rd h (b + 7) i ∧ rd h' (b + 8) i = rd h (b + 8) i) → (R 44 < 30 → rd h' (b + 6) (R 44) = k ∧ rd h' (b + 7) (R 44) = w ∧ rd h' (b + 8) (R 44) = p) → StE h' b D (actR R k w p) := by
    intro h' f e e8 ei en
    refine ⟨hb, fun v v0 v1 => ?_, fun q q0 q1 => ?_, by rw [e8, actR_44], fun i i0 i1 i2 => ?_⟩
    · obtain ⟨w0, w1, w2, w3, w4, w5⟩ := sw v v0 v1
      rw [actR_lo h44.1 (by omega), actR_lo h44.1 (by omega), actR_lo h44.1 (by omega), actR_lo h44.1 (by omega)]
      refine ⟨w0, ?_, ?_, ?_, ?_, ?_⟩
      all_goals (rw [e (b + 9 + v) (by omega) (by omega) (by omega)]; assumption)
    · obtain ⟨p0, p1, p2, p3⟩ := sp q q0 q1
      rw [actR_lo h44.1 (by omega), actR_lo h44.1 (by omega), actR_lo h44.1 (by omega), actR_lo h44.1 (by omega), e (b + 2) (by omega) (by omega) (by omega), e (b + 3) (by omega) (by omega) (by omega), e (b + 4) (by omega) (by omega) (by omega), e (b + 5) (by omega) (by omega) (by omega)]
      exact ⟨p0, p1, p2, p3⟩
    · rw [actR_44] at i1
      by_cases c : i = R 44
      · subst c
        obtain ⟨a1, a2, a3⟩ := actR_n (k := k) (w := w) (p := p) h44.1 i2
        rw [a1, a2, a3]
        exact en i2
      · obtain ⟨a1, a2, a3⟩ := actR_i (R := R) (k := k) (w := w) (p := p) i0 (by omega)
        obtain ⟨b1, b2, b3⟩ := ei i i0 (by omega) i2
        rw [a1, a2, a3, b1, b2, b3]
        exact sa i i0 (by omega) i2
  unfold Stan_addAct
  by_cases h30 : R 44 < 30
  · have f1 := FrS_wr (a := b + 6) (i := R 44) (v := k) fr0 (by omega) (okS hb (by decide))
    have f2 := FrS_wr (a := b + 7) (i := R 44) (v := w) f1 (by omega) (okS hb (by decide))
    have f3 := FrS_wr (a := b + 8) (i := R 44) (v := p) f2 (by omega) (okS hb (by decide))
    have f4 := FrS_wr (a := b) (i := 8) (v := R 44 + 1) f3 (by omega) (okS8 hb)
    have g1 : rd (wr h (b + 6) (R 44) k) b 8 = R 44 := by rw [rd_a (by omega)]; exact s8
    have g2 : rd (wr (wr h (b + 6) (R 44) k) (b + 7) (R 44) w) b 8 = R 44 := by rw [rd_a (by omega)]; exact g1
    have g3 : rd (wr (wr (wr h (b + 6) (R 44) k) (b + 7) (R 44) w) (b + 8) (R 44) p) b 8 = R 44 := by rw [rd_a (by omega)]; exact g2
    refine ⟨wr (wr (wr (wr h (b + 6) (R 44) k) (b + 7) (R 44) w) (b + 8) (R 44) p) b 8 (R 44 + 1), ?_, f4, key _ f4 (fun a a1 a2 a3 => by rw [rd_wr_ne (by omega), rd_wr_ne (by omega), rd_wr_ne (by omega), rd_wr_ne (by omega)]) (rd_same _ _ _ _) (fun i i0 i1 i2 => ⟨?_, ?_, ?_⟩) (fun _ => ⟨?_, ?_, ?_⟩)⟩
    · rw [gS8 s hb, s8, if_pos h30, gS5 s hb, gS8 s hb, s8, sS5 s hb h44.1 h30, gS6 f1.2.1 hb, gS8 f1.2.1 hb, g1, sS6 f1.2.1 hb h44.1 h30, gS7 f2.2.1 hb, gS8 f2.2.1 hb, g2, sS7 f2.2.1 hb h44.1 h30, gS8 f3.2.1 hb, g3, w32_id (by omega) (by omega), pS8 f3.2.1 hb]
    · rw [rd_a (by omega), rd_a (by omega), rd_a (by omega), rd_i (by omega)]
    · rw [rd_a (by omega), rd_a (by omega), rd_i (by omega), rd_a (by omega)]
    · rw [rd_a (by omega), rd_i (by omega), rd_a (by omega), rd_a (by omega)]
    · rw [rd_a (by omega), rd_a (by omega), rd_a (by omega), rd_same]
    · rw [rd_a (by omega), rd_a (by omega), rd_same]
    · rw [rd_a (by omega), rd_same]
  · have f4 := FrS_wr (a := b) (i := 8) (v := R 44 + 1) fr0 (by omega) (okS8 hb)
    refine ⟨wr h b 8 (R 44 + 1), ?_, f4, key _ f4 (fun a a1 a2 a3 => by rw [rd_wr_ne (by omega)]) (rd_same _ _ _ _) (fun i i0 i1 i2 => ⟨by rw [rd_a (by omega)], by rw [rd_a (by omega)], by rw [rd_a (by omega)]⟩) (fun q => absurd q h30)⟩
    rw [gS8 s hb, s8, if_neg h30, gS8 s hb, s8, w32_id (by omega) (by omega), pS8 s hb]
/-- a worker is somewhere else: his cells -/
theorem c_goTo {F : Nat} {h : Hp} {b w q r : Int} {D : Nat → Int → Int} (s : Sh h) (hb : isSt b) (hw : 0 ≤ w ∧ w < 3) {a : Int} (e : SdE h a D q) : Walk_goTo F (b + 9 + w) a r h = some (0, wr (wr (wr h (b + 9 + w) 0 (D 6 q)) (b + 9 + w) 1 (D 7 q)) (b + 9 + w) 3 r) := by
  have iw := stWk hb hw
  obtain ⟨ha, e0, e1, -⟩ := e
  have hne : a ≠ b + 9 + w := by
    have := sd_cases ha
    unfold isSt at hb
    omega
  have s1 : Sh (wr h (b + 9 + w) 0 (D 6 q)) := shOk s (wk_ok iw)
  have s2 : Sh (wr (wr h (b + 9 + w) 0 (D 6 q)) (b + 9 + w) 1 (D 7 q)) := shOk s1 (wk_ok iw)
  unfold Walk_goTo
  rw [gA s ha, e0, pW s iw, gA s1 ha, rd_a hne, e1, pW s1 iw, pW s2 iw]
theorem FrS_trans {b : Int} {h h' h'' : Hp} (a : FrS b h h') (c : FrS b h' h'') : FrS b h h'' := by
  obtain ⟨⟨a1, a2, a3, a4⟩, a5, a6⟩ := a
  obtain ⟨⟨b1, b2, b3, b4⟩, b5, b6⟩ := c
  exact ⟨⟨b1.trans a1, b2.trans a2, b3.trans a3, b4.trans a4⟩, b5, fun x hx => (b6 x hx).trans (a6 x hx)⟩
theorem c_rake {F : Nat} {h : Hp} {b w p : Int} {D : Nat → Int → Int} {N : Int → Int} (s : Sh h) (dk : Dok D) (cd : CD h D) (st : StE h b D N) (rg : Rgd D N) (h44 : 0 ≤ N 44 ∧ N 44 < 1000000) (hw : 0 ≤ w ∧ w < D 1 0) (hp : 0 ≤ p ∧ p < D 0 0) : ∃ h', Stan_rake F b 22 w p h = some (sndV D N w p, h') ∧ (sndV D N w p < 0 → h' = h) ∧ (¬ sndV D N w p < 0 → FrS b h h' ∧ StE h' b D (actR (sndR D N w p) 0 w p)) := by
  have hw3 := dk.2.1
  have hp8 := dk.1
  have hb := st.1
  have wd := c_wouldBeDone (F := F) s dk cd st rg hw hp
  unfold Stan_rake
  rw [ivS s hb, wd, cl_some]
  by_cases c : sndV D N w p < 0
  · have e2 : sndV D N w p = -2 := by
      unfold sndV at c ⊢
      split at c
      · rename_i q; rw [if_pos q]
      · rename_i q
        rw [if_neg q]
        split at c
        · rename_i q2; rw [if_pos q2]
        · rename_i q2
          have := dk.2.2.2.2.2.1 p hp.1 hp.2
          omega
    rw [if_pos c]
    exact ⟨h, by rw [e2], fun _ => rfl, fun q => absurd c q⟩
  · obtain ⟨se, sf, fr⟩ := cd.2.2.1 p hp.1 hp.2
    have iw := stWk (i := w) hb (by omega)
    have hc := cd.1.1
    have hcc := hc
    unfold isSc at hcc
    have hbb := hb
    unfold isSt at hbb
    have w2 := (cd.1.2.2.2.1 p hp.1 hp.2).2.2.1
    have f1 := FrS_wr (a := b + 9 + w) (i := 0) (v := D 6 p) (FrS_refl (b := b) s) (by omega) (wk_ok iw)
    have f2 := FrS_wr (a := b + 9 + w) (i := 1) (v := D 7 p) f1 (by omega) (wk_ok iw)
    have f3 := FrS_wr (a := b + 9 + w) (i := 3) (v := sndV D N w p) f2 (by omega) (wk_ok iw)
    have f4 := FrS_wr (a := b + 9 + w) (i := 4) (v := w32 (N (41 + w) + D 2 p)) f3 (by omega) (wk_ok iw)
    have f5 := FrS_wr (a := b + 2) (i := p) (v := sndV D N w p) f4 (by omega) (okS hb (by decide))
    have f6 := FrS_wr (a := b + 3) (i := p) (v := 0) f5 (by omega) (okS hb (by decide))
    have f7 := FrS_wr (a := b + 4) (i := p) (v := w) f6 (by omega) (okS hb (by decide))
    have f8 := FrS_wr (a := b + 5) (i := p) (v := 0) f7 (by omega) (okS hb (by decide))
    have st0 := st
    obtain ⟨-, sw, sp, s8, sa⟩ := st
    have rk : rd (wr (wr (wr h (b + 9 + w) 0 (D 6 p)) (b + 9 + w) 1 (D 7 p)) (b + 9 + w) 3 (sndV D N w p)) (b + 9 + w) 4 = N (41 + w) := by rw [rd_i (by decide), rd_i (by decide), rd_i (by decide)]; exact (sw w hw.1 hw.2).2.2.2.2.2
    have sc0 : rd (wr (wr (wr h (b + 9 + w) 0 (D 6 p)) (b + 9 + w) 1 (D 7 p)) (b + 9 + w) 3 (sndV D N w p)) 22 0 = rd h 22 0 := by rw [f3.2.2 22 (by omega)]
    have wt : rd (wr (wr (wr h (b + 9 + w) 0 (D 6 p)) (b + 9 + w) 1 (D 7 p)) (b + 9 + w) 3 (sndV D N w p)) (rd h 22 0 + 3) p = D 2 p := by rw [f3.2.2 _ (by omega)]; exact w2
    have eq : Stan_rake F b 22 w p h = Stan_rake F b 22 w p h := rfl
    -- the row without the act
    have sr1 : StE (wr (wr (wr (wr (wr (wr (wr (wr h (b + 9 + w) 0 (D 6 p)) (b + 9 + w) 1 (D 7 p)) (b + 9 + w) 3 (sndV D N w p)) (b + 9 + w) 4 (w32 (N (41 + w) + D 2 p))) (b + 2) p (sndV D N w p)) (b + 3) p 0) (b + 4) p w) (b + 5) p 0) b D (sndR D N w p) := by
      have V : ∀ j, sndR D N w p j = if j = 38 + w then sndV D N w p else if j = 35 + w then D 7 p else if j = 32 + w then D 6 p else if j = 41 + w then w32 (N (41 + w) + D 2 p) else if j = 24 + p then w else if j = 16 + p then -2 else if j = 8 + p then 0 else if j = p then sndV D N w p else N j := fun j => rfl
      refine ⟨hb, fun v v0 v1 => ?_, fun q q0 q1 => ?_, ?_, fun i i0 i1 i2 => ?_⟩
      · obtain ⟨w0, w1, w2', w3, w4, w5⟩ := sw v v0 v1
        refine ⟨w0, ?_, ?_, ?_, ?_, ?_⟩
        all_goals (rw [rd_wr_ne (by omega), rd_wr_ne (by omega), rd_wr_ne (by omega), rd_wr_ne (by omega)]; by_cases cv : v = w)
        · subst cv; rw [rd_i (by decide), rd_i (by decide), rd_i (by decide), rd_same, V, if_neg (by omega), if_neg (by omega), if_pos rfl]
        · rw [rd_a (by omega), rd_a (by omega), rd_a (by omega), rd_a (by omega), V, if_neg (by omega), if_neg (by omega), if_neg (by omega), if_neg (by omega), if_neg (by omega), if_neg (by omega), if_neg (by omega), if_neg (by omega)]; exact w1
        · subst cv; rw [rd_i (by decide), rd_i (by decide), rd_same, V, if_neg (by omega), if_pos rfl]
        · rw [rd_a (by omega), rd_a (by omega), rd_a (by omega), rd_a (by omega), V, if_neg (by omega), if_neg (by omega), if_neg (by omega), if_neg (by omega), if_neg (by omega), if_neg (by omega), if_neg (by omega), if_neg (by omega)]; exact w2'
        · subst cv; rw [rd_i (by decide), rd_i (by decide), rd_i (by decide), rd_i (by decide)]; exact w3
        · rw [rd_a (by omega), rd_a (by omega), rd_a (by omega), rd_a (by omega)]; exact w3
        · subst cv; rw [rd_i (by decide), rd_same, V, if_pos rfl]
        · rw [rd_a (by omega), rd_a (by omega), rd_a (by omega), rd_a (by omega), V, if_neg (by omega), if_neg (by omega), if_neg (by omega), if_neg (by omega), if_neg (by omega), if_neg (by omega), if_neg (by omega), if_neg (by omega)]; exact w4
        · subst cv; rw [rd_same, V, if_neg (by omega), if_neg (by omega), if_neg (by omega), if_pos rfl]
        · rw [rd_a (by omega), rd_a (by omega), rd_a (by omega), rd_a (by omega), V, if_neg (by omega), if_neg (by omega), if_neg (by omega), if_neg (by omega), if_neg (by omega), if_neg (by omega), if_neg (by omega), if_neg (by omega)]; exact w5
      · obtain ⟨p0, p1, p2, p3⟩ := sp q q0 q1
        by_cases cq : q = p
        · subst cq
          refine ⟨?_, ?_, ?_, ?_⟩
          · rw [rd_a (by omega), rd_a (by omega), rd_a (by omega), rd_same, V, if_neg (by omega), if_neg (by omega), if_neg (by omega), if_neg (by omega), if_neg (by omega), if_neg (by omega), if_neg (by omega), if_pos rfl]
          · have e16 : sndR D N w q (16 + q) = -2 := by rw [V, if_neg (by omega), if_neg (by omega), if_neg (by omega), if_neg (by omega), if_neg (by omega), if_pos rfl]
            rw [rd_a (by omega), rd_a (by omega), rd_same, e16, if_pos rfl]
          · rw [rd_a (by omega), rd_same, V, if_neg (by omega), if_neg (by omega), if_neg (by omega), if_neg (by omega), if_pos rfl]
          · rw [rd_same, V, if_neg (by omega), if_neg (by omega), if_neg (by omega), if_neg (by omega), if_neg (by omega), if_neg (by omega), if_pos rfl]
        · have old : ∀ j, (j = q ∨ j = 8 + q ∨ j = 16 + q ∨ j = 24 + q) → sndR D N w p j = N j := fun j hj => by
            rw [V, if_neg (by omega), if_neg (by omega), if_neg (by omega), if_neg (by omega), if_neg (by omega), if_neg (by omega), if_neg (by omega), if_neg (by omega)]
          have ol : ∀ a, (b + 2 ≤ a ∧ a ≤ b + 5) → rd (wr (wr (wr (wr (wr (wr (wr (wr h (b + 9 + w) 0 (D 6 p)) (b + 9 + w) 1 (D 7 p)) (b + 9 + w) 3 (sndV D N w p)) (b + 9 + w) 4 (w32 (N (41 + w) + D 2 p))) (b + 2) p (sndV D N w p)) (b + 3) p 0) (b + 4) p w) (b + 5) p 0) a q = rd h a q := fun a ha => by
            rw [rd_wr, if_neg (by omega), rd_wr, if_neg (by omega), rd_wr, if_neg (by omega), rd_wr, if_neg (by omega), rd_a (by omega), rd_a (by omega), rd_a (by omega), rd_a (by omega)]
          rw [ol (b + 2) (by omega), ol (b + 3) (by omega), ol (b + 4) (by omega), ol (b + 5) (by omega), old q (by omega), old (16 + q) (by omega), old (24 + q) (by omega), old (8 + q) (by omega)]
          exact ⟨p0, p1, p2, p3⟩
      · rw [rd_a (by omega), rd_a (by omega), rd_a (by omega), rd_a (by omega), rd_a (by omega), rd_a (by omega), rd_a (by omega), rd_a (by omega), V, if_neg (by omega), if_neg (by omega), if_neg (by omega), if_neg (by omega), if_neg (by omega), if_neg (by omega), if_neg (by omega), if_neg (by omega)]
        exact s8
      · have o44 : sndR D N w p 44 = N 44 := by rw [V, if_neg (by omega), if_neg (by omega), if_neg (by omega), if_neg (by omega), if_neg (by omega), if_neg (by omega), if_neg (by omega), if_neg (by omega)]
        rw [o44] at i1
        have old : ∀ j, 44 ≤ j → sndR D N w p j = N j := fun j hj => by
          rw [V, if_neg (by omega), if_neg (by omega), if_neg (by omega), if_neg (by omega), if_neg (by omega), if_neg (by omega), if_neg (by omega), if_neg (by omega)]
        rw [old _ (by omega), old _ (by omega), old _ (by omega)]
        have ol : ∀ a, (b + 6 ≤ a ∧ a ≤ b + 8) → rd (wr (wr (wr (wr (wr (wr (wr (wr h (b + 9 + w) 0 (D 6 p)) (b + 9 + w) 1 (D 7 p)) (b + 9 + w) 3 (sndV D N w p)) (b + 9 + w) 4 (w32 (N (41 + w) + D 2 p))) (b + 2) p (sndV D N w p)) (b + 3) p 0) (b + 4) p w) (b + 5) p 0) a = rd h a := fun a ha => by
          rw [rd_wr_ne (by omega), rd_wr_ne (by omega), rd_wr_ne (by omega), rd_wr_ne (by omega), rd_wr_ne (by omega), rd_wr_ne (by omega), rd_wr_ne (by omega), rd_wr_ne (by omega)]
        rw [ol (b + 6) (by omega), ol (b + 7) (by omega), ol (b + 8) (by omega)]
        exact sa i i0 i1 i2
    have v44 : sndR D N w p 44 = N 44 := by
      show (if (44 : Int) = 38 + w then sndV D N w p else if (44 : Int) = 35 + w then D 7 p else if (44 : Int) = 32 + w then D 6 p else if (44 : Int) = 41 + w then w32 (N (41 + w) + D 2 p) else if (44 : Int) = 24 + p then w else if (44 : Int) = 16 + p then -2 else if (44 : Int) = 8 + p then 0 else if (44 : Int) = p then sndV D N w p else N 44) = N 44
      rw [if_neg (by omega), if_neg (by omega), if_neg (by omega), if_neg (by omega), if_neg (by omega), if_neg (by omega), if_neg (by omega), if_neg (by omega)]
    obtain ⟨h', ea, fa, sa'⟩ := c_addAct (F := F) (k := 0) (w := w) (p := p) f8.2.1 hw3.2 sr1 (by rw [v44]; exact h44)
    refine ⟨h', ?_, fun q => absurd q c, fun _ => ⟨FrS_trans f8 fa, sa'⟩⟩
    rw [if_neg c, gS0 s hb, aS0 s hb hw.1 (by omega), gH3 s, aH3 s hp.1 (by omega), ivW s iw, c_goTo s hb (by omega) se, cl_some, gS0 f3.2.1 hb, aS0 f3.2.1 hb hw.1 (by omega), gW f3.2.1 iw, rk, gH0 f3.2.1, sc0, gC2 f3.2.1 hc, aC2 f3.2.1 hc hp.1 (by omega), wt, pW f3.2.1 iw, gS1 f4.2.1 hb, sS1 f4.2.1 hb hp.1 (by omega), gS2 f5.2.1 hb, sS2 f5.2.1 hb hp.1 (by omega), gS3 f6.2.1 hb, sS3 f6.2.1 hb hp.1 (by omega), gS4 f7.2.1 hb, sS4 f7.2.1 hb hp.1 (by omega) (Or.inl rfl), ivS f8.2.1 hb, ea, cl_some]
