/-! the class's stand: crossed, mended -/
theorem c_strike {F : Nat} {h : Hp} {b p : Int} {D : Nat → Int → Int} {N : Int → Int} (s : Sh h) (dk : Dok D) (st : StE h b D N) (rg : Rgd D N) (h44 : 0 ≤ N 44 ∧ N 44 < 1000000) (hp : 0 ≤ p ∧ p < D 0 0) : ∃ h', Stan_strike F b p h = some (crsV N p, h') ∧ (crsV N p = 0 → h' = h) ∧ (crsV N p ≠ 0 → FrS b h h' ∧ StE h' b D (actR (up N (8 + p) 1) 1 0 p)) := by
  have hp8 := dk.1
  have hw3 := dk.2.1
  have st0 := st
  obtain ⟨hb, sw, sp, s8, sa⟩ := st
  obtain ⟨x1, x2, x3, x4⟩ := sp p hp.1 (by omega)
  have rp := rg.1.2 p hp.1 (by omega)
  have m1 := (rg.2 p hp.1 (by omega)).1
  unfold Stan_strike crsV
  rw [gS1 s hb, aS1 s hb hp.1 (by omega), x1]
  by_cases dn : N p = -2
  · rw [if_pos (by omega), if_pos (Or.inl dn)]
    exact ⟨h, rfl, fun _ => rfl, fun q => absurd rfl q⟩
  · rw [if_neg (by omega), gS4 s hb, aS4 s hb hp.1 (by omega), x4]
    by_cases cr : N (8 + p) = 0
    · have f1 := FrS_wr (a := b + 5) (i := p) (v := 1) (FrS_refl (b := b) s) (by omega) (okS hb (by decide))
      have st1 : StE (wr h (b + 5) p 1) b D (up N (8 + p) 1) := by
        refine ⟨hb, fun v v0 v1 => ?_, fun q q0 q1 => ?_, ?_, fun i i0 i1 i2 => ?_⟩
        · obtain ⟨w0, w1, w2, w3, w4, w5⟩ := sw v v0 v1
          rw [up_n (by omega), up_n (by omega), up_n (by omega), up_n (by omega)]
          refine ⟨w0, ?_, ?_, ?_, ?_, ?_⟩
          all_goals (rw [rd_a (by omega)]; assumption)
        · obtain ⟨p0, p1, p2, p3⟩ := sp q q0 q1
          rw [up_n (by omega), up_n (by omega), up_n (by omega), rd_a (by omega), rd_a (by omega), rd_a (by omega)]
          refine ⟨p0, p1, p2, ?_⟩
          by_cases cq : q = p
          · subst cq; rw [rd_same, up_s]
          · rw [rd_i cq, up_n (by omega)]; exact p3
        · rw [rd_a (by omega), up_n (by omega)]; exact s8
        · rw [up_n (by omega)] at i1
          rw [up_n (by omega), up_n (by omega), up_n (by omega), rd_a (by omega), rd_a (by omega), rd_a (by omega)]
          exact sa i i0 i1 i2
      obtain ⟨h', ea, fa, sa'⟩ := c_addAct (F := F) (k := 1) (w := 0) (p := p) f1.2.1 hw3.2 st1 (by rw [up_n (by omega)]; exact h44)
      refine ⟨h', ?_, fun q => ?_, fun _ => ⟨FrS_trans f1 fa, sa'⟩⟩
      · rw [if_pos cr, if_neg (by omega), gS4 s hb, sS4 s hb hp.1 (by omega) (Or.inr rfl), ivS f1.2.1 hb, ea, cl_some]
        rfl
      · rw [if_neg (by omega)] at q; exact absurd q (by decide)
    · rw [if_neg cr, if_pos (by omega)]
      exact ⟨h, rfl, fun _ => rfl, fun q => absurd rfl q⟩
theorem c_repair {F : Nat} {h : Hp} {b w p : Int} {D : Nat → Int → Int} {N : Int → Int} (s : Sh h) (dk : Dok D) (cd : CD h D) (st : StE h b D N) (rg : Rgd D N) (h44 : 0 ≤ N 44 ∧ N 44 < 1000000) (hw : 0 ≤ w ∧ w < D 1 0) (hp : 0 ≤ p ∧ p < D 0 0) : ∃ h', Stan_repair F b 22 w p h = some (mndV D N w p, h') ∧ (mndV D N w p < 0 → h' = h) ∧ (¬ mndV D N w p < 0 → FrS b h h' ∧ StE h' b D (actR (mndR D N w p) 2 w p)) := by
  have hw3 := dk.2.1
  have hp8 := dk.1
  have st0 := st
  obtain ⟨hb, sw, sp, s8, sa⟩ := st
  obtain ⟨x1, x2, x3, x4⟩ := sp p hp.1 (by omega)
  obtain ⟨r1, r2, r3, r4, r5, r6⟩ := rg.1.1 w hw.1 hw.2
  obtain ⟨d1, d2, d3, d4, d5, d6⟩ := dk.2.2.2.2.2.1 p hp.1 hp.2
  have hs := dk.2.2.2.1 w hw.1 hw.2
  obtain ⟨se, sf, fr⟩ := cd.2.2.1 p hp.1 hp.2
  have wk := sw w hw.1 hw.2
  have wy := wayI_in hs.1 hs.2 ⟨r1, r2⟩ ⟨r3, r4⟩ ⟨d1, d2⟩ ⟨d3, d4⟩
  have hc := c_comesTo (F := F) s wk se hs ⟨r1, r2⟩ ⟨r3, r4⟩ (by omega) ⟨d1, d2⟩ ⟨d3, d4⟩
  have ec : N (38 + w) + wayI (D 3 w) (N (32 + w)) (N (35 + w)) (D 6 p) (D 7 p) = comeR D N w p := rfl
  rw [ec] at hc
  have c0 : 0 ≤ comeR D N w p ∧ comeR D N w p ≤ 7000 := by unfold comeR; omega
  have isd : isSd (42 + 3 * p) := ⟨p, hp.1, by omega, Or.inl rfl⟩
  have iw := stWk (i := w) hb (by omega)
  have hbb := hb
  unfold isSt at hbb
  have mv : mndV D N w p = if N (8 + p) = 0 ∨ 600 < comeR D N w p + (D 8 p + 2) / 3 then -2 else comeR D N w p + (D 8 p + 2) / 3 := rfl
  unfold Stan_repair
  rw [gS4 s hb, aS4 s hb hp.1 (by omega), x4]
  by_cases cr : N (8 + p) = 0
  · rw [if_pos (Or.inl cr)] at mv
    rw [if_pos cr, mv]
    exact ⟨h, rfl, fun _ => rfl, fun q => absurd (by decide) q⟩
  · rw [if_neg cr, gH3 s, aH3 s hp.1 (by omega), gS0 s hb, aS0 s hb hw.1 (by omega), ivW s iw, hc, cl_some, gA s isd, se.2.2.2.1, c_roundedUp (by omega) (by decide), cl_some, show D 8 p + 3 - 1 = D 8 p + 2 by omega, w32_id (x := comeR D N w p + (D 8 p + 2) / 3) (by omega) (by omega), lt_eq]
    by_cases c6 : 600 < comeR D N w p + (D 8 p + 2) / 3
    · rw [if_pos (Or.inr c6)] at mv
      rw [if_pos c6, mv]
      exact ⟨h, rfl, fun _ => rfl, fun q => absurd (by decide) q⟩
    · rw [if_neg (by omega)] at mv
      rw [if_neg c6, ← mv]
      have c : ¬ mndV D N w p < 0 := by omega
      have f1 := FrS_wr (a := b + 9 + w) (i := 0) (v := D 6 p) (FrS_refl (b := b) s) (by omega) (wk_ok iw)
      have f2 := FrS_wr (a := b + 9 + w) (i := 1) (v := D 7 p) f1 (by omega) (wk_ok iw)
      have f3 := FrS_wr (a := b + 9 + w) (i := 3) (v := mndV D N w p) f2 (by omega) (wk_ok iw)
      have f4 := FrS_wr (a := b + 3) (i := p) (v := mndV D N w p) f3 (by omega) (okS hb (by decide))
      have f5 := FrS_wr (a := b + 5) (i := p) (v := 0) f4 (by omega) (okS hb (by decide))
      have V : ∀ j, mndR D N w p j = if j = 38 + w then mndV D N w p else if j = 35 + w then D 7 p else if j = 32 + w then D 6 p else if j = 16 + p then mndV D N w p else if j = 8 + p then 0 else N j := fun j => rfl
      have st1 : StE (wr (wr (wr (wr (wr h (b + 9 + w) 0 (D 6 p)) (b + 9 + w) 1 (D 7 p)) (b + 9 + w) 3 (mndV D N w p)) (b + 3) p (mndV D N w p)) (b + 5) p 0) b D (mndR D N w p) := by
        refine ⟨hb, fun v v0 v1 => ?_, fun q q0 q1 => ?_, ?_, fun i i0 i1 i2 => ?_⟩
        · obtain ⟨w0, w1, w2', w3, w4, w5⟩ := sw v v0 v1
          refine ⟨w0, ?_, ?_, ?_, ?_, ?_⟩
          all_goals (rw [rd_wr_ne (by omega), rd_wr_ne (by omega)]; by_cases cv : v = w)
          · subst cv; rw [rd_i (by decide), rd_i (by decide), rd_same, V, if_neg (by omega), if_neg (by omega), if_pos rfl]
          · rw [rd_a (by omega), rd_a (by omega), rd_a (by omega), V, if_neg (by omega), if_neg (by omega), if_neg (by omega), if_neg (by omega), if_neg (by omega)]; exact w1
          · subst cv; rw [rd_i (by decide), rd_same, V, if_neg (by omega), if_pos rfl]
          · rw [rd_a (by omega), rd_a (by omega), rd_a (by omega), V, if_neg (by omega), if_neg (by omega), if_neg (by omega), if_neg (by omega), if_neg (by omega)]; exact w2'
          · subst cv; rw [rd_i (by decide), rd_i (by decide), rd_i (by decide)]; exact w3
          · rw [rd_a (by omega), rd_a (by omega), rd_a (by omega)]; exact w3
          · subst cv; rw [rd_same, V, if_pos rfl]
          · rw [rd_a (by omega), rd_a (by omega), rd_a (by omega), V, if_neg (by omega), if_neg (by omega), if_neg (by omega), if_neg (by omega), if_neg (by omega)]; exact w4
          · subst cv; rw [rd_i (by decide), rd_i (by decide), rd_i (by decide), V, if_neg (by omega), if_neg (by omega), if_neg (by omega), if_neg (by omega), if_neg (by omega)]; exact w5
          · rw [rd_a (by omega), rd_a (by omega), rd_a (by omega), V, if_neg (by omega), if_neg (by omega), if_neg (by omega), if_neg (by omega), if_neg (by omega)]; exact w5
        · obtain ⟨p0, p1, p2, p3⟩ := sp q q0 q1
          have o1 : mndR D N w p q = N q := by rw [V, if_neg (by omega), if_neg (by omega), if_neg (by omega), if_neg (by omega), if_neg (by omega)]
          have o3 : mndR D N w p (24 + q) = N (24 + q) := by rw [V, if_neg (by omega), if_neg (by omega), if_neg (by omega), if_neg (by omega), if_neg (by omega)]
          rw [o1, o3]
          refine ⟨?_, ?_, ?_, ?_⟩
          · rw [rd_a (by omega), rd_a (by omega), rd_a (by omega), rd_a (by omega), rd_a (by omega)]; exact p0
          · rw [rd_a (by omega)]
            by_cases cq : q = p
            · subst cq
              have e16 : mndR D N w q (16 + q) = mndV D N w q := by rw [V, if_neg (by omega), if_neg (by omega), if_neg (by omega), if_pos rfl]
              rw [rd_same, e16, if_neg (by omega)]
            · have e16 : mndR D N w p (16 + q) = N (16 + q) := by rw [V, if_neg (by omega), if_neg (by omega), if_neg (by omega), if_neg (by omega), if_neg (by omega)]
              rw [rd_i cq, rd_a (by omega), rd_a (by omega), rd_a (by omega), e16]; exact p1
          · rw [rd_a (by omega), rd_a (by omega), rd_a (by omega), rd_a (by omega), rd_a (by omega)]; exact p2
          · by_cases cq : q = p
            · subst cq
              rw [rd_same, V, if_neg (by omega), if_neg (by omega), if_neg (by omega), if_neg (by omega), if_pos rfl]
            · rw [rd_i cq, rd_a (by omega), rd_a (by omega), rd_a (by omega), rd_a (by omega), V, if_neg (by omega), if_neg (by omega), if_neg (by omega), if_neg (by omega), if_neg (by omega)]; exact p3
        · rw [rd_a (by omega), rd_a (by omega), rd_a (by omega), rd_a (by omega), rd_a (by omega), V, if_neg (by omega), if_neg (by omega), if_neg (by omega), if_neg (by omega), if_neg (by omega)]
          exact s8
        · have old : ∀ j, 44 ≤ j → mndR D N w p j = N j := fun j hj => by
            rw [V, if_neg (by omega), if_neg (by omega), if_neg (by omega), if_neg (by omega), if_neg (by omega)]
          rw [old 44 (by decide)] at i1
          rw [old _ (by omega), old _ (by omega), old _ (by omega)]
          have ol : ∀ a, (b + 6 ≤ a ∧ a ≤ b + 8) → rd (wr (wr (wr (wr (wr h (b + 9 + w) 0 (D 6 p)) (b + 9 + w) 1 (D 7 p)) (b + 9 + w) 3 (mndV D N w p)) (b + 3) p (mndV D N w p)) (b + 5) p 0) a = rd h a := fun a ha => by
            rw [rd_wr_ne (by omega), rd_wr_ne (by omega), rd_wr_ne (by omega), rd_wr_ne (by omega), rd_wr_ne (by omega)]
          rw [ol (b + 6) (by omega), ol (b + 7) (by omega), ol (b + 8) (by omega)]
          exact sa i i0 i1 i2
      have v44 : mndR D N w p 44 = N 44 := by rw [V, if_neg (by omega), if_neg (by omega), if_neg (by omega), if_neg (by omega), if_neg (by omega)]
      obtain ⟨h', ea, fa, sa'⟩ := c_addAct (F := F) (k := 2) (w := w) (p := p) f5.2.1 hw3.2 st1 (by rw [v44]; exact h44)
      refine ⟨h', ?_, fun q => absurd q c, fun _ => ⟨FrS_trans f5 fa, sa'⟩⟩
      rw [gS0 s hb, aS0 s hb hw.1 (by omega), ivW s iw, c_goTo s hb (by omega) se, cl_some, gS2 f3.2.1 hb, sS2 f3.2.1 hb hp.1 (by omega), gS4 f4.2.1 hb, sS4 f4.2.1 hb hp.1 (by omega) (Or.inl rfl), ivS f5.2.1 hb, ea, cl_some]
