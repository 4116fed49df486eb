/-! the reference's read, whole -/
/-- what the data in place are, by what a text told -/
def TxE (D X : Nat → Int → Int) : Prop := D 0 0 = X 0 0 ∧ D 1 0 = X 1 0 ∧ (∀ p, 0 ≤ p → p < X 0 0 → D 22 p = X 22 p ∧ D 23 p = X 23 p ∧ D 2 p = X 2 p ∧ D 16 p = X 16 p) ∧ (∀ w, 0 ≤ w → w < X 1 0 → D 4 w = X 4 w ∧ D 5 w = X 5 w ∧ D 3 w = X 3 w) ∧ D 17 0 = X 17 0 ∧ D 18 0 = X 18 0 ∧ D 20 0 = X 20 0 ∧ D 21 0 = X 21 0 ∧ D 19 0 = X 19 0
theorem Rx_TxE {h : Hp} {s : Int} {K : Nat → Int} {X : Nat → Int → Int} (g : Rx h s K X) (hs : rd h 194 18 = s) : TxE (dt h) X := by
  obtain ⟨-, ⟨p1, p2, p3, p4⟩, ⟨k1, k2, k3, k4⟩, q1, q2, q3, q4, q5⟩ := g
  have d : ∀ k i, dt h k i = dt h k i := fun _ _ => rfl
  refine ⟨?_, ?_, fun p i0 i1 => ?_, fun w i0 i1 => ?_, ?_, ?_, ?_, ?_, ?_⟩
  · show rd h 203 (rd h 194 18) = _; rw [hs]; exact p1
  · show rd h 208 (rd h 194 18) = _; rw [hs]; exact k1
  · show rd h 204 (8 * rd h 194 18 + p) = _ ∧ rd h 205 (8 * rd h 194 18 + p) = _ ∧ rd h 206 (8 * rd h 194 18 + p) = _ ∧ rd h 207 (8 * rd h 194 18 + p) = _
    rw [hs]; exact p4 p i0 i1
  · show rd h 209 (3 * rd h 194 18 + w) = _ ∧ rd h 210 (3 * rd h 194 18 + w) = _ ∧ rd h 211 (3 * rd h 194 18 + w) = _
    rw [hs]; exact k4 w i0 i1
  · show rd h 212 (rd h 194 18) = _; rw [hs]; exact q1
  · show rd h 213 (rd h 194 18) = _; rw [hs]; exact q2
  · show rd h 214 (rd h 194 18) = _; rw [hs]; exact q3
  · show rd h 215 (rd h 194 18) = _; rw [hs]; exact q4
  · show rd h 216 (rd h 194 18) = _; rw [hs]; exact q5
theorem TxE_Tex {D X : Nat → Int → Int} (g : TxE D X) (t : Tex X) : Tex D := by
  obtain ⟨g0, g1, g2, g3, g4, g5, g6, g7, g8⟩ := g
  obtain ⟨t0, t1, t2, t3, t4, t5, t6, t7, t8⟩ := t
  unfold Tex
  rw [g0, g1, g4, g5, g6, g7, g8]
  refine ⟨t0, t1, fun p p0 p1 => ?_, fun w w0 w1 => ?_, t4, t5, t6, t7, t8⟩
  · obtain ⟨a, b, c, d⟩ := g2 p p0 p1
    rw [a, b, c, d]; exact t2 p p0 p1
  · obtain ⟨a, b, c⟩ := g3 w w0 w1
    rw [a, b, c]; exact t3 w w0 w1
/-- a FAULT: all is as it was but the tape, the place -/
theorem m_read_bad {F : Nat} {h : Hp} (hF : 3000 ≤ F) (s : Sh h) (hl : rd h 194 18 = 0 ∨ rd h 194 18 = 1) (b : BytI h) (ky : Keys h) (ti : TkI h) {c p : Int} (hr : rdR (rd h 195) (rd h 194 2) = Sum.inl (c, p) ∨ ∃ q, rdR (rd h 195) (rd h 194 2) = Sum.inr q ∧ q.2.2.2 = (c, p) ∧ c ≠ 0) : ∃ h', Mod_read F 194 h = some (c, h') ∧ RdX h h' ∧ rd h' 194 17 = p := by
  obtain ⟨h1, e1, x, m⟩ := m_read1 hF s hl b ky ti
  have xs := x
  obtain ⟨x1, s1, x3, x4, x5, x6, x7, x8, x9⟩ := x
  have fin : ∀ v, RdX h (wr h1 194 17 v) := fun v => by
    refine ⟨x1, sh17 s1 v, fun a h1' h2 h3 => by rw [rd_wr_ne h1']; exact x3 a h1' h2 h3, fun a j h1' h2 h3 => by rw [rd_wr_ne (by omega)]; exact x4 a j h1' h2 h3, fun k hk => by rw [rd_i (by omega)]; exact x5 k hk, by rw [rd_i (by decide)]; exact x6, ?_, ?_, by rw [rd_i (by decide)]; exact x9⟩
    · unfold BytI
      rw [rd_i (by decide), rd_wr_ne (by decide), rd_wr_ne (by decide)]; exact x7
    · unfold TkI
      rw [rd_wr_ne (by decide), rd_wr_ne (by decide)]; exact x8
  rw [e1]
  unfold Mod_read_B134 Mod_read_B164
  rcases hr with hr | ⟨q, hr, hq, hc⟩
  · rw [hr] at m
    obtain ⟨m1, m2, m3⟩ := m
    refine ⟨wr h1 194 17 p, ?_, fin p, rd_same _ _ _ _⟩
    rw [gM13 s1, m2, if_pos m1, gM14 s1, m3, pM17 s1, gM13 (sh17 s1 _), rd_i (by decide), m2, if_pos m1, gM13 (sh17 s1 _), rd_i (by decide), m2]
  · rw [hr] at m
    obtain ⟨m1, m2, m3, m4, -⟩ := m
    rw [hq] at m2 m3 m4
    simp only at m2 m3 m4
    refine ⟨wr h1 194 17 p, ?_, fin p, rd_same _ _ _ _⟩
    rw [gM13 s1, m1, if_neg (by decide), gM15 s1, m2, if_pos (by omega), gM16 s1, m3 hc, pM17 s1, gM13 (sh17 s1 _), rd_i (by decide), m1, if_neg (by decide), gM15 (sh17 s1 _), rd_i (by decide), m2, if_pos (by omega), gM15 (sh17 s1 _), rd_i (by decide), m2]
/-- a text is taken in place of the one ahead -/
def RdS (h h' : Hp) (X : Nat → Int → Int) (Λ : Nat → Lw) : Prop := (hsz h' = hsz h ∧ hus h' = hus h ∧ hkd h' = hkd h ∧ hln h' = hln h) ∧ Sh h' ∧ (∀ a : Int, a ≠ 194 → ¬ (196 ≤ a ∧ a ≤ 200) → ¬ (202 ≤ a ∧ a ≤ 240) → a ≠ 252 → rd h' a = rd h a) ∧ (rd h' 194 2 = 0 ∧ rd h' 194 17 = -1 ∧ rd h' 194 18 = 1 - rd h 194 18 ∧ rd h' 194 64 = 0 ∧ rd h' 194 80 = 0) ∧ BytI h' ∧ TkI h' ∧ TxE (dt h') X ∧ Tex (dt h') ∧ Day (dt h') Λ ∧ (∃ bb cb, Rl h' (rd h' 194 18) Λ bb cb) ∧ rd h' 239 = bgR (dt h') ∧ rd h' 240 = bgR (dt h') ∧ (rd h' 252 0 = 0 ∧ rd h' 252 1 = 0 ∧ rd h' 252 2 = 0)
theorem m_read_ok {F : Nat} {h : Hp} {q : Sg} (hF : 3000 ≤ F) (s : Sh h) (hl : rd h 194 18 = 0 ∨ rd h 194 18 = 1) (b : BytI h) (ky : Keys h) (ti : TkI h) (z1 : Zo 140 (rd h 239)) (z2 : Zo 140 (rd h 240)) (hr : rdR (rd h 195) (rd h 194 2) = Sum.inr q) (hw : q.2.2.2.1 = 0) : ∃ h', Mod_read F 194 h = some (0, h') ∧ RdS h h' q.2.1 q.2.2.1 := by
  obtain ⟨h1, e1, x, m⟩ := m_read1 hF s hl b ky ti
  obtain ⟨x1, s1, x3, x4, x5, x6, x7, x8, x9⟩ := x
  rw [hr] at m
  obtain ⟨m1, m2, m3, m4, m5, m6, K, rx, bb, cb, rl⟩ := m
  rw [hw] at m2
  have tx := m5 hw
  have s2 := sh17 s1 (-1)
  have s3 := sh18 s2 (1 - rd h 194 18)
  have f3 : ∀ k, k ≠ 17 → k ≠ 18 → rd (wr (wr h1 194 17 (-1)) 194 18 (1 - rd h 194 18)) 194 k = rd h1 194 k := fun k h1' h2 => by rw [rd_i h2, rd_i h1']
  have l3 : rd (wr (wr h1 194 17 (-1)) 194 18 (1 - rd h 194 18)) 194 18 = 1 - rd h 194 18 := rd_same _ _ _ _
  have p3 : rd (wr (wr h1 194 17 (-1)) 194 18 (1 - rd h 194 18)) 194 17 = -1 := by rw [rd_i (by decide), rd_same]
  have c3 : ∀ a, a ≠ 194 → rd (wr (wr h1 194 17 (-1)) 194 18 (1 - rd h 194 18)) a = rd h1 a := fun a ha => by rw [rd_wr_ne ha, rd_wr_ne ha]
  have y1 : hsz (wr (wr h1 194 17 (-1)) 194 18 (1 - rd h 194 18)) = hsz h ∧ hus (wr (wr h1 194 17 (-1)) 194 18 (1 - rd h 194 18)) = hus h ∧ hkd (wr (wr h1 194 17 (-1)) 194 18 (1 - rd h 194 18)) = hkd h ∧ hln (wr (wr h1 194 17 (-1)) 194 18 (1 - rd h 194 18)) = hln h := x1
  have e2 : Mod_read F 194 h = (iv (wr (wr h1 194 17 (-1)) 194 18 (1 - rd h 194 18)) 194 112 (Mod_layOut F 194 (wr (wr h1 194 17 (-1)) 194 18 (1 - rd h 194 18))) fun r41 h42 => iv h42 194 112 (Mod_begins F 194 h42) fun r43 h44 => iv h44 194 112 (Mod_keepsRow F 194 h44) fun r45 h46 => pf h46 194 112 64 0 fun h47 => pf h47 194 112 80 0 fun h48 => Mod_read_L223 F F 194 0 h48) := by
    rw [e1]
    unfold Mod_read_B134 Mod_read_B164
    rw [gM13 s1, m1, if_neg (by decide), gM15 s1, m2, if_neg (by decide), pM17 s1, gM13 s2, rd_i (by decide), m1, if_neg (by decide), gM15 s2, rd_i (by decide), m2, if_neg (by decide), gM19 s2, rd_i (by decide), x9, pM18 s2]
  generalize wr (wr h1 194 17 (-1)) 194 18 (1 - rd h 194 18) = h3 at e2 s3 f3 l3 p3 c3 y1
  have rx3 : Rx h3 (1 - rd h 194 18) K q.2.1 := Rx_eq (fun a h1' h2 => c3 a (by omega)) (f3 20 (by decide) (by decide)) rx
  have rl3 : Rl h3 (1 - rd h 194 18) q.2.2.1 bb cb := Rl_eq (fun a h1' h2 => c3 a (by omega)) (f3 38 (by decide) (by decide)) (f3 44 (by decide) (by decide)) rl
  have te3 := Rx_TxE rx3 l3
  have rlw : ∀ k : Nat, k < 5 → RLw h3 k (q.2.2.1 k) := fun k hk => LB_RL (rl3.2.2.2.2 k hk) l3 (by have := rl3.2.2.2.1; omega)
  obtain ⟨h4, e4, fy, dy⟩ := m_layOut (F := F) (h := h3) (Λ := q.2.2.1) (by omega) s3 (by rw [l3]; omega) (by rw [te3.1]; exact tx.1) rlw
  have tt := fun k hk => Fy_txt fy k hk
  have te4 : TxE (dt h4) q.2.1 := by
    unfold TxE at te3 ⊢
    rw [tt 0 (by decide), tt 1 (by decide), tt 2 (by decide), tt 3 (by decide), tt 4 (by decide), tt 5 (by decide), tt 16 (by decide), tt 17 (by decide), tt 18 (by decide), tt 19 (by decide), tt 20 (by decide), tt 21 (by decide), tt 22 (by decide), tt 23 (by decide)]
    exact te3
  have tx4 := TxE_Tex te4 tx
  have l4 : rd h4 194 18 = 1 - rd h 194 18 := by rw [fy.2.2.2 18 (by decide)]; exact l3
  have mo4 : Mo h4 := ⟨fy.2.1, by rw [l4]; omega, Dok_of tx4 dy⟩
  have z24 : Zo 140 (rd h4 240) := by rw [fy.2.2.1 240 (by decide) (by decide), c3 240 (by decide), x3 240 (by decide) (by decide) (by decide)]; exact z2
  have z14 : Zo 140 (rd h4 239) := by rw [fy.2.2.1 239 (by decide) (by decide), c3 239 (by decide), x3 239 (by decide) (by decide) (by decide)]; exact z1
  have mo5 : Mo (sr h4 240 (bgR (dt h4))) := Mo_sr mo4 (by decide) (by decide)
  have kr := m_keepsRow (F := F) (h := sr h4 240 (bgR (dt h4))) (by omega) mo5.1 (by rw [rd_sr_ne (by decide)]; exact z14) (by rw [rd_sr]; exact Zo_bg mo4)
  rw [rd_sr] at kr
  have s6 : Sh (sr (sr h4 240 (bgR (dt h4))) 239 (bgR (dt h4))) := Sh_sr mo5.1 (by decide) (by decide)
  have s7 := sh64 s6 0
  have s8 := sh80 s7 0
  rw [ivM s3, e4, cl_some, ivM mo4.1, m_begins (by omega) mo4 z24, cl_some, ivM mo5.1, kr, cl_some, pM64 s6, pM80 s7] at e2
  have c8 : ∀ a, a ≠ 194 → a ≠ 239 → a ≠ 240 → rd (wr (wr (sr (sr h4 240 (bgR (dt h4))) 239 (bgR (dt h4))) 194 64 0) 194 80 0) a = rd h4 a := fun a h1' h2 h3' => by rw [rd_wr_ne h1', rd_wr_ne h1', rd_sr_ne h2, rd_sr_ne h3']
  have n8 : rd (wr (wr (sr (sr h4 240 (bgR (dt h4))) 239 (bgR (dt h4))) 194 64 0) 194 80 0) 239 = bgR (dt h4) := by rw [rd_wr_ne (by decide), rd_wr_ne (by decide), rd_sr]
  have r8 : rd (wr (wr (sr (sr h4 240 (bgR (dt h4))) 239 (bgR (dt h4))) 194 64 0) 194 80 0) 240 = bgR (dt h4) := by rw [rd_wr_ne (by decide), rd_wr_ne (by decide), rd_sr_ne (by decide), rd_sr]
  have f8 : ∀ k, k ≠ 64 → k ≠ 80 → rd (wr (wr (sr (sr h4 240 (bgR (dt h4))) 239 (bgR (dt h4))) 194 64 0) 194 80 0) 194 k = rd h4 194 k := fun k h1' h2 => by rw [rd_i h2, rd_i h1', rd_sr_ne (by decide), rd_sr_ne (by decide)]
  have u8' : rd (wr (wr (sr (sr h4 240 (bgR (dt h4))) 239 (bgR (dt h4))) 194 64 0) 194 80 0) 194 64 = 0 ∧ rd (wr (wr (sr (sr h4 240 (bgR (dt h4))) 239 (bgR (dt h4))) 194 64 0) 194 80 0) 194 80 = 0 := ⟨by rw [rd_i (by decide), rd_same], rd_same _ _ _ _⟩
  have y8 : hsz (wr (wr (sr (sr h4 240 (bgR (dt h4))) 239 (bgR (dt h4))) 194 64 0) 194 80 0) = hsz h4 ∧ hus (wr (wr (sr (sr h4 240 (bgR (dt h4))) 239 (bgR (dt h4))) 194 64 0) 194 80 0) = hus h4 ∧ hkd (wr (wr (sr (sr h4 240 (bgR (dt h4))) 239 (bgR (dt h4))) 194 64 0) 194 80 0) = hkd h4 ∧ hln (wr (wr (sr (sr h4 240 (bgR (dt h4))) 239 (bgR (dt h4))) 194 64 0) 194 80 0) = hln h4 := ⟨rfl, rfl, rfl, rfl⟩
  generalize wr (wr (sr (sr h4 240 (bgR (dt h4))) 239 (bgR (dt h4))) 194 64 0) 194 80 0 = h8 at e2 s8 c8 n8 r8 f8 u8' y8
  -- nothing is held
  have t0 : Sh (wr h8 252 0 0) := shA s8 (by decide) (by decide)
  have t1 : Sh (wr (wr h8 252 0 0) 252 1 0) := shA t0 (by decide) (by decide)
  have t2 : Sh (wr (wr (wr h8 252 0 0) 252 1 0) 252 2 0) := shA t1 (by decide) (by decide)
  have eL : Mod_read_L223 F F 194 0 h8 = some (0, wr (wr (wr h8 252 0 0) 252 1 0) 252 2 0) := by
    obtain ⟨F', rfl⟩ : ∃ j, F = j + 4 := ⟨F - 4, by omega⟩
    show Mod_read_L223s _ (Mod_read_L223 _ (F' + 3)) 194 0 h8 = _
    unfold Mod_read_L223s
    rw [if_pos (by decide), gM84 s8, sM84 s8 (by decide) (by decide) (Or.inl rfl), w32_id (x := 0 + 1) (by decide) (by decide)]
    show Mod_read_L223s _ (Mod_read_L223 _ (F' + 2)) 194 1 _ = _
    unfold Mod_read_L223s
    rw [if_pos (by decide), gM84 t0, sM84 t0 (by decide) (by decide) (Or.inl rfl), w32_id (x := 1 + 1) (by decide) (by decide)]
    show Mod_read_L223s _ (Mod_read_L223 _ (F' + 1)) 194 2 _ = _
    unfold Mod_read_L223s
    rw [if_pos (by decide), gM84 t1, sM84 t1 (by decide) (by decide) (Or.inl rfl), w32_id (x := 2 + 1) (by decide) (by decide)]
    show Mod_read_L223s _ (Mod_read_L223 _ F') 194 3 _ = _
    unfold Mod_read_L223s
    rw [if_neg (by decide)]
  refine ⟨wr (wr (wr h8 252 0 0) 252 1 0) 252 2 0, e2.trans eL, ?_⟩
  have c9 : ∀ a, a ≠ 252 → rd (wr (wr (wr h8 252 0 0) 252 1 0) 252 2 0) a = rd h8 a := fun a ha => by rw [rd_wr_ne ha, rd_wr_ne ha, rd_wr_ne ha]
  have d9 : dt (wr (wr (wr h8 252 0 0) 252 1 0) 252 2 0) = dt h4 := by
    refine dt_eq ⟨?_, fun a h1' h2 => ?_, fun a h1' h2 => ?_⟩
    · rw [c9 194 (by decide), f8 18 (by decide) (by decide)]
    · rw [c9 a (by omega), c8 a (by omega) (by omega) (by omega)]
    · rw [c9 a (by omega), c8 a (by omega) (by omega) (by omega)]
  have fq : ∀ k, k ≠ 64 → k ≠ 80 → k ≠ 51 → k ≠ 17 → k ≠ 18 → rd (wr (wr (wr h8 252 0 0) 252 1 0) 252 2 0) 194 k = rd h1 194 k := fun k a1 a2 a3 a4 a5 => by rw [c9 194 (by decide), f8 k a1 a2, fy.2.2.2 k a3, f3 k a4 a5]
  have cq : ∀ a, a ≠ 194 → ¬ (227 ≤ a ∧ a ≤ 240) → a ≠ 252 → rd (wr (wr (wr h8 252 0 0) 252 1 0) 252 2 0) a = rd h1 a := fun a a1 a2 a3 => by rw [c9 a a3, c8 a a1 (by omega) (by omega), fy.2.2.1 a a1 (by omega), c3 a a1]
  have l9 : rd (wr (wr (wr h8 252 0 0) 252 1 0) 252 2 0) 194 18 = 1 - rd h 194 18 := by rw [c9 194 (by decide), f8 18 (by decide) (by decide)]; exact l4
  obtain ⟨fy1, fy2, fy3, fy4⟩ := fy.1
  refine ⟨⟨?_, ?_, ?_, ?_⟩, t2, fun a a1 a2 a3 a4 => ?_, ⟨?_, ?_, l9, ?_, ?_⟩, ?_, ?_, by rw [d9]; exact te4, by rw [d9]; exact tx4, by rw [d9]; exact dy, ⟨bb, cb, ?_⟩, by rw [c9 239 (by decide), d9]; exact n8, by rw [c9 240 (by decide), d9]; exact r8, ?_, ?_, ?_⟩
  · show hsz h8 = _; rw [y8.1, fy1]; exact y1.1
  · show hus h8 = _; rw [y8.2.1, fy2]; exact y1.2.1
  · show hkd h8 = _; rw [y8.2.2.1, fy3]; exact y1.2.2.1
  · show hln h8 = _; rw [y8.2.2.2, fy4]; exact y1.2.2.2
  · rw [cq a a1 (by omega) a4]; exact x3 a a1 a2 (by omega)
  · rw [fq 2 (by decide) (by decide) (by decide) (by decide) (by decide)]; exact x6
  · rw [c9 194 (by decide), f8 17 (by decide) (by decide), fy.2.2.2 17 (by decide)]; exact p3
  · rw [c9 194 (by decide)]; exact u8'.1
  · rw [c9 194 (by decide)]; exact u8'.2
  · unfold BytI
    rw [fq 2 (by decide) (by decide) (by decide) (by decide) (by decide), cq 195 (by decide) (by decide) (by decide), cq 196 (by decide) (by decide) (by decide)]
    exact x7
  · unfold TkI
    rw [cq 197 (by decide) (by decide) (by decide), cq 198 (by decide) (by decide) (by decide)]
    exact x8
  · rw [l9]
    exact Rl_eq (fun a a1 a2 => cq a (by omega) (by omega) (by omega)) (fq 38 (by decide) (by decide) (by decide) (by decide) (by decide)) (fq 44 (by decide) (by decide) (by decide) (by decide) (by decide)) rl
  · rw [rd_i (by decide), rd_i (by decide), rd_same]
  · rw [rd_i (by decide), rd_same]
  · rw [rd_same]
