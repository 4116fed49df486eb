/-! the class's stand: sets, a new day, a copy -/
theorem c_neverDone {F : Nat} {h : Hp} {b : Int} {D : Nat → Int → Int} {N : Int → Int} (hF : 1000 ≤ F) (s : Sh h) (st : StE h b D N) : Stan_neverDone F b h = some (((setN (fun p => decide (N p < 0)) 8 : Nat) : Int), h) := by
  have hb := st.1
  have sp := st.2.2.1
  unfold Stan_neverDone
  refine loop0 (fun n i => Stan_neverDone_L4 F n b ((setN (fun p => decide (N p < 0)) i : Nat) : Int) (i : Nat) h) 8 F _ (by omega) (fun n i hi => ?_) (fun n => ?_)
  · show Stan_neverDone_L4s F (Stan_neverDone_L4 F n) b _ _ h = _
    have s8 := setN_8 (fun p => decide (N p < 0)) i (by omega)
    have st' : setN (fun p => decide (N p < 0)) (i + 1) = if decide (N i < 0) then setN (fun p => decide (N p < 0)) i ||| 2 ^ i else setN (fun p => decide (N p < 0)) i := rfl
    obtain ⟨e0, -⟩ := sp (i : Int) (by omega) (by omega)
    unfold Stan_neverDone_L4s
    rw [if_pos (by omega), gS1 s hb, aS1 s hb (by omega) (by omega), e0, w32_nat (by omega), st']
    by_cases c : N i < 0
    · rw [if_pos c, ior_p s8 (by omega), lt_eq, if_pos (by simpa using c)]
    · rw [if_neg c, if_neg (by simpa using c)]
  · show Stan_neverDone_L4s F (Stan_neverDone_L4 F n) b _ _ h = _
    unfold Stan_neverDone_L4s
    rw [if_neg (by omega)]
theorem c_crossedSet {F : Nat} {h : Hp} {b : Int} {D : Nat → Int → Int} {N : Int → Int} (hF : 1000 ≤ F) (s : Sh h) (st : StE h b D N) : Stan_crossedSet F b h = some (((setN (fun p => decide (N (8 + p) ≠ 0)) 8 : Nat) : Int), h) := by
  have hb := st.1
  have sp := st.2.2.1
  unfold Stan_crossedSet
  refine loop0 (fun n i => Stan_crossedSet_L4 F n b ((setN (fun p => decide (N (8 + p) ≠ 0)) i : Nat) : Int) (i : Nat) h) 8 F _ (by omega) (fun n i hi => ?_) (fun n => ?_)
  · show Stan_crossedSet_L4s F (Stan_crossedSet_L4 F n) b _ _ h = _
    have s8 := setN_8 (fun p => decide (N (8 + p) ≠ 0)) i (by omega)
    have st' : setN (fun p => decide (N (8 + p) ≠ 0)) (i + 1) = if decide (N (8 + i) ≠ 0) then setN (fun p => decide (N (8 + p) ≠ 0)) i ||| 2 ^ i else setN (fun p => decide (N (8 + p) ≠ 0)) i := rfl
    obtain ⟨-, -, -, e0⟩ := sp (i : Int) (by omega) (by omega)
    unfold Stan_crossedSet_L4s
    rw [if_pos (by omega), gS4 s hb, aS4 s hb (by omega) (by omega), e0, w32_nat (by omega), st']
    by_cases c : N (8 + i) = 0
    · rw [if_pos c, if_neg (by simpa using c)]
    · rw [if_neg c, ior_p s8 (by omega), lt_eq, if_pos (by simpa using c)]
  · show Stan_crossedSet_L4s F (Stan_crossedSet_L4 F n) b _ _ h = _
    unfold Stan_crossedSet_L4s
    rw [if_neg (by omega)]
theorem c_wbegin {F : Nat} {h : Hp} {a c w : Int} (s : Sh h) (ha : isWk a) (hc : isSc c) (hw : 0 ≤ w ∧ w < 3) : Walk_begin F a c w h = some (0, wr (wr (wr (wr (wr h a 0 (rd h (c + 5) w)) a 1 (rd h (c + 6) w)) a 2 (rd h (c + 7) w)) a 3 0) a 4 0) := by
  have hne : ∀ j, 0 ≤ j → j < 14 → c + j ≠ a := by
    intro j j0 j1
    unfold isWk at ha
    unfold isSc at hc
    omega
  have s1 : Sh (wr h a 0 (rd h (c + 5) w)) := shOk s (wk_ok ha)
  have s2 : Sh (wr (wr h a 0 (rd h (c + 5) w)) a 1 (rd h (c + 6) w)) := shOk s1 (wk_ok ha)
  have s3 : Sh (wr (wr (wr h a 0 (rd h (c + 5) w)) a 1 (rd h (c + 6) w)) a 2 (rd h (c + 7) w)) := shOk s2 (wk_ok ha)
  have s4 : Sh (wr (wr (wr (wr h a 0 (rd h (c + 5) w)) a 1 (rd h (c + 6) w)) a 2 (rd h (c + 7) w)) a 3 0) := shOk s3 (wk_ok ha)
  unfold Walk_begin
  rw [gC5 s hc, aC5 s hc hw.1 hw.2, pW s ha, gC6 s1 hc, aC6 s1 hc hw.1 hw.2, rd_a (hne 6 (by omega) (by omega)), pW s1 ha, gC7 s2 hc, aC7 s2 hc hw.1 hw.2, rd_a (hne 7 (by omega) (by omega)), rd_a (hne 7 (by omega) (by omega)), pW s2 ha, pW s3 ha, pW s4 ha]
theorem c_begin {F : Nat} {h : Hp} {b c : Int} {D : Nat → Int → Int} (hF : 1000 ≤ F) (s : Sh h) (hb : isSt b) (hw3 : D 1 0 ≤ 3) (cx : CxE h c D) : ∃ h', Stan_begin F b c h = some (0, h') ∧ FrS b h h' ∧ StE h' b D (bgR D) := by
  have hc := cx.1
  have hcb : ∀ j, 0 ≤ j → j < 14 → ¬ (b ≤ c + j ∧ c + j ≤ b + 11) := by
    intro j j0 j1
    unfold isSt at hb
    unfold isSc at hc
    omega
  have k2 : ∀ h1, FrS b h h1 → (∀ v, 0 ≤ v → v < 3 → WkE h1 (b + 9 + v) (rd h (c + 5) v) (rd h (c + 6) v) (rd h (c + 7) v) 0 0) → ∃ h', Stan_begin_L26 F F b 0 h1 = some (0, h') ∧ FrS b h h' ∧ StE h' b D (bgR D) := by
    intro h1 f1 wk1
    refine loopE (fun n i g => Stan_begin_L26 F n b (i : Nat) g) 8 (fun i g => FrS b h g ∧ (∀ v, 0 ≤ v → v < 3 → WkE g (b + 9 + v) (rd h (c + 5) v) (rd h (c + 6) v) (rd h (c + 7) v) 0 0) ∧ ∀ q, 0 ≤ q → q < (i : Int) → rd g (b + 2) q = -2 ∧ rd g (b + 3) q = 0 ∧ rd g (b + 4) q = -2 ∧ rd g (b + 5) q = 0) (fun o => ∃ h', o = some (0, h') ∧ FrS b h h' ∧ StE h' b D (bgR D)) (fun n i g hi P => Or.inl ?_) (fun n g P => ?_) 8 F 0 h1 rfl (by omega) ⟨f1, wk1, fun q q0 q1 => absurd q1 (by omega)⟩
    · obtain ⟨f, wk, ps⟩ := P
      have g1 := FrS_wr (a := b + 2) (i := (i : Int)) (v := -2) f (by omega) (okS hb (by decide))
      have g2 := FrS_wr (a := b + 3) (i := (i : Int)) (v := 0) g1 (by omega) (okS hb (by decide))
      have g3 := FrS_wr (a := b + 4) (i := (i : Int)) (v := -2) g2 (by omega) (okS hb (by decide))
      have g4 := FrS_wr (a := b + 5) (i := (i : Int)) (v := 0) g3 (by omega) (okS hb (by decide))
      refine ⟨_, ⟨g4, fun v v0 v1 => ?_, fun q q0 q1 => ?_⟩, ?_⟩
      · obtain ⟨w0, w1⟩ := wk v v0 v1
        refine ⟨w0, ?_⟩
        rw [rd_wr_ne (by omega), rd_wr_ne (by omega), rd_wr_ne (by omega), rd_wr_ne (by omega)]
        exact w1
      · by_cases cq : q = (i : Int)
        · subst cq
          refine ⟨?_, ?_, ?_, ?_⟩
          · rw [rd_a (by omega), rd_a (by omega), rd_a (by omega), rd_same]
          · rw [rd_a (by omega), rd_a (by omega), rd_same]
          · rw [rd_a (by omega), rd_same]
          · rw [rd_same]
        · obtain ⟨p1, p2, p3, p4⟩ := ps q q0 (by omega)
          refine ⟨?_, ?_, ?_, ?_⟩
          · rw [rd_a (by omega), rd_a (by omega), rd_a (by omega), rd_i cq]; exact p1
          · rw [rd_a (by omega), rd_a (by omega), rd_i cq, rd_a (by omega)]; exact p2
          · rw [rd_a (by omega), rd_i cq, rd_a (by omega), rd_a (by omega)]; exact p3
          · rw [rd_i cq, rd_a (by omega), rd_a (by omega), rd_a (by omega)]; exact p4
      · show Stan_begin_L26s F (Stan_begin_L26 F n) b _ g = _
        unfold Stan_begin_L26s
        rw [if_pos (by omega), gS1 f.2.1 hb, sS1 f.2.1 hb (by omega) (by omega), gS2 g1.2.1 hb, sS2 g1.2.1 hb (by omega) (by omega), gS3 g2.2.1 hb, sS3 g2.2.1 hb (by omega) (by omega), gS4 g3.2.1 hb, sS4 g3.2.1 hb (by omega) (by omega) (Or.inl rfl), w32_nat (by omega)]
    · obtain ⟨f, wk, ps⟩ := P
      have g1 := FrS_wr (a := b) (i := 8) (v := 0) f (by omega) (okS8 hb)
      refine ⟨wr g b 8 0, ?_, g1, hb, fun w w0 w1 => ?_, fun p p0 p1 => ?_, ?_, fun i i0 i1 => ?_⟩
      · show Stan_begin_L26s F (Stan_begin_L26 F n) b _ g = _
        unfold Stan_begin_L26s
        rw [if_neg (by omega), pS8 f.2.1 hb]
      · obtain ⟨y0, y1, y2, y3, y4, y5⟩ := wk w w0 (by omega)
        obtain ⟨c1, c2, c3⟩ := cx.2.2.2.2.1 w w0 w1
        have B1 : bgR D (32 + w) = D 4 w := by unfold bgR; rw [if_neg (by omega), if_neg (by omega), if_pos (by omega), show 32 + w - 32 = w by omega]
        have B2 : bgR D (35 + w) = D 5 w := by unfold bgR; rw [if_neg (by omega), if_neg (by omega), if_neg (by omega), if_pos (by omega), show 35 + w - 35 = w by omega]
        have B3 : bgR D (38 + w) = 0 := by unfold bgR; rw [if_neg (by omega), if_neg (by omega), if_neg (by omega), if_neg (by omega)]
        have B4 : bgR D (41 + w) = 0 := by unfold bgR; rw [if_neg (by omega), if_neg (by omega), if_neg (by omega), if_neg (by omega)]
        rw [B1, B2, B3, B4]
        refine ⟨y0, ?_⟩
        rw [rd_wr_ne (by omega), y1, y2, y3, y4, y5]
        exact ⟨c1, c2, c3, rfl, rfl⟩
      · obtain ⟨y1, y2, y3, y4⟩ := ps p p0 (by omega)
        have B1 : bgR D p = -2 := by unfold bgR; rw [if_pos (by omega)]
        have B2 : bgR D (16 + p) = -2 := by unfold bgR; rw [if_neg (by omega), if_pos (by omega)]
        have B3 : bgR D (24 + p) = -2 := by unfold bgR; rw [if_neg (by omega), if_pos (by omega)]
        have B4 : bgR D (8 + p) = 0 := by unfold bgR; rw [if_neg (by omega), if_neg (by omega), if_neg (by omega), if_neg (by omega)]
        rw [B1, B2, B3, B4, if_pos rfl, rd_a (by omega), rd_a (by omega), rd_a (by omega), rd_a (by omega)]
        exact ⟨y1, y2, y3, y4⟩
      · rw [rd_same]; unfold bgR; rw [if_neg (by omega), if_neg (by omega), if_neg (by omega), if_neg (by omega)]
      · have B : bgR D 44 = 0 := by unfold bgR; rw [if_neg (by omega), if_neg (by omega), if_neg (by omega), if_neg (by omega)]
        omega
  unfold Stan_begin
  refine loopE (fun n i g => Stan_begin_L2 F n b c (i : Nat) g) 3 (fun i g => FrS b h g ∧ ∀ v, 0 ≤ v → v < (i : Int) → WkE g (b + 9 + v) (rd h (c + 5) v) (rd h (c + 6) v) (rd h (c + 7) v) 0 0) (fun o => ∃ h', o = some (0, h') ∧ FrS b h h' ∧ StE h' b D (bgR D)) (fun n i g hi P => Or.inl ?_) (fun n g P => ?_) 3 F 0 h rfl (by omega) ⟨FrS_refl s, fun q q0 q1 => absurd q1 (by omega)⟩
  · obtain ⟨f, wk⟩ := P
    have iw : isWk (b + 9 + (i : Int)) := stWk hb (by omega)
    have g1 := FrS_wr (a := b + 9 + i) (i := 0) (v := rd g (c + 5) i) f (by omega) (wk_ok iw)
    have g2 := FrS_wr (a := b + 9 + i) (i := 1) (v := rd g (c + 6) i) g1 (by omega) (wk_ok iw)
    have g3 := FrS_wr (a := b + 9 + i) (i := 2) (v := rd g (c + 7) i) g2 (by omega) (wk_ok iw)
    have g4 := FrS_wr (a := b + 9 + i) (i := 3) (v := 0) g3 (by omega) (wk_ok iw)
    have g5 := FrS_wr (a := b + 9 + i) (i := 4) (v := 0) g4 (by omega) (wk_ok iw)
    refine ⟨_, ⟨g5, fun v v0 v1 => ?_⟩, ?_⟩
    · by_cases cv : v = (i : Int)
      · subst cv
        refine ⟨iw, ?_, ?_, ?_, ?_, ?_⟩
        · rw [rd_i (by decide), rd_i (by decide), rd_i (by decide), rd_i (by decide), rd_same, f.2.2 _ (hcb 5 (by omega) (by omega))]
        · rw [rd_i (by decide), rd_i (by decide), rd_i (by decide), rd_same, f.2.2 _ (hcb 6 (by omega) (by omega))]
        · rw [rd_i (by decide), rd_i (by decide), rd_same, f.2.2 _ (hcb 7 (by omega) (by omega))]
        · rw [rd_i (by decide), rd_same]
        · rw [rd_same]
      · obtain ⟨w0, w1⟩ := wk v v0 (by omega)
        refine ⟨w0, ?_⟩
        rw [rd_wr_ne (by omega), rd_wr_ne (by omega), rd_wr_ne (by omega), rd_wr_ne (by omega), rd_wr_ne (by omega)]
        exact w1
    · show Stan_begin_L2s F (Stan_begin_L2 F n) b c _ g = _
      unfold Stan_begin_L2s
      rw [if_pos (by omega), gS0 f.2.1 hb, aS0 f.2.1 hb (by omega) (by omega), ivW f.2.1 iw, c_wbegin f.2.1 iw hc (by omega), cl_some, w32_nat (by omega)]
  · obtain ⟨f, wk⟩ := P
    show ∃ h', Stan_begin_L2s F (Stan_begin_L2 F n) b c _ g = _ ∧ _
    unfold Stan_begin_L2s
    rw [if_neg (by omega)]
    exact k2 g f (fun v v0 v1 => wk v v0 (by omega))
