/-! the class's stand: sets, a new day, a copy -/
theorem c_neverDone {F : Nat} {h : Hp} {b : Int} {D : Nat → Int → Int} {N : Int → Int} (hF : 1000 ≤ F) (s : Sh h) (st : StE h b D N) : Stan_neverDone F b h = some (((setN (fun p => decide (N p < 0)) 8 : Nat) : Int), h) := by
  have hb := st.1
  have sp := st.2.2.1
  unfold Stan_neverDone
  refine loop0 (fun n i => Stan_neverDone_L4 F n b ((setN (fun p => decide (N p < 0)) i : Nat) : Int) (i : Nat) h) 8 F _ (by omega) (fun n i hi => ?_) (fun n => ?_)
  · show Stan_neverDone_L4s F (Stan_neverDone_L4 F n) b _ _ h = _
    have s8 := setN_8 (fun p => decide (N p < 0)) i (by omega)
    have st' : setN (fun p => decide (N p < 0)) (i + 1) = if decide (N i < 0) then setN (fun p => decide (N p < 0)) i ||| 2 ^ i else setN (fun p => decide (N p < 0)) i := rfl
    obtain ⟨e0, -⟩ := sp (i : Int) (by omega) (by omega)
    unfold Stan_neverDone_L4s
    rw [if_pos (by omega), gS1 s hb, aS1 s hb (by omega) (by omega), e0, w32_nat (by omega), st']
    by_cases c : N i < 0
    · rw [if_pos c, ior_p s8 (by omega), lt_eq, if_pos (by simpa using c)]
    · rw [if_neg c, if_neg (by simpa using c)]
  · show Stan_neverDone_L4s F (Stan_neverDone_L4 F n) b _ _ h = _
    unfold Stan_neverDone_L4s
    rw [if_neg (by omega)]
theorem c_crossedSet {F : Nat} {h : Hp} {b : Int} {D : Nat → Int → Int} {N : Int → Int} (hF : 1000 ≤ F) (s : Sh h) (st : StE h b D N) : Stan_crossedSet F b h = some (((setN (fun p => decide (N (8 + p) ≠ 0)) 8 : Nat) : Int), h) := by
  have hb := st.1
  have sp := st.2.2.1
  unfold Stan_crossedSet
  refine loop0 (fun n i => Stan_crossedSet_L4 F n b ((setN (fun p => decide (N (8 + p) ≠ 0)) i : Nat) : Int) (i : Nat) h) 8 F _ (by omega) (fun n i hi => ?_) (fun n => ?_)
  · show Stan_crossedSet_L4s F (Stan_crossedSet_L4 F n) b _ _ h = _
    have s8 := setN_8 (fun p => decide (N (8 + p) ≠ 0)) i (by omega)
    have st' : setN (fun p => decide (N (8 + p) ≠ 0)) (i + 1) = if decide (N (8 + i) ≠ 0) then setN (fun p => decide (N (8 + p) ≠ 0)) i ||| 2 ^ i else setN (fun p => decide (N (8 + p) ≠ 0)) i := rfl
    obtain ⟨-, -, -, e0⟩ := sp (i : Int) (by omega) (by omega)
    unfold Stan_crossedSet_L4s
    rw [if_pos (by omega), gS4 s hb, aS4 s hb (by omega) (by omega), e0, w32_nat (by omega), st']
    by_cases c : N (8 + i) = 0
    · rw [if_pos c, if_neg (by simpa using c)]
    · rw [if_neg c, ior_p s8 (by omega), lt_eq, if_pos (by simpa using c)]
  · show Stan_crossedSet_L4s F (Stan_crossedSet_L4 F n) b _ _ h = _
    unfold Stan_crossedSet_L4s
    rw [if_neg (by omega)]
theorem c_wbegin {F : Nat} {h : Hp} {a c w : Int} (s : Sh h) (ha : isWk a) (hc : isSc c) (hw : 0 ≤ w ∧ w < 3) : Walk_begin F a c w h = some (0, wr (wr (wr (wr (wr h a 0 (rd h (c + 5) w)) a 1 (rd h (c + 6) w)) a 2 (rd h (c + 7) w)) a 3 0) a 4 0) := by
  have hne : ∀ j, 0 ≤ j → j < 14 → c + j ≠ a := by
    intro j j0 j1
    unfold isWk at ha
    unfold isSc at hc
    omega
  have s1 : Sh (wr h a 0 (rd h (c + 5) w)) := shOk s (wk_ok ha)
  have s2 : Sh (wr (wr h a 0 (rd h (c + 5) w)) a 1 (rd h (c + 6) w)) := shOk s1 (wk_ok ha)
  have s3 : Sh (wr (wr (wr h a 0 (rd h (c + 5) w)) a 1 (rd h (c + 6) w)) a 2 (rd h (c + 7) w)) := shOk s2 (wk_ok ha)
  have s4 : Sh (wr (wr (wr (wr h a 0 (rd h (c + 5) w)) a 1 (rd h (c + 6) w)) a 2 (rd h (c + 7) w)) a 3 0) := shOk s3 (wk_ok ha)
  unfold Walk_begin
  rw [gC5 s hc, aC5 s hc hw.1 hw.2, pW s ha, gC6 s1 hc, aC6 s1 hc hw.1 hw.2, rd_a (hne 6 (by omega) (by omega)), pW s1 ha, gC7 s2 hc, aC7 s2 hc hw.1 hw.2, rd_a (hne 7 (by omega) (by omega)), rd_a (hne 7 (by omega) (by omega)), pW s2 ha, pW s3 ha, pW s4 ha]
