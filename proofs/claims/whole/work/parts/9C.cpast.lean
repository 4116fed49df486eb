/-! the class's past -/
def FrA (x : Int) (h h' : Hp) : Prop := (hsz h' = hsz h ∧ hus h' = hus h ∧ hkd h' = hkd h ∧ hln h' = hln h) ∧ Sh h' ∧ ∀ a, a ≠ x → rd h' a = rd h a
theorem FrA_refl {x : Int} {h : Hp} (s : Sh h) : FrA x h h := ⟨⟨rfl, rfl, rfl, rfl⟩, s, fun _ _ => rfl⟩
theorem FrA_wr {x : Int} {h h' : Hp} (f : FrA x h h') {i v : Int} (ok : okW x i = true) : FrA x h (wr h' x i v) := ⟨f.1, shOk f.2.1 ok, fun a ha => by rw [rd_wr_ne ha]; exact f.2.2 a ha⟩
theorem ok79 {i : Int} : okW 79 i = true := okW_arr (by decide) (fun _ => by decide)
/-- a note in a slot -/
def NtC (h : Hp) (s w p : Int) (N : Int → Int) : Prop := (rd h 79 (10 * s) = w ∧ rd h 79 (10 * s + 1) = p) ∧ (rd h 79 (10 * s + 2) = N (32 + w) ∧ rd h 79 (10 * s + 3) = N (35 + w) ∧ rd h 79 (10 * s + 4) = N (38 + w) ∧ rd h 79 (10 * s + 5) = N (41 + w)) ∧ rd h 79 (10 * s + 6) = N p ∧ rd h 79 (10 * s + 7) = (if N (16 + p) = -2 then 0 else N (16 + p)) ∧ rd h 79 (10 * s + 8) = N (24 + p) ∧ rd h 79 (10 * s + 9) = N (8 + p)
theorem c_note {F : Nat} {h : Hp} {w p : Int} {D : Nat → Int → Int} {N : Int → Int} (s : Sh h) (st : StE h 66 D N) (mk : ∀ p, 0 ≤ p → p < 8 → N (8 + p) = 0 ∨ N (8 + p) = 1) (hw : 0 ≤ w ∧ w < D 1 0) (hw3 : D 1 0 ≤ 3) (hp : 0 ≤ p ∧ p < 8) (hn : 0 ≤ rd h 78 1 ∧ rd h 78 1 < 40) : ∃ h', Past_note F 78 66 w p h = some (0, h') ∧ FrA 79 h h' ∧ (∀ i, ¬ (10 * rd h 78 1 ≤ i ∧ i < 10 * rd h 78 1 + 10) → rd h' 79 i = rd h 79 i) ∧ NtC h' (rd h 78 1) w p N := by
  obtain ⟨hb, sw, sp, -, -⟩ := st
  obtain ⟨iw, w1, w2, w3, w4, w5⟩ := sw w hw.1 hw.2
  obtain ⟨p1, p2, p3, p4⟩ := sp p hp.1 hp.2
  have hm := mk p hp.1 hp.2
  have iw' : isWk (66 + 9 + w) := iw
  have hwn : (66:Int) + 9 + w ≠ 79 := by omega
  generalize hx : 10 * rd h 78 1 = x at *
  have f0 : FrA 79 h h := FrA_refl s
  have f1 := FrA_wr (i := x) (v := w) f0 ok79
  have f2 := FrA_wr (i := x + 1) (v := p) f1 ok79
  have f3 := FrA_wr (i := x + 2) (v := N (32 + w)) f2 ok79
  have f4 := FrA_wr (i := x + 3) (v := N (35 + w)) f3 ok79
  have f5 := FrA_wr (i := x + 4) (v := N (38 + w)) f4 ok79
  have f6 := FrA_wr (i := x + 5) (v := N (41 + w)) f5 ok79
  have f7 := FrA_wr (i := x + 6) (v := N p) f6 ok79
  have f8 := FrA_wr (i := x + 7) (v := if N (16 + p) = -2 then 0 else N (16 + p)) f7 ok79
  have f9 := FrA_wr (i := x + 8) (v := N (24 + p)) f8 ok79
  have fA := FrA_wr (i := x + 9) (v := N (8 + p)) f9 ok79
  refine ⟨_, ?_, fA, fun i hi => ?_, ?_⟩
  · unfold Past_note
    rw [gP1 s, w32_id (by omega) (by omega), lt_eq, show rd h 78 1 * 10 = x by omega, gS0 s hb, aS0 s hb hw.1 (by omega), gP0 s, sP0 s (by omega) (by omega),
      gP0 f1.2.1, w32_id (by omega) (by omega), sP0 f1.2.1 (by omega) (by omega),
      gP0 f2.2.1, gW f2.2.1 iw', f2.2.2 _ hwn, w1, w32_id (by omega) (by omega), sP0 f2.2.1 (by omega) (by omega),
      gP0 f3.2.1, gW f3.2.1 iw', f3.2.2 _ hwn, w2, w32_id (by omega) (by omega), sP0 f3.2.1 (by omega) (by omega),
      gP0 f4.2.1, gW f4.2.1 iw', f4.2.2 _ hwn, w4, w32_id (by omega) (by omega), sP0 f4.2.1 (by omega) (by omega),
      gP0 f5.2.1, gW f5.2.1 iw', f5.2.2 _ hwn, w5, w32_id (by omega) (by omega), sP0 f5.2.1 (by omega) (by omega),
      gP0 f6.2.1, gS1 f6.2.1 hb, aS1 f6.2.1 hb hp.1 hp.2, f6.2.2 _ (by omega), p1, w32_id (by omega) (by omega), sP0 f6.2.1 (by omega) (by omega),
      gP0 f7.2.1, gS2 f7.2.1 hb, aS2 f7.2.1 hb hp.1 hp.2, f7.2.2 _ (by omega), p2, w32_id (by omega) (by omega), sP0 f7.2.1 (by omega) (by omega),
      gP0 f8.2.1, gS3 f8.2.1 hb, aS3 f8.2.1 hb hp.1 hp.2, f8.2.2 _ (by omega), p3, w32_id (by omega) (by omega), sP0 f8.2.1 (by omega) (by omega),
      gP0 f9.2.1, gS4 f9.2.1 hb, aS4 f9.2.1 hb hp.1 hp.2, f9.2.2 _ (by omega), p4, w32_id (by omega) (by omega)]
    rcases hm with e | e
    · rw [e, if_pos rfl, sP0 f9.2.1 (by omega) (by omega)]
    · rw [e, if_neg (by decide), sP0 f9.2.1 (by omega) (by omega)]
  · rw [rd_i (by omega), rd_i (by omega), rd_i (by omega), rd_i (by omega), rd_i (by omega), rd_i (by omega), rd_i (by omega), rd_i (by omega), rd_i (by omega), rd_i (by omega)]
  · unfold NtC
    rw [hx]
    refine ⟨⟨?_, ?_⟩, ⟨?_, ?_, ?_, ?_⟩, ?_, ?_, ?_, ?_⟩
    all_goals (repeat' (first | rw [rd_same] | rw [rd_i (by omega)]))
