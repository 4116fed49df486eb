/-! large, the class's side -/
def Xl (b : Int) : Prop := b = 20 ∨ b = 21 ∨ b = 34 ∨ b = 35 ∨ (85 ≤ b ∧ b ≤ 92) ∨ b = 94 ∨ b = 96 ∨ (115 ≤ b ∧ b ≤ 138)
def PL (h0 h : Hp) (Λ : Nat → Lw) : Prop := FrX Xl h0 h ∧ Dy h ∧ JPl h (dt h0) (rd h0 239) (fun k b => lgB h0 (Λ 0) k b)
theorem PL_0 {n : Int} {h : Hp} {Λ : Nat → Lw} (j : JJ n h Λ) : PL h h Λ := ⟨FrX_refl (jS j), j.2.2.2, j.2.2.1⟩
theorem PL_sh {n : Int} {h0 h : Hp} {Λ : Nat → Lw} (j : JJ n h0 Λ) (q : PL h0 h Λ) : JShore h (dt h0) Λ := (JK0_X (jD j) (FrX_mono (fun b hb => by unfold Xl at hb; unfold Xq; omega) q.1) j.2.1).2.2.1
theorem PL_n {h0 h h1 : Hp} {Λ : Nat → Lw} {X : Int → Prop} (h8 : dt h0 0 0 ≤ 8) (q : PL h0 h Λ) (f : FrX X h h1) (hX : ∀ b, X b → Xl b ∧ b ≠ 96) (d : Dy h1) : PL h0 h1 Λ := ⟨FrX_trans q.1 (FrX_mono (fun b hb => (hX b hb).1) f), d, JPl_X h8 f (fun b hb => by have := hX b hb; unfold Xl at this; omega) q.2.2⟩
theorem isSd_z {p : Int} (hp : 0 ≤ p ∧ p < 8) : isSd (115 + 3 * p) := ⟨p, hp.1, hp.2, Or.inr rfl⟩
theorem c_size1 {F : Nat} {n k c : Int} {h0 h : Hp} {Λ : Nat → Lw} (hF : 6000 ≤ F) (j : JJ n h0 Λ) (q : PL h0 h Λ) (hk : 1 ≤ k ∧ k ≤ 16) (hc : rd h0 22 0 = c) (R8 : Int → Int → Int → Int → Int → Hp → Option (Int × Hp)) (i : Nat) (hi : (i : Int) < dt h0 0 0) (sd : ∀ p, 0 ≤ p → p < (i : Int) → SdE h (115 + 3 * p) (dt (zH h0 (Λ 0) k)) (8 + p)) : ∃ h', Plan_spanOf_L8s F R8 82 22 k c i h = R8 82 22 k c ((i + 1 : Nat) : Int) h' ∧ PL h0 h' Λ ∧ rd h' 96 = rd h 96 ∧ ∀ p, 0 ≤ p → p < ((i + 1 : Nat) : Int) → SdE h' (115 + 3 * p) (dt (zH h0 (Λ 0) k)) (8 + p) := by
  have dk := jD j
  have h8 := dk.1.2
  have tx := j.1.2.1
  obtain ⟨cd, clz, -, -⟩ := PL_sh j q
  have s := q.1.1
  have e22 : rd h 22 0 = c := by rw [q.1.2.2.2.1 22 (by decide) (by unfold Xl; omega)]; exact hc
  rw [e22] at clz
  have cx := cd.1
  rw [e22] at cx
  have ic := cx.1
  obtain ⟨c1, c2, c3, c4, c6, c7, c8, c9, cA⟩ := cx.2
  have hi8 : 0 ≤ (i : Int) ∧ (i : Int) < 8 := by omega
  obtain ⟨x1, x2, x3, x4⟩ := c3 i hi8.1 hi
  obtain ⟨t1, t2, t3, t4⟩ := tx.2.2.1 i hi8.1 hi
  have tp1 := tx.2.2.2.2.2.2.1
  have tp2 := tx.2.2.2.2.2.2.2.1
  have bx := sz_in (x := dt h0 22 i - dt h0 20 0) (k := k) (by omega) hk
  have by' := sz_in (x := dt h0 23 i - dt h0 21 0) (k := k) (by omega) hk
  have bt := szT_in (t := dt h0 16 i) (k := k) t4 hk
  have cmx : k * (dt h0 22 i - dt h0 20 0) = (dt h0 22 i - dt h0 20 0) * k := Int.mul_comm _ _
  have cmy : k * (dt h0 23 i - dt h0 21 0) = (dt h0 23 i - dt h0 21 0) * k := Int.mul_comm _ _
  have cmt : k * dt h0 16 i = dt h0 16 i * k := Int.mul_comm _ _
  have isd := isSd_z hi8
  obtain ⟨a, ha⟩ : ∃ a, a = 115 + 3 * (i : Int) := ⟨_, rfl⟩
  rw [← ha] at isd
  have ok := fun x => sd_ok (i := x) isd
  have al : a < 254 ∧ 115 ≤ a := by omega
  have acne : a ≠ c ∧ a ≠ c + 2 ∧ a ≠ c + 4 ∧ a ≠ 22 ∧ a ≠ 36 ∧ a ≠ c + 11 ∧ a ≠ c + 12 := by unfold isSc at ic; omega
  have s1 : Sh (wr h a 0 (szX (dt h0) k i)) := shOk s (ok _)
  have s2 : Sh (wr (wr h a 0 (szX (dt h0) k i)) a 1 (szY (dt h0) k i)) := shOk s1 (ok _)
  have s3 : Sh (wr (wr (wr h a 0 (szX (dt h0) k i)) a 1 (szY (dt h0) k i)) a 3 (szT (dt h0) k i)) := shOk s2 (ok _)
  have f3 : FrX (fun b => b = a) h (wr (wr (wr h a 0 (szX (dt h0) k i)) a 1 (szY (dt h0) k i)) a 3 (szT (dt h0) k i)) := FrX_trans (FrX_trans (FrX_wr s (ok _) al.1 rfl) (FrX_wr s1 (ok _) al.1 rfl)) (FrX_wr s2 (ok _) al.1 rfl)
  have no : ∀ x, x = 0 ∨ x = 1 ∨ x = 3 → ¬ Own a x := fun x hx o => by
    rcases o with ⟨-, o⟩ | ⟨o, -⟩
    · omega
    · exact sr_ne isd o rfl
  have d3 : Dy (wr (wr (wr h a 0 (szX (dt h0) k i)) a 1 (szY (dt h0) k i)) a 3 (szT (dt h0) k i)) := Dy_wr (no _ (by omega)) (Dy_wr (no _ (by omega)) (Dy_wr (no _ (by omega)) q.2.1))
  have v0 : rd (wr (wr (wr h a 0 (szX (dt h0) k i)) a 1 (szY (dt h0) k i)) a 3 (szT (dt h0) k i)) a 0 = szX (dt h0) k i := by rw [rd_i (by decide), rd_i (by decide), rd_same]
  have v1 : rd (wr (wr (wr h a 0 (szX (dt h0) k i)) a 1 (szY (dt h0) k i)) a 3 (szT (dt h0) k i)) a 1 = szY (dt h0) k i := by rw [rd_i (by decide), rd_same]
  have v3 : rd (wr (wr (wr h a 0 (szX (dt h0) k i)) a 1 (szY (dt h0) k i)) a 3 (szT (dt h0) k i)) a 3 = szT (dt h0) k i := rd_same _ _ _ _
  have vn : ∀ b, b ≠ a → rd (wr (wr (wr h a 0 (szX (dt h0) k i)) a 1 (szY (dt h0) k i)) a 3 (szT (dt h0) k i)) b = rd h b := fun b hb => by rw [rd_wr_ne hb, rd_wr_ne hb, rd_wr_ne hb]
  have start : ∀ R, Plan_spanOf_L8s F R 82 22 k c i h = cl (Shor_layOut F 22 a (wr (wr (wr h a 0 (szX (dt h0) k i)) a 1 (szY (dt h0) k i)) a 3 (szT (dt h0) k i))) (fun _ h23 => R 82 22 k c ((i + 1 : Nat) : Int) h23) := fun R => by
    have wx1 : w32 (dt h0 22 i - dt h0 20 0) = dt h0 22 i - dt h0 20 0 := w32_id (by omega) (by omega)
    have wy1 : w32 (dt h0 23 i - dt h0 21 0) = dt h0 23 i - dt h0 21 0 := w32_id (by omega) (by omega)
    have wx2 : w32 ((dt h0 22 i - dt h0 20 0) * k) = (dt h0 22 i - dt h0 20 0) * k := w32_id (by omega) (by omega)
    have wy2 : w32 ((dt h0 23 i - dt h0 21 0) * k) = (dt h0 23 i - dt h0 21 0) * k := w32_id (by omega) (by omega)
    have wx3 : w32 (((dt h0 22 i - dt h0 20 0) * k).tdiv 4) = ((dt h0 22 i - dt h0 20 0) * k).tdiv 4 := w32_id (by omega) (by omega)
    have wy3 : w32 (((dt h0 23 i - dt h0 21 0) * k).tdiv 4) = ((dt h0 23 i - dt h0 21 0) * k).tdiv 4 := w32_id (by omega) (by omega)
    have wx4 : w32 (dt h0 20 0 + ((dt h0 22 i - dt h0 20 0) * k).tdiv 4) = szX (dt h0) k i := w32_id (by omega) (by omega)
    have wy4 : w32 (dt h0 21 0 + ((dt h0 23 i - dt h0 21 0) * k).tdiv 4) = szY (dt h0) k i := w32_id (by omega) (by omega)
    have wt1 : w32 (dt h0 16 i * k) = dt h0 16 i * k := w32_id (by omega) (by omega)
    have wt2 : w32 (dt h0 16 i * k + 4) = dt h0 16 i * k + 4 := w32_id (by omega) (by omega)
    have wt3 : w32 (dt h0 16 i * k + 4 - 1) = dt h0 16 i * k + 3 := by rw [w32_id (by omega) (by omega)]; omega
    have wt4 : w32 ((dt h0 16 i * k + 3) / 4) = szT (dt h0) k i := w32_id (by omega) (by omega)
    have nn : 0 ≤ dt h0 16 i * k + 3 := by omega
    unfold Plan_spanOf_L8s Tide_roundedUp
    rw [gC4 s ic, c1, if_pos hi, gN8 s, aN8 s hi8.1 hi8.2, ← ha, gC11 s ic, c8, gC0 s ic, aC0 s ic hi8.1 hi8.2, x1, gC11 s ic, c8, dv_ok (by decide), wx1, cmx, wx2, wx3, wx4, pA s isd, gC12 s1 ic, rd_a acne.1.symm, c9, gC1 s1 ic, aC1 s1 ic hi8.1 hi8.2, rd_a acne.2.1.symm, x2, gC12 s1 ic, rd_a acne.1.symm, c9, dv_ok (by decide), wy1, cmy, wy2, wy3, wy4, pA s1 isd, gC3 s2 ic, aC3 s2 ic hi8.1 hi8.2, rd_a acne.2.2.1.symm, rd_a acne.2.2.1.symm, x4, if_pos (by decide), cmt, wt1, wt2, wt3, dv_ok (by decide), Int.tdiv_eq_ediv_of_nonneg nn, wt4, cl_some, pA s2 isd, ivH s3, w32_nat (by omega)]
  generalize wr (wr (wr h a 0 (szX (dt h0) k i)) a 1 (szY (dt h0) k i)) a 3 (szT (dt h0) k i) = g at *
  obtain ⟨h', l1, l2, l3, ⟨l4, l5, l6, l7⟩, ⟨l8, l9⟩, lA⟩ := c_layOut (F := F) (h := g) (a := a) (c := c) (by omega) s3 d3 ic (by rw [vn 22 acne.2.2.2.1.symm]; exact e22) (CLz_X ic f3 (fun b b1 b2 => by unfold isSc at ic; omega) clz) isd
  have ff : FrX (fun b => b = a ∨ b = c + 11 ∨ b = c + 12) h h' := FrX_trans (FrX_mono (fun b hb => Or.inl hb) f3) l2
  refine ⟨h', by rw [start, l1, cl_some], PL_n h8 q ff (fun b hb => by unfold isSc at ic; unfold Xl; omega) l3, ff.2.2.2.1 96 (by decide) (by unfold isSc at ic; omega), fun p p0 p1 => ?_⟩
  by_cases c : p = (i : Int)
  · subst c
    rw [← ha]
    refine ⟨isd, by rw [l4, v0, zH_6, if_pos (by omega), show (8 : Int) + (i : Int) - 8 = i by omega], by rw [l5, v1, zH_7, if_pos (by omega), show (8 : Int) + (i : Int) - 8 = i by omega], by rw [l6, v3, zH_8, if_pos (by omega), show (8 : Int) + (i : Int) - 8 = i by omega], l9, fun m m0 m1 => ?_⟩
    rw [(lA m m0 m1).2, zH_12p hi8.1 ⟨m0, m1⟩, v0, v1, v3, vn _ acne.1.symm, vn 36 acne.2.2.2.2.1.symm, c6, c7]
    unfold szN
    exact nxI_cg (fun x x0 x1 => frI_cg (fun y y0 y1 => (cd.2.1 y y0 y1).1) ⟨x0, x1⟩) ⟨m0, m1⟩
  · exact SdE_X ff (by unfold isSc at ic; omega) (sd p p0 (by omega))
