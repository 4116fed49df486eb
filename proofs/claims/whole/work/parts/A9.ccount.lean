/-! bytes; what stays; count -/
theorem sh8 (a : BitVec 32) (s : Nat) (hs : s ≤ 24) : (a >>> s).setWidth 8 = (a.sshiftRight s).setWidth 8 := by
  apply BitVec.eq_of_getLsbD_eq
  intro i hi
  rw [BitVec.getLsbD_setWidth, BitVec.getLsbD_setWidth, BitVec.getLsbD_ushiftRight, BitVec.getLsbD_sshiftRight]
  have h1 : s + i < 32 := by omega
  simp [h1, hi]
  omega
theorem i2b_cg {x y : Int} {a b : Int32} (hx : x = a.toInt) (hy : y = b.toInt) (h : a.toBitVec.setWidth 8 = b.toBitVec.setWidth 8) : i2b x = i2b y := by
  subst hx
  subst hy
  unfold i2b
  rw [Int32.ofInt_toInt, Int32.ofInt_toInt]
  have e : a.toInt8 = b.toInt8 := by
    apply Int8.toBitVec_inj.1
    rw [Int32.toBitVec_toInt8, Int32.toBitVec_toInt8]
    rw [BitVec.signExtend_eq_setWidth_of_le _ (by decide), BitVec.signExtend_eq_setWidth_of_le _ (by decide)]
    exact h
  rw [e]
theorem i2b_sh (x : Int) {s : Int} (hs : s = 24 ∨ s = 16 ∨ s = 8 ∨ s = 0) : i2b (iushr x s) = i2b (ishr x s) := by
  refine i2b_cg rfl rfl ?_
  rcases hs with e | e | e | e <;> subst e
  · have e1 : (((Int32.ofInt x).toUInt32 >>> ((Int32.ofInt 24).toUInt32 &&& Int32.toUInt32 31)).toInt32).toBitVec = (Int32.ofInt x).toBitVec >>> 24 := by
      rw [show ((Int32.ofInt 24).toUInt32 &&& Int32.toUInt32 31) = 24 by decide]; rfl
    have e2 : (Int32.ofInt x >>> (Int32.ofInt 24 &&& 31)).toBitVec = (Int32.ofInt x).toBitVec.sshiftRight 24 := by
      rw [show (Int32.ofInt 24 &&& 31) = 24 by decide, Int32.toBitVec_shiftRight]; rfl
    rw [e1, e2, sh8 _ 24 (by decide)]
  · have e1 : (((Int32.ofInt x).toUInt32 >>> ((Int32.ofInt 16).toUInt32 &&& Int32.toUInt32 31)).toInt32).toBitVec = (Int32.ofInt x).toBitVec >>> 16 := by
      rw [show ((Int32.ofInt 16).toUInt32 &&& Int32.toUInt32 31) = 16 by decide]; rfl
    have e2 : (Int32.ofInt x >>> (Int32.ofInt 16 &&& 31)).toBitVec = (Int32.ofInt x).toBitVec.sshiftRight 16 := by
      rw [show (Int32.ofInt 16 &&& 31) = 16 by decide, Int32.toBitVec_shiftRight]; rfl
    rw [e1, e2, sh8 _ 16 (by decide)]
  · have e1 : (((Int32.ofInt x).toUInt32 >>> ((Int32.ofInt 8).toUInt32 &&& Int32.toUInt32 31)).toInt32).toBitVec = (Int32.ofInt x).toBitVec >>> 8 := by
      rw [show ((Int32.ofInt 8).toUInt32 &&& Int32.toUInt32 31) = 8 by decide]; rfl
    have e2 : (Int32.ofInt x >>> (Int32.ofInt 8 &&& 31)).toBitVec = (Int32.ofInt x).toBitVec.sshiftRight 8 := by
      rw [show (Int32.ofInt 8 &&& 31) = 8 by decide, Int32.toBitVec_shiftRight]; rfl
    rw [e1, e2, sh8 _ 8 (by decide)]
  · have e1 : (((Int32.ofInt x).toUInt32 >>> ((Int32.ofInt 0).toUInt32 &&& Int32.toUInt32 31)).toInt32).toBitVec = (Int32.ofInt x).toBitVec >>> 0 := by
      rw [show ((Int32.ofInt 0).toUInt32 &&& Int32.toUInt32 31) = 0 by decide]; rfl
    have e2 : (Int32.ofInt x >>> (Int32.ofInt 0 &&& 31)).toBitVec = (Int32.ofInt x).toBitVec.sshiftRight 0 := by
      rw [show (Int32.ofInt 0 &&& 31) = 0 by decide, Int32.toBitVec_shiftRight]; rfl
    rw [e1, e2, sh8 _ 0 (by decide)]
theorem i2b_in (x : Int) : -128 ≤ i2b x ∧ i2b x ≤ 127 := by
  unfold i2b
  rw [Int8.toInt_toInt32]
  exact ⟨Int8.minValue_le_toInt _ , Int8.toInt_le _⟩
theorem JTape_X {X : Int → Prop} {h h' : Hp} {B : Int → Int} {ln pl : Int} (f : FrX X h h') (hx : ¬ X 1 ∧ ¬ X 2) (g : JTape h B ln pl) : JTape h' B ln pl := by
  unfold JTape BtC at g ⊢
  rw [f.2.2.2.1 1 (by decide) hx.1, f.2.2.2.1 2 (by decide) hx.2]
  exact g
theorem JRead_X {X : Int → Prop} {h h' : Hp} (f : FrX X h h') (hx : ¬ X 3 ∧ ¬ X 4 ∧ ¬ X 5 ∧ ¬ X 6 ∧ ¬ X 22) (g : JRead h) : JRead h' := by
  unfold JRead WdI CkI at g ⊢
  rw [f.2.2.2.1 3 (by decide) hx.1, f.2.2.2.1 4 (by decide) hx.2.1, f.2.2.2.1 5 (by decide) hx.2.2.1, f.2.2.2.1 6 (by decide) hx.2.2.2.1, f.2.2.2.1 22 (by decide) hx.2.2.2.2]
  exact g
theorem JShore_X {X : Int → Prop} {h h' : Hp} {D : Nat → Int → Int} {Λ : Nat → Lw} (dk : Dok D) (f : FrX X h h') (hx : ∀ b, X b → ¬ (9 ≤ b ∧ b ≤ 19) ∧ ¬ (22 ≤ b ∧ b ≤ 33) ∧ ¬ (36 ≤ b ∧ b ≤ 63)) (g : JShore h D Λ) : JShore h' D Λ := by
  obtain ⟨s1, s2, s3, s4⟩ := g
  have e : ∀ b, b < 194 → (22 ≤ b ∧ b ≤ 33 ∨ 36 ≤ b ∧ b ≤ 63) → rd h' b = rd h b := fun b h1 h2 => f.2.2.2.1 b (by omega) (fun q => by have := hx b q; omega)
  have e22 := e 22 (by decide) (by omega)
  have c22 : rd h 22 0 = 9 ∨ rd h 22 0 = 23 := s1.1.1
  refine ⟨?_, ?_, ?_, ?_⟩
  · obtain ⟨g1, g2, g3, g4⟩ := s1
    refine ⟨?_, fun m m0 m1 => ?_, fun p p0 p1 => ?_, fun t ht => ?_⟩
    · rw [e22]; exact CxE_X f (fun b b1 b2 q => by have := hx b q; omega) g1
    · rw [e 36 (by decide) (by omega), e 37 (by decide) (by omega)]; exact g2 m m0 m1
    · obtain ⟨z1, z2, z3⟩ := g3 p p0 p1
      have h8 : p < 8 := by have := dk.1.2; omega
      exact ⟨SdE_X f (fun q => by have := hx _ q; omega) z1, SdF_X f z1.1 (fun q => by have := hx _ q; omega) z2, z3⟩
    · rw [e 39 (by decide) (by omega)]; exact g4 t ht
  · rw [e22]; exact CLz_X s1.1.1 f (fun b b1 b2 q => by have := hx b q; omega) s2
  · rw [e 40 (by decide) (by omega), e 41 (by decide) (by omega)]; exact s3
  · rw [e 39 (by decide) (by omega)]; exact s4
theorem PsI_X {X : Int → Prop} {n : Int} {h h' : Hp} {D : Nat → Int → Int} {u : Int} {N H : Int → Int} (f : FrX X h h') (hx : ¬ X 78 ∧ ¬ X 79) (g : PsI n h D u N H) : PsI n h' D u N H := by
  obtain ⟨p1, p2, p3, p4⟩ := g
  have e78 := f.2.2.2.1 78 (by decide) hx.1
  have e79 := f.2.2.2.1 79 (by decide) hx.2
  refine ⟨by rw [e78]; exact p1, p2, by rw [e78]; exact p3, fun k k0 k1 => ?_⟩
  obtain ⟨q1, w, p, q2, q3, q4, q5⟩ := p4 k k0 k1
  exact ⟨q1, w, p, q2, q3, by rw [e78]; exact NtC_eq e79 q4, q5⟩
theorem JHeld_X {X : Int → Prop} {n : Int} {h h' : Hp} {D : Nat → Int → Int} {E G : Int → Int} (dk : Dok D) (f : FrX X h h') (hx : ∀ b, X b → b ≠ 81 ∧ ¬ (158 ≤ b ∧ b ≤ 193)) (g : JHeld n h D E G) : JHeld n h' D E G := fun i i0 i1 => by
  obtain ⟨q1, q2, q3⟩ := g i i0 i1
  exact ⟨by rw [f.2.2.2.1 81 (by decide) (fun q => (hx _ q).1 rfl)]; exact q1, q2, fun z => ⟨StE_X dk.2.1.2 f (fun a h1 h2 q => by have := hx _ q; omega) (q3 z).1, (q3 z).2⟩⟩
theorem JTold_X {X : Int → Prop} {h h' : Hp} {td : Int} {A B C : Int → Int} (f : FrX X h h') (hx : ∀ b, X b → ¬ (139 ≤ b ∧ b ≤ 142)) (g : JTold h td A B C) : JTold h' td A B C := by
  unfold JTold at g ⊢
  rw [f.2.2.2.1 139 (by decide) (fun q => by have := hx _ q; omega), f.2.2.2.1 140 (by decide) (fun q => by have := hx _ q; omega), f.2.2.2.1 141 (by decide) (fun q => by have := hx _ q; omega), f.2.2.2.1 142 (by decide) (fun q => by have := hx _ q; omega)]
  exact g
/-- what the reference's small writes leave -/
def RfW (h h' : Hp) : Prop := (hsz h' = hsz h ∧ hus h' = hus h ∧ hkd h' = hkd h ∧ hln h' = hln h) ∧ Sh h' ∧ ∀ a, ¬ Xr a → rd h' a = rd h a
theorem Sc_W {h h' : Hp} (f : RfW h h') : Sc h h' := ⟨by rw [f.1.2.2.2], f.2.2 (-1) (by unfold Xr; omega)⟩
theorem RfW_X {h h' : Hp} (f : RfW h h') : FrX Xr h h' := FrX_of f.2.1 f.1 (fun b hb => f.2.2 b hb) (fun b hb => hb.2)
theorem RfW_Dy {h h' : Hp} (f : RfW h h') (d : Dy h) : Dy h' := Dy_Xr f.1 (RfW_X f) d
/-- how many parts of a set -/
theorem pc_sm {f : Int → Bool} : ∀ k : Nat, k ≤ 8 → ((pcN (setN f 8) k : Nat) : Int) = smN (fun p => if f p then 1 else 0) k := by
  intro k
  induction k with
  | zero => intro _; rfl
  | succ k ih =>
    intro hk
    show ((pcN (setN f 8) k + (if (setN f 8).testBit k then 1 else 0) : Nat) : Int) = smN (fun p => if f p then 1 else 0) k + (if f k then 1 else 0)
    rw [← ih (by omega), setN_bit, decide_eq_true (show k < 8 by omega), Bool.true_and]
    by_cases c : f k = true
    · rw [if_pos c, if_pos c]; omega
    · rw [if_neg c, if_neg c]; omega
theorem sm_ext {f g : Int → Int} : ∀ k : Nat, (∀ p : Nat, p < k → f p = g p) → smN f k = smN g k := by
  intro k
  induction k with
  | zero => intro _; rfl
  | succ k ih =>
    intro h
    show smN f k + f k = smN g k + g k
    rw [ih (fun p hp => h p (by omega)), h k (by omega)]
theorem sm_up {f : Int → Int} {n : Nat} : ∀ k : Nat, (∀ p : Nat, n ≤ p → p < n + k → f p = 0) → smN f (n + k) = smN f n := by
  intro k
  induction k with
  | zero => intro _; rfl
  | succ k ih =>
    intro h
    show smN f (n + k) + f ((n + k : Nat) : Int) = smN f n
    rw [ih (fun p p0 p1 => h p p0 (by omega)), h (n + k) (by omega) (by omega)]
    omega
theorem sm_neg {f : Int → Int} : ∀ k : Nat, smN (fun p => 1 - f p) k = (k : Int) - smN f k := by
  intro k
  induction k with
  | zero => rfl
  | succ k ih =>
    show smN (fun p => 1 - f p) k + (1 - f k) = ((k + 1 : Nat) : Int) - (smN f k + f k)
    rw [ih]
    omega
theorem k_count {F : Nat} {n q : Int} {h : Hp} {Λ : Nat → Lw} (hF : 6000 ≤ F) (j : JJ n h Λ) : Okc n h (Tide_count F 1 q h) (fun h1 => Mod_count F 194 q h1) := by
  have rw0 := jRw j
  have h8 : dt h 0 0 ≤ 8 := (jD j).1.2
  have h00 := (jD j).1.1
  refine okc_q0 j (r := cntA h q) ?_ ⟨h, m_count (by omega) (jMo j) (fun p p0 p1 => by have := (rw0.1.2 p p0 (by omega)).1; omega), Fr_refl j.1.1⟩
  have s := jS j
  have cd := jCD j
  have st := jSt j
  have ic := cd.1.1
  unfold Tide_count cntA
  by_cases q0 : q = 0
  · rw [tsw_at 0 (by omega) (by decide), if_pos q0]
    show (gf h 1 111 4 fun v1 => _) = _
    rw [gT4 s, gH0 s, gC4 s ic, cd.1.2.1]
  rw [if_neg q0]
  by_cases q1 : q = 1
  · rw [tsw_at 1 (by omega) (by decide), if_pos q1]
    show (gf h 1 111 4 fun v1 => _) = _
    rw [gT4 s, gH0 s, gC8 s ic, cd.1.2.2.1]
  rw [if_neg q1]
  by_cases q2 : q = 2
  · rw [tsw_at 2 (by omega) (by decide), if_pos q2]
    show (gf h 1 111 4 fun v1 => _) = _
    rw [gT4 s, gH0 s, gC9 s ic, cd.1.2.2.2.2.2.1]
  rw [if_neg q2]
  by_cases q3 : q = 3
  · rw [tsw_at 3 (by omega) (by decide), if_pos q3]
    show (gf h 1 111 4 fun v1 => _) = _
    rw [gT4 s, gH0 s, gC10 s ic, cd.1.2.2.2.2.2.2.1]
  rw [if_neg q3]
  by_cases q4 : q = 4
  · rw [tsw_at 4 (by omega) (by decide), if_pos q4]
    show (gf h 1 111 5 fun v1 => _) = _
    have e1 := pc_sm (f := fun p => decide (rd h 239 p < 0)) 8 (Nat.le_refl _)
    have e2 : smN (fun p => if rd h 239 p = -2 then 0 else 1) (dt h 0 0).toNat = 8 - ((pcN (setN (fun p => decide (rd h 239 p < 0)) 8) 8 : Nat) : Int) := by
      rw [e1]
      have a1 := sm_up (f := fun p => if rd h 239 p = -2 then (0 : Int) else 1) (n := (dt h 0 0).toNat) (8 - (dt h 0 0).toNat) (fun p p0 p1 => by
        have := (rw0.2.2.2.2 p (by omega) (by omega)).1
        show (if rd h 239 p = -2 then (0 : Int) else 1) = 0
        rw [if_pos this])
      rw [show (dt h 0 0).toNat + (8 - (dt h 0 0).toNat) = 8 by omega] at a1
      have sn := sm_neg (f := fun p => if decide (rd h 239 p < 0) = true then (1 : Int) else 0) 8
      rw [← a1, show (8 : Int) = ((8 : Nat) : Int) from rfl, ← sn]
      refine sm_ext 8 (fun p hp => ?_)
      have := rw0.1.1.2 p (by omega) (by omega)
      show (if rd h 239 p = -2 then (0 : Int) else 1) = 1 - (if decide (rd h 239 p < 0) = true then 1 else 0)
      by_cases c : rd h 239 p = -2
      · rw [if_pos c, decide_eq_true (by omega), if_pos rfl]; decide
      · rw [if_neg c, decide_eq_false (by omega), if_neg (by decide)]; decide
    have h9 := setN_8 (fun p => decide (rd h 239 p < 0)) 8 (by decide)
    have hp := pcN_le (setN (fun p => decide (rd h 239 p < 0)) 8) 8
    rw [gT5 s, ivS s (Or.inl rfl), c_neverDone (by omega) s st, cl_some, c_bitCount h9, cl_some, w32_id (by omega) (by omega), e2]
  rw [if_neg q4]
  by_cases q5 : q = 5
  · rw [tsw_at 5 (by omega) (by decide), if_pos q5]
    show (gf h 1 111 5 fun v1 => _) = _
    have e1 := pc_sm (f := fun p => decide (rd h 239 (8 + p) ≠ 0)) 8 (Nat.le_refl _)
    have e2 : smN (fun p => rd h 239 (8 + p)) (dt h 0 0).toNat = ((pcN (setN (fun p => decide (rd h 239 (8 + p) ≠ 0)) 8) 8 : Nat) : Int) := by
      rw [e1]
      have a1 := sm_up (f := fun p => rd h 239 (8 + p)) (n := (dt h 0 0).toNat) (8 - (dt h 0 0).toNat) (fun p p0 p1 => (rw0.2.2.2.2 p (by omega) (by omega)).2)
      rw [show (dt h 0 0).toNat + (8 - (dt h 0 0).toNat) = 8 by omega] at a1
      rw [← a1]
      refine sm_ext 8 (fun p hp => ?_)
      have := (rw0.1.2 p (by omega) (by omega)).1
      show rd h 239 (8 + p) = (if decide (rd h 239 (8 + p) ≠ 0) = true then 1 else 0)
      rcases this with c | c
      · rw [c]; rfl
      · rw [c]; rfl
    have h9 := setN_8 (fun p => decide (rd h 239 (8 + p) ≠ 0)) 8 (by decide)
    rw [gT5 s, ivS s (Or.inl rfl), c_crossedSet (by omega) s st, cl_some, c_bitCount h9, cl_some, e2]
  rw [if_neg q5]
  by_cases q6 : q = 6
  · rw [tsw_at 6 (by omega) (by decide), if_pos q6]
    show (gf h 1 111 5 fun v1 => _) = _
    rw [gT5 s, gS8 s (Or.inl rfl), st.2.2.2.1]
  rw [if_neg q6]
  by_cases q7 : q = 7
  · rw [tsw_at 7 (by omega) (by decide), if_pos q7]
    show (gf h 1 111 1 fun v1 => _) = _
    rw [gT1 s, j.2.1.1.1.1]
  rw [if_neg q7]
  by_cases q8 : q = 8
  · rw [tsw_at 8 (by omega) (by decide), if_pos q8]
    show (gf h 1 111 6 fun v1 => _) = _
    rw [gT6 s, gP2 s, j.2.1.2.2.2.2.1.1]
  rw [if_neg q8]
  by_cases q9 : q = 9
  · rw [tsw_at 9 (by omega) (by decide), if_pos q9]
    show (gf h 1 111 10 fun v1 => _) = _
    rw [gT10 s, gD4 s, j.2.1.2.2.2.2.2.2.1.1]
  rw [if_neg q9]
  by_cases qA : q = 10
  · rw [tsw_at 10 (by omega) (by decide), if_pos qA]
    show (iv h 1 111 (Tide_heldSlots F 1 h) fun r30 h31 => some (r30, h31)) = _
    obtain ⟨a0, b0, -⟩ := j.2.1.2.2.2.2.2.1 0 (by decide) (by decide)
    obtain ⟨a1, b1, -⟩ := j.2.1.2.2.2.2.2.1 1 (by decide) (by decide)
    obtain ⟨a2, b2, -⟩ := j.2.1.2.2.2.2.2.1 2 (by decide) (by decide)
    obtain ⟨m, hm⟩ : ∃ m, F = m + 4 := ⟨F - 4, by omega⟩
    have L0 : ∀ (x y : Int), Tide_heldSlots_L4 F F 1 x y h = Tide_heldSlots_L4s F (Tide_heldSlots_L4 F (m + 3)) 1 x y h := fun x y => by
      conv => lhs; arg 2; rw [hm]
      rfl
    have L1 : ∀ (x y : Int), Tide_heldSlots_L4 F (m + 3) 1 x y h = Tide_heldSlots_L4s F (Tide_heldSlots_L4 F (m + 2)) 1 x y h := fun _ _ => rfl
    have L2 : ∀ (x y : Int), Tide_heldSlots_L4 F (m + 2) 1 x y h = Tide_heldSlots_L4s F (Tide_heldSlots_L4 F (m + 1)) 1 x y h := fun _ _ => rfl
    have L3 : ∀ (x y : Int), Tide_heldSlots_L4 F (m + 1) 1 x y h = Tide_heldSlots_L4s F (Tide_heldSlots_L4 F m) 1 x y h := fun _ _ => rfl
    have st1 : ∀ (R : Int → Int → Int → Hp → Option (Int × Hp)) (x y e : Int), 0 ≤ y → y < 3 → rd h 81 y = e → (e = 0 ∨ e = 1) → 0 ≤ x → x ≤ 3 → Tide_heldSlots_L4s F R 1 x y h = R 1 (x + (if e = 0 then 0 else 1)) (y + 1) h := fun R x y e y0 y1 he h01 x0 x1 => by
      unfold Tide_heldSlots_L4s
      rw [if_pos y1, gT8 s, aT8 s y0 y1, he, w32_id (x := y + 1) (by omega) (by omega)]
      rcases h01 with z | z
      · rw [z, if_pos rfl, if_pos rfl, Int.add_zero]
      · rw [z, if_neg (by decide), if_neg (by decide), w32_id (by omega) (by omega)]
    have v01 : ∀ e : Int, 0 ≤ (if e = 0 then (0 : Int) else 1) ∧ (if e = 0 then (0 : Int) else 1) ≤ 1 := fun e => by split <;> decide
    have w0 := v01 (rd h 252 0)
    have w1 := v01 (rd h 252 1)
    have w2 := v01 (rd h 252 2)
    unfold Tide_heldSlots
    rw [ivT s, L0, st1 _ 0 0 _ (by decide) (by decide) a0 b0 (by decide) (by decide), show (0 : Int) + 1 = 1 by decide, L1, st1 _ (0 + (if rd h 252 0 = 0 then 0 else 1)) 1 _ (by decide) (by decide) a1 b1 (by omega) (by omega), show (1 : Int) + 1 = 2 by decide, L2, st1 _ (0 + (if rd h 252 0 = 0 then 0 else 1) + (if rd h 252 1 = 0 then 0 else 1)) 2 _ (by decide) (by decide) a2 b2 (by omega) (by omega), show (2 : Int) + 1 = 3 by decide, L3]
    unfold Tide_heldSlots_L4s
    rw [if_neg (by decide), cl_some, Int.zero_add]
  rw [if_neg qA, tsw_no (by omega)]
