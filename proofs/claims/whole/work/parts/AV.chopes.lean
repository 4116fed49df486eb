/-! hopes, hope, alike -/
/-- what is left of what is seen, when dogs have run over the parts before p -/
def lvN (D : Nat → Int → Int) (R : Int → Int) (t s : Int) (p : Nat) : Nat := setN (fun q => seenD D R q t && !(decide (q < (p : Int)) && runD D R s q t)) (D 0 0).toNat
theorem lv_bit {D : Nat → Int → Int} {R : Int → Int} {t s : Int} {p i : Nat} : (lvN D R t s p).testBit i = (decide (i < (D 0 0).toNat) && (seenD D R i t && !(decide ((i : Int) < (p : Int)) && runD D R s i t))) := by
  unfold lvN
  rw [setN_bit]
theorem lv_step {D : Nat → Int → Int} {R : Int → Int} {t s : Int} {p : Nat} (hp : p < (D 0 0).toNat) : lvN D R t s (p + 1) = if seenD D R p t = true ∧ runD D R s p t = true then lvN D R t s p ^^^ 2 ^ p else lvN D R t s p := by
  apply Nat.eq_of_testBit_eq
  intro i
  by_cases c : i = p
  · subst c
    have d1 : decide (i < (D 0 0).toNat) = true := decide_eq_true hp
    have d2 : decide ((i : Int) < ((i + 1 : Nat) : Int)) = true := decide_eq_true (by omega)
    have d3 : decide ((i : Int) < (i : Int)) = false := decide_eq_false (by omega)
    rw [lv_bit, d1, d2, Bool.true_and, Bool.true_and]
    by_cases z : seenD D R i t = true ∧ runD D R s i t = true
    · rw [if_pos z, Nat.testBit_xor, lv_bit, d1, d3, Nat.testBit_two_pow_self, z.1, z.2]
      rfl
    · rw [if_neg z, lv_bit, d1, d3]
      cases c1 : seenD D R i t
      · rfl
      · cases c2 : runD D R s i t
        · rfl
        · exact absurd ⟨c1, c2⟩ z
  · have d2 : decide ((i : Int) < ((p + 1 : Nat) : Int)) = decide ((i : Int) < (p : Int)) := by
      by_cases y : i < p
      · rw [decide_eq_true (by omega), decide_eq_true (by omega)]
      · rw [decide_eq_false (by omega), decide_eq_false (by omega)]
    rw [lv_bit, d2]
    split
    · rw [Nat.testBit_xor, lv_bit, Nat.testBit_two_pow_of_ne (Ne.symm c), Bool.xor_false]
    · rw [lv_bit]
theorem lvN_lt {D : Nat → Int → Int} {R : Int → Int} {t s : Int} {p : Nat} : lvN D R t s p < 2 ^ (D 0 0).toNat := setN_lt _ _
theorem lv_0 {D : Nat → Int → Int} {R : Int → Int} {t s : Int} : lvN D R t s 0 = setN (fun q => seenD D R q t) (D 0 0).toNat := by
  apply Nat.eq_of_testBit_eq
  intro i
  rw [lv_bit, setN_bit, decide_eq_false (show ¬ (i : Int) < ((0 : Nat) : Int) by omega), Bool.false_and, Bool.not_false, Bool.and_true]
theorem lv_end {D : Nat → Int → Int} {R : Int → Int} {t s : Int} (h8 : (D 0 0).toNat ≤ 8) : wbV D (lvN D R t s (D 0 0).toNat) = pbS D R s t (D 0 0).toNat := by
  unfold lvN
  rw [wbV_set h8]
  unfold pbS
  refine sm_ext _ (fun p hp => ?_)
  rw [decide_eq_true (show (p : Int) < (((D 0 0).toNat : Nat) : Int) by omega), Bool.true_and]
theorem ok155 {a : Int} (ha : a = 155 ∨ a = 156 ∨ a = 157) : ∀ i, okW a i = true := fun i => by rcases ha with e | e | e <;> subst e <;> exact okW_arr (by decide) (fun _ => by decide)
/-- what stands while dogs run -/
def PH (h0 h : Hp) (n : Int) (L : Nat → Nat) : Prop := PD h0 h ∧ ∀ i : Nat, (i : Int) < n → rd h 156 i = mixV (dt h0 19 0 + i) 29 ∧ rd h 155 i = ((L i : Nat) : Int)
theorem c_over {F : Nat} {n t k : Int} {h0 h : Hp} {Λ : Nat → Lw} {p : Nat} (hF : 6000 ≤ F) (j : JJ n h0 Λ) (hk : 0 ≤ k ∧ k ≤ 50) (ht : 0 ≤ t ∧ t < 600) (hp : (p : Int) < dt h0 0 0) (sn : seenD (dt h0) (rd h0 239) p t = true) (q : PH h0 h k (fun i => lvN (dt h0) (rd h0 239) t (dt h0 19 0 + i) p)) : ∃ h', Tide_letDogsRunOver F 1 p t k h = some (0, h') ∧ PH h0 h' k (fun i => lvN (dt h0) (rd h0 239) t (dt h0 19 0 + i) (p + 1)) := by
  have dk := jD j
  have mo := jMo j
  have rn := jRw j
  have s := q.1.1.1
  obtain ⟨-, st⟩ := PD_JK j q.1
  have hp8 : 0 ≤ (p : Int) ∧ (p : Int) < 8 := by have := dk.1.2; omega
  obtain ⟨s1, s2, s3, s4⟩ := st.2.2.1 p hp8.1 hp8.2
  have r0 := seenD_0 rn.1.1 hp8 sn
  have r16 := (rn.1.2 p hp8.1 hp8.2).2
  obtain ⟨u, hu⟩ : ∃ u, u = u0R (rd h0 239) p := ⟨_, rfl⟩
  have seen : rd h0 239 p ≤ t ∧ rd h0 239 (16 + p) ≤ t := by
    unfold seenD at sn
    simp only [Bool.and_eq_true, decide_eq_true_eq] at sn
    exact ⟨sn.1.1.1.2, sn.1.1.2⟩
  have ub : 0 ≤ u ∧ u ≤ t := by rw [hu]; unfold u0R; split <;> omega
  have vf : Stan_visibleFrom F 66 p h = some (u, h) := by
    unfold Stan_visibleFrom
    have : imax (rd h0 239 p) (if rd h0 239 (16 + p) = -2 then 0 else rd h0 239 (16 + p)) = u := by
      rw [hu]
      unfold imax u0R
      by_cases c : rd h0 239 (16 + p) = -2
      · rw [if_pos c, if_neg (by omega), if_pos (by omega)]
      · rw [if_neg c]
        by_cases c2 : rd h0 239 p < rd h0 239 (16 + p)
        · rw [if_pos c2, if_neg (by omega)]
        · rw [if_neg c2]
          split
          · rfl
          · omega
    rw [gS1 s st.1, aS1 s st.1 hp8.1 hp8.2, gS2 s st.1, aS2 s st.1 hp8.1 hp8.2, s1, s2, lt_eq, this]
  unfold Tide_letDogsRunOver
  rw [gT5 s, ivS s st.1, vf, cl_some]
  -- the limits
  have lim := loopE (fun N i g => Tide_letDogsRunOver_L14 F N 1 p t k u (u + (i : Nat)) g) (t + 1 - u).toNat (fun i g => PH h0 g k (fun i => lvN (dt h0) (rd h0 239) t (dt h0 19 0 + i) p) ∧ ∀ m, u ≤ m → m < u + (i : Int) → rd g 157 m = dt h0 15 (600 * p + m)) (fun z => ∃ g, z = Tide_letDogsRunOver_L46 F F 1 p t k u 0 g ∧ PH h0 g k (fun i => lvN (dt h0) (rd h0 239) t (dt h0 19 0 + i) p) ∧ ∀ m, u ≤ m → m ≤ t → rd g 157 m = dt h0 15 (600 * p + m)) (fun N i g hi P => Or.inl ?_) (fun N g P => ?_) (t + 1 - u).toNat F 0 h (by omega) (by omega) ⟨q, fun m m0 m1 => absurd m1 (by omega)⟩
  rotate_left
  · obtain ⟨⟨p1, p2⟩, p3⟩ := P
    have sg := p1.1.1
    have hm : 0 ≤ u + (i : Int) ∧ u + (i : Int) < 600 := by omega
    obtain ⟨g1, a1, a2, a3⟩ := c_dogTells (F := F) hF j p1 ⟨hp8.1, hp⟩ hm
    have sg1 := a2.1.1
    have s2' : Sh (wr g1 157 (u + (i : Int)) (dt h0 15 (600 * p + (u + (i : Int))))) := shOk sg1 (ok155 (by omega) _)
    refine ⟨wr g1 157 (u + (i : Int)) (dt h0 15 (600 * p + (u + (i : Int)))), ⟨⟨PD_tr a2 (FrX_wr (X := fun b => b = 157) sg1 (ok155 (by omega) _) (by decide) rfl) (fun b hb => by unfold Xd; omega) ⟨rfl, rfl, rfl, rfl⟩, fun x hx => ?_⟩, fun m m0 m1 => ?_⟩, ?_⟩
    · rw [rd_wr_ne (by decide), rd_wr_ne (by decide), a3 156 (by decide) (by decide) (by decide) (by decide), a3 155 (by decide) (by decide) (by decide) (by decide)]
      exact p2 x hx
    · by_cases e : m = u + (i : Int)
      · rw [e, rd_same]
      · rw [rd_i e, a3 157 (by decide) (by decide) (by decide) (by decide)]
        exact p3 m m0 (by omega)
    · show Tide_letDogsRunOver_L14s F (Tide_letDogsRunOver_L14 F N) 1 p t k u (u + (i : Nat)) g = Tide_letDogsRunOver_L14 F N 1 p t k u (u + ((i + 1 : Nat) : Int)) _
      unfold Tide_letDogsRunOver_L14s
      rw [if_neg (by omega), gT13 sg, gT4 sg, ivH sg, a1, cl_some, sT13 sg1 hm.1 hm.2, w32_id (by omega) (by omega), show u + (i : Int) + 1 = u + ((i + 1 : Nat) : Int) by omega]
  · refine ⟨g, ?_, P.1, fun m m0 m1 => P.2 m m0 (by omega)⟩
    show Tide_letDogsRunOver_L14s F (Tide_letDogsRunOver_L14 F N) 1 p t k u (u + (((t + 1 - u).toNat : Nat) : Int)) g = _
    unfold Tide_letDogsRunOver_L14s
    rw [if_pos (by omega)]
  obtain ⟨g, e1, e2, e3⟩ := lim
  rw [show Tide_letDogsRunOver_L14 F F 1 p t k u u h = Tide_letDogsRunOver_L46 F F 1 p t k u 0 g by rw [← e1]; show _ = Tide_letDogsRunOver_L14 F F 1 p t k u (u + ((0 : Nat) : Int)) h; rw [show u + ((0 : Nat) : Int) = u by omega]]
  refine loopE (fun N i g => Tide_letDogsRunOver_L46 F N 1 p t k u (i : Nat) g) k.toNat (fun i g => PH h0 g k (fun x => if x < i then lvN (dt h0) (rd h0 239) t (dt h0 19 0 + x) (p + 1) else lvN (dt h0) (rd h0 239) t (dt h0 19 0 + x) p) ∧ ∀ m, u ≤ m → m ≤ t → rd g 157 m = dt h0 15 (600 * p + m)) (fun z => ∃ h', z = some (0, h') ∧ PH h0 h' k (fun i => lvN (dt h0) (rd h0 239) t (dt h0 19 0 + i) (p + 1))) (fun N i g hi P => Or.inl ?_) (fun N g P => ?_) k.toNat F 0 g (by omega) (by omega) ⟨⟨e2.1, fun i hi => by dsimp only; rw [if_neg (by omega)]; exact e2.2 i hi⟩, e3⟩
  · obtain ⟨⟨p1, p2⟩, p3⟩ := P
    have sg := p1.1.1
    have hi50 : 0 ≤ (i : Int) ∧ (i : Int) < 50 ∧ (i : Int) < k := by omega
    obtain ⟨y1, y2⟩ := p2 i hi50.2.2
    dsimp only at y2
    rw [if_neg (by omega)] at y2
    have ro := c_runOver (F := F) (s := dt h0 19 0 + i) (D := dt h0) sg hp8 ht.2 (t + 1 - u).toNat F u ub.1 rfl (by omega) (fun m m0 m1 => p3 m m0 m1)
    have rd' : exN (fun x => decide (lotV (dt h0 19 0 + i) (8 * x + p) < dt h0 15 (600 * p + x))) u (t + 1 - u).toNat = runD (dt h0) (rd h0 239) (dt h0 19 0 + i) p t := by rw [hu]; rfl
    rw [rd'] at ro
    have pP : p < (dt h0 0 0).toNat := by omega
    have ls := lv_step (D := dt h0) (R := rd h0 239) (t := t) (s := dt h0 19 0 + i) pP
    have un : Tide_letDogsRunOver_L46 F (N + 1) 1 p t k u (i : Nat) g = if runD (dt h0) (rd h0 239) (dt h0 19 0 + i) p t = true then Tide_letDogsRunOver_L46 F N 1 p t k u ((i + 1 : Nat) : Int) (wr g 155 i (ixor ((lvN (dt h0) (rd h0 239) t (dt h0 19 0 + i) p : Nat) : Int) (ishl 1 p))) else Tide_letDogsRunOver_L46 F N 1 p t k u ((i + 1 : Nat) : Int) g := by
      have wn : w32 ((i : Int) + 1) = ((i + 1 : Nat) : Int) := w32_nat (by omega)
      show Tide_letDogsRunOver_L46s F (Tide_letDogsRunOver_L46 F N) 1 p t k u (i : Nat) g = _
      unfold Tide_letDogsRunOver_L46s Tide_isRunOver
      rw [if_pos hi50.2.2, if_pos hi50.2.1, gT12 sg, aT12 sg hi50.1 hi50.2.1, y1, ivT sg, ro, cl_some, wn]
      by_cases c : runD (dt h0) (rd h0 239) (dt h0 19 0 + i) p t = true
      · rw [if_pos c, if_neg (by decide), if_pos c, gT11 sg, aT11 sg hi50.1 hi50.2.1, y2, sT11 sg hi50.1 hi50.2.1]
      · rw [if_neg c, if_pos rfl, if_neg c]
    by_cases c : runD (dt h0) (rd h0 239) (dt h0 19 0 + i) p t = true
    · rw [if_pos c] at un
      have l256 : lvN (dt h0) (rd h0 239) t (dt h0 19 0 + i) p < 256 := Nat.lt_of_lt_of_le lvN_lt (Nat.pow_le_pow_right (n := 2) (by decide) (D8 mo))
      have p256 : 2 ^ p < 2147483648 := Nat.lt_of_lt_of_le (Nat.pow_lt_pow_right (by decide) (show p < 8 by omega)) (by decide)
      have ix : ixor ((lvN (dt h0) (rd h0 239) t (dt h0 19 0 + i) p : Nat) : Int) (ishl 1 p) = ((lvN (dt h0) (rd h0 239) t (dt h0 19 0 + i) (p + 1) : Nat) : Int) := by
        rw [ishl_1 p (by omega), ixor_nat (by omega) p256, ls, if_pos ⟨sn, c⟩]
      rw [ix] at un
      refine ⟨_, ⟨⟨PD_tr p1 (FrX_wr (X := fun b => b = 155) sg (ok155 (by omega) _) (by decide) rfl) (fun b hb => by unfold Xd; omega) ⟨rfl, rfl, rfl, rfl⟩, fun x hx => ⟨by rw [rd_wr_ne (by decide)]; exact (p2 x hx).1, ?_⟩⟩, fun m m0 m1 => by rw [rd_wr_ne (by decide)]; exact p3 m m0 m1⟩, un⟩
      have z := (p2 x hx).2
      dsimp only at z ⊢
      by_cases e : x = i
      · subst e
        rw [rd_same, if_pos (by omega)]
      · rw [rd_i (by omega), z]
        by_cases l : x < i
        · rw [if_pos l, if_pos (by omega)]
        · rw [if_neg l, if_neg (by omega)]
    · rw [if_neg c] at un
      refine ⟨g, ⟨⟨p1, fun x hx => ⟨(p2 x hx).1, ?_⟩⟩, p3⟩, un⟩
      have z := (p2 x hx).2
      dsimp only at z ⊢
      rw [z]
      by_cases e : x = i
      · subst e
        rw [if_neg (by omega), if_pos (by omega), ls, if_neg (fun z => c z.2)]
      · by_cases l : x < i
        · rw [if_pos l, if_pos (by omega)]
        · rw [if_neg l, if_neg (by omega)]
  · obtain ⟨⟨p1, p2⟩, p3⟩ := P
    refine ⟨g, ?_, p1, fun x hx => ⟨(p2 x hx).1, by have z := (p2 x hx).2; dsimp only at z ⊢; rw [z, if_pos (by omega)]⟩⟩
    show Tide_letDogsRunOver_L46s F (Tide_letDogsRunOver_L46 F N) 1 p t k u ((k.toNat : Nat) : Int) g = _
    unfold Tide_letDogsRunOver_L46s
    rw [if_neg (by omega)]
theorem c_dogsRun {F : Nat} {n t k : Int} {h : Hp} {Λ : Nat → Lw} (hF : 6000 ≤ F) (j : JJ n h Λ) (hk : 1 ≤ k ∧ k ≤ 50) (ht : 0 ≤ t ∧ t < 600) : ∃ h', Tide_letDogsRun F 1 t k h = some (0, h') ∧ PH h h' k (fun i => lvN (dt h) (rd h 239) t (dt h 19 0 + i) (dt h 0 0).toNat) := by
  have dk := jD j
  have mo := jMo j
  have rn := jRw j
  have s := jS j
  have cd := jCD j
  have h00 := dk.1
  have seed := j.1.2.1.2.2.2.2.2.2.2.2
  have vis := c_visible (F := F) (by omega) s dk cd (jSt j) rn.1 ht
  unfold Tide_letDogsRun
  rw [gT5 s, gT4 s, ivS s (jSt j).1, vis, cl_some]
  have v256 : setN (fun p => seenD (dt h) (rd h 239) p t) (dt h 0 0).toNat < 256 := setN_8 _ _ (D8 mo)
  have vb := fun i => setN_bit (fun p => seenD (dt h) (rd h 239) p t) i (dt h 0 0).toNat
  have l0 : ∀ i : Nat, ((setN (fun p => seenD (dt h) (rd h 239) p t) (dt h 0 0).toNat : Nat) : Int) = ((lvN (dt h) (rd h 239) t (dt h 19 0 + i) 0 : Nat) : Int) := fun i => by rw [lv_0]
  generalize hV : setN (fun p => seenD (dt h) (rd h 239) p t) (dt h 0 0).toNat = V at *
  have first := loopE (fun N i g => Tide_letDogsRun_L16 F N 1 t k V (i : Nat) g) k.toNat (fun i g => PD h g ∧ ∀ x : Nat, x < i → rd g 156 x = mixV (dt h 19 0 + x) 29 ∧ rd g 155 x = (V : Int)) (fun z => ∃ g, z = Tide_letDogsRun_L71 F F 1 t k V 0 g ∧ PD h g ∧ ∀ x : Nat, (x : Int) < k → rd g 156 x = mixV (dt h 19 0 + x) 29 ∧ rd g 155 x = (V : Int)) (fun N i g hi P => Or.inl ?_) (fun N g P => ?_) k.toNat F 0 h (by omega) (by omega) ⟨⟨FrX_refl s, rfl, rfl, rfl, rfl⟩, fun x hx => absurd hx (by omega)⟩
  rotate_left
  · obtain ⟨p1, p2⟩ := P
    have sg := p1.1.1
    obtain ⟨⟨cdg, -, -, -⟩, -⟩ := PD_JK j p1
    have hi50 : 0 ≤ (i : Int) ∧ (i : Int) < 50 ∧ (i : Int) < k := by omega
    have e22 : rd g 22 0 = rd h 22 0 := by rw [p1.1.2.2.2.1 22 (by decide) (by unfold Xd; omega)]
    have icg := cdg.1.1
    have e13 : rd g (rd g 22 0) 13 = dt h 19 0 := cdg.1.2.2.2.2.2.2.2.2.2
    have s1 : Sh (wr g 155 i V) := shOk sg (ok155 (by omega) _)
    have s2 : Sh (wr (wr g 155 i V) 156 i (mixV (dt h 19 0 + i) 29)) := shOk s1 (ok155 (by omega) _)
    have ne : rd g 22 0 ≠ 155 := by unfold isSc at icg; omega
    have wk : w32 (dt h 19 0 + i) = dt h 19 0 + i := w32_id (by omega) (by omega)
    have mx : Tide_mixed F (dt h 19 0 + i) 29 (wr g 155 i V) = some (mixV (dt h 19 0 + i) 29, wr g 155 i V) := rfl
    refine ⟨wr (wr g 155 i V) 156 i (mixV (dt h 19 0 + i) 29), ⟨PD_tr (PD_tr p1 (FrX_wr (X := fun b => b = 155) sg (ok155 (by omega) _) (by decide) rfl) (fun b hb => by unfold Xd; omega) ⟨rfl, rfl, rfl, rfl⟩) (FrX_wr (X := fun b => b = 156) s1 (ok155 (by omega) _) (by decide) rfl) (fun b hb => by unfold Xd; omega) ⟨rfl, rfl, rfl, rfl⟩, fun x hx => ?_⟩, ?_⟩
    · by_cases e : x = i
      · subst e
        exact ⟨rd_same _ _ _ _, by rw [rd_a (by decide), rd_same]⟩
      · rw [rd_i (by omega), rd_a (by decide), rd_a (by decide), rd_i (by omega)]
        exact p2 x (by omega)
    · show Tide_letDogsRun_L16s F (Tide_letDogsRun_L16 F N) 1 t k V (i : Nat) g = _
      unfold Tide_letDogsRun_L16s
      rw [if_pos hi50.2.2, if_pos hi50.2.1, gT11 sg, sT11 sg hi50.1 hi50.2.1, gT12 s1, gT4 s1, gH0 s1, rd_a (by decide), gC13 s1 icg, rd_a ne, e13, wk, mx, cl_some, sT12 s1 hi50.1 hi50.2.1, w32_nat (by omega)]
  · refine ⟨g, ?_, P.1, fun x hx => P.2 x (by omega)⟩
    show Tide_letDogsRun_L16s F (Tide_letDogsRun_L16 F N) 1 t k V ((k.toNat : Nat) : Int) g = _
    unfold Tide_letDogsRun_L16s
    rw [if_neg (by omega)]
  obtain ⟨g, e1, e2, e3⟩ := first
  rw [show Tide_letDogsRun_L16 F F 1 t k (V : Nat) 0 h = Tide_letDogsRun_L71 F F 1 t k V 0 g from e1]
  refine loopE (fun N i g => Tide_letDogsRun_L71 F N 1 t k V (i : Nat) g) (dt h 0 0).toNat (fun i g => PH h g k (fun x => lvN (dt h) (rd h 239) t (dt h 19 0 + x) i)) (fun z => ∃ h', z = some (0, h') ∧ PH h h' k (fun i => lvN (dt h) (rd h 239) t (dt h 19 0 + i) (dt h 0 0).toNat)) (fun N i g hi P => Or.inl ?_) (fun N g P => ?_) (dt h 0 0).toNat F 0 g (by omega) (by omega) ⟨e2, fun x hx => ⟨(e3 x hx).1, by rw [(e3 x hx).2, l0 x]⟩⟩
  · have sg := P.1.1.1
    obtain ⟨⟨cdg, -, -, -⟩, -⟩ := PD_JK j P.1
    have hiP : (i : Int) < dt h 0 0 := by omega
    have bi := bit_I V v256 i (by omega)
    have i6 : i < 1000000 := by omega
    have hb := vb i
    rw [decide_eq_true (show i < (dt h 0 0).toNat by omega), Bool.true_and] at hb
    by_cases c : seenD (dt h) (rd h 239) i t = true
    · obtain ⟨g', a1, a2⟩ := c_over (F := F) (p := i) hF j (by omega) ht hiP c P
      refine ⟨g', a2, ?_⟩
      have b1 : iand (ishr V i) 1 = 1 := by rw [bi, hb, if_pos c]
      show Tide_letDogsRun_L71s F (Tide_letDogsRun_L71 F N) 1 t k V (i : Nat) g = _
      unfold Tide_letDogsRun_L71s
      rw [gT4 sg, gH0 sg, gC4 sg cdg.1.1, cdg.1.2.1, if_pos hiP, b1, if_neg (by decide), ivT sg, a1, cl_some, w32_nat i6]
    · refine ⟨g, ⟨P.1, fun x hx => ⟨(P.2 x hx).1, ?_⟩⟩, ?_⟩
      · have z := (P.2 x hx).2
        dsimp only at z ⊢
        rw [z, lv_step (by omega), if_neg (fun z => c z.1)]
      · have b1 : iand (ishr V i) 1 = 0 := by rw [bi, hb, if_neg c]
        show Tide_letDogsRun_L71s F (Tide_letDogsRun_L71 F N) 1 t k V (i : Nat) g = _
        unfold Tide_letDogsRun_L71s
        rw [gT4 sg, gH0 sg, gC4 sg cdg.1.1, cdg.1.2.1, if_pos hiP, b1, if_pos rfl, w32_nat i6]
  · have sg := P.1.1.1
    obtain ⟨⟨cdg, -, -, -⟩, -⟩ := PD_JK j P.1
    refine ⟨g, ?_, P⟩
    show Tide_letDogsRun_L71s F (Tide_letDogsRun_L71 F N) 1 t k V (((dt h 0 0).toNat : Nat) : Int) g = _
    unfold Tide_letDogsRun_L71s
    rw [gT4 sg, gH0 sg, gC4 sg cdg.1.1, cdg.1.2.1, if_neg (by omega)]
