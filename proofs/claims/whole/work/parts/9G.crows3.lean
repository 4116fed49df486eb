/-! the class's rows: filled -/
def RwB (h : Hp) (e so : Int) (D : Nat → Int → Int) (G : Nat → Int) (w a : Int) (al k : Nat) : Prop := ∀ s : Nat, s < k → rd h so s = snC D G w a al s ∧ (1 ≤ s → s &&& al = s → ∀ p : Nat, s.testBit p = true → rd h e (8 * s + p) = cap (CT D G w al (8 * s + p)))
theorem xr_I : ∀ s : Nat, s < 256 → ∀ p : Nat, p < 8 → s ^^^ 2 ^ p = if s.testBit p then s - 2 ^ p else s + 2 ^ p := by decide +kernel
theorem c_endOf {F : Nat} {h g : Hp} {r w a e so : Int} {G : Nat → Int} {al s p : Nat} (hF : 1000 ≤ F) (m : Mo g) (hg : Gok (dt g) G) (mn : MnD (dt g) (G 3)) (hw : 0 ≤ w ∧ w < dt g 1 0) (sh : Sh h) (rc : RwC h r (dt g) (G 3) (G 4)) (e5 : rd h r 5 = e) (e6 : rd h r 6 = so) (ve : vA h e 2048) (vs : vA h so 256) (wy : ∀ o p, 0 ≤ o → o < dt g 0 0 → 0 ≤ p → p < dt g 0 0 → rd h (r + 2) (8 * o + p) = wyC (dt g) G w o p) (fc : ∀ p, 0 ≤ p → p < dt g 0 0 → rd h (r + 3) p = fcC (dt g) G w p) (rb : RwB h e so (dt g) G w a al s) (hs1 : 1 ≤ s) (hs : s < 2 ^ (dt g 0 0).toNat) (ha : s &&& al = s) (hl : al < 256) (hb : s.testBit p = true) :
    Rows_endOf F r ((s - 2 ^ p : Nat) : Int) p h = some (cap (CT (dt g) G w al (8 * s + p)), h) := by
  have hp : p < (dt g 0 0).toNat := bit_lt hs hb
  have h8 := D8 m
  have h8' : dt g 0 0 ≤ 8 := m.2.2.1.2
  have t8 := two8 h8
  have hpp : 0 ≤ (p : Int) ∧ (p : Int) < dt g 0 0 := ⟨by omega, by omega⟩
  have hrest : s - 2 ^ p < s := drop_lt hb
  have ir := rc.1
  unfold Rows_endOf
  by_cases h0 : s - 2 ^ p = 0
  · have hfc := fcC_in m hg hw hpp
    rw [if_pos (by omega), gQ4 sh ir, aQ4 sh ir (by omega) (by omega), fc p hpp.1 hpp.2, ivQ sh ir, c_endFrom sh h8' hg.1 rc hpp ⟨by omega, by omega⟩, cl_some, CT_one m hg hw hs1 hs ha hb h0]
  · have hsub := sub_drop ha hb (by omega) hl
    rw [if_neg (by omega), gQ6 sh ir, e6, al_ok vs.1.2 vs.2 (by omega) (by omega), (rb _ hrest).1, show snC (dt g) G w a al (s - 2 ^ p) = cap (lrV (CT (dt g) G w al) a (s - 2 ^ p)) by unfold snC; rw [if_neg h0, if_pos hsub]]
    by_cases c : cap (lrV (CT (dt g) G w al) a (s - 2 ^ p)) < 10000
    · rw [if_pos c, CT_more m hg mn hw hs1 hs ha hb h0]
      have hE := (rb _ hrest).2 (by omega) hsub
      have hr2 : s - 2 ^ p < 2 ^ (dt g 0 0).toNat := by omega
      generalize hR : s - 2 ^ p = R at *
      have hob : ∀ o : Nat, R.testBit o = true → o < (dt g 0 0).toNat := fun o ho => bit_lt hr2 ho
      have hfi : ∀ o : Nat, R.testBit o = true → 0 ≤ cap (CT (dt g) G w al (8 * (R : Int) + o)) + wyC (dt g) G w o p ∧ cap (CT (dt g) G w al (8 * (R : Int) + o)) + wyC (dt g) G w o p ≤ 20000 := fun o ho => by
        have h1 := hob o ho
        have := wyC_in m hg hw (o := o) (p := p) ⟨by omega, by omega⟩ hpp
        have := cap_in (CT_ok m hg (al := al) hw (8 * (R : Int) + o))
        omega
      have key := loop0 (fun n i => Rows_endOf_L39 F n r (R : Nat) p (mnB (fun o => cap (CT (dt g) G w al (8 * (R : Int) + o)) + wyC (dt g) G w o p) R 10000 i) (i : Nat) h) (dt g 0 0).toNat F (some (endV (dt g) (G 4) (G 3 + p) (mnB (fun o => cap (CT (dt g) G w al (8 * (R : Int) + o)) + wyC (dt g) G w o p) R 10000 8), h)) (by omega) (fun n i hi => ?_) (fun n => ?_)
      · exact key
      · show Rows_endOf_L39s F (Rows_endOf_L39 F n) r (R : Nat) p (mnB (fun o => cap (CT (dt g) G w al (8 * (R : Int) + o)) + wyC (dt g) G w o p) R 10000 i) (i : Nat) h = Rows_endOf_L39 F n r (R : Nat) p (mnB (fun o => cap (CT (dt g) G w al (8 * (R : Int) + o)) + wyC (dt g) G w o p) R 10000 (i + 1)) ((i + 1 : Nat) : Int) h
        unfold Rows_endOf_L39s
        rw [gQ1 sh ir, rc.2.2.1, if_pos (by omega), bit_I R (by omega) i (by omega)]
        by_cases hb2 : R.testBit i = true
        · have hx := hfi i hb2
          have e1 : mnB (fun o => cap (CT (dt g) G w al (8 * (R : Int) + o)) + wyC (dt g) G w o p) R 10000 (i + 1) = imin (mnB (fun o => cap (CT (dt g) G w al (8 * (R : Int) + o)) + wyC (dt g) G w o p) R 10000 i) (cap (CT (dt g) G w al (8 * (R : Int) + i)) + wyC (dt g) G w i p) := by
            unfold imin
            show (if R.testBit i = true ∧ _ < _ then _ else _) = _
            by_cases q : cap (CT (dt g) G w al (8 * (R : Int) + i)) + wyC (dt g) G w i p < mnB (fun o => cap (CT (dt g) G w al (8 * (R : Int) + o)) + wyC (dt g) G w o p) R 10000 i
            · rw [if_pos ⟨hb2, q⟩, if_pos q]
            · rw [if_neg (fun z => q z.2), if_neg q]
          rw [if_pos hb2, if_neg (by decide), gQ5 sh ir, e5, w32_id (x := (R : Int) * 8) (by omega) (by omega), w32_id (x := (R : Int) * 8 + (i : Int)) (by omega) (by omega), al_ok ve.1.2 ve.2 (by omega) (by omega), show (R : Int) * 8 + (i : Int) = 8 * (R : Int) + (i : Int) by omega, hE i hb2, gQ3 sh ir, w32_id (x := (i : Int) * 8) (by omega) (by omega), w32_id (x := (i : Int) * 8 + (p : Int)) (by omega) (by omega), aQ3 sh ir (by omega) (by omega), show (i : Int) * 8 + (p : Int) = 8 * (i : Int) + (p : Int) by omega, wy i p (by omega) (by omega) hpp.1 hpp.2, w32_id (by omega) (by omega), lt_eq, w32_nat (by omega), e1]
        · have e1 : mnB (fun o => cap (CT (dt g) G w al (8 * (R : Int) + o)) + wyC (dt g) G w o p) R 10000 (i + 1) = mnB (fun o => cap (CT (dt g) G w al (8 * (R : Int) + o)) + wyC (dt g) G w o p) R 10000 i := if_neg (fun q => hb2 q.1)
          rw [if_neg hb2, if_pos rfl, w32_nat (by omega), e1]
      · show Rows_endOf_L39s F (Rows_endOf_L39 F n) r (R : Nat) p (mnB (fun o => cap (CT (dt g) G w al (8 * (R : Int) + o)) + wyC (dt g) G w o p) R 10000 (dt g 0 0).toNat) ((dt g 0 0).toNat : Nat) h = _
        unfold Rows_endOf_L39s
        have e1 := mnB_st (f := fun o => cap (CT (dt g) G w al (8 * (R : Int) + o)) + wyC (dt g) G w o p) (i := 10000) hr2 8 h8
        have e2 := (mnB_hi (f := fun o => cap (CT (dt g) G w al (8 * (R : Int) + o)) + wyC (dt g) G w o p) (b := R) (i := 10000) (dt g 0 0).toNat).1
        have e3 := mnB_lo (f := fun o => cap (CT (dt g) G w al (8 * (R : Int) + o)) + wyC (dt g) G w o p) (b := R) (i := 10000) (v := 0) (by decide) (dt g 0 0).toNat (fun o _ ho => (hfi o ho).1)
        rw [gQ1 sh ir, rc.2.2.1, if_neg (by omega)]
        unfold Rows_endOf_B93
        rw [ivQ sh ir, c_endFrom sh h8' hg.1 rc hpp ⟨e3, by omega⟩, cl_some, e1]
    · rw [if_neg c, CT_more m hg mn hw hs1 hs ha hb h0, CT_none (a := a) m hg hw h0 (by omega) hpp.2 (by omega)]
/-- one set -/
theorem c_fill1 {F : Nat} {h g : Hp} {r w a e so : Int} {G : Nat → Int} {al a8 s : Nat} (hF : 1000 ≤ F) (m : Mo g) (hg : Gok (dt g) G) (mn : MnD (dt g) (G 3)) (hw : 0 ≤ w ∧ w < dt g 1 0) (sh : Sh h) (rc : RwC h r (dt g) (G 3) (G 4)) (e5 : rd h r 5 = e) (e6 : rd h r 6 = so) (ve : vA h e 2048) (vs : vA h so 256) (hes : e ≠ so) (hd : ∀ p, 0 ≤ p → p < dt g 0 0 → rd h (sdA (G 3) p) 5 ≠ e ∧ rd h (sdA (G 3) p) 5 ≠ so) (wy : ∀ o p, 0 ≤ o → o < dt g 0 0 → 0 ≤ p → p < dt g 0 0 → rd h (r + 2) (8 * o + p) = wyC (dt g) G w o p) (fc : ∀ p, 0 ≤ p → p < dt g 0 0 → rd h (r + 3) p = fcC (dt g) G w p) (rb : RwB h e so (dt g) G w a al s) (hz : rd h so s = 10000) (hs1 : 1 ≤ s) (hs : s < 2 ^ (dt g 0 0).toNat) (hl : al < 256) (hl8 : a8 < 256) (h8a : s &&& a8 = s ↔ s &&& al = s) (R75 : Int → Int → Int → Hp → Option (Int × Hp)) :
    ∃ h', Rows_fill_L99 F R75 F r a8 s 0 h = R75 r a8 ((s + 1 : Nat) : Int) h' ∧ FrD e so h h' ∧ RwB h' e so (dt g) G w a al (s + 1) := by
  have h8 := D8 m
  have h8' : dt g 0 0 ≤ 8 := m.2.2.1.2
  have t8 := two8 h8
  have ir := rc.1
  have hr := rw_cases ir
  have hn1 : 0 < (dt g 0 0).toNat := by
    rcases Nat.eq_zero_or_pos (dt g 0 0).toNat with q | q
    · rw [q] at hs; omega
    · exact q
  by_cases ha : s &&& al = s
  · have key := loopE (fun n i h1 => Rows_fill_L99 F R75 n r a8 s (i : Nat) h1) (dt g 0 0).toNat (fun i h1 => FrD e so h h1 ∧ (∀ j : Int, j ≠ (s : Int) → rd h1 so j = rd h so j) ∧ (∀ j : Int, (j < 8 * (s : Int) ∨ 8 * (s : Int) + 8 ≤ j) → rd h1 e j = rd h e j) ∧ rd h1 so s = mnB (fun p => cap (CT (dt g) G w al (8 * (s : Int) + p))) s 10000 i ∧ ∀ p : Nat, p < i → s.testBit p = true → rd h1 e (8 * s + p) = cap (CT (dt g) G w al (8 * s + p))) (fun z => ∃ h', z = R75 r a8 ((s + 1 : Nat) : Int) h' ∧ FrD e so h h' ∧ RwB h' e so (dt g) G w a al (s + 1)) (fun n i h1 hi P => Or.inl ?_) (fun n h1 P => ?_) (dt g 0 0).toNat F 0 h (by omega) (by omega) ⟨⟨⟨rfl, rfl, rfl, rfl⟩, sh, fun _ _ _ => rfl⟩, fun _ _ => rfl, fun _ _ => rfl, hz, fun p hp => absurd hp (by omega)⟩
    · exact key
    · obtain ⟨fr, p1, p2, p3, p4⟩ := P
      have s1 := fr.2.1
      have ve1 := FrD_vA fr ve
      have vs1 := FrD_vA fr vs
      have he := ve.1.1
      have hso := vs.1.1
      have er : rd h1 r = rd h r := fr.2.2 r (by omega) (by omega)
      have rc1 : RwC h1 r (dt g) (G 3) (G 4) := RwC_eq h8' fr.1 er (fun p q0 q1 => by have := sdA_in (L := G 3) ⟨q0, q1⟩; exact fr.2.2 _ (by omega) (by omega)) (fun p q0 q1 => fr.2.2 _ (hd p q0 q1).1 (hd p q0 q1).2) rc
      have xr := xr_I s (by omega) i (by omega)
      show ∃ h', _ ∧ Rows_fill_L99s F R75 (Rows_fill_L99 F R75 n) r a8 s (i : Nat) h1 = Rows_fill_L99 F R75 n r a8 s ((i + 1 : Nat) : Int) h'
      unfold Rows_fill_L99s
      rw [gQ1 s1 ir, rc1.2.2.1, if_pos (by omega), if_pos ((sub_I s (by omega) a8 hl8).2 (h8a.2 ha)), lt_eq, ishl_1 i (by omega), ixor_nat (by omega) (by have := Nat.pow_lt_pow_right (a := 2) (by decide) (show i < 8 by omega); omega), xr]
      by_cases hb : s.testBit i = true
      · have hlt := drop_lt hb
        have rb1 : RwB h1 e so (dt g) G w a al s := fun t ht => by
          obtain ⟨b1, b2⟩ := rb t ht
          refine ⟨by rw [p1 t (by omega)]; exact b1, fun t1 ta p hp => ?_⟩
          have := bit_lt (show t < 2 ^ 8 by omega) hp
          rw [p2 _ (by omega)]
          exact b2 t1 ta p hp
        have ee := c_endOf (F := F) hF m hg mn hw s1 rc1 (by rw [er]; exact e5) (by rw [er]; exact e6) ve1 vs1 (fun o p o0 o1 q0 q1 => by rw [fr.2.2 (r + 2) (by omega) (by omega)]; exact wy o p o0 o1 q0 q1) (fun p q0 q1 => by rw [fr.2.2 (r + 3) (by omega) (by omega)]; exact fc p q0 q1) rb1 hs1 hs ha hl hb
        have f2 := FrD_x (i := 8 * (s : Int) + i) (v := cap (CT (dt g) G w al (8 * s + i))) fr he
        have f3 := FrD_y (i := s) (v := imin (mnB (fun p => cap (CT (dt g) G w al (8 * (s : Int) + p))) s 10000 i) (cap (CT (dt g) G w al (8 * s + i)))) f2 hso
        have ve2 := FrD_vA f2 ve
        have vs2 := FrD_vA f2 vs
        have e1 : mnB (fun p => cap (CT (dt g) G w al (8 * (s : Int) + p))) s 10000 (i + 1) = imin (mnB (fun p => cap (CT (dt g) G w al (8 * (s : Int) + p))) s 10000 i) (cap (CT (dt g) G w al (8 * s + i))) := by
          unfold imin
          show (if s.testBit i = true ∧ _ < _ then _ else _) = _
          by_cases q : cap (CT (dt g) G w al (8 * (s : Int) + i)) < mnB (fun p => cap (CT (dt g) G w al (8 * (s : Int) + p))) s 10000 i
          · rw [if_pos ⟨hb, q⟩, if_pos q]
          · rw [if_neg (fun z => q z.2), if_neg q]
        refine ⟨_, ⟨f3, fun j hj => ?_, fun j hj => ?_, ?_, fun p hp hbp => ?_⟩, ?_⟩
        · rw [rd_i hj, rd_a (fun q => hes q.symm)]; exact p1 j hj
        · rw [rd_a hes, rd_i (by omega)]; exact p2 j hj
        · rw [rd_same, e1]
        · rw [rd_a hes]
          by_cases c : p = i
          · subst c; rw [rd_same]
          · rw [rd_i (by omega)]; exact p4 p (by omega) hbp
        · rw [if_pos hb, if_pos (by omega), ivQ s1 ir, ee, cl_some, gQ5 s1 ir, er, e5, w32_id (x := (s : Int) * 8) (by omega) (by omega), w32_id (x := (s : Int) * 8 + (i : Int)) (by omega) (by omega), as_ok ve1.1.2 ve1.2 (by omega) (by omega), show (s : Int) * 8 + (i : Int) = 8 * (s : Int) + (i : Int) by omega, gQ6 f2.2.1 ir, gQ6 f2.2.1 ir, f2.2.2 r (by omega) (by omega), e6, al_ok vs2.1.2 vs2.2 (by omega) (by omega), rd_a (fun q => hes q.symm), p3, lt_eq, as_ok vs2.1.2 vs2.2 (by omega) (by omega), w32_nat (by omega)]
      · have e1 : mnB (fun p => cap (CT (dt g) G w al (8 * (s : Int) + p))) s 10000 (i + 1) = mnB (fun p => cap (CT (dt g) G w al (8 * (s : Int) + p))) s 10000 i := if_neg (fun q => hb q.1)
        refine ⟨h1, ⟨fr, p1, p2, by rw [e1]; exact p3, fun p hp hbp => ?_⟩, ?_⟩
        · by_cases c : p = i
          · subst c; exact absurd hbp hb
          · exact p4 p (by omega) hbp
        · have h2i : 0 < 2 ^ i := Nat.two_pow_pos i
          rw [if_neg hb, if_neg (by omega), w32_nat (by omega)]
    · obtain ⟨fr, p1, p2, p3, p4⟩ := P
      have hso := vs.1.1
      have he := ve.1.1
      refine ⟨h1, ?_, fr, fun t ht => ?_⟩
      · show Rows_fill_L99s F R75 (Rows_fill_L99 F R75 n) r a8 s ((dt g 0 0).toNat : Nat) h1 = _
        unfold Rows_fill_L99s
        rw [gQ1 fr.2.1 ir, fr.2.2 r (by omega) (by omega), rc.2.2.1, if_neg (by omega), w32_nat (by omega)]
      · by_cases c : t = s
        · subst c
          refine ⟨?_, fun t1 ta p hp => p4 p (bit_lt hs hp) hp⟩
          rw [p3]
          unfold snC
          rw [if_neg (by omega), if_pos ha, lr_cap m hg hw (by omega)]
          exact (mnB_st hs 8 h8).symm
        · obtain ⟨b1, b2⟩ := rb t (by omega)
          refine ⟨by rw [p1 t (by omega)]; exact b1, fun t1 ta p hp => ?_⟩
          have := bit_lt (show t < 2 ^ 8 by omega) hp
          rw [p2 _ (by omega)]
          exact b2 t1 ta p hp
  · refine ⟨h, ?_, ⟨⟨rfl, rfl, rfl, rfl⟩, sh, fun _ _ _ => rfl⟩, fun t ht => ?_⟩
    · obtain ⟨n, hn⟩ : ∃ n, F = n + 1 := ⟨F - 1, by omega⟩
      have e0 : Rows_fill_L99 F R75 F r a8 s 0 h = Rows_fill_L99s F R75 (Rows_fill_L99 F R75 n) r a8 s 0 h := by
        conv => lhs; arg 3; rw [hn]
        rfl
      rw [e0]
      unfold Rows_fill_L99s
      rw [gQ1 sh ir, rc.2.2.1, if_pos (by omega), if_neg (fun q => ha (h8a.1 ((sub_I s (by omega) a8 hl8).1 q))), w32_nat (by omega)]
    · by_cases c : t = s
      · subst c
        refine ⟨?_, fun t1 ta => absurd ta ha⟩
        rw [hz]
        unfold snC
        rw [if_neg (by omega), if_neg ha]
      · exact rb t (by omega)
theorem c_fill2 {F : Nat} {h g : Hp} {r w a e so : Int} {G : Nat → Int} {al a8 : Nat} (hF : 1000 ≤ F) (m : Mo g) (hg : Gok (dt g) G) (mn : MnD (dt g) (G 3)) (hw : 0 ≤ w ∧ w < dt g 1 0) (sh : Sh h) (rc : RwC h r (dt g) (G 3) (G 4)) (e5 : rd h r 5 = e) (e6 : rd h r 6 = so) (ve : vA h e 2048) (vs : vA h so 256) (hes : e ≠ so) (hd : ∀ p, 0 ≤ p → p < dt g 0 0 → rd h (sdA (G 3) p) 5 ≠ e ∧ rd h (sdA (G 3) p) 5 ≠ so) (wy : ∀ o p, 0 ≤ o → o < dt g 0 0 → 0 ≤ p → p < dt g 0 0 → rd h (r + 2) (8 * o + p) = wyC (dt g) G w o p) (fc : ∀ p, 0 ≤ p → p < dt g 0 0 → rd h (r + 3) p = fcC (dt g) G w p) (hz : rd h so 0 = a) (hl : al < 256) (hl8 : a8 < 256) (h8a : ∀ s : Nat, s < 2 ^ (dt g 0 0).toNat → (s &&& a8 = s ↔ s &&& al = s)) :
    ∃ h', Rows_fill_L75 F F r a8 1 h = some (0, h') ∧ FrD e so h h' ∧ RwB h' e so (dt g) G w a al (2 ^ (dt g 0 0).toNat) := by
  have h8 := D8 m
  have h8' : dt g 0 0 ≤ 8 := m.2.2.1.2
  have t8 := two8 h8
  have ir := rc.1
  have hr := rw_cases ir
  have he := ve.1.1
  have hso := vs.1.1
  have t1 : 1 ≤ 2 ^ (dt g 0 0).toNat := Nat.one_le_two_pow
  have key := loopE (fun n i h1 => Rows_fill_L75 F n r a8 ((i + 1 : Nat) : Int) h1) (2 ^ (dt g 0 0).toNat - 1) (fun i h1 => FrD e so h h1 ∧ RwB h1 e so (dt g) G w a al (i + 1)) (fun z => ∃ h', z = some (0, h') ∧ FrD e so h h' ∧ RwB h' e so (dt g) G w a al (2 ^ (dt g 0 0).toNat)) (fun n i h1 hi P => Or.inl ?_) (fun n h1 P => ?_) (2 ^ (dt g 0 0).toNat - 1) F 0 h (by omega) (by omega) ⟨⟨⟨rfl, rfl, rfl, rfl⟩, sh, fun _ _ _ => rfl⟩, fun t ht => ?_⟩
  · exact key
  · obtain ⟨fr, rb⟩ := P
    have s1 := fr.2.1
    have er : rd h1 r = rd h r := fr.2.2 r (by omega) (by omega)
    have ve1 := FrD_vA fr ve
    have vs1 := FrD_vA fr vs
    have rc1 : RwC h1 r (dt g) (G 3) (G 4) := RwC_eq h8' fr.1 er (fun p q0 q1 => by have := sdA_in (L := G 3) ⟨q0, q1⟩; exact fr.2.2 _ (by omega) (by omega)) (fun p q0 q1 => fr.2.2 _ (hd p q0 q1).1 (hd p q0 q1).2) rc
    have f2 := FrD_y (i := ((i + 1 : Nat) : Int)) (v := 10000) fr hso
    have s2 := f2.2.1
    have er2 : rd (wr h1 so ((i + 1 : Nat) : Int) 10000) r = rd h r := f2.2.2 r (by omega) (by omega)
    have rc2 : RwC (wr h1 so ((i + 1 : Nat) : Int) 10000) r (dt g) (G 3) (G 4) := RwC_eq h8' f2.1 er2 (fun p q0 q1 => by have := sdA_in (L := G 3) ⟨q0, q1⟩; exact f2.2.2 _ (by omega) (by omega)) (fun p q0 q1 => f2.2.2 _ (hd p q0 q1).1 (hd p q0 q1).2) rc
    have rb2 : RwB (wr h1 so ((i + 1 : Nat) : Int) 10000) e so (dt g) G w a al (i + 1) := fun t ht => by
      obtain ⟨b1, b2⟩ := rb t ht
      refine ⟨by rw [rd_i (by omega)]; exact b1, fun t1 ta p hp => ?_⟩
      rw [rd_a hes]
      exact b2 t1 ta p hp
    obtain ⟨h2, k1, k2, k3⟩ := c_fill1 (F := F) (s := i + 1) hF m hg mn hw s2 rc2 (by rw [er2]; exact e5) (by rw [er2]; exact e6) (FrD_vA f2 ve) (FrD_vA f2 vs) hes (fun p q0 q1 => by
      have := sdA_in (L := G 3) (p := p) ⟨q0, by omega⟩
      rw [f2.2.2 (sdA (G 3) p) (by omega) (by omega)]
      exact hd p q0 q1) (fun o p o0 o1 q0 q1 => by rw [f2.2.2 (r + 2) (by omega) (by omega)]; exact wy o p o0 o1 q0 q1) (fun p q0 q1 => by rw [f2.2.2 (r + 3) (by omega) (by omega)]; exact fc p q0 q1) rb2 (rd_same _ _ _ _) (by omega) (by omega) hl hl8 (h8a (i + 1) (by omega)) (Rows_fill_L75 F n)
    refine ⟨h2, ⟨⟨?_, k2.2.1, fun b b1 b2 => ?_⟩, k3⟩, ?_⟩
    · obtain ⟨x1, x2, x3, x4⟩ := k2.1
      obtain ⟨y1, y2, y3, y4⟩ := f2.1
      exact ⟨x1.trans y1, x2.trans y2, x3.trans y3, x4.trans y4⟩
    · rw [k2.2.2 b b1 b2]; exact f2.2.2 b b1 b2
    · show Rows_fill_L75s F (Rows_fill_L75 F n) r a8 ((i + 1 : Nat) : Int) h1 = Rows_fill_L75 F n r a8 ((i + 1 + 1 : Nat) : Int) h2
      unfold Rows_fill_L75s
      rw [gQ1 s1 ir, rc1.2.2.1, show dt g 0 0 = ((dt g 0 0).toNat : Int) by have := m.2.2.1.1; omega, ishl_1 _ (by omega), if_pos (by omega), gQ6 s1 ir, er, e6, as_ok vs1.1.2 vs1.2 (by omega) (by omega)]
      exact k1
  · obtain ⟨fr, rb⟩ := P
    refine ⟨h1, ?_, fr, ?_⟩
    · show Rows_fill_L75s F (Rows_fill_L75 F n) r a8 ((2 ^ (dt g 0 0).toNat - 1 + 1 : Nat) : Int) h1 = _
      unfold Rows_fill_L75s
      rw [gQ1 fr.2.1 ir, fr.2.2 r (by omega) (by omega), rc.2.2.1, show dt g 0 0 = ((dt g 0 0).toNat : Int) by have := m.2.2.1.1; omega, ishl_1 _ (by omega), if_neg (by simp only [Int.toNat_natCast]; omega)]
    · rw [show 2 ^ (dt g 0 0).toNat - 1 + 1 = 2 ^ (dt g 0 0).toNat by omega] at rb; exact rb
  · obtain rfl : t = 0 := by omega
    exact ⟨hz, fun t1 => absurd t1 (by decide)⟩
/-- rows as they stand when filled -/
def RwE (h : Hp) (r : Int) (D : Nat → Int → Int) (G : Nat → Int) (w a : Int) (al : Nat) : Prop := RwC h r D (G 3) (G 4) ∧ (vA h (rd h r 5) 2048 ∧ vA h (rd h r 6) 256) ∧ (∀ o p, 0 ≤ o → o < D 0 0 → 0 ≤ p → p < D 0 0 → rd h (r + 2) (8 * o + p) = wyC D G w o p) ∧ RwB h (rd h r 5) (rd h r 6) D G w a al (2 ^ (D 0 0).toNat)
theorem c_fillB {F : Nat} {h g : Hp} {r k w e so rkd : Int} {G : Nat → Int} {al a8 : Nat} (hF : 1000 ≤ F) (m : Mo g) (hg : Gok (dt g) G) (mn : MnD (dt g) (G 3)) (hw : 0 ≤ w ∧ w < dt g 1 0) (sh : Sh h) (rc : RwC h r (dt g) (G 3) (G 4)) (wk : WkE h k (G 0) (G 1) (dt g 3 w) (G 2) rkd) (e5 : rd h r 5 = e) (e6 : rd h r 6 = so) (ve : vA h e 2048) (vs : vA h so 256) (hes : e ≠ so) (hd : ∀ p, 0 ≤ p → p < dt g 0 0 → rd h (sdA (G 3) p) 5 ≠ e ∧ rd h (sdA (G 3) p) 5 ≠ so) (hl : al < 256) (hl8 : a8 < 256) (h8a : ∀ s : Nat, s < 2 ^ (dt g 0 0).toNat → (s &&& a8 = s ↔ s &&& al = s)) :
    ∃ h', Rows_fill_B55 F r a8 k h = some (0, h') ∧ (hsz h' = hsz h ∧ hus h' = hus h ∧ hkd h' = hkd h ∧ hln h' = hln h) ∧ Sh h' ∧ (∀ b, b ≠ r + 2 → b ≠ r + 3 → b ≠ e → b ≠ so → rd h' b = rd h b) ∧ RwE h' r (dt g) G w (G 2) al := by
  have h8' : dt g 0 0 ≤ 8 := m.2.2.1.2
  have ir := rc.1
  have hr := rw_cases ir
  have he := ve.1.1
  have hso := vs.1.1
  obtain ⟨h1, k1, f1, w1, c1⟩ := c_measure (F := F) hF m hg hw sh rc wk
  have hk2 : k ≠ r + 2 := by have := wk.1; unfold isWk at this; unfold isRw at ir; omega
  have hk3 : k ≠ r + 3 := by have := wk.1; unfold isWk at this; unfold isRw at ir; omega
  have er1 : rd h1 r = rd h r := f1.2.2 r (by omega) (by omega)
  have ve1 := FrD_vA f1 ve
  have vs1 := FrD_vA f1 vs
  have hne : ∀ p, 0 ≤ p → p < 8 → sdA (G 3) p ≠ r + 2 ∧ sdA (G 3) p ≠ r + 3 := fun p p0 p1 => by have := sdA_in (L := G 3) ⟨p0, p1⟩; unfold isRw at ir; omega
  have rc1 : RwC h1 r (dt g) (G 3) (G 4) := RwC_eq h8' f1.1 er1 (fun p p0 p1 => f1.2.2 _ (hne p p0 p1).1 (hne p p0 p1).2) (fun p p0 p1 => by have := (rc.2.2.2.2 p p0 p1).2.2.2.2.1.1.1; exact f1.2.2 _ (by omega) (by omega)) rc
  have s2 : Sh (wr h1 so 0 (G 2)) := shOk f1.2.1 (ok_dyn hso)
  have er2 : rd (wr h1 so 0 (G 2)) r = rd h r := by rw [rd_wr_ne (by omega)]; exact er1
  have rc2 : RwC (wr h1 so 0 (G 2)) r (dt g) (G 3) (G 4) := RwC_eq (h := h1) h8' ⟨rfl, rfl, rfl, rfl⟩ (rd_wr_ne (by omega)) (fun p p0 p1 => rd_wr_ne (by have := sdA_in (L := G 3) ⟨p0, p1⟩; omega)) (fun p p0 p1 => rd_wr_ne (by rw [f1.2.2 _ (hne p p0 (by omega)).1 (hne p p0 (by omega)).2]; exact (hd p p0 p1).2)) rc1
  obtain ⟨h2, k2, f2, b2⟩ := c_fill2 (F := F) (h := wr h1 so 0 (G 2)) (a := G 2) hF m hg mn hw s2 rc2 (by rw [er2]; exact e5) (by rw [er2]; exact e6) (vA_eq rfl rfl rfl ve1) (vA_eq rfl rfl rfl vs1) hes (fun p p0 p1 => by
    have := sdA_in (L := G 3) (p := p) ⟨p0, by omega⟩
    rw [rd_wr_ne (show sdA (G 3) p ≠ so by omega), f1.2.2 _ (hne p p0 (by omega)).1 (hne p p0 (by omega)).2]
    exact hd p p0 p1) (fun o p o0 o1 q0 q1 => by rw [rd_a (by omega)]; exact w1 o p o0 o1 q0 q1) (fun p q0 q1 => by rw [rd_a (by omega)]; exact c1 p q0 q1) (rd_same _ _ _ _) hl hl8 h8a
  have er3 : rd h2 r = rd h r := by rw [f2.2.2 r (by omega) (by omega)]; exact er2
  refine ⟨h2, ?_, ?_, f2.2.1, fun b q1 q2 q3 q4 => ?_, ?_, ⟨?_, ?_⟩, fun o p o0 o1 q0 q1 => ?_, ?_⟩
  · unfold Rows_fill_B55
    rw [ivQ sh ir, k1, cl_some, gQ6 f1.2.1 ir, er1, e6, gW f1.2.1 wk.1, f1.2.2 k hk2 hk3, wk.2.2.2.2.1, as_ok vs1.1.2 vs1.2 (by decide) (by decide)]
    exact k2
  · obtain ⟨x1, x2, x3, x4⟩ := f2.1
    obtain ⟨y1, y2, y3, y4⟩ := f1.1
    exact ⟨x1.trans y1, x2.trans y2, x3.trans y3, x4.trans y4⟩
  · rw [f2.2.2 b q3 q4, rd_wr_ne q4, f1.2.2 b q1 q2]
  · exact RwC_eq h8' f2.1 (f2.2.2 r (by omega) (by omega)) (fun p p0 p1 => f2.2.2 _ (by have := sdA_in (L := G 3) ⟨p0, p1⟩; omega) (by have := sdA_in (L := G 3) ⟨p0, p1⟩; omega)) (fun p p0 p1 => by
      have := sdA_in (L := G 3) (p := p) ⟨p0, by omega⟩
      have e := hd p p0 p1
      have q : rd (wr h1 so 0 (G 2)) (sdA (G 3) p) 5 = rd h (sdA (G 3) p) 5 := by rw [rd_wr_ne (show sdA (G 3) p ≠ so by omega), f1.2.2 _ (hne p p0 (by omega)).1 (hne p p0 (by omega)).2]
      rw [q]
      exact f2.2.2 _ e.1 e.2) rc2
  · rw [er3, e5]; exact FrD_vA f2 (vA_eq rfl rfl rfl ve1)
  · rw [er3, e6]; exact FrD_vA f2 (vA_eq rfl rfl rfl vs1)
  · rw [f2.2.2 (r + 2) (by omega) (by omega), rd_a (by omega)]; exact w1 o p o0 o1 q0 q1
  · rw [er3, e5, e6]; exact b2
