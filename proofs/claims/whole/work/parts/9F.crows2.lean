/-! the class's rows over the heap -/
def sdA (L p : Int) : Int := (if L = 0 then 42 else 115) + 3 * p
def RwC (h : Hp) (r : Int) (D : Nat → Int → Int) (L M : Int) : Prop := isRw r ∧ (L = 0 ∧ rd h r 0 = 38 ∨ L = 8 ∧ rd h r 0 = 95) ∧ rd h r 1 = D 0 0 ∧ rd h r 2 = M ∧ ∀ p, 0 ≤ p → p < D 0 0 → SdE h (sdA L p) D (L + p)
theorem SdE_ne {h h' : Hp} {a q : Int} {D : Nat → Int → Int} (e1 : hsz h' = hsz h) (e2 : hkd h' = hkd h) (e3 : hln h' = hln h) (ea : rd h' a = rd h a) (ed : rd h' (rd h a 5) = rd h (rd h a 5)) (g : SdE h a D q) : SdE h' a D q := by
  obtain ⟨h1, h2, h3, h4, h5, h6⟩ := g
  exact ⟨h1, by rw [ea]; exact h2, by rw [ea]; exact h3, by rw [ea]; exact h4, by rw [ea]; exact vA_eq e1 e2 e3 h5, fun m m0 m1 => by rw [ea, ed]; exact h6 m m0 m1⟩
theorem RwC_eq {h h' : Hp} {r L M : Int} {D : Nat → Int → Int} (h8 : D 0 0 ≤ 8) (e : hsz h' = hsz h ∧ hus h' = hus h ∧ hkd h' = hkd h ∧ hln h' = hln h) (er : rd h' r = rd h r) (es : ∀ p, 0 ≤ p → p < 8 → rd h' (sdA L p) = rd h (sdA L p)) (ed : ∀ p, 0 ≤ p → p < D 0 0 → rd h' (rd h (sdA L p) 5) = rd h (rd h (sdA L p) 5)) (c : RwC h r D L M) : RwC h' r D L M := by
  obtain ⟨c1, c2, c3, c4, c5⟩ := c
  exact ⟨c1, by rw [er]; exact c2, by rw [er]; exact c3, by rw [er]; exact c4, fun p p0 p1 => SdE_ne e.1 e.2.2.1 e.2.2.2 (es p p0 (by omega)) (ed p p0 p1) (c5 p p0 p1)⟩
theorem sdA_in {L p : Int} (hp : 0 ≤ p ∧ p < 8) : (42 ≤ sdA L p ∧ sdA L p ≤ 63) ∨ (115 ≤ sdA L p ∧ sdA L p ≤ 136) := by
  unfold sdA
  split <;> omega
theorem rw_cases {r : Int} (hr : isRw r) : 85 ≤ r ∧ r ≤ 109 := by unfold isRw at hr; omega
theorem aSd {h : Hp} {r L M : Int} {D : Nat → Int → Int} (s : Sh h) (rc : RwC h r D L M) {p : Int} (hp : 0 ≤ p ∧ p < 8) (f : Int → Option (Int × Hp)) : al h (rd h r 0) 5 p f = f (sdA L p) := by
  rcases rc.2.1 with ⟨e1, e2⟩ | ⟨e1, e2⟩
  · rw [e2, aH3 s hp.1 hp.2]; unfold sdA; rw [if_pos e1]
  · rw [e2, aN8 s hp.1 hp.2]; unfold sdA; rw [if_neg (by omega)]
theorem c_endFrom {F : Nat} {h : Hp} {r L M p c : Int} {D : Nat → Int → Int} (s : Sh h) (h8 : D 0 0 ≤ 8) (hq : Qok D L) (rc : RwC h r D L M) (hp : 0 ≤ p ∧ p < D 0 0) (hc : 0 ≤ c ∧ c ≤ 100000) : Rows_endFrom F r c p h = some (endV D M (L + p) c, h) := by
  have e := rc.2.2.2.2 p hp.1 hp.2
  have e2 := rc.2.2.2.1
  have ir := rc.1
  have is := e.1
  have hx := nxD_ok hq hp hc.1
  obtain ⟨-, -, q8, -⟩ := hq.2 p hp.1 hp.2
  unfold Rows_endFrom endV
  rw [gQ0 s ir, aSd s rc ⟨hp.1, by omega⟩, gQ2 s ir, e2]
  by_cases hM : M = 0
  · rw [if_pos hM, if_pos hM, ivA s is, c_startFrom s e hc.1, cl_some]
    by_cases c1 : nxD D (L + p) c < 0
    · rw [if_pos c1, if_pos c1]
    · rw [if_neg c1, if_neg c1, gA s is, e.2.2.2.1, w32_id (by omega) (by omega)]
  · rw [if_neg hM, if_neg hM, gA s is, e.2.2.2.1, c_roundedUp (by omega) (by decide), cl_some, show D 8 (L + p) + 3 - 1 = D 8 (L + p) + 2 by omega, w32_id (by omega) (by omega), lt_eq]
    by_cases c1 : 600 < c + (D 8 (L + p) + 2) / 3
    · rw [if_pos c1, if_pos c1]
    · rw [if_neg c1, if_neg c1]
theorem c_meas1 {F : Nat} {h g : Hp} {r k M w to x y rdy rkd : Int} {G : Nat → Int} (hF : 1000 ≤ F) (m : Mo g) (hg : Gok (dt g) G) (hw : 0 ≤ w ∧ w < dt g 1 0) (s : Sh h) (rc : RwC h r (dt g) (G 3) M) (wk : WkE h k x y (dt g 3 w) rdy rkd) (ht : 0 ≤ to ∧ to < dt g 0 0) (R2 : Int → Int → Int → Hp → Option (Int × Hp)) :
    ∃ h', Rows_measure_L31 F R2 F r k to (sdA (G 3) to) 0 h = R2 r k (to + 1) h' ∧ FrA (r + 2) h h' ∧ (∀ o, 0 ≤ o → o < dt g 0 0 → rd h' (r + 2) (8 * o + to) = wyC (dt g) G w o to) ∧ ∀ o p, 0 ≤ p → p < 8 → p ≠ to → rd h' (r + 2) (8 * o + p) = rd h (r + 2) (8 * o + p) := by
  have h8 : dt g 0 0 ≤ 8 := m.2.2.1.2
  have ir := rc.1
  have hr := rw_cases ir
  have h3 := m.2.2.2.2.2.1 w hw.1 hw.2
  have hk : k ≠ r + 2 := by have := wk.1; unfold isWk at this; unfold isRw at ir; omega
  have key := loopE (fun n i h1 => Rows_measure_L31 F R2 n r k to (sdA (G 3) to) (i : Nat) h1) (dt g 0 0).toNat (fun i h1 => FrA (r + 2) h h1 ∧ (∀ o, 0 ≤ o → o < (i : Int) → rd h1 (r + 2) (8 * o + to) = wyC (dt g) G w o to) ∧ ∀ o p, 0 ≤ p → p < 8 → p ≠ to → rd h1 (r + 2) (8 * o + p) = rd h (r + 2) (8 * o + p)) (fun z => ∃ h', z = R2 r k (to + 1) h' ∧ FrA (r + 2) h h' ∧ (∀ o, 0 ≤ o → o < dt g 0 0 → rd h' (r + 2) (8 * o + to) = wyC (dt g) G w o to) ∧ ∀ o p, 0 ≤ p → p < 8 → p ≠ to → rd h' (r + 2) (8 * o + p) = rd h (r + 2) (8 * o + p)) (fun n i h1 hi P => Or.inl ?_) (fun n h1 P => ?_) (dt g 0 0).toNat F 0 h (by omega) (by omega) ⟨FrA_refl s, fun o o0 o1 => absurd o1 (by omega), fun _ _ _ _ _ => rfl⟩
  · exact key
  · obtain ⟨fr, p1, p2⟩ := P
    have s1 := fr.2.1
    have rc1 : RwC h1 r (dt g) (G 3) M := RwC_eq h8 fr.1 (fr.2.2 _ (by omega)) (fun p p0 p1 => fr.2.2 _ (by have := sdA_in (L := G 3) ⟨p0, p1⟩; unfold isRw at ir; omega)) (fun p p0 p1 => fr.2.2 _ (by have := (rc.2.2.2.2 p p0 p1).2.2.2.2.1.1.1; omega)) rc
    have wk1 : rd h1 k 2 = dt g 3 w := by rw [fr.2.2 k hk]; exact wk.2.2.2.1
    have ei := rc1.2.2.2.2 i (by omega) (by omega)
    have et := rc1.2.2.2.2 to ht.1 ht.2
    obtain ⟨i6, i7, -, -⟩ := hg.1.2 i (by omega) (by omega)
    obtain ⟨t6, t7, -, -⟩ := hg.1.2 to ht.1 ht.2
    have hay := awayI_in i6 i7 t6 t7
    have fw := FrA_wr (i := 8 * (i : Int) + to) (v := wyC (dt g) G w i to) fr (okQA ir (Or.inl rfl))
    refine ⟨_, ⟨fw, fun o o0 o1 => ?_, fun o p p0 p8 pt => ?_⟩, ?_⟩
    · by_cases c : o = i
      · subst c; rw [rd_same]
      · rw [rd_i (by omega)]; exact p1 o o0 (by omega)
    · rw [rd_i (by omega)]; exact p2 o p p0 p8 pt
    · show Rows_measure_L31s F R2 (Rows_measure_L31 F R2 n) r k to (sdA (G 3) to) (i : Nat) h1 = _
      unfold Rows_measure_L31s
      rw [gQ1 s1 ir, rc1.2.2.1, if_pos (by omega), gQ0 s1 ir, aSd s1 rc1 ⟨by omega, by omega⟩, gA s1 ei.1, ei.2.1, gQ0 s1 ir, aSd s1 rc1 ⟨by omega, by omega⟩, gA s1 ei.1, ei.2.2.1, gA s1 et.1, et.2.1, gA s1 et.1, et.2.2.1, c_far i6 i7 t6 t7, cl_some, gQ3 s1 ir, gW s1 wk.1, wk1, c_roundedUp (by omega) (by omega), cl_some, w32_id (x := (i : Int) * 8) (by omega) (by omega), w32_id (x := (i : Int) * 8 + to) (by omega) (by omega), show (i : Int) * 8 + to = 8 * (i : Int) + to by omega, sQ3 s1 ir (by omega) (by omega), w32_nat (by omega)]
      rfl
  · obtain ⟨fr, p1, p2⟩ := P
    refine ⟨h1, ?_, fr, fun o o0 o1 => p1 o o0 (by omega), p2⟩
    show Rows_measure_L31s F R2 (Rows_measure_L31 F R2 n) r k to (sdA (G 3) to) ((dt g 0 0).toNat : Nat) h1 = _
    unfold Rows_measure_L31s
    have hr1 : rd h1 r 1 = dt g 0 0 := by rw [fr.2.2 r (by omega)]; exact rc.2.2.1
    rw [gQ1 fr.2.1 ir, hr1, if_neg (by omega), w32_id (by omega) (by omega)]
theorem c_measure {F : Nat} {h g : Hp} {r k M w rkd : Int} {G : Nat → Int} (hF : 1000 ≤ F) (m : Mo g) (hg : Gok (dt g) G) (hw : 0 ≤ w ∧ w < dt g 1 0) (s : Sh h) (rc : RwC h r (dt g) (G 3) M) (wk : WkE h k (G 0) (G 1) (dt g 3 w) (G 2) rkd) :
    ∃ h', Rows_measure F r k h = some (0, h') ∧ FrD (r + 2) (r + 3) h h' ∧ (∀ o p, 0 ≤ o → o < dt g 0 0 → 0 ≤ p → p < dt g 0 0 → rd h' (r + 2) (8 * o + p) = wyC (dt g) G w o p) ∧ ∀ p, 0 ≤ p → p < dt g 0 0 → rd h' (r + 3) p = fcC (dt g) G w p := by
  have h8 : dt g 0 0 ≤ 8 := m.2.2.1.2
  have ir := rc.1
  have hr := rw_cases ir
  have h3 := m.2.2.2.2.2.1 w hw.1 hw.2
  have hk2 : k ≠ r + 2 := by have := wk.1; unfold isWk at this; unfold isRw at ir; omega
  have hk3 : k ≠ r + 3 := by have := wk.1; unfold isWk at this; unfold isRw at ir; omega
  unfold Rows_measure
  have key := loopE (fun n i h1 => Rows_measure_L2 F n r k (i : Nat) h1) (dt g 0 0).toNat (fun i h1 => FrD (r + 2) (r + 3) h h1 ∧ (∀ o p, 0 ≤ o → o < dt g 0 0 → 0 ≤ p → p < (i : Int) → rd h1 (r + 2) (8 * o + p) = wyC (dt g) G w o p) ∧ ∀ p, 0 ≤ p → p < (i : Int) → rd h1 (r + 3) p = fcC (dt g) G w p) (fun z => ∃ h', z = some (0, h') ∧ FrD (r + 2) (r + 3) h h' ∧ (∀ o p, 0 ≤ o → o < dt g 0 0 → 0 ≤ p → p < dt g 0 0 → rd h' (r + 2) (8 * o + p) = wyC (dt g) G w o p) ∧ ∀ p, 0 ≤ p → p < dt g 0 0 → rd h' (r + 3) p = fcC (dt g) G w p) (fun n i h1 hi P => Or.inl ?_) (fun n h1 P => ?_) (dt g 0 0).toNat F 0 h (by omega) (by omega) ⟨⟨⟨rfl, rfl, rfl, rfl⟩, s, fun _ _ _ => rfl⟩, fun o p _ _ p0 p1 => absurd p1 (by omega), fun p p0 p1 => absurd p1 (by omega)⟩
  · exact key
  · obtain ⟨fr, p1, p2⟩ := P
    have s1 := fr.2.1
    have hne : ∀ p, 0 ≤ p → p < 8 → sdA (G 3) p ≠ r + 2 ∧ sdA (G 3) p ≠ r + 3 := fun p p0 p1 => by have := sdA_in (L := G 3) ⟨p0, p1⟩; unfold isRw at ir; omega
    have rc1 : RwC h1 r (dt g) (G 3) M := RwC_eq h8 fr.1 (fr.2.2 _ (by omega) (by omega)) (fun p p0 p1 => fr.2.2 _ (hne p p0 p1).1 (hne p p0 p1).2) (fun p p0 p1 => by have := (rc.2.2.2.2 p p0 p1).2.2.2.2.1.1.1; exact fr.2.2 _ (by omega) (by omega)) rc
    have wk1 : WkE h1 k (G 0) (G 1) (dt g 3 w) (G 2) rkd := by
      obtain ⟨k1, k2⟩ := wk
      exact ⟨k1, by rw [fr.2.2 k hk2 hk3]; exact k2⟩
    have ei := rc1.2.2.2.2 i (by omega) (by omega)
    obtain ⟨i6, i7, -, -⟩ := hg.1.2 i (by omega) (by omega)
    have s2 : Sh (wr h1 (r + 3) i (fcC (dt g) G w i)) := shOk s1 (okQA ir (Or.inr rfl))
    have rc2 : RwC (wr h1 (r + 3) i (fcC (dt g) G w i)) r (dt g) (G 3) M := RwC_eq (h := h1) h8 ⟨rfl, rfl, rfl, rfl⟩ (rd_wr_ne (by omega)) (fun p p0 p1 => rd_wr_ne (hne p p0 p1).2) (fun p p0 p1 => by have := (rc1.2.2.2.2 p p0 p1).2.2.2.2.1.1.1; exact rd_wr_ne (by omega)) rc1
    have wk2 : WkE (wr h1 (r + 3) i (fcC (dt g) G w i)) k (G 0) (G 1) (dt g 3 w) (G 2) rkd := by
      obtain ⟨k1, k2⟩ := wk1
      exact ⟨k1, by rw [rd_wr_ne hk3]; exact k2⟩
    obtain ⟨h2, e2, f2, q1, q2⟩ := c_meas1 (F := F) hF m hg hw s2 rc2 wk2 (to := i) ⟨by omega, by omega⟩ (Rows_measure_L2 F n)
    refine ⟨h2, ⟨⟨?_, f2.2.1, fun a a2 a3 => ?_⟩, fun o p o0 o1 p0 p3 => ?_, fun p p0 p3 => ?_⟩, ?_⟩
    · obtain ⟨x1, x2, x3, x4⟩ := f2.1
      obtain ⟨y1, y2, y3, y4⟩ := fr.1
      exact ⟨x1.trans y1, x2.trans y2, x3.trans y3, x4.trans y4⟩
    · rw [f2.2.2 a a2, rd_wr_ne a3]; exact fr.2.2 a a2 a3
    · by_cases c : p = i
      · subst c; exact q1 o o0 o1
      · rw [q2 o p p0 (by omega) c, rd_a (by omega)]; exact p1 o p o0 o1 p0 (by omega)
    · rw [f2.2.2 _ (by omega)]
      by_cases c : p = i
      · subst c; rw [rd_same]
      · rw [rd_i c]; exact p2 p p0 (by omega)
    · show Rows_measure_L2s F (Rows_measure_L2 F n) r k (i : Nat) h1 = Rows_measure_L2 F n r k ((i + 1 : Nat) : Int) h2
      unfold Rows_measure_L2s
      rw [gQ1 s1 ir, rc1.2.2.1, if_pos (by omega), gQ0 s1 ir, aSd s1 rc1 ⟨by omega, by omega⟩, gQ4 s1 ir, ivW s1 wk.1, c_comesTo s1 wk1 ei h3 hg.2.1 hg.2.2.1 ⟨hg.2.2.2.1, by have := hg.2.2.2.2; omega⟩ i6 i7, cl_some, sQ4 s1 ir (by omega) (by omega)]
      exact e2
  · obtain ⟨fr, p1, p2⟩ := P
    refine ⟨h1, ?_, fr, fun o p o0 o1 p0 p3 => p1 o p o0 o1 p0 (by omega), fun p p0 p3 => p2 p p0 (by omega)⟩
    show Rows_measure_L2s F (Rows_measure_L2 F n) r k ((dt g 0 0).toNat : Nat) h1 = _
    unfold Rows_measure_L2s
    have hr1 : rd h1 r 1 = dt g 0 0 := by rw [fr.2.2 r (by omega) (by omega)]; exact rc.2.2.1
    rw [gQ1 fr.2.1 ir, hr1, if_neg (by omega)]
