/-! acts on both sides: what is kept -/
theorem RwN_act {n k w p : Int} {D : Nat → Int → Int} {R : Int → Int} (hw3 : D 1 0 ≤ 3) (h0 : 0 ≤ D 0 0) (g : RwN n D R) (hk : k = 0 ∨ k = 1 ∨ k = 2) (hw : k = 1 ∨ (0 ≤ w ∧ w < D 1 0)) (hp : 0 ≤ p ∧ p < D 0 0) : RwN (n + 1) D (actR R k w p) := by
  obtain ⟨⟨⟨g1, g2⟩, g3⟩, g4, g5, g6, g7⟩ := g
  have lo : ∀ i, i < 44 → actR R k w p i = R i := fun i hi => actR_lo g6.1 hi
  have e44 := actR_44 R k w p
  refine ⟨⟨⟨fun w w0 w1 => ?_, fun p p0 p1 => ?_⟩, fun p p0 p1 => ?_⟩, fun i i1 i2 => ?_, fun i i1 i2 => ?_, ?_, fun p p0 p1 => ?_⟩
  · rw [lo _ (by omega), lo _ (by omega), lo _ (by omega)]; exact g1 w w0 w1
  · rw [lo _ (by omega)]; exact g2 p p0 p1
  · rw [lo _ (by omega), lo _ (by omega)]; exact g3 p p0 p1
  · rw [e44] at i1
    by_cases c : (i : Int) < R 44
    · obtain ⟨q1, q2, q3⟩ := actR_i (R := R) (k := k) (w := w) (p := p) (i := i) (by omega) c
      rw [q1, q2, q3]; exact g4 i c i2
    · have ei : (i : Int) = R 44 := by omega
      obtain ⟨q1, q2, q3⟩ := actR_n (R := R) (k := k) (w := w) (p := p) g6.1 (by omega)
      rw [ei, q1, q2, q3]; exact ⟨hw, hp⟩
  · rw [e44] at i1
    by_cases c : (i : Int) < R 44
    · obtain ⟨q1, q2, q3⟩ := actR_i (R := R) (k := k) (w := w) (p := p) (i := i) (by omega) c
      rw [q1]; exact g5 i c i2
    · have ei : (i : Int) = R 44 := by omega
      obtain ⟨q1, q2, q3⟩ := actR_n (R := R) (k := k) (w := w) (p := p) g6.1 (by omega)
      rw [ei, q1]; exact hk
  · rw [e44]; omega
  · rw [lo _ (by omega), lo _ (by omega)]; exact g7 p p0 p1
/-- one row beside another: only what one act may touch -/
def Nr (A B : Int → Int) (w p : Int) : Prop := (∀ i, 44 ≤ i → B i = A i) ∧ ∀ j, 0 ≤ j → j < 44 → j ≠ 32 + w → j ≠ 35 + w → j ≠ 38 + w → j ≠ 41 + w → j ≠ p → j ≠ 8 + p → j ≠ 16 + p → j ≠ 24 + p → B j = A j
theorem RwN_Nr {n w p : Int} {D : Nat → Int → Int} {A B : Int → Int} (hw3 : D 1 0 ≤ 3) (h8 : D 0 0 ≤ 8) (nr : Nr A B w p) (hw : 0 ≤ w ∧ w < 3) (hp : 0 ≤ p ∧ p < D 0 0) (rok : Rok D B) (b1 : B (8 + p) = 0 ∨ B (8 + p) = 1) (b2 : B (16 + p) = -2 ∨ (0 ≤ B (16 + p) ∧ B (16 + p) ≤ 600)) (g : RwN n D A) : RwN n D B := by
  obtain ⟨⟨⟨g1, g2⟩, g3⟩, g4, g5, g6, g7⟩ := g
  obtain ⟨n1, n2⟩ := nr
  refine ⟨⟨rok, fun q q0 q1 => ?_⟩, fun i i1 i2 => ?_, fun i i1 i2 => ?_, ?_, fun q q0 q1 => ?_⟩
  · by_cases c : q = p
    · rw [c]; exact ⟨b1, b2⟩
    · rw [n2 (8 + q) (by omega) (by omega) (by omega) (by omega) (by omega) (by omega) (by omega) (by omega) (by omega) (by omega), n2 (16 + q) (by omega) (by omega) (by omega) (by omega) (by omega) (by omega) (by omega) (by omega) (by omega) (by omega)]
      exact g3 q q0 q1
  · rw [n1 44 (by omega)] at i1
    rw [n1 _ (by omega), n1 _ (by omega), n1 _ (by omega)]; exact g4 i i1 i2
  · rw [n1 44 (by omega)] at i1
    rw [n1 _ (by omega)]; exact g5 i i1 i2
  · rw [n1 44 (by omega)]; exact g6
  · have := hp
    rw [n2 q (by omega) (by omega) (by omega) (by omega) (by omega) (by omega) (by omega) (by omega) (by omega) (by omega), n2 (8 + q) (by omega) (by omega) (by omega) (by omega) (by omega) (by omega) (by omega) (by omega) (by omega) (by omega)]
    exact g7 q q0 q1
theorem Lnk_act {k w p : Int} {A B : Int → Int} {w' : Int} (nr : Nr A B w p) (h0 : 0 ≤ A 44) : Lnk A (actR B k w' p) w p := by
  have e : B 44 = A 44 := nr.1 44 (by omega)
  refine ⟨by rw [actR_44, e], fun j j0 j1 a1 a2 a3 a4 a5 a6 a7 a8 => ?_, fun i i0 i1 i2 => ?_⟩
  · rw [actR_lo (by omega) j1]; exact nr.2 j j0 j1 a1 a2 a3 a4 a5 a6 a7 a8
  · obtain ⟨q1, q2, q3⟩ := actR_i (R := B) (k := k) (w := w') (p := p) i0 (by omega)
    rw [q1, q2, q3, nr.1 _ (by omega), nr.1 _ (by omega), nr.1 _ (by omega)]
    exact ⟨rfl, rfl, rfl⟩
theorem Nr_snd {D : Nat → Int → Int} {N : Int → Int} {w p : Int} (hw : 0 ≤ w ∧ w < 3) (hp : 0 ≤ p ∧ p < 8) : Nr N (sndR D N w p) w p := by
  unfold sndR goR
  refine ⟨fun i hi => ?_, fun j j0 j1 a1 a2 a3 a4 a5 a6 a7 a8 => ?_⟩
  · rw [up_n (by omega), up_n (by omega), up_n (by omega), up_n (by omega), up_n (by omega), up_n (by omega), up_n (by omega), up_n (by omega)]
  · rw [up_n a3, up_n a2, up_n a1, up_n a4, up_n a8, up_n a7, up_n a6, up_n a5]
theorem Nr_mnd {D : Nat → Int → Int} {N : Int → Int} {w p : Int} (hw : 0 ≤ w ∧ w < 3) (hp : 0 ≤ p ∧ p < 8) : Nr N (mndR D N w p) w p := by
  unfold mndR goR
  refine ⟨fun i hi => ?_, fun j j0 j1 a1 a2 a3 a4 a5 a6 a7 a8 => ?_⟩
  · rw [up_n (by omega), up_n (by omega), up_n (by omega), up_n (by omega), up_n (by omega)]
  · rw [up_n a3, up_n a2, up_n a1, up_n a7, up_n a6]
theorem Nr_crs {N : Int → Int} {p : Int} (hp : 0 ≤ p ∧ p < 8) : Nr N (up N (8 + p) 1) 0 p :=
  ⟨fun i hi => up_n (by omega), fun j j0 j1 a1 a2 a3 a4 a5 a6 a7 a8 => up_n a6⟩
theorem NtC_cg {h : Hp} {n s w p : Int} {N M : Int → Int} (hw : 0 ≤ w ∧ w < 3) (hp : 0 ≤ p ∧ p < 8) (e : ∀ i, 0 ≤ i → i < 140 → M i = N i) (g : NtC h n s w p N) : NtC h n s w p M := by
  obtain ⟨g1, g2, g3, g4, g5, g6⟩ := g
  refine ⟨g1, fun q => ?_, ?_, ?_, ?_, ?_⟩
  · rw [e _ (by omega) (by omega), e _ (by omega) (by omega), e _ (by omega) (by omega), e _ (by omega) (by omega)]; exact g2 q
  · rw [e _ (by omega) (by omega)]; exact g3
  · rw [e _ (by omega) (by omega)]; exact g4
  · rw [e _ (by omega) (by omega)]; exact g5
  · rw [e _ (by omega) (by omega)]; exact g6
theorem Lnk_cg {A B A' B' : Int → Int} {w p : Int} (ea : ∀ i, 0 ≤ i → i < 140 → A' i = A i) (eb : ∀ i, 0 ≤ i → i < 140 → B' i = B i) (g : Lnk A B w p) : Lnk A' B' w p := by
  obtain ⟨g1, g2, g3⟩ := g
  refine ⟨by rw [ea _ (by omega) (by omega), eb _ (by omega) (by omega)]; exact g1, fun j j0 j1 a1 a2 a3 a4 a5 a6 a7 a8 => ?_, fun i i0 i1 i2 => ?_⟩
  · rw [ea _ (by omega) (by omega), eb _ (by omega) (by omega)]; exact g2 j j0 j1 a1 a2 a3 a4 a5 a6 a7 a8
  · rw [ea _ (by omega) (by omega)] at i1
    rw [ea _ (by omega) (by omega), eb _ (by omega) (by omega), ea _ (by omega) (by omega), eb _ (by omega) (by omega), ea _ (by omega) (by omega), eb _ (by omega) (by omega)]; exact g3 i i0 i1 i2
/-- a slot is overwritten that holds nothing kept -/
theorem NtC_sl {h h' : Hp} {n s t w p : Int} {N : Int → Int} (e : ∀ i, ¬ (10 * t ≤ i ∧ i < 10 * t + 10) → rd h' 79 i = rd h 79 i) (hs : s ≠ t) (g : NtC h n s w p N) : NtC h' n s w p N := by
  unfold NtC at g ⊢
  rw [e _ (by omega), e _ (by omega), e _ (by omega), e _ (by omega), e _ (by omega), e _ (by omega), e _ (by omega), e _ (by omega), e _ (by omega), e _ (by omega)]
  exact g
theorem PsI_note {n : Int} {h h' : Hp} {D : Nat → Int → Int} {u : Int} {N H : Int → Int} (e78 : rd h' 78 = rd h 78) (e : ∀ i, ¬ (10 * rd h 78 1 ≤ i ∧ i < 10 * rd h 78 1 + 10) → rd h' 79 i = rd h 79 i) (g : PsI n h D u N H) : PsI n h' D u N H := by
  obtain ⟨g1, g2, g3, g4⟩ := g
  refine ⟨by rw [e78]; exact g1, g2, by rw [e78]; exact g3, fun k k0 k1 => ?_⟩
  obtain ⟨q1, w, p, q2, q3, q4, q5⟩ := g4 k k0 k1
  exact ⟨q1, w, p, q2, q3, by rw [e78]; exact NtC_sl e (by omega) q4, q5⟩
/-- something more is kept -/
theorem PsI_keep {n : Int} {h h' : Hp} {D : Nat → Int → Int} {u w p : Int} {N R H : Int → Int} (hw3 : D 1 0 ≤ 3) (h0 : 0 ≤ D 0 0) (g : PsI n h D u N H) (rn : RwN n D N) (nt : NtC h (D 1 0) (rd h 78 1) w p N) (hw : 0 ≤ w ∧ w < 3) (hp : 0 ≤ p ∧ p < 8) (lk : Lnk N R w p) (e79 : rd h' 79 = rd h 79) (e1 : rd h' 78 1 = (rd h 78 1 + 1) % 41) (e2 : rd h' 78 2 = undA u + 1) : PsI n h' D (undA u + 1) R (hisB (hisA H u) N (undA u)) := by
  obtain ⟨g1, g2, g3, g4⟩ := g
  have ub : undA u = if u = 40 then 39 else u := rfl
  have ub2 : 0 ≤ undA u ∧ undA u ≤ 39 := by rw [ub]; split <;> omega
  have hrow : ∀ k, 0 ≤ k → k < undA u → ∀ i, 0 ≤ i → i < 140 → rowR (hisB (hisA H u) N (undA u)) k i = rowR H (if u = 40 then k + 1 else k) i := fun k k0 k1 i i0 i1 => by
    unfold rowR hisB
    rw [if_neg (by omega)]
    unfold hisA
    by_cases c : u = 40
    · rw [if_pos c] at ub
      rw [if_pos c, if_pos c]
      show (if 0 ≤ 140 * k + i ∧ 140 * k + i < 5460 then H (140 * k + i + 140) else H (140 * k + i)) = _
      rw [if_pos (by omega)]
      congr 1
      omega
    · rw [if_neg c, if_neg c]
  have hlast : ∀ i, 0 ≤ i → i < 140 → rowR (hisB (hisA H u) N (undA u)) (undA u) i = N i := fun i i0 i1 => by
    unfold rowR hisB
    rw [if_pos (by omega)]
    congr 1
    omega
  refine ⟨e2, by omega, by rw [e1]; omega, fun k k0 k1 => ?_⟩
  by_cases c : k = undA u
  · refine ⟨RwN_cg hw3 h0 (by rw [c]; exact hlast) rn, w, p, hw, hp, NtC_cg hw hp (by rw [c]; exact hlast) ?_, ?_⟩
    · have es : (rd h' 78 1 + 41 - (undA u + 1) + k) % 41 = rd h 78 1 := by rw [e1, c]; omega
      rw [es]; exact NtC_eq e79 nt
    · refine Lnk_cg (by rw [c]; exact hlast) (fun i i0 i1 => ?_) lk
      unfold hRw
      rw [if_neg (by omega)]
  · have kb : k < undA u := by omega
    obtain ⟨k', hk'⟩ : ∃ k', k' = (if u = 40 then k + 1 else k) := ⟨_, rfl⟩
    have hk0 : 0 ≤ k' ∧ k' < u := by
      rw [hk']
      rw [ub] at kb
      split at kb <;> rename_i c4
      · rw [if_pos c4]; omega
      · rw [if_neg c4]; omega
    obtain ⟨q1, w', p', q2, q3, q4, q5⟩ := g4 k' hk0.1 hk0.2
    have hr := hrow k k0 kb
    rw [← hk'] at hr
    refine ⟨RwN_cg hw3 h0 hr q1, w', p', q2, q3, NtC_cg q2 q3 hr ?_, Lnk_cg hr (fun i i0 i1 => ?_) q5⟩
    · have es : (rd h' 78 1 + 41 - (undA u + 1) + k) % 41 = (rd h 78 1 + 41 - u + k') % 41 := by
        rw [e1, hk', ub]
        by_cases c4 : u = 40
        · rw [if_pos c4, if_pos c4]; omega
        · rw [if_neg c4, if_neg c4]; omega
      rw [es]; exact NtC_eq e79 q4
    · unfold hRw
      rw [if_pos (by omega)]
      by_cases c5 : k + 1 = undA u
      · rw [c5, hlast i i0 i1]
        have : ¬ (k' + 1 < u) := by
          rw [hk']
          rw [ub] at c5
          split at c5 <;> rename_i c4
          · rw [if_pos c4]; omega
          · rw [if_neg c4]; omega
        rw [if_neg this]
      · have hr2 := hrow (k + 1) (by omega) (by omega) i i0 i1
        rw [hr2]
        have e5 : (if u = 40 then k + 1 + 1 else k + 1) = k' + 1 := by rw [hk']; split <;> rfl
        rw [e5]
        have : k' + 1 < u := by
          rw [hk']
          have c6 : k + 1 < undA u := by omega
          rw [ub] at c6
          split at c6 <;> rename_i c4
          · rw [if_pos c4]; omega
          · rw [if_neg c4]; omega
        rw [if_pos this]
