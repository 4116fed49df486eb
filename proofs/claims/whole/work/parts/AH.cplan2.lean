/-! plan, mends -/
theorem okc_p {n r : Int} {h0 h1 : Hp} {Λ : Nat → Lw} (j : JJ n h0 Λ) {o : Option (Int × Hp)} {m : Hp → Option (Int × Hp)} (ho : o = some (r, h1)) (q : PQ h0 h1 Λ) (hm : ∃ h2, m h1 = some (r, h2) ∧ Fr h1 h2) : Okc n h0 o m := by
  obtain ⟨h2, e, f⟩ := hm
  exact ⟨r, h1, h2, Λ, ho, q.1.1, e, PQ_end j q f, Sc_X (jS j) q.1 (by unfold Xp; omega), Sc_Fr f⟩
theorem c_answer {F : Nat} {r w a b q : Int} {g h : Hp} {G : Nat → Int} {al : Nat} (hF : 6000 ≤ F) (m : Mo g) (hg : Gok (dt g) G) (hw : 0 ≤ w ∧ w < dt g 1 0) (s : Sh h) (cd : CD h (dt g)) (re : RwE h r (dt g) G w a al) (hb : 0 ≤ b ∧ b ≤ 600) :
    Tide_answer F 1 r b q h = some (if q = 0 then wbV (dt g) (bstF (dt g) (CT (dt g) G w al) a b al) else if q = 1 then lrV (CT (dt g) G w al) a (bstF (dt g) (CT (dt g) G w al) a b al) else if q = 2 then ((bstF (dt g) (CT (dt g) G w al) a b al : Nat) : Int) else -1, h) := by
  have lt := bstF_lt (D := dt g) (CT (dt g) G w al) a b al
  have l8 : bstF (dt g) (CT (dt g) G w al) a b al < 256 := Nat.lt_of_lt_of_le lt (Nat.pow_le_pow_right (n := 2) (by decide) (D8 m))
  have can : bstF (dt g) (CT (dt g) G w al) a b al = 0 ∨ (bstF (dt g) (CT (dt g) G w al) a b al &&& al = bstF (dt g) (CT (dt g) G w al) a b al ∧ lrV (CT (dt g) G w al) a (bstF (dt g) (CT (dt g) G w al) a b al) ≤ b) := bsR_can (D := dt g) (T := CT (dt g) G w al) (a := a) (b := b) (al := al) (2 ^ (dt g 0 0).toNat - 1)
  have ir := re.1.1
  unfold Tide_answer
  rw [gT4 s, gH4 s, ivQ s ir, c_bestSet (by omega) m hg hw s re (fun t ht => cd.2.2.2 t ht) hb, cl_some]
  by_cases q0 : q = 0
  · rw [tsw_at 0 (by omega) (by decide), if_pos q0, gT4 s, gH4 s, aH4 s (by omega) (by omega), cd.2.2.2 _ lt]; rfl
  · by_cases q1 : q = 1
    · rw [tsw_at 1 (by omega) (by decide), if_neg q0, if_pos q1, gQ6 s ir, al_ok re.2.1.2.1.2 re.2.1.2.2 (by omega) (by omega), (re.2.2.2 _ lt).1, sn_eq hb.2 can]; rfl
    · by_cases q2 : q = 2
      · rw [tsw_at 2 (by omega) (by decide), if_neg q0, if_neg q1, if_pos q2]; rfl
      · rw [tsw_no (by omega), if_neg q0, if_neg q1, if_neg q2]
theorem k_plan {F : Nat} {n w b q : Int} {h : Hp} {Λ : Nat → Lw} (hF : 6000 ≤ F) (j : JJ n h Λ) : Okc n h (Tide_plan F 1 w b q h) (fun h1 => Mod_plan F 194 w b q h1) := by
  have s := jS j
  have cd := jCD j
  have mo := jMo j
  have q0 := PQ_0 j
  by_cases cw : 0 ≤ w ∧ w < dt h 1 0
  rotate_left
  · refine okc_p j (r := -1) (h1 := h) ?_ q0 ?_
    · unfold Tide_plan
      rw [ivT s, c_isWorker s cd, cl_some, if_neg cw, if_pos rfl]
    · obtain ⟨h2, e, f⟩ := m_plan (F := F) (w := w) (b := b) (q := q) (by omega) j.1.1
      refine ⟨h2, ?_, f⟩
      unfold plnA at e
      rw [if_pos (fun z => cw z.1)] at e
      exact e
  by_cases cb : 0 ≤ b ∧ b ≤ 600
  rotate_left
  · refine okc_p j (r := -1) (h1 := h) ?_ q0 ?_
    · unfold Tide_plan
      rw [ivT s, c_isWorker s cd, cl_some, if_pos cw, if_neg (by decide), c_isBound, cl_some, if_neg cb, if_pos rfl]
    · obtain ⟨h2, e, f⟩ := m_plan (F := F) (w := w) (b := b) (q := q) (by omega) j.1.1
      refine ⟨h2, ?_, f⟩
      unfold plnA at e
      rw [if_pos (fun z => cb z.2.1)] at e
      exact e
  obtain ⟨h1, a1, a2, a3, a4⟩ := c_rowsOf (F := F) hF j q0 cw
  obtain ⟨mt, ed, e239⟩ := PQ_MT j a2
  have hg := G_pl mo (jRw j).1.1 (w := w) (d := 0) (e := 0) cw (by decide)
  have an := c_answer (F := F) (q := q) hF mo hg cw a4.1 (PQ_CD j a2) a3 cb
  refine okc_p j (h1 := h1) ?_ a2 (m_plan (by omega) mt)
  unfold Tide_plan
  rw [ivT s, c_isWorker s cd, cl_some, if_pos cw, if_neg (by decide), c_isBound, cl_some, if_pos cb, if_neg (by decide), gT9 s, gT4 s, gT5 s, ivN s, a1, cl_some, ivT a4.1, an, cl_some]
  unfold plnA
  rw [ed, e239]
  congr 2
  by_cases qq : 0 ≤ q ∧ q ≤ 2
  · have cc : ¬ ¬ ((0 ≤ w ∧ w < dt h 1 0) ∧ (0 ≤ b ∧ b ≤ 600) ∧ 0 ≤ q ∧ q ≤ 2) := fun z => z ⟨cw, cb, qq⟩
    rw [if_neg cc]
    by_cases c0 : q = 0
    · rw [if_pos c0, if_pos c0]; rfl
    · rw [if_neg c0, if_neg c0]
      by_cases c1 : q = 1
      · rw [if_pos c1, if_pos c1]; rfl
      · rw [if_neg c1, if_neg c1, if_pos (by omega)]; rfl
  · have cc : ¬ ((0 ≤ w ∧ w < dt h 1 0) ∧ (0 ≤ b ∧ b ≤ 600) ∧ 0 ≤ q ∧ q ≤ 2) := fun z => qq z.2.2
    rw [if_pos cc, if_neg (by omega), if_neg (by omega), if_neg (by omega)]
theorem k_mends {F : Nat} {n w b q : Int} {h : Hp} {Λ : Nat → Lw} (hF : 6000 ≤ F) (j : JJ n h Λ) : Okc n h (Tide_mends F 1 w b q h) (fun h1 => Mod_mends F 194 w b q h1) := by
  have s := jS j
  have cd := jCD j
  have mo := jMo j
  have dk := jD j
  have rn := jRw j
  have st := jSt j
  have q0 := PQ_0 j
  by_cases cw : 0 ≤ w ∧ w < dt h 1 0
  rotate_left
  · refine okc_p j (r := -1) (h1 := h) ?_ q0 ?_
    · unfold Tide_mends
      rw [ivT s, c_isWorker s cd, cl_some, if_neg cw, if_pos rfl]
    · obtain ⟨h2, e, f⟩ := m_mends (F := F) (w := w) (b := b) (q := q) (by omega) j.1.1
      refine ⟨h2, ?_, f⟩
      unfold mdsA at e
      rw [if_pos (fun z => cw z.1)] at e
      exact e
  by_cases cb : 0 ≤ b ∧ b ≤ 600
  rotate_left
  · refine okc_p j (r := -1) (h1 := h) ?_ q0 ?_
    · unfold Tide_mends
      rw [ivT s, c_isWorker s cd, cl_some, if_pos cw, if_neg (by decide), c_isBound, cl_some, if_neg cb, if_pos rfl]
    · obtain ⟨h2, e, f⟩ := m_mends (F := F) (w := w) (b := b) (q := q) (by omega) j.1.1
      refine ⟨h2, ?_, f⟩
      unfold mdsA at e
      rw [if_pos (fun z => cb z.2.1)] at e
      exact e
  have hw3 : 0 ≤ w ∧ w < 3 := by have := dk.2.1.2; omega
  have hg := G_pl mo rn.1.1 (w := w) (d := 0) (e := 1) cw (by decide)
  have ir : isRw 85 := Or.inl rfl
  have nN : ∀ p : Nat, p < (dt h 0 0).toNat → (fun p => decide (rd h 239 (8 + p) ≠ 0)) (p : Int) = (fun p => decide (rd h 239 (8 + p) = 1)) (p : Int) := fun p hp => by
    have := (rn.1.2 p (by omega) (by have := dk.1.2; omega)).1
    show decide _ = decide _
    congr 1
    apply propext
    constructor <;> intro z <;> omega
  obtain ⟨h1, a1, a2, a3, a4⟩ := c_fill (F := F) (g := h) (h := h) (r := 85) (k := 66 + 9 + w) (w := w) (sa := 38) (G := plG (rd h 239) w 0 1) (al := crsN (dt h) (rd h 239)) (a8 := setN (fun p => decide (rd h 239 (8 + p) ≠ 0)) 8) (rkd := rd h 239 (41 + w)) (by omega) mo hg (mn_day j.1.2.2.1) (Or.inr rfl) cw s j.2.2.2 ir (Or.inl ⟨rfl, rfl⟩) (fun p p0 p1 => by
      show SdE h (sdA 0 p) (dt h) (0 + p)
      rw [Int.zero_add]
      exact (cd.2.2.1 p p0 p1).1) (by
      show WkE h (66 + 9 + w) (rd h 239 (32 + w)) (rd h 239 (35 + w)) (dt h 3 w) (rd h 239 (38 + w) + 0) (rd h 239 (41 + w))
      rw [Int.add_zero]
      exact st.2.1 w cw.1 cw.2) (crs8 mo _) (setN_8 _ 8 (by decide)) (fun t ht => set_sub (D8 mo) nN ht)
  have pq : PQ h h1 Λ := ⟨FrX_mono (fun b hb => by unfold Xp; omega) a2, a3, JPl_X dk.1.2 a2 (fun b hb => by omega) j.2.2.1⟩
  obtain ⟨mt, ed, e239⟩ := PQ_MT j pq
  have an := c_answer (F := F) (q := q) hF mo hg cw a2.1 (PQ_CD j pq) a4 cb
  refine okc_p j (h1 := h1) ?_ pq (m_mends (by omega) mt)
  have ic := cd.1.1
  have fl : Rows_fill F 85 38 (dt h 0 0) (setN (fun p => decide (rd h 239 (8 + p) ≠ 0)) 8 : Nat) (66 + 9 + w) 1 h = some (0, h1) := a1
  unfold Tide_mends Plan_mendingRows
  rw [ivT s, c_isWorker s cd, cl_some, if_pos cw, if_neg (by decide), c_isBound, cl_some, if_pos cb, if_neg (by decide), gT9 s, gT4 s, gT5 s, ivN s, gN2 s, gH3 s, gH0 s, gC4 s ic, cd.1.2.1, ivS s st.1, c_crossedSet (by omega) s st, cl_some, gS0 s st.1, aS0 s st.1 cw.1 hw3.2, ivQ s ir, fl, cl_some, gN2 a2.1, cl_some, ivT a2.1, an, cl_some]
  unfold mdsA
  rw [ed, e239]
  congr 2
  by_cases qq : 0 ≤ q ∧ q ≤ 2
  · have cc : ¬ ¬ ((0 ≤ w ∧ w < dt h 1 0) ∧ (0 ≤ b ∧ b ≤ 600) ∧ 0 ≤ q ∧ q ≤ 2) := fun z => z ⟨cw, cb, qq⟩
    rw [if_neg cc]
    by_cases c0 : q = 0
    · rw [if_pos c0, if_pos c0]; rfl
    · rw [if_neg c0, if_neg c0]
      by_cases c1 : q = 1
      · rw [if_pos c1, if_pos c1]; rfl
      · rw [if_neg c1, if_neg c1, if_pos (by omega)]; rfl
  · have cc : ¬ ((0 ≤ w ∧ w < dt h 1 0) ∧ (0 ≤ b ∧ b ≤ 600) ∧ 0 ≤ q ∧ q ≤ 2) := fun z => qq z.2.2
    rw [if_pos cc, if_neg (by omega), if_neg (by omega), if_neg (by omega)]
