/-! spare, alike -/
theorem nevD {n : Int} {h : Hp} {Λ : Nat → Lw} (j : JJ n h Λ) : ∀ t : Nat, t < 2 ^ (dt h 0 0).toNat → (t &&& setN (fun p => decide (rd h 239 p < 0)) 8 = t ↔ t &&& nevN (dt h) (rd h 239) = t) := fun t ht => by
  have rn := jRw j
  have dk := jD j
  refine set_sub (D8 (jMo j)) (fun p hp => ?_) ht
  have := rn.1.1.2 p (by omega) (by have := dk.1.2; omega)
  show decide _ = decide _
  congr 1
  apply propext
  constructor <;> intro z <;> omega
theorem c_worthLater {F : Nat} {n w b d : Int} {h0 h : Hp} {Λ : Nat → Lw} (hF : 6000 ≤ F) (j : JJ n h0 Λ) (q : PQ h0 h Λ) (hw : 0 ≤ w ∧ w < dt h0 1 0) (hb : 0 ≤ b ∧ b ≤ 600) (hd : 0 ≤ d ∧ d ≤ 600) : ∃ h1, Plan_worthLater F 82 22 66 w b d h = some (spW h0 w b d, h1) ∧ PQ h0 h1 Λ := by
  have mo := jMo j
  have dk := jD j
  have rn := jRw j
  have s := q.1.1
  have st := PQ_St j q
  have hw3 : 0 ≤ w ∧ w < 3 := by have := dk.2.1.2; omega
  have i91 : isWk 91 := by unfold isWk; omega
  have iwk : isWk (66 + 9 + w) := stWk st.1 hw3
  have ne : (66 : Int) + 9 + w ≠ 91 := by omega
  obtain ⟨-, w0, w1, w2, w3', w4⟩ := st.2.1 w hw.1 hw.2
  have rb := rn.1.1.1 w hw.1 hw.2
  have ok := fun k => wk_ok (i := k) i91
  have c1 := c_wcopy (F := F) s i91 iwk ne
  rw [w0, w1, w2, w3', w4] at c1
  have s1 : Sh (wr h 91 0 (rd h0 239 (32 + w))) := shOk s (ok _)
  have s2 : Sh (wr (wr h 91 0 (rd h0 239 (32 + w))) 91 1 (rd h0 239 (35 + w))) := shOk s1 (ok _)
  have s3 : Sh (wr (wr (wr h 91 0 (rd h0 239 (32 + w))) 91 1 (rd h0 239 (35 + w))) 91 2 (dt h0 3 w)) := shOk s2 (ok _)
  have s4 : Sh (wr (wr (wr (wr h 91 0 (rd h0 239 (32 + w))) 91 1 (rd h0 239 (35 + w))) 91 2 (dt h0 3 w)) 91 3 (rd h0 239 (38 + w))) := shOk s3 (ok _)
  have s5 : Sh (wr (wr (wr (wr (wr h 91 0 (rd h0 239 (32 + w))) 91 1 (rd h0 239 (35 + w))) 91 2 (dt h0 3 w)) 91 3 (rd h0 239 (38 + w))) 91 4 (rd h0 239 (41 + w))) := shOk s4 (ok _)
  have f5 : FrX (fun b => b = 91) h (wr (wr (wr (wr (wr h 91 0 (rd h0 239 (32 + w))) 91 1 (rd h0 239 (35 + w))) 91 2 (dt h0 3 w)) 91 3 (rd h0 239 (38 + w))) 91 4 (rd h0 239 (41 + w))) := FrX_trans (FrX_trans (FrX_trans (FrX_trans (FrX_wr s (ok _) (by decide) rfl) (FrX_wr s1 (ok _) (by decide) rfl)) (FrX_wr s2 (ok _) (by decide) rfl)) (FrX_wr s3 (ok _) (by decide) rfl)) (FrX_wr s4 (ok _) (by decide) rfl)
  have z5 : hsz (wr (wr (wr (wr (wr h 91 0 (rd h0 239 (32 + w))) 91 1 (rd h0 239 (35 + w))) 91 2 (dt h0 3 w)) 91 3 (rd h0 239 (38 + w))) 91 4 (rd h0 239 (41 + w))) = hsz h ∧ hus (wr (wr (wr (wr (wr h 91 0 (rd h0 239 (32 + w))) 91 1 (rd h0 239 (35 + w))) 91 2 (dt h0 3 w)) 91 3 (rd h0 239 (38 + w))) 91 4 (rd h0 239 (41 + w))) = hus h ∧ hkd (wr (wr (wr (wr (wr h 91 0 (rd h0 239 (32 + w))) 91 1 (rd h0 239 (35 + w))) 91 2 (dt h0 3 w)) 91 3 (rd h0 239 (38 + w))) 91 4 (rd h0 239 (41 + w))) = hkd h ∧ hln (wr (wr (wr (wr (wr h 91 0 (rd h0 239 (32 + w))) 91 1 (rd h0 239 (35 + w))) 91 2 (dt h0 3 w)) 91 3 (rd h0 239 (38 + w))) 91 4 (rd h0 239 (41 + w))) = hln h := ⟨rfl, rfl, rfl, rfl⟩
  have v0 : rd (wr (wr (wr (wr (wr h 91 0 (rd h0 239 (32 + w))) 91 1 (rd h0 239 (35 + w))) 91 2 (dt h0 3 w)) 91 3 (rd h0 239 (38 + w))) 91 4 (rd h0 239 (41 + w))) 91 0 = rd h0 239 (32 + w) := by rw [rd_i (by decide), rd_i (by decide), rd_i (by decide), rd_i (by decide), rd_same]
  have v1 : rd (wr (wr (wr (wr (wr h 91 0 (rd h0 239 (32 + w))) 91 1 (rd h0 239 (35 + w))) 91 2 (dt h0 3 w)) 91 3 (rd h0 239 (38 + w))) 91 4 (rd h0 239 (41 + w))) 91 1 = rd h0 239 (35 + w) := by rw [rd_i (by decide), rd_i (by decide), rd_i (by decide), rd_same]
  have v2 : rd (wr (wr (wr (wr (wr h 91 0 (rd h0 239 (32 + w))) 91 1 (rd h0 239 (35 + w))) 91 2 (dt h0 3 w)) 91 3 (rd h0 239 (38 + w))) 91 4 (rd h0 239 (41 + w))) 91 2 = dt h0 3 w := by rw [rd_i (by decide), rd_i (by decide), rd_same]
  have v3 : rd (wr (wr (wr (wr (wr h 91 0 (rd h0 239 (32 + w))) 91 1 (rd h0 239 (35 + w))) 91 2 (dt h0 3 w)) 91 3 (rd h0 239 (38 + w))) 91 4 (rd h0 239 (41 + w))) 91 3 = rd h0 239 (38 + w) := by rw [rd_i (by decide), rd_same]
  have v4 : rd (wr (wr (wr (wr (wr h 91 0 (rd h0 239 (32 + w))) 91 1 (rd h0 239 (35 + w))) 91 2 (dt h0 3 w)) 91 3 (rd h0 239 (38 + w))) 91 4 (rd h0 239 (41 + w))) 91 4 = rd h0 239 (41 + w) := rd_same _ _ _ _
  generalize wr (wr (wr (wr (wr h 91 0 (rd h0 239 (32 + w))) 91 1 (rd h0 239 (35 + w))) 91 2 (dt h0 3 w)) 91 3 (rd h0 239 (38 + w))) 91 4 (rd h0 239 (41 + w)) = k at *
  have s6 : Sh (wr k 91 3 (rd h0 239 (38 + w) + d)) := shOk s5 (ok _)
  have f6 : FrX (fun b => b = 91) h (wr k 91 3 (rd h0 239 (38 + w) + d)) := FrX_trans f5 (FrX_wr s5 (ok _) (by decide) rfl)
  have q6 : PQ h0 (wr k 91 3 (rd h0 239 (38 + w) + d)) Λ := ⟨FrX_trans q.1 (FrX_mono (fun b hb => by unfold Xp; omega) f6), Dy_X z5 f6 (fun x y o => by have := own_in o; omega) q.2.1, JPl_X dk.1.2 f6 (fun b hb => by omega) q.2.2⟩
  have wk6 : WkE (wr k 91 3 (rd h0 239 (38 + w) + d)) 91 (rd h0 239 (32 + w)) (rd h0 239 (35 + w)) (dt h0 3 w) (rd h0 239 (38 + w) + d) (rd h0 239 (41 + w)) := ⟨i91, by rw [rd_i (by decide)]; exact v0, by rw [rd_i (by decide)]; exact v1, by rw [rd_i (by decide)]; exact v2, rd_same _ _ _ _, by rw [rd_i (by decide)]; exact v4⟩
  have w32d : w32 (rd h0 239 (38 + w) + d) = rd h0 239 (38 + w) + d := w32_id (by omega) (by omega)
  generalize hk2 : wr k 91 3 (rd h0 239 (38 + w) + d) = k2 at *
  have cd2 := PQ_CD j q6
  have st2 := PQ_St j q6
  have hg := G_pl mo rn.1.1 (w := w) (d := d) (e := 0) hw hd
  have ir : isRw 85 := Or.inl rfl
  obtain ⟨h1, a1, a2, a3, a4⟩ := c_fill (F := F) (g := h0) (h := k2) (r := 85) (k := 91) (w := w) (sa := 38) (G := plG (rd h0 239) w d 0) (al := nevN (dt h0) (rd h0 239)) (a8 := setN (fun p => decide (rd h0 239 p < 0)) 8) (rkd := rd h0 239 (41 + w)) (by omega) mo hg (mn_day j.1.2.2.1) (Or.inl rfl) hw s6 q6.2.1 ir (Or.inl ⟨rfl, rfl⟩) (fun p p0 p1 => by
      show SdE k2 (sdA 0 p) (dt h0) (0 + p)
      rw [Int.zero_add]
      exact (cd2.2.2.1 p p0 p1).1) wk6 (nev8 mo _) (setN_8 _ 8 (by decide)) (nevD j)
  have q1 : PQ h0 h1 Λ := ⟨FrX_trans q6.1 (FrX_mono (fun b hb => by unfold Xp; omega) a2), a3, JPl_X dk.1.2 a2 (fun b hb => by omega) q6.2.2⟩
  have cd1 := PQ_CD j q1
  have bs := c_bestSet (F := F) (by omega) mo hg hw a2.1 a4 (fun t ht => cd1.2.2.2 t ht) hb
  have lt := bstF_lt (D := dt h0) (CT (dt h0) (plG (rd h0 239) w d 0) w (nevN (dt h0) (rd h0 239))) (plG (rd h0 239) w d 0 2) b (nevN (dt h0) (rd h0 239))
  have P256 : 2 ^ (dt h0 0 0).toNat ≤ 256 := Nat.pow_le_pow_right (n := 2) (by decide) (D8 mo)
  have x1 : (0 : Int) ≤ ((bstF (dt h0) (CT (dt h0) (plG (rd h0 239) w d 0) w (nevN (dt h0) (rd h0 239))) (plG (rd h0 239) w d 0 2) b (nevN (dt h0) (rd h0 239)) : Nat) : Int) ∧ ((bstF (dt h0) (CT (dt h0) (plG (rd h0 239) w d 0) w (nevN (dt h0) (rd h0 239))) (plG (rd h0 239) w d 0 2) b (nevN (dt h0) (rd h0 239)) : Nat) : Int) < 256 := by omega
  refine ⟨h1, ?_, q1⟩
  have fl : Rows_fill F 85 38 (dt h0 0 0) (setN (fun p => decide (rd h0 239 p < 0)) 8 : Nat) 91 0 k2 = some (0, h1) := a1
  unfold Plan_worthLater
  rw [gN3 s, gS0 s st.1, aS0 s st.1 hw.1 hw3.2, ivW s i91, c1, cl_some, gN3 s5, gW s5 i91, v3, w32d, pW s5 i91, hk2, gN2 s6, gH3 s6, gH0 s6, gC4 s6 cd2.1.1, cd2.1.2.1, ivS s6 st2.1, c_neverDone (by omega) s6 st2, cl_some, gN3 s6, ivQ s6 ir, fl, cl_some, gH4 a2.1, gN2 a2.1, gH4 a2.1, ivQ a2.1 ir, bs, cl_some, aH4 a2.1 x1.1 x1.2, cd1.2.2.2 _ lt]
  rfl
theorem c_slack {F : Nat} {n w b : Int} {h0 h : Hp} {Λ : Nat → Lw} (hF : 6000 ≤ F) (j : JJ n h0 Λ) (q : PQ h0 h Λ) (hw : 0 ≤ w ∧ w < dt h0 1 0) (hb : 0 ≤ b ∧ b ≤ 600) : ∃ h1, Plan_slack F 82 22 66 w b h = some (spL (spW h0 w b) (spW h0 w b 0) 599 0, h1) ∧ PQ h0 h1 Λ := by
  have mo := jMo j
  have rn := jRw j
  have hg := G_pl mo rn.1.1 (w := w) (d := 0) (e := 0) hw (by decide)
  obtain ⟨ha, a1, a2, a3, a4⟩ := c_rowsOf (F := F) hF j q hw
  have s := q.1.1
  have sa := a4.1
  have cda := PQ_CD j a2
  have ir := a3.1.1
  have bs := c_bestSet (F := F) (by omega) mo hg hw sa a3 (fun t ht => cda.2.2.2 t ht) hb
  have lt : plSet (dt h0) (rd h0 239) w 0 b < 2 ^ (dt h0 0 0).toNat := plSet_lt
  have bs' : Rows_bestSet F (97 + 6 * w) 39 b ha = some (((plSet (dt h0) (rd h0 239) w 0 b : Nat) : Int), ha) := bs
  have P256 : 2 ^ (dt h0 0 0).toNat ≤ 256 := Nat.pow_le_pow_right (n := 2) (by decide) (D8 mo)
  have x1 : (0 : Int) ≤ ((plSet (dt h0) (rd h0 239) w 0 b : Nat) : Int) ∧ ((plSet (dt h0) (rd h0 239) w 0 b : Nat) : Int) < 256 := by omega
  have e0 : wbV (dt h0) (plSet (dt h0) (rd h0 239) w 0 b) = spW h0 w b 0 := rfl
  have mono : ∀ d e : Int, 0 ≤ d → d ≤ e → e ≤ 600 → spW h0 w b e ≤ spW h0 w b d := fun d e d0 de e6 => spW_mono j hw hb d0 de e6
  have pos : ∀ d : Int, 0 ≤ d → d ≤ 600 → 0 ≤ spW h0 w b d := fun d d0 d1 => (wb_in mo plSet_lt).1
  obtain ⟨l1, l2, l3, l4⟩ := spL_in (f := spW h0 w b) (v := spW h0 w b 0) 599 0
  have start : Plan_slack F 82 22 66 w b h = if spW h0 w b 0 = 0 then some (599, ha) else Plan_slack_L46 F F 82 22 66 w b (spW h0 w b 0) 0 599 0 ha := by
    unfold Plan_slack
    rw [ivN s, a1, cl_some, gH4 sa, gH4 sa, ivQ sa ir, bs', cl_some, aH4 sa x1.1 x1.2, cda.2.2.2 _ lt, e0]
  generalize hf : spW h0 w b = f at *
  generalize hA : spL f (f 0) 599 0 = A at *
  rw [start]
  by_cases c0 : f 0 = 0
  · refine ⟨ha, ?_, a2⟩
    rw [if_pos c0]
    have : A = 599 := by
      apply Classical.byContradiction
      intro z
      have lt' : A < 0 + ((599 : Nat) : Int) := by omega
      have := l4 lt'
      have := mono 0 (A + 1) (by omega) (by omega) (by omega)
      have := pos (A + 1) (by omega) (by omega)
      omega
    rw [this]
  rw [if_neg c0]
  have loop : ∀ (d M : Nat) (lo hi i : Int) (k : Hp), hi - lo ≤ d → d < M → 0 ≤ lo → lo ≤ A → A ≤ hi → hi ≤ 599 → 0 ≤ i → i + (hi - lo) ≤ 599 → PQ h0 k Λ → ∃ h1, Plan_slack_L46 F M 82 22 66 w b (f 0) lo hi i k = some (A, h1) ∧ PQ h0 h1 Λ := by
    intro d
    induction d with
    | zero =>
      intro M lo hi i k h1 h2 h3 h4 h5 h6 h7 h8 qk
      obtain ⟨M, rfl⟩ : ∃ m, M = m + 1 := ⟨M - 1, by omega⟩
      refine ⟨k, ?_, qk⟩
      show Plan_slack_L46s F (Plan_slack_L46 F M) 82 22 66 w b (f 0) lo hi i k = _
      unfold Plan_slack_L46s
      have e : lo = A := by omega
      rw [if_pos (by omega), if_neg (by omega), e]
    | succ d ih =>
      intro M lo hi i k h1 h2 h3 h4 h5 h6 h7 h8 qk
      obtain ⟨M, rfl⟩ : ∃ m, M = m + 1 := ⟨M - 1, by omega⟩
      by_cases c : lo < hi
      · obtain ⟨m, hm⟩ : ∃ m, m = (lo + hi + 1) / 2 := ⟨_, rfl⟩
        have mb : lo < m ∧ m ≤ hi := by omega
        obtain ⟨k2, b1, b2⟩ := c_worthLater (F := F) (d := m) hF j qk hw hb (by omega)
        rw [hf] at b1
        have sk := qk.1.1
        have x2 : -2147483648 ≤ lo + hi ∧ lo + hi < 2147483648 ∧ -2147483648 ≤ lo + hi + 1 ∧ lo + hi + 1 < 2147483648 ∧ 0 ≤ lo + hi + 1 ∧ -2147483648 ≤ m ∧ m < 2147483648 ∧ -2147483648 ≤ m - 1 ∧ m - 1 < 2147483648 ∧ -2147483648 ≤ i + 1 ∧ i + 1 < 2147483648 := by omega
        have o1 : i < 600 := by omega
        have fm : f m ≤ f 0 := mono 0 m (by omega) (by omega) (by omega)
        have N1 : m ≤ A → f m = f 0 := fun z => l3 m (by omega) z
        have N2 : A < m → f m < f 0 := fun z => by
          have lt' : A < 0 + ((599 : Nat) : Int) := by omega
          have y1 := l4 lt'
          have y2 := mono (A + 1) m (by omega) (by omega) (by omega)
          have y3 := mono 0 (A + 1) (by omega) (by omega) (by omega)
          omega
        have lower := fun (z : A < m) => ih M lo (m - 1) (i + 1) k2 (by omega) (by omega) h3 h4 (by omega) (by omega) (by omega) (by omega) b2
        have upper := fun (z : m ≤ A) => ih M m hi (i + 1) k2 (by omega) (by omega) (by omega) z h5 h6 (by omega) (by omega) b2
        have cs : A < m ∨ m ≤ A := by omega
        have w1 : w32 (lo + hi) = lo + hi := w32_id x2.1 x2.2.1
        have w2 : w32 (lo + hi + 1) = lo + hi + 1 := w32_id x2.2.2.1 x2.2.2.2.1
        have w3 : w32 m = m := w32_id x2.2.2.2.2.2.1 x2.2.2.2.2.2.2.1
        have w4 : w32 (m - 1) = m - 1 := w32_id x2.2.2.2.2.2.2.2.1 x2.2.2.2.2.2.2.2.2.1
        have w5 : w32 (i + 1) = i + 1 := w32_id x2.2.2.2.2.2.2.2.2.2.1 x2.2.2.2.2.2.2.2.2.2.2
        have un : Plan_slack_L46 F (M + 1) 82 22 66 w b (f 0) lo hi i k = if f m < f 0 then Plan_slack_L46 F M 82 22 66 w b (f 0) lo (m - 1) (i + 1) k2 else Plan_slack_L46 F M 82 22 66 w b (f 0) m hi (i + 1) k2 := by
          show Plan_slack_L46s F (Plan_slack_L46 F M) 82 22 66 w b (f 0) lo hi i k = _
          unfold Plan_slack_L46s
          rw [if_pos o1, if_pos c, dv_ok (by decide), w1, w2, Int.tdiv_eq_ediv_of_nonneg x2.2.2.2.2.1, ← hm, w3, ivN sk, b1, cl_some, lt_eq, w4, w5]
        rw [un]
        rcases cs with z | z
        · rw [if_pos (N2 z)]; exact lower z
        · rw [if_neg (by rw [N1 z]; exact Int.lt_irrefl _)]; exact upper z
      · exact ih (M + 1) lo hi i k (by omega) (by omega) h3 h4 h5 h6 h7 h8 qk
  exact loop 599 F 0 599 0 ha (by omega) (by omega) (by omega) l1 (by omega) (by omega) (by omega) (by omega) a2
theorem k_spare {F : Nat} {n w b : Int} {h : Hp} {Λ : Nat → Lw} (hF : 6000 ≤ F) (j : JJ n h Λ) : Okc n h (Tide_spare F 1 w b h) (fun h1 => Mod_spare F 194 w b h1) := by
  have s := jS j
  have cd := jCD j
  have q0 := PQ_0 j
  by_cases cc : (0 ≤ w ∧ w < dt h 1 0) ∧ (0 ≤ b ∧ b ≤ 600)
  rotate_left
  · refine okc_p j (r := -1) (h1 := h) ?_ q0 ?_
    · unfold Tide_spare
      rw [ivT s, c_isWorker s cd, cl_some]
      by_cases cw : 0 ≤ w ∧ w < dt h 1 0
      · rw [if_pos cw, if_neg (by decide), c_isBound, cl_some, if_neg (fun z => cc ⟨cw, z⟩), if_pos rfl]
      · rw [if_neg cw, if_pos rfl]
    · obtain ⟨h2, e, f⟩ := m_spare (F := F) (w := w) (b := b) (by omega) j.1.1
      refine ⟨h2, ?_, f⟩
      unfold sprA at e
      rw [if_pos cc] at e
      exact e
  obtain ⟨cw, cb⟩ := cc
  obtain ⟨h1, a1, a2⟩ := c_slack (F := F) hF j q0 cw cb
  obtain ⟨mt, ed, e239⟩ := PQ_MT j a2
  refine okc_p j (h1 := h1) ?_ a2 (m_spare (by omega) mt)
  have eh : spW h1 w b = spW h w b := by funext d; unfold spW; rw [ed, e239]
  unfold Tide_spare sprA
  rw [ivT s, c_isWorker s cd, cl_some, if_pos cw, if_neg (by decide), c_isBound, cl_some, if_pos cb, if_neg (by decide), gT9 s, gT4 s, gT5 s, ivN s, a1, cl_some, eh, ed, if_neg (show ¬ ¬ ((0 ≤ w ∧ w < dt h 1 0) ∧ (0 ≤ b ∧ b ≤ 600)) from fun z => z ⟨cw, cb⟩)]
