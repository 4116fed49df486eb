/-! tables over alike data; the sized data -/
theorem wayI_0 {sp x y u v : Int} (hs : 1 ≤ sp) : 0 ≤ wayI sp x y u v := by
  unfold wayI awayI
  refine Int.ediv_nonneg ?_ (by omega)
  split <;> split <;> omega
theorem stepV_eq {D D' : Nat → Int → Int} {M w x y r q : Int} (hs : 1 ≤ D 3 w) (hr : 0 ≤ r) (e3 : D' 3 w = D 3 w) (e6 : D' 6 q = D 6 q) (e7 : D' 7 q = D 7 q) (e8 : D' 8 q = D 8 q) (e12 : ∀ m, 0 ≤ m → m < 600 → D' 12 (601 * q + m) = D 12 (601 * q + m)) : stepV D' M w x y r q = stepV D M w x y r q := by
  have hw := wayI_0 (x := x) (y := y) (u := D 6 q) (v := D 7 q) hs
  have en : nxD D' q (r + wayI (D 3 w) x y (D 6 q) (D 7 q)) = nxD D q (r + wayI (D 3 w) x y (D 6 q) (D 7 q)) := by
    unfold nxD
    split
    · rfl
    · exact e12 _ (by omega) (by omega)
  unfold stepV
  rw [e3, e6, e7, e8, en]
/-- the data that tables of some parts look at are alike -/
def Alk (D D' : Nat → Int → Int) (L w : Int) : Prop := D' 0 0 = D 0 0 ∧ D' 3 w = D 3 w ∧ ∀ p, 0 ≤ p → p < D 0 0 → D' 6 (L + p) = D 6 (L + p) ∧ D' 7 (L + p) = D 7 (L + p) ∧ D' 8 (L + p) = D 8 (L + p) ∧ ∀ m, 0 ≤ m → m < 600 → D' 12 (601 * (L + p) + m) = D 12 (601 * (L + p) + m)
theorem bst_alk {D D' : Nat → Int → Int} {G : Nat → Int} {w : Int} {T : Int → Int} {s p : Nat} (a : Alk D D' (G 3) w) (h8 : (D 0 0).toNat ≤ 8) (hs : 1 ≤ D 3 w) (h2 : 0 ≤ G 2) (ht : ∀ i, Vok (T i)) (hs2 : s < 2 ^ (D 0 0).toNat) (hp : p < (D 0 0).toNat) : bst D' G w T s p = bst D G w T s p := by
  obtain ⟨a0, a3, ap⟩ := a
  have e0 : rb0 D' G w p = rb0 D G w p := by
    obtain ⟨b6, b7, b8, b12⟩ := ap p (by omega) (by omega)
    exact stepV_eq hs h2 a3 b6 b7 b8 b12
  unfold bst
  rw [e0]
  refine mnB_congr 8 (fun o ho hb => ?_)
  have ho' := drp_bit hs2 hb
  obtain ⟨b6, b7, b8, b12⟩ := ap p (by omega) (by omega)
  obtain ⟨c6, c7, -, -⟩ := ap o (by omega) (by omega)
  unfold rb1
  split
  · rfl
  · rw [c6, c7]
    rename_i hne
    have hv := ht (8 * ((s - 2 ^ p : Nat) : Int) + o)
    unfold Vok at hv
    exact stepV_eq hs (by omega) a3 b6 b7 b8 b12
theorem CT_alk {h h' : Hp} {G : Nat → Int} {w : Int} {al : Nat} (m : Mo h) (m' : Mo h') (hg' : Gok (dt h') G) (hw : 0 ≤ w ∧ w < dt h 1 0) (hw' : 0 ≤ w ∧ w < dt h' 1 0) (hl : al < 256) (h2 : 0 ≤ G 2) (a : Alk (dt h) (dt h') (G 3) w) {s p : Nat} (hs1 : 1 ≤ s) (hs : s < 2 ^ (dt h 0 0).toNat) (ha : s &&& al = s) (hp : p < 8) (hb : s.testBit p = true) : CT (dt h') G w al (8 * s + p) = CT (dt h) G w al (8 * s + p) := by
  have h8 := D8 m
  have h256 := two8 h8
  have hsp := (m.2.2.2.2.2.1 w hw.1 hw.2).1
  have e0 : dt h' 0 0 = dt h 0 0 := a.1
  have ok : ∀ i, Vok (CT (dt h') G w al i) := tabF_ok m' hg' (fun _ => Or.inr ⟨by decide, by decide⟩) hw'
  have hU : ∀ s p : Nat, 1 ≤ s → s ≤ 2 ^ (dt h 0 0).toNat - 1 → s &&& al = s → p < 8 → s.testBit p = true → CT (dt h') G w al (8 * s + p) = bst (dt h) G w (CT (dt h') G w al) s p := by
    intro s p q1 q2 q3 q4 q5
    have hs' : s < 2 ^ (dt h 0 0).toNat := by omega
    have fx : CT (dt h') G w al (8 * s + p) = bst (dt h') G w (CT (dt h') G w al) s p := tabF_fix (T := fun _ => 0) (D8 m') s p q1 (by rw [e0]; exact hs') q3 q4 q5
    rw [fx]
    exact bst_alk a h8 hsp h2 ok hs' (bit_lt hs' q5)
  exact tab_uni (n := 2 ^ (dt h 0 0).toNat - 1) (by omega) hl hU (fun s p q1 q2 q3 q4 q5 => tabF_fix (T := fun _ => 0) h8 s p q1 (by omega) q3 q4 q5) s s (Nat.le_refl s) hs1 (by omega) ha p hp hb
theorem canV_eq {T U : Int → Int} {a b : Int} {al s : Nat} (e : ∀ p : Nat, p < 8 → s.testBit p = true → s &&& al = s → 1 ≤ s → T (8 * s + p) = U (8 * s + p)) : canV T a b al s = canV U a b al s := by
  unfold canV
  by_cases ha : s &&& al = s
  · have : lrV T a s = lrV U a s := by
      unfold lrV
      refine mnB_congr 8 (fun p hp hb => ?_)
      have h0 : s ≠ 0 := fun q => by rw [q, Nat.zero_testBit] at hb; exact absurd hb (by decide)
      exact e p hp hb ha (by omega)
    rw [this]
  · rw [if_neg (fun q => ha q.1), if_neg (fun q => ha q.1)]
/-- the sized parts laid out as it would be -/
def zH (h : Hp) (L : Lw) (k : Int) : Hp := sr (sr (sr (sr h 232 (fun j => if 8 ≤ j then szX (dt h) k (j - 8) else rd h 232 j)) 233 (fun j => if 8 ≤ j then szY (dt h) k (j - 8) else rd h 233 j)) 234 (fun j => if 8 ≤ j then szT (dt h) k (j - 8) else rd h 234 j)) 238 (fun j => if 4808 ≤ j then szN (dt h) L k (j / 601 - 8) (j % 601) else rd h 238 j)
theorem zH_ne {h : Hp} {L : Lw} {k a : Int} (ha : ¬ (a = 232 ∨ a = 233 ∨ a = 234 ∨ a = 238)) : rd (zH h L k) a = rd h a := by
  unfold zH
  rw [rd_sr_ne (by omega), rd_sr_ne (by omega), rd_sr_ne (by omega), rd_sr_ne (by omega)]
theorem zH_sh {h : Hp} (s : Sh h) (L : Lw) (k : Int) : Sh (zH h L k) := Sh_sr (Sh_sr (Sh_sr (Sh_sr s (by decide) (by decide)) (by decide) (by decide)) (by decide) (by decide)) (by decide) (by decide)
theorem zH_dt {h : Hp} {L : Lw} {k : Int} (i : Nat) (hi : ¬ (i = 6 ∨ i = 7 ∨ i = 8 ∨ i = 12)) : dt (zH h L k) i = dt h i := by
  have e : ∀ a : Int, ¬ (a = 232 ∨ a = 233 ∨ a = 234 ∨ a = 238) → rd (zH h L k) a = rd h a := fun a ha => zH_ne ha
  have e4 := e 194 (by decide)
  funext j
  unfold dt
  split <;> first | rw [e _ (by decide), e4] | rw [e _ (by decide)] | omega
theorem zH_6 (h : Hp) (L : Lw) (k j : Int) : dt (zH h L k) 6 j = if 8 ≤ j then szX (dt h) k (j - 8) else dt h 6 j := by
  show rd (zH h L k) 232 j = _
  unfold zH
  rw [rd_sr_ne (by decide), rd_sr_ne (by decide), rd_sr_ne (by decide), rd_sr]
  rfl
theorem zH_7 (h : Hp) (L : Lw) (k j : Int) : dt (zH h L k) 7 j = if 8 ≤ j then szY (dt h) k (j - 8) else dt h 7 j := by
  show rd (zH h L k) 233 j = _
  unfold zH
  rw [rd_sr_ne (by decide), rd_sr_ne (by decide), rd_sr]
  rfl
theorem zH_8 (h : Hp) (L : Lw) (k j : Int) : dt (zH h L k) 8 j = if 8 ≤ j then szT (dt h) k (j - 8) else dt h 8 j := by
  show rd (zH h L k) 234 j = _
  unfold zH
  rw [rd_sr_ne (by decide), rd_sr]
  rfl
theorem zH_12 (h : Hp) (L : Lw) (k j : Int) : dt (zH h L k) 12 j = if 4808 ≤ j then szN (dt h) L k (j / 601 - 8) (j % 601) else dt h 12 j := by
  show rd (zH h L k) 238 j = _
  unfold zH
  rw [rd_sr]
  rfl
theorem zH_12p {h : Hp} {L : Lw} {k p m : Int} (hp : 0 ≤ p) (hm : 0 ≤ m ∧ m < 600) : dt (zH h L k) 12 (601 * (8 + p) + m) = szN (dt h) L k p m := by
  rw [zH_12, if_pos (by omega), show (601 * (8 + p) + m) / 601 - 8 = p by omega, show (601 * (8 + p) + m) % 601 = m by omega]
/-- ranges of the parts' own rows hold if these rows are as they were -/
theorem Dok_rows {h h' : Hp} (d : Dok (dt h)) (e : ∀ k : Nat, (k < 6 ∨ k = 14) → dt h' k = dt h k) (e6 : ∀ p, p < 8 → dt h' 6 p = dt h 6 p ∧ dt h' 7 p = dt h 7 p ∧ dt h' 8 p = dt h 8 p) (e10 : ∀ j, j < 4800 → dt h' 10 j = dt h 10 j) (e12 : ∀ j, j < 4808 → dt h' 12 j = dt h 12 j) : Dok (dt h') := by
  obtain ⟨d0, d1, d2, d3, d4, d6, d10, d12, d14⟩ := d
  unfold Dok
  rw [e 0 (by decide), e 1 (by decide), e 2 (by decide), e 3 (by decide), e 4 (by decide), e 5 (by decide), e 14 (by decide)]
  refine ⟨d0, d1, d2, d3, d4, fun p p0 p1 => ?_, fun p m p0 p1 m0 m1 => ?_, fun p m p0 p1 m0 m1 => ?_, d14⟩
  · obtain ⟨a, b, c⟩ := e6 p (by omega)
    rw [a, b, c]; exact d6 p p0 p1
  · rw [e10 _ (by omega)]; exact d10 p m p0 p1 m0 m1
  · rw [e12 _ (by omega), (e6 p (by omega)).2.2]; exact d12 p m p0 p1 m0 m1
theorem zH_Mo {h : Hp} (m : Mo h) (L : Lw) (k : Int) : Mo (zH h L k) := by
  refine ⟨zH_sh m.1 L k, by rw [zH_ne (by decide)]; exact m.2.1, Dok_rows m.2.2 (fun i hi => zH_dt i (by omega)) (fun p hp => ?_) (fun j hj => by rw [zH_dt 10 (by decide)]) (fun j hj => by rw [zH_12, if_neg (by omega)])⟩
  rw [zH_6, zH_7, zH_8, if_neg (by omega), if_neg (by omega), if_neg (by omega)]
  exact ⟨rfl, rfl, rfl⟩
/-- how the rows of a worker start at his place -/
def lgG (D : Nat → Int → Int) (w : Int) (k : Nat) : Int := match k with | 0 => D 4 w | 1 => D 5 w | 2 => 0 | 3 => 8 | _ => 0
theorem sz_ok {D : Nat → Int → Int} {L : Lw} {k p : Int} (tx : Tex D) (hk : 1 ≤ k ∧ k ≤ 16) (hp : 0 ≤ p ∧ p < D 0 0) : (-1000 ≤ szX D k p ∧ szX D k p ≤ 1000) ∧ (-1000 ≤ szY D k p ∧ szY D k p ≤ 1000) ∧ (1 ≤ szT D k p ∧ szT D k p ≤ 250) ∧ ∀ m, 0 ≤ m → m < 600 → szN D L k p m = -2 ∨ (0 ≤ szN D L k p m ∧ szN D L k p m + szT D k p ≤ 600) := by
  obtain ⟨t22, t23, -, t16⟩ := tx.2.2.1 p hp.1 hp.2
  obtain ⟨-, -, t20, t21, -⟩ := tx.2.2.2.2
  have zx := sz_in (x := D 22 p - D 20 0) (k := k) (by omega) hk
  have zy := sz_in (x := D 23 p - D 21 0) (k := k) (by omega) hk
  have zt := szT_in (t := D 16 p) (k := k) t16 hk
  refine ⟨by unfold szX; omega, by unfold szY; omega, by unfold szT; omega, fun m m0 m1 => ?_⟩
  unfold szN nxI
  rw [if_neg (by omega)]
  have := nxK_in (frI (D 13) (hgV L (szX D k p) (szY D k p))) (a := D 17 0) (b := D 18 0) (t := szT D k p) (by unfold szT; omega) (599 - m).toNat
  omega
/-- sized rows are in order -/
theorem Qok_sz {h h' : Hp} {L : Lw} {k : Int} (tx : Tex (dt h)) (hk : 1 ≤ k ∧ k ≤ 16) (e0 : dt h' 0 0 = dt h 0 0) (z : ∀ p, 0 ≤ p → p < dt h 0 0 → dt h' 6 (8 + p) = szX (dt h) k p ∧ dt h' 7 (8 + p) = szY (dt h) k p ∧ dt h' 8 (8 + p) = szT (dt h) k p ∧ ∀ m, 0 ≤ m → m < 600 → dt h' 12 (601 * (8 + p) + m) = szN (dt h) L k p m) : Qok (dt h') 8 := by
  refine ⟨Or.inr rfl, fun p p0 p1 => ?_⟩
  rw [e0] at p1
  obtain ⟨z1, z2, z3, z4⟩ := z p p0 p1
  obtain ⟨a, b, c, d⟩ := sz_ok (L := L) tx hk ⟨p0, p1⟩
  rw [z1, z2, z3]
  refine ⟨a, b, c, fun m m0 m1 => ?_⟩
  rw [z4 m m0 m1]
  exact d m m0 m1
