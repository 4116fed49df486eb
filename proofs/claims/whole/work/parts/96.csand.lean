/-! the class's sands and workers -/
theorem fr_cov (T : Int → Int) (g : Int) : ∀ (b : Nat) (a : Int), 0 ≤ a → a ≤ b → (frN T g b ≤ (b : Int) - a ↔ ∃ m : Int, a ≤ m ∧ m ≤ b ∧ frI T g m = 0)
  | 0, a, h0, h1 => by
    have ea : a = 0 := by omega
    subst ea
    have e : frI T g 0 = frN T g 0 := rfl
    have := frN_in T g 0
    constructor
    · intro h
      exact ⟨0, Int.le_refl _, by omega, by rw [e]; omega⟩
    · rintro ⟨m, m1, m2, m3⟩
      have : m = 0 := by omega
      subst this
      rw [e] at m3; omega
  | b + 1, a, h0, h1 => by
    have e : frI T g ((b + 1 : Nat) : Int) = frN T g (b + 1) := by unfold frI; rw [Int.toNat_natCast]
    have st : frN T g (b + 1) = if T ((b + 1 : Nat) : Int) < g then frN T g b + 1 else 0 := rfl
    have hb := frN_in T g b
    by_cases c : T ((b + 1 : Nat) : Int) < g
    · rw [if_pos c] at st
      by_cases ab : a ≤ b
      · have ih := fr_cov T g b a h0 ab
        constructor
        · intro h
          obtain ⟨m, m1, m2, m3⟩ := ih.mp (by omega)
          exact ⟨m, m1, by omega, m3⟩
        · rintro ⟨m, m1, m2, m3⟩
          have : m ≠ ((b + 1 : Nat) : Int) := fun q => by rw [q, e] at m3; omega
          have := ih.mpr ⟨m, m1, by omega, m3⟩
          omega
      · constructor
        · intro h; omega
        · rintro ⟨m, m1, m2, m3⟩
          have : m = ((b + 1 : Nat) : Int) := by omega
          rw [this, e] at m3; omega
    · rw [if_neg c] at st
      exact ⟨fun _ => ⟨((b + 1 : Nat) : Int), h1, Int.le_refl _, by rw [e, st]⟩, fun _ => by omega⟩
def vA (h : Hp) (a n : Int) : Prop := (254 ≤ a ∧ vo h a 0) ∧ hln h a = n
/-- a sand as the rows of a day tell it -/
def SdE (h : Hp) (a : Int) (D : Nat → Int → Int) (q : Int) : Prop := isSd a ∧ rd h a 0 = D 6 q ∧ rd h a 1 = D 7 q ∧ rd h a 3 = D 8 q ∧ vA h (rd h a 5) 600 ∧ ∀ m, 0 ≤ m → m < 600 → rd h (rd h a 5) m = D 12 (601 * q + m)
def SdF (h : Hp) (a : Int) (D : Nat → Int → Int) (q : Int) : Prop := rd h a 2 = D 9 q ∧ vA h (rd h a 4) 600 ∧ ∀ m, 0 ≤ m → m < 600 → rd h (rd h a 4) m = D 10 (600 * q + m)
theorem c_startFrom {F : Nat} {h : Hp} {a q m : Int} {D : Nat → Int → Int} (s : Sh h) (e : SdE h a D q) (hm : 0 ≤ m) : Sand_startFrom F a m h = some (nxD D q m, h) := by
  obtain ⟨ha, -, -, -, ⟨⟨-, v1⟩, v2⟩, e5⟩ := e
  unfold Sand_startFrom nxD
  rw [if_neg (by omega), gA s ha, aln_ok v1 v2]
  by_cases c : m < 600
  · rw [if_pos c, if_neg (by omega), gA s ha, al_ok v1 v2 hm c, e5 m hm c]
  · rw [if_neg c, if_pos (by omega)]
theorem c_freeFor {F : Nat} {h : Hp} {a q m : Int} {D : Nat → Int → Int} (s : Sh h) (ha : isSd a) (e : SdF h a D q) (hm : 0 ≤ m) : Sand_freeFor F a m h = some (if m < 600 then D 10 (600 * q + m) else 0, h) := by
  obtain ⟨-, ⟨⟨-, v1⟩, v2⟩, e5⟩ := e
  unfold Sand_freeFor
  rw [if_neg (by omega), gA s ha, aln_ok v1 v2]
  by_cases c : m < 600
  · rw [if_pos c, if_pos c, gA s ha, al_ok v1 v2 hm c, e5 m hm c]
  · rw [if_neg c, if_neg c]
/-- washed: as the reference has it, in the day -/
theorem c_washed {F : Nat} {h : Hp} {a q m dn : Int} {D : Nat → Int → Int} {g : Int} (s : Sh h) (ha : isSd a) (e : SdF h a D q) (hm : 0 ≤ m ∧ m < 600) (hd : 0 ≤ dn ∧ dn ≤ 600) (hf : ∀ m, 0 ≤ m → m < 600 → D 10 (600 * q + m) = frI (D 13) g m) : Sand_washed F a dn m h = some (if covD D q dn m then 1 else 0, h) := by
  have fr := frN_in (D 13) g m.toNat
  have ev : D 10 (600 * q + m) = frN (D 13) g m.toNat := by rw [hf m hm.1 hm.2]; rfl
  unfold Sand_washed
  rw [ivA s ha, c_freeFor s ha e hm.1, cl_some, if_pos hm.2, ev, w32_id (x := m - dn) (by omega) (by omega)]
  by_cases c : dn ≤ m
  · have k := fr_cov (D 13) g m.toNat dn hd.1 (by omega)
    rw [Int.toNat_of_nonneg hm.1] at k
    by_cases c2 : frN (D 13) g m.toNat ≤ m - dn
    · obtain ⟨x, x1, x2, x3⟩ := k.mp c2
      rw [if_neg (by omega), if_pos (covD_iff.mpr ⟨x, x1, x2, by omega, by rw [hf x (by omega) (by omega)]; exact x3⟩)]
      rfl
    · rw [if_pos (by omega), if_neg (fun q => ?_)]
      · rfl
      · obtain ⟨x, x1, x2, x3, x4⟩ := covD_iff.mp q
        exact c2 (k.mpr ⟨x, x1, x2, by rw [← hf x (by omega) x3]; exact x4⟩)
  · rw [if_pos (by omega), if_neg (fun q => ?_)]
    · rfl
    · obtain ⟨x, x1, x2, -⟩ := covD_iff.mp q
      omega
theorem c_far {F : Nat} {h : Hp} {x y u v : Int} (hx : -1000 ≤ x ∧ x ≤ 1000) (hy : -1000 ≤ y ∧ y ≤ 1000) (hu : -1000 ≤ u ∧ u ≤ 1000) (hv : -1000 ≤ v ∧ v ≤ 1000) : Tide_far F x y u v h = some (awayI x y u v, h) := by
  have ab : ∀ a b : Int, (-1000 ≤ a ∧ a ≤ 1000) → (-1000 ≤ b ∧ b ≤ 1000) → iabs (w32 (a - b)) = if a < b then b - a else a - b := by
    intro a b ha hb
    rw [w32_id (by omega) (by omega)]
    unfold iabs
    split
    · split <;> omega
    · rw [w32_id (by omega) (by omega)]
      split <;> omega
  have aw := awayI_in hx hy hu hv
  unfold Tide_far
  rw [ab x u hx hu, ab y v hy hv, lt_eq, lt_eq]
  unfold awayI at aw ⊢
  rw [w32_id (by omega) (by omega)]
theorem c_roundedUp {F : Nat} {h : Hp} {w b : Int} (hw : 0 ≤ w ∧ w ≤ 100000) (hb : 1 ≤ b ∧ b ≤ 1000) : Tide_roundedUp F w b h = some ((w + b - 1) / b, h) := by
  unfold Tide_roundedUp
  have h1 : 0 ≤ (w + b - 1) / b := Int.ediv_nonneg (by omega) (by omega)
  have h2 : (w + b - 1) / b ≤ w + b - 1 := Int.ediv_le_self _ (by omega)
  rw [if_pos (by omega), w32_id (x := w + b) (by omega) (by omega), w32_id (x := w + b - 1) (by omega) (by omega), dv_ok (by omega), Int.tdiv_eq_ediv_of_nonneg (by omega), w32_id (by omega) (by omega)]
/-- a worker's place -/
def WkE (h : Hp) (a x y sp rdy rkd : Int) : Prop := isWk a ∧ rd h a 0 = x ∧ rd h a 1 = y ∧ rd h a 2 = sp ∧ rd h a 3 = rdy ∧ rd h a 4 = rkd
theorem c_comesTo {F : Nat} {h : Hp} {a b q x y sp rdy rkd : Int} {D : Nat → Int → Int} (s : Sh h) (w : WkE h a x y sp rdy rkd) (e : SdE h b D q) (hs : 1 ≤ sp ∧ sp ≤ 20) (hx : -1000 ≤ x ∧ x ≤ 1000) (hy : -1000 ≤ y ∧ y ≤ 1000) (hr : 0 ≤ rdy ∧ rdy ≤ 100000) (h6 : -1000 ≤ D 6 q ∧ D 6 q ≤ 1000) (h7 : -1000 ≤ D 7 q ∧ D 7 q ≤ 1000) : Walk_comesTo F a b h = some (rdy + wayI sp x y (D 6 q) (D 7 q), h) := by
  obtain ⟨ha, w0, w1, w2, w3, w4⟩ := w
  obtain ⟨hb, e0, e1, -⟩ := e
  have aw := awayI_in hx hy h6 h7
  have wy := wayI_in hs.1 hs.2 hx hy h6 h7
  unfold Walk_comesTo
  rw [gW s ha, gW s ha, gW s ha, gA s hb, gA s hb, w3, w0, w1, e0, e1, c_far hx hy h6 h7, cl_some, gW s ha, w2, c_roundedUp (by omega) (by omega), cl_some]
  unfold wayI at wy ⊢
  rw [w32_id (by omega) (by omega)]
/-- the class's text and day, as the reference has them -/
def CxE (h : Hp) (c : Int) (D : Nat → Int → Int) : Prop := isSc c ∧ rd h c 4 = D 0 0 ∧ rd h c 8 = D 1 0 ∧ (∀ p, 0 ≤ p → p < D 0 0 → rd h (c + 1) p = D 22 p ∧ rd h (c + 2) p = D 23 p ∧ rd h (c + 3) p = D 2 p ∧ rd h (c + 4) p = D 16 p) ∧ (∀ w, 0 ≤ w → w < D 1 0 → rd h (c + 5) w = D 4 w ∧ rd h (c + 6) w = D 5 w ∧ rd h (c + 7) w = D 3 w) ∧ rd h c 9 = D 17 0 ∧ rd h c 10 = D 18 0 ∧ rd h c 11 = D 20 0 ∧ rd h c 12 = D 21 0 ∧ rd h c 13 = D 19 0
def CD (h : Hp) (D : Nat → Int → Int) : Prop := CxE h (rd h 22 0) D ∧ (∀ m, 0 ≤ m → m < 600 → rd h 36 m = D 13 m ∧ rd h 37 m = D 14 m) ∧ (∀ p, 0 ≤ p → p < D 0 0 → SdE h (42 + 3 * p) D p ∧ SdF h (42 + 3 * p) D p ∧ ∀ m, 0 ≤ m → m < 600 → D 10 (600 * p + m) = frI (D 13) (D 9 p) m) ∧ ∀ s : Nat, s < 2 ^ (D 0 0).toNat → rd h 39 s = wbV D s
/-- how things stand, in a stand -/
def StE (h : Hp) (b : Int) (D : Nat → Int → Int) (N : Int → Int) : Prop := isSt b ∧ (∀ w, 0 ≤ w → w < D 1 0 → WkE h (b + 9 + w) (N (32 + w)) (N (35 + w)) (D 3 w) (N (38 + w)) (N (41 + w))) ∧ (∀ p, 0 ≤ p → p < 8 → rd h (b + 2) p = N p ∧ rd h (b + 3) p = (if N (16 + p) = -2 then 0 else N (16 + p)) ∧ rd h (b + 4) p = N (24 + p) ∧ rd h (b + 5) p = N (8 + p)) ∧ rd h b 8 = N 44 ∧ ∀ i, 0 ≤ i → i < N 44 → i < 30 → rd h (b + 6) i = N (45 + 3 * i) ∧ rd h (b + 7) i = N (46 + 3 * i) ∧ rd h (b + 8) i = N (47 + 3 * i)
/-- a row is in order: as Rok, and its marks -/
def Rgd (D : Nat → Int → Int) (N : Int → Int) : Prop := Rok D N ∧ ∀ p, 0 ≤ p → p < 8 → (N (8 + p) = 0 ∨ N (8 + p) = 1) ∧ (N (16 + p) = -2 ∨ (0 ≤ N (16 + p) ∧ N (16 + p) ≤ 600))
theorem c_wouldBeDone {F : Nat} {h : Hp} {b w p : Int} {D : Nat → Int → Int} {N : Int → Int} (s : Sh h) (dk : Dok D) (cd : CD h D) (st : StE h b D N) (rg : Rgd D N) (hw : 0 ≤ w ∧ w < D 1 0) (hp : 0 ≤ p ∧ p < D 0 0) : Stan_wouldBeDone F b 22 w p h = some (sndV D N w p, h) := by
  obtain ⟨hb, sw, sp, -⟩ := st
  have hw3 := dk.2.1
  have hp8 := dk.1
  obtain ⟨r1, r2, r3, r4, r5, r6⟩ := rg.1.1 w hw.1 hw.2
  have rp := rg.1.2 p hp.1 (by omega)
  obtain ⟨d1, d2, d3, d4, d5, d6⟩ := dk.2.2.2.2.2.1 p hp.1 hp.2
  have hs := dk.2.2.2.1 w hw.1 hw.2
  obtain ⟨se, sf, fr⟩ := cd.2.2.1 p hp.1 hp.2
  have wk := sw w hw.1 hw.2
  have wy := wayI_in hs.1 hs.2 ⟨r1, r2⟩ ⟨r3, r4⟩ ⟨d1, d2⟩ ⟨d3, d4⟩
  have hc := c_comesTo (F := F) s wk se hs ⟨r1, r2⟩ ⟨r3, r4⟩ (by omega) ⟨d1, d2⟩ ⟨d3, d4⟩
  have ec : N (38 + w) + wayI (D 3 w) (N (32 + w)) (N (35 + w)) (D 6 p) (D 7 p) = comeR D N w p := rfl
  rw [ec] at hc
  have c0 : 0 ≤ comeR D N w p ∧ comeR D N w p ≤ 7000 := by unfold comeR; omega
  have isd : isSd (42 + 3 * p) := ⟨p, hp.1, by omega, Or.inl rfl⟩
  have iwk : isWk (b + 9 + w) := stWk hb (by omega)
  have nx : nxD D p (comeR D N w p) = -2 ∨ (comeR D N w p ≤ nxD D p (comeR D N w p) ∧ nxD D p (comeR D N w p) + D 8 p ≤ 600) := by
    unfold nxD
    split
    · exact Or.inl rfl
    · exact dk.2.2.2.2.2.2.2.1 p _ hp.1 hp.2 c0.1 (by omega)
  have B : ∀ r : Int, r = (if nxD D p (comeR D N w p) < 0 then -2 else nxD D p (comeR D N w p) + D 8 p) → Stan_wouldBeDone_B49 F (42 + 3 * p) (comeR D N w p) h = some (r, h) := by
    intro r er
    unfold Stan_wouldBeDone_B49
    rw [ivA s isd, c_startFrom s se c0.1, cl_some, er]
    by_cases c : nxD D p (comeR D N w p) < 0
    · rw [if_pos c, if_pos c]
    · rw [if_neg c, if_neg c, gA s isd, se.2.2.2.1, w32_id (by omega) (by omega)]
  unfold Stan_wouldBeDone
  rw [gH3 s, aH3 s hp.1 (by omega), gS0 s hb, aS0 s hb hw.1 (by omega), ivW s iwk, hc, cl_some, gS1 s hb, aS1 s hb hp.1 (by omega), (sp p hp.1 (by omega)).1]
  unfold sndV
  by_cases dn : N p = -2
  · rw [if_pos (by omega), if_neg (fun q => q.1 dn)]
    exact B _ rfl
  · rw [if_neg (by omega), gS1 s hb, aS1 s hb hp.1 (by omega), (sp p hp.1 (by omega)).1, ivA s isd]
    by_cases c6 : comeR D N w p < 600
    · rw [c_washed s isd sf ⟨c0.1, c6⟩ (by omega) fr, cl_some]
      by_cases cv : covD D p (N p) (comeR D N w p) = true
      · rw [if_pos cv, if_neg (by decide), if_neg (fun q => by rw [cv] at q; exact absurd q.2 (by decide))]
        exact B _ rfl
      · have cf : covD D p (N p) (comeR D N w p) = false := by simpa using cv
        rw [if_neg cv, if_pos rfl, if_pos ⟨dn, cf⟩]
    · -- behind the day nothing can be done, whatever was washed
      have n2 : nxD D p (comeR D N w p) = -2 := by unfold nxD; rw [if_pos (by omega)]
      have wz : Sand_washed F (42 + 3 * p) (N p) (comeR D N w p) h = some (1, h) := by
        unfold Sand_washed
        rw [ivA s isd, c_freeFor s isd sf c0.1, cl_some, if_neg c6, w32_id (by omega) (by omega), if_neg (by omega)]
        rfl
      rw [wz, cl_some, if_neg (by decide), B (-2) (by rw [n2]; rfl), n2]
      split
      · rfl
      · rfl
