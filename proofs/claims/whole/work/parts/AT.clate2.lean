/-! late, alike -/
def Xa (b : Int) : Prop := 143 ≤ b ∧ b ≤ 154
def PA (h0 h : Hp) : Prop := FrX Xa h0 h ∧ (hsz h = hsz h0 ∧ hus h = hus h0 ∧ hkd h = hkd h0 ∧ hln h = hln h0)
theorem PA_tr {h0 h h1 : Hp} (a : PA h0 h) (f : FrX (fun b => 143 ≤ b ∧ b ≤ 154) h h1) (z : hsz h1 = hsz h ∧ hus h1 = hus h ∧ hkd h1 = hkd h ∧ hln h1 = hln h) : PA h0 h1 := ⟨FrX_trans a.1 (FrX_mono (fun b hb => hb) f), ⟨z.1.trans a.2.1, z.2.1.trans a.2.2.1, z.2.2.1.trans a.2.2.2.1, z.2.2.2.trans a.2.2.2.2⟩⟩
theorem PA_CD {n : Int} {h0 h : Hp} {Λ : Nat → Lw} (j : JJ n h0 Λ) (q : PA h0 h) : CD h (dt h0) := CD_X (jD j).1.2 q.1 (fun b hb => by unfold Xa at hb; omega) (jCD j)
theorem PA_St {n : Int} {h0 h : Hp} {Λ : Nat → Lw} (j : JJ n h0 Λ) (q : PA h0 h) : StE h 66 (dt h0) (rd h0 239) := StE_X (jD j).2.1.2 q.1 (fun a q1 q2 => by unfold Xa; omega) (jSt j)
theorem c_replay {F : Nat} {n w d : Int} {h0 h : Hp} {Λ : Nat → Lw} (hF : 6000 ≤ F) (j : JJ n h0 Λ) (q : PA h0 h) (hw : 0 ≤ w ∧ w < dt h0 1 0) (hd : 0 ≤ d ∧ d ≤ 600) (h30 : rd h0 239 44 ≤ 30) : ∃ h1 R', Told_replay F 139 22 66 w d h = some (0, h1) ∧ PA h0 h1 ∧ StE h1 143 (dt h0) R' ∧ Rgd (dt h0) R' ∧ Lo R' (soR h0 w d) := by
  have mo := jMo j
  have dk := jD j
  have rn := jRw j
  have s := q.1.1
  have cd := PA_CD j q
  have i143 : isSt 143 := by unfold isSt; omega
  have hw3 : 0 ≤ w ∧ w < 3 := by have := dk.2.1.2; omega
  obtain ⟨ha, b1, b2, b3⟩ := c_begin (F := F) (b := 143) (by omega) s i143 dk.2.1.2 cd.1
  have fa := FrX_FrS i143 b2
  have qa : PA h0 ha := PA_tr q fa b2.1
  have sa := b2.2.1
  have iwk : isWk (143 + 9 + w) := stWk i143 hw3
  have s1 : Sh (wr ha (143 + 9 + w) 3 d) := shOk sa (wk_ok iwk)
  have f1 : FrX (fun b => 143 ≤ b ∧ b ≤ 154) ha (wr ha (143 + 9 + w) 3 d) := FrX_wr sa (wk_ok iwk) (by omega) (by omega)
  have q1 : PA h0 (wr ha (143 + 9 + w) 3 d) := PA_tr qa f1 ⟨rfl, rfl, rfl, rfl⟩
  have stb : StE (wr ha (143 + 9 + w) 3 d) 143 (dt h0) (up (bgR (dt h0)) (38 + w) d) := by
    obtain ⟨g1, g2, g3, g4, g5⟩ := b3
    have h44 : up (bgR (dt h0)) (38 + w) d 44 = bgR (dt h0) 44 := up_n (by omega)
    refine ⟨g1, fun v v0 v1 => ?_, fun p p0 p1 => ?_, ?_, fun i i0 i1 i2 => ?_⟩
    · obtain ⟨y0, y1, y2, y3, y4, y5⟩ := g2 v v0 v1
      have hv3 : v < 3 := by have := dk.2.1.2; omega
      rw [up_n (show (32 : Int) + v ≠ 38 + w by omega), up_n (show (35 : Int) + v ≠ 38 + w by omega), up_n (show (41 : Int) + v ≠ 38 + w by omega)]
      by_cases c : v = w
      · subst c
        rw [up_s]
        exact ⟨y0, by rw [rd_i (by decide)]; exact y1, by rw [rd_i (by decide)]; exact y2, by rw [rd_i (by decide)]; exact y3, rd_same _ _ _ _, by rw [rd_i (by decide)]; exact y5⟩
      · rw [up_n (show (38 : Int) + v ≠ 38 + w by omega)]
        have e : rd (wr ha (143 + 9 + w) 3 d) (143 + 9 + v) = rd ha (143 + 9 + v) := rd_wr_ne (by omega)
        exact ⟨y0, by rw [e]; exact y1, by rw [e]; exact y2, by rw [e]; exact y3, by rw [e]; exact y4, by rw [e]; exact y5⟩
    · rw [up_n (by omega), up_n (by omega), up_n (by omega), up_n (by omega), rd_wr_ne (by omega), rd_wr_ne (by omega), rd_wr_ne (by omega), rd_wr_ne (by omega)]
      exact g3 p p0 p1
    · rw [h44, rd_wr_ne (by omega)]; exact g4
    · rw [h44, (bg_at dk.2.1.2).2] at i1; omega
  have rnb : RwN 0 (dt h0) (up (bgR (dt h0)) (38 + w) d) := by
    obtain ⟨⟨y1, y2⟩, y3, y4, y5, y6⟩ := RwN_bg mo
    refine ⟨⟨Rok_late mo hw hd, fun p p0 p1 => ?_⟩, fun i i1 => ?_, fun i i1 => ?_, ?_, fun p p0 p1 => ?_⟩
    · rw [up_n (by omega), up_n (by omega)]; exact y2 p p0 p1
    · rw [up_n (by omega), (bg_at dk.2.1.2).2] at i1; omega
    · rw [up_n (by omega), (bg_at dk.2.1.2).2] at i1; omega
    · rw [up_n (by omega)]; exact y5
    · have := dk.1.1
      rw [up_n (by omega), up_n (by omega)]; exact y6 p p0 p1
  have st66 := PA_St j q1
  have e8 : rd (wr ha (143 + 9 + w) 3 d) 66 8 = rd h0 239 44 := st66.2.2.2.1
  have b44 := rn.2.2.2.1
  have start : Told_replay F 139 22 66 w d h = Told_replay_L39 F F 139 22 66 (rd h0 239 44) 0 (wr ha (143 + 9 + w) 3 d) := by
    unfold Told_replay
    have em : imin (rd h0 239 44) 30 = rd h0 239 44 := by unfold imin; split <;> omega
    rw [gD3 s, gH0 s, ivS s i143, b1, cl_some, gD3 sa, gS0 sa i143, aS0 sa i143 hw3.1 hw3.2, pW sa iwk, gS8 s1 (Or.inl rfl), e8, lt_eq, em]
  rw [start]
  generalize wr ha (143 + 9 + w) 3 d = hb at *
  have key := loopE (fun N i g => Told_replay_L39 F N 139 22 66 (rd h0 239 44) (i : Nat) g) (rd h0 239 44).toNat (fun i g => PA h0 g ∧ ∃ R', StE g 143 (dt h0) R' ∧ RwN i (dt h0) R' ∧ Lo R' (rpR (dt h0) (up (bgR (dt h0)) (38 + w) d) (rd h0 239) i)) (fun z => ∃ h1 R', z = some (0, h1) ∧ PA h0 h1 ∧ StE h1 143 (dt h0) R' ∧ Rgd (dt h0) R' ∧ Lo R' (soR h0 w d)) (fun N i g hi P => Or.inl ?_) (fun N g P => ?_) (rd h0 239 44).toNat F 0 hb (by omega) (by omega) ⟨q1, _, stb, rnb, fun i _ _ => rfl⟩
  · exact key
  · obtain ⟨p1, R', p2, p3, p4⟩ := P
    have sg := p1.1.1
    have cdg := PA_CD j p1
    have stg := PA_St j p1
    have hiN : (i : Int) < rd h0 239 44 := by omega
    have hi30 : i < 30 := by omega
    obtain ⟨x1, x2⟩ := rn.2.1 i hiN hi30
    have x3 := rn.2.2.1 i hiN hi30
    obtain ⟨y1, y2, y3⟩ := stg.2.2.2.2 i (by omega) hiN (by omega)
    obtain ⟨r1, r2, r3⟩ := c_again (F := F) (w := rd h0 239 (46 + 3 * i)) mo sg cdg p2 p3 (by omega) p4 x2
    have rp : rpR (dt h0) (up (bgR (dt h0)) (38 + w) d) (rd h0 239) (i + 1) = actS (dt h0) (rpR (dt h0) (up (bgR (dt h0)) (38 + w) d) (rd h0 239) i) (rd h0 239 (45 + 3 * i)) (rd h0 239 (46 + 3 * i)) (rd h0 239 (47 + 3 * i)) := rfl
    have i6 : 0 ≤ (i : Int) ∧ (i : Int) < 30 := by omega
    have z5 : ∀ f, al g (66 + 6) 0 (i : Nat) f = f (rd h0 239 (45 + 3 * i)) := fun f => by rw [aS5 sg (Or.inl rfl) i6.1 i6.2, y1]
    have z6 : ∀ f, al g (66 + 7) 0 (i : Nat) f = f (rd h0 239 (46 + 3 * i)) := fun f => by rw [aS6 sg (Or.inl rfl) i6.1 i6.2, y2]
    have z7 : ∀ f, al g (66 + 8) 0 (i : Nat) f = f (rd h0 239 (47 + 3 * i)) := fun f => by rw [aS7 sg (Or.inl rfl) i6.1 i6.2, y3]
    have wn : w32 ((i : Int) + 1) = ((i + 1 : Nat) : Int) := w32_nat (by omega)
    have cast : ((i : Nat) : Int) + 1 = ((i + 1 : Nat) : Int) := by omega
    have un : ∀ h', (rd h0 239 (45 + 3 * i) = 0 → ∃ v, Stan_rake F 143 22 (rd h0 239 (46 + 3 * i)) (rd h0 239 (47 + 3 * i)) g = some (v, h')) → (rd h0 239 (45 + 3 * i) = 1 → ∃ v, Stan_strike F 143 (rd h0 239 (47 + 3 * i)) g = some (v, h')) → (rd h0 239 (45 + 3 * i) = 2 → ∃ v, Stan_repair F 143 22 (rd h0 239 (46 + 3 * i)) (rd h0 239 (47 + 3 * i)) g = some (v, h')) → Told_replay_L39 F (N + 1) 139 22 66 (rd h0 239 44) (i : Nat) g = Told_replay_L39 F N 139 22 66 (rd h0 239 44) ((i + 1 : Nat) : Int) h' := fun h' k0 k1 k2 => by
      show Told_replay_L39s F (Told_replay_L39 F N) 139 22 66 (rd h0 239 44) (i : Nat) g = _
      unfold Told_replay_L39s
      rw [if_pos hiN, gS6 sg (Or.inl rfl), z6, gS7 sg (Or.inl rfl), z7, gS5 sg (Or.inl rfl), z5, wn]
      rcases x3 with e | e | e
      · obtain ⟨v, kv⟩ := k0 e
        rw [if_pos e, gD3 sg, ivS sg i143, kv, cl_some]
      · obtain ⟨v, kv⟩ := k1 e
        rw [if_neg (by omega), gS5 sg (Or.inl rfl), z5, if_pos e, gD3 sg, ivS sg i143, kv, cl_some]
      · obtain ⟨v, kv⟩ := k2 e
        rw [if_neg (by omega), gS5 sg (Or.inl rfl), z5, if_neg (by omega), gD3 sg, ivS sg i143, kv, cl_some]
    rcases x3 with e | e | e
    · obtain ⟨h', v, R'', t1, t2, t3, t4, t5, t6⟩ := r1 (x1.resolve_left (by omega))
      exact ⟨h', ⟨PA_tr p1 t2 t3, R'', t4, by rw [← cast]; exact t5, by rw [rp, e]; exact t6⟩, un h' (fun _ => ⟨v, t1⟩) (fun z => by omega) (fun z => by omega)⟩
    · obtain ⟨h', v, R'', t1, t2, t3, t4, t5, t6⟩ := r2
      exact ⟨h', ⟨PA_tr p1 t2 t3, R'', t4, by rw [← cast]; exact t5, by rw [rp, e]; exact t6⟩, un h' (fun z => by omega) (fun _ => ⟨v, t1⟩) (fun z => by omega)⟩
    · obtain ⟨h', v, R'', t1, t2, t3, t4, t5, t6⟩ := r3 (x1.resolve_left (by omega))
      exact ⟨h', ⟨PA_tr p1 t2 t3, R'', t4, by rw [← cast]; exact t5, by rw [rp, e]; exact t6⟩, un h' (fun z => by omega) (fun z => by omega) (fun _ => ⟨v, t1⟩)⟩
  · obtain ⟨p1, R', p2, p3, p4⟩ := P
    refine ⟨g, R', ?_, p1, p2, p3.1, p4⟩
    show Told_replay_L39s F (Told_replay_L39 F N) 139 22 66 (rd h0 239 44) (((rd h0 239 44).toNat : Nat) : Int) g = _
    unfold Told_replay_L39s
    rw [if_neg (by omega)]
theorem c_agrees {F : Nat} {n : Int} {h0 h : Hp} {Λ : Nat → Lw} {R' R : Int → Int} {k : Nat} (hF : 6000 ≤ F) (j : JJ n h0 Λ) (q : PA h0 h) (st : StE h 143 (dt h0) R') (rg : Rgd (dt h0) R') (lo : Lo R' R) (hk : (k : Int) ≤ rd h0 194 80) : Told_agrees F 139 22 k h = some (if alN (sayD h0 R) k then 1 else 0, h) := by
  have dk := jD j
  have s := q.1.1
  have cd := PA_CD j q
  obtain ⟨⟨t1, t2⟩, t3⟩ := j.2.1.2.2.2.2.2.2
  have td := j.1.2.2.2.2.2.2.2.1
  have e : ∀ a, a = 139 ∨ a = 140 ∨ a = 141 ∨ a = 142 → rd h a = rd h0 a := fun a ha => q.1.2.2.2.1 a (by omega) (by unfold Xa; omega)
  have em : imin (k : Int) (rd h0 194 80) = k := by unfold imin; split <;> omega
  have main : ∀ (d N i : Nat), i + d = k → d < N → alN (sayD h0 R) i = true → Told_agrees_L12 F N 139 22 (k : Nat) (i : Nat) h = some (if alN (sayD h0 R) k then 1 else 0, h) := by
    intro d
    induction d with
    | zero =>
      intro N i hi hN ha
      obtain ⟨N, rfl⟩ : ∃ m, N = m + 1 := ⟨N - 1, by omega⟩
      have ei : i = k := by omega
      subst ei
      show Told_agrees_L12s F (Told_agrees_L12 F N) 139 22 (i : Nat) (i : Nat) h = _
      unfold Told_agrees_L12s
      rw [if_neg (by omega), if_pos ha, rz_1]
    | succ d ih =>
      intro N i hi hN ha
      obtain ⟨N, rfl⟩ : ∃ m, N = m + 1 := ⟨N - 1, by omega⟩
      obtain ⟨y1, y2, y3, y4⟩ := t3 i (by omega) (by omega)
      obtain ⟨z1, z2⟩ := td i (by omega) (by omega)
      have hp8 : 0 ≤ rd h0 249 i ∧ rd h0 249 i < 8 := by have := dk.1.2; omega
      have vis := c_isVisible (F := F) s dk cd st rg z1 y4
      rw [Lo_seen lo hp8] at vis
      have b20 : 0 ≤ (i : Int) ∧ (i : Int) < 20 := by omega
      have es : alN (sayD h0 R) (i + 1) = (alN (sayD h0 R) i && sayD h0 R i) := rfl
      have wn : w32 ((i : Int) + 1) = ((i + 1 : Nat) : Int) := w32_nat (by omega)
      show Told_agrees_L12s F (Told_agrees_L12 F N) 139 22 (k : Nat) (i : Nat) h = _
      unfold Told_agrees_L12s
      rw [if_pos (by omega), gD3 s, gD0 s, aD0 s b20.1 b20.2, gD1 s, aD1 s b20.1 b20.2, e 140 (by omega), e 141 (by omega), y1, y2, ivS s st.1, vis, cl_some, gD2 s, aD2 s b20.1 b20.2, e 142 (by omega), y3, wn]
      by_cases c : (if seenD (dt h0) R (rd h0 249 i) (rd h0 250 i) = true then (1 : Int) else 0) = rd h0 251 i
      · rw [if_pos c]
        refine ih N (i + 1) (by omega) (by omega) ?_
        rw [es, ha, Bool.true_and]
        exact decide_eq_true c
      · rw [if_neg c, rz_0]
        have f : sayD h0 R i = false := decide_eq_false c
        rw [alN_f f k (by omega)]
        rfl
  unfold Told_agrees
  rw [gD4 s, e 139 (by omega), t1, lt_eq, em]
  exact main k F 0 (by omega) (by omega) rfl
theorem c_wayI {F : Nat} {n w i : Int} {k : Nat} {h0 : Hp} {Λ : Nat → Lw} (hF : 6000 ≤ F) (j : JJ n h0 Λ) (hw : 0 ≤ w ∧ w < dt h0 1 0) (h30 : rd h0 239 44 ≤ 30) (hk : (k : Int) ≤ rd h0 194 80) (R6 : Int → Int → Int → Int → Int → Int → Int → Hp → Option (Int × Hp)) : ∀ (q N : Nat) (d c : Int) (h : Hp), 0 ≤ d → d + q = 61 → q < N → 0 ≤ c → c ≤ 61 * w + d → PA h0 h → ∃ h1, PA h0 h1 ∧ Told_way_L30 F R6 N 139 22 66 k i c w d h = (match ltI (latF h0 k w) i w q d c with | Sum.inl v => some (v, h1) | Sum.inr c' => R6 139 22 66 k i c' (w + 1) h1) ∧ ∀ c', ltI (latF h0 k w) i w q d c = Sum.inr c' → 0 ≤ c' ∧ c' ≤ 61 * (w + 1) := by
  have dk := jD j
  have hw3 : w < 3 := by have := dk.2.1.2; omega
  intro q
  induction q with
  | zero =>
    intro N d c h d0 hd hN c0 c1 pa
    obtain ⟨N, rfl⟩ : ∃ m, N = m + 1 := ⟨N - 1, by omega⟩
    refine ⟨h, pa, ?_, fun c' hc => ?_⟩
    · show Told_way_L30s F R6 (Told_way_L30 F R6 N) 139 22 66 k i c w d h = R6 139 22 66 k i c (w + 1) h
      unfold Told_way_L30s
      rw [if_pos (by omega), w32_id (by omega) (by omega)]
    · have : c = c' := by injection hc
      omega
  | succ q ih =>
    intro N d c h d0 hd hN c0 c1 pa
    obtain ⟨N, rfl⟩ : ∃ m, N = m + 1 := ⟨N - 1, by omega⟩
    obtain ⟨h1, R', a1, a2, a3, a4, a5⟩ := c_replay (F := F) (d := d) hF j pa hw (by omega) h30
    have ag := c_agrees (F := F) hF j a2 a3 a4 a5 hk
    have s := pa.1.1
    have s1 := a2.1.1
    have o1 : ¬ (60 : Int) < d := by omega
    have v1 : -2147483648 ≤ d + 1 ∧ d + 1 < 2147483648 ∧ -2147483648 ≤ c + 1 ∧ c + 1 < 2147483648 ∧ -2147483648 ≤ 100 * w ∧ 100 * w < 2147483648 ∧ -2147483648 ≤ 100 * w + d ∧ 100 * w + d < 2147483648 := by omega
    have i1 := ih N (d + 1) c h1 (by omega) (by omega) (by omega) c0 (by omega) a2
    have i2 := ih N (d + 1) (c + 1) h1 (by omega) (by omega) (by omega) (by omega) (by omega) a2
    have es : ltI (latF h0 k w) i w (q + 1) d c = if latF h0 k w d = true then (if c = i then Sum.inl (100 * w + d) else ltI (latF h0 k w) i w q (d + 1) (c + 1)) else ltI (latF h0 k w) i w q (d + 1) c := rfl
    have w1 : w32 (d + 1) = d + 1 := w32_id v1.1 v1.2.1
    have w2 : w32 (c + 1) = c + 1 := w32_id v1.2.2.1 v1.2.2.2.1
    have w3 : w32 (100 * w) = 100 * w := w32_id v1.2.2.2.2.1 v1.2.2.2.2.2.1
    have w4 : w32 (100 * w + d) = 100 * w + d := w32_id v1.2.2.2.2.2.2.1 v1.2.2.2.2.2.2.2
    have un : Told_way_L30 F R6 (N + 1) 139 22 66 k i c w d h = if latF h0 k w d = true then (if c = i then some (100 * w + d, h1) else Told_way_L30 F R6 N 139 22 66 k i (c + 1) w (d + 1) h1) else Told_way_L30 F R6 N 139 22 66 k i c w (d + 1) h1 := by
      show Told_way_L30s F R6 (Told_way_L30 F R6 N) 139 22 66 k i c w d h = _
      unfold Told_way_L30s
      rw [if_neg o1, ivD s, a1, cl_some, ivD s1, ag, cl_some, w1, w2, w3, w4]
      by_cases c : alN (sayD h0 (soR h0 w d)) k = true
      · rw [if_pos c, if_neg (by decide), if_pos (show latF h0 k w d = true from c)]
      · rw [if_neg c, if_pos rfl, if_neg (show ¬ latF h0 k w d = true from c)]
    rw [un, es]
    by_cases cl : latF h0 k w d = true
    · rw [if_pos cl, if_pos cl]
      by_cases ci : c = i
      · rw [if_pos ci, if_pos ci]
        exact ⟨h1, a2, rfl, fun c' hc => by cases hc⟩
      · rw [if_neg ci, if_neg ci]
        exact i2
    · rw [if_neg cl, if_neg cl]
      exact i1
theorem c_way {F : Nat} {n i : Int} {k : Nat} {h0 : Hp} {Λ : Nat → Lw} (hF : 6000 ≤ F) (j : JJ n h0 Λ) (h30 : rd h0 239 44 ≤ 30) (hk : (k : Int) ≤ rd h0 194 80) : ∀ (q N : Nat) (w c : Int) (h : Hp), 0 ≤ w → w + q = dt h0 1 0 → q < N → 0 ≤ c → c ≤ 61 * w → PA h0 h → ∃ h1, PA h0 h1 ∧ Told_way_L6 F N 139 22 66 k i c w h = some (ltO (latF h0 k) i q w c, h1) := by
  have dk := jD j
  intro q
  induction q with
  | zero =>
    intro N w c h w0 hw hN c0 c1 pa
    obtain ⟨N, rfl⟩ : ∃ m, N = m + 1 := ⟨N - 1, by omega⟩
    have s := pa.1.1
    have cd := PA_CD j pa
    refine ⟨h, pa, ?_⟩
    show Told_way_L6s F (Told_way_L6 F N) 139 22 66 k i c w h = some (if i = -1 then c else -1, h)
    unfold Told_way_L6s Told_way_B90
    rw [gH0 s, gC8 s cd.1.1, cd.1.2.2.1, if_neg (by omega)]
    split <;> rfl
  | succ q ih =>
    intro N w c h w0 hw hN c0 c1 pa
    obtain ⟨N, rfl⟩ : ∃ m, N = m + 1 := ⟨N - 1, by omega⟩
    have s := pa.1.1
    have cd := PA_CD j pa
    have un : Told_way_L6 F (N + 1) 139 22 66 k i c w h = Told_way_L30 F (Told_way_L6 F N) F 139 22 66 k i c w (if w = 0 then 0 else 1) h := by
      show Told_way_L6s F (Told_way_L6 F N) 139 22 66 k i c w h = _
      unfold Told_way_L6s
      rw [gH0 s, gC8 s cd.1.1, cd.1.2.2.1, if_pos (by omega)]
      by_cases z : w = 0
      · rw [if_pos z, if_pos z]
      · rw [if_neg z, if_neg z]
    obtain ⟨h1, b1, b2, b3⟩ := c_wayI (F := F) (w := w) (i := i) hF j ⟨w0, by omega⟩ h30 hk (Told_way_L6 F N) (if w = 0 then 61 else 60) F (if w = 0 then 0 else 1) c h (by split <;> decide) (by split <;> rfl) (by split <;> omega) c0 (by split <;> omega) pa
    have es : ltO (latF h0 k) i (q + 1) w c = match ltI (latF h0 k w) i w (if w = 0 then 61 else 60) (if w = 0 then 0 else 1) c with | Sum.inl v => v | Sum.inr c' => ltO (latF h0 k) i q (w + 1) c' := rfl
    rw [un, b2, es]
    cases hl : ltI (latF h0 k w) i w (if w = 0 then 61 else 60) (if w = 0 then 0 else 1) c with
    | inl v => exact ⟨h1, b1, rfl⟩
    | inr c' =>
      have := b3 c' hl
      exact ih N (w + 1) c' h1 (by omega) (by omega) (by omega) this.1 this.2 b1
theorem k_late {F : Nat} {n k i : Int} {h : Hp} {Λ : Nat → Lw} (hF : 6000 ≤ F) (j : JJ n h Λ) : Okc n h (Tide_late F 1 k i h) (fun h1 => Mod_late F 194 k i h1) := by
  have s := jS j
  have dk := jD j
  have rn := jRw j
  obtain ⟨⟨t1, t2⟩, t3⟩ := j.2.1.2.2.2.2.2.2
  have e8 : rd h 66 8 = rd h 239 44 := (jSt j).2.2.2.1
  have ref := m_late (F := F) (k := k) (i := i) (by omega) j.1.1 rn.2.1 j.1.2.2.2.2.2.2.2.1
  by_cases cc : (0 ≤ k ∧ k ≤ rd h 194 80) ∧ -1 ≤ i
  rotate_left
  · refine okc_q0 j (r := -1) ?_ ?_
    · unfold Tide_late
      by_cases k0 : k < 0
      · rw [if_pos k0]
      · rw [if_neg k0, gT10 s, gD4 s, t1]
        by_cases k1 : rd h 194 80 < k
        · rw [if_pos k1]
        · rw [if_neg k1, if_pos (by apply Classical.byContradiction; intro z; exact cc ⟨⟨by omega, by omega⟩, by omega⟩)]
    · unfold latA at ref
      rw [if_pos cc] at ref
      exact ref
  by_cases c30 : 30 < rd h 239 44
  · refine okc_q0 j (r := -2) ?_ ?_
    · unfold Tide_late
      rw [if_neg (by omega), gT10 s, gD4 s, t1, if_neg (by omega), if_neg (by omega), gT5 s, gS8 s (Or.inl rfl), e8, if_pos c30]
    · unfold latA at ref
      rw [if_neg (fun z => z cc), if_pos c30] at ref
      exact ref
  obtain ⟨k', ek⟩ : ∃ k' : Nat, k = (k' : Int) := ⟨k.toNat, by omega⟩
  subst ek
  have h3 := dk.2.1
  obtain ⟨h1, p1, w1⟩ := c_way (F := F) (i := i) (k := k') hF j (by omega) cc.1.2 (dt h 1 0).toNat F 0 0 h (by omega) (by omega) (by omega) (by omega) (by omega) ⟨FrX_refl s, rfl, rfl, rfl, rfl⟩
  have e := RfE_X p1.1 (fun b hb => by unfold Xa at hb; omega)
  have jm := RfE_JM e j.1
  have ref1 := m_late (F := F) (k := (k' : Int)) (i := i) (by omega) jm.1 jm.2.2.2.2.2.2.2.2.2.1 jm.2.2.2.2.2.2.2.1
  obtain ⟨h2, b1, b2⟩ := ref1
  have ed := RfE_dt e
  have e239 := e.2 239 (by decide) (by decide)
  have so : ∀ w d, soR h1 w d = soR h w d := fun w d => by unfold soR; rw [ed, e239]
  have lf : latF h1 k' = latF h k' := by
    funext w d
    unfold latF
    rw [so]
    congr 1
    funext x
    unfold sayD
    rw [ed, e.2 249 (by decide) (by decide), e.2 250 (by decide) (by decide), e.2 251 (by decide) (by decide)]
  refine ⟨latA h1 k' i, h1, h2, Λ, ?_, p1.1.1, b1, JJ_q j p1.1 (fun b hb => by unfold Xa at hb; unfold Xq; omega) (Dy_X p1.2 p1.1 (fun x y o => by have := own_in o; unfold Xa; omega) j.2.2.2) (JPl_X dk.1.2 p1.1 (fun b hb => by unfold Xa at hb; omega) j.2.2.1) b2, Sc_X s p1.1 (by unfold Xa; omega), Sc_Fr b2⟩
  unfold Tide_late Told_way latA
  rw [if_neg (by omega), gT10 s, gD4 s, t1, if_neg (by omega), if_neg (by omega), gT5 s, gS8 s (Or.inl rfl), e8, if_neg c30, gT10 s, gT4 s, gT5 s, ivD s, w1, cl_some, e239, ed, e.2 194 (by decide) (by decide), Int.toNat_natCast, lf, if_neg (fun z => z cc), if_neg c30]
