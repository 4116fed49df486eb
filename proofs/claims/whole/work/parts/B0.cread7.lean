/-! read: a text taken -/
theorem ok35 : okW 3 5 = true := by decide +kernel
theorem ok220 : okW 22 0 = true := by decide +kernel
theorem CxE_T {h : Hp} {c : Int} {D X : Nat → Int → Int} (t : TxE D X) (g : CxE h c X) : CxE h c D := by
  obtain ⟨t1, t2, t3, t4, t5, t6, t7, t8, t9⟩ := t
  obtain ⟨g1, g2, g3, g4, g5, g6, g7, g8, g9, gA⟩ := g
  refine ⟨g1, by rw [t1]; exact g2, by rw [t2]; exact g3, fun p p0 p1 => ?_, fun w w0 w1 => ?_, by rw [t5]; exact g6, by rw [t6]; exact g7, by rw [t7]; exact g8, by rw [t8]; exact g9, by rw [t9]; exact gA⟩
  · rw [t1] at p1
    obtain ⟨y1, y2, y3, y4⟩ := t3 p p0 p1
    rw [y1, y2, y3, y4]; exact g4 p p0 p1
  · rw [t2] at w1
    obtain ⟨y1, y2, y3⟩ := t4 w w0 w1
    rw [y1, y2, y3]; exact g5 w w0 w1
theorem rd_good {F : Nat} {n c : Int} {h ha : Hp} {Λ : Nat → Lw} {q : Sg} (hF : 6000 ≤ F) (hn : n < 900) (j : JJ n h Λ) (ic : isSc c) (h5 : rd h 3 5 = c) (rc : RdC c h ha) (cx : CxE ha c q.2.1) (cl' : CLz ha c q.2.2.1) (hr : rdR (rd h 195) (rd h 194 2) = Sum.inr q) (hw : q.2.2.2.1 = 0) : ∃ h1 h2, Tide_read_B37 F 1 0 (-1) 1 (wr ha 1 1 0) = some (0, h1) ∧ Sh h1 ∧ Mod_read F 194 h1 = some (0, h2) ∧ JJ (n + 1) h2 q.2.2.1 ∧ Sc h h1 ∧ Sc h1 h2 := by
  have g2 := j.2.1.2.1
  have g3 := j.2.1.2.2.1
  have dk := jD j
  have cne : (c = 9 ∧ rd h 22 0 = 23) ∨ (c = 23 ∧ rd h 22 0 = 9) := by rw [← h5]; exact g2.2.2
  obtain ⟨c', hc'⟩ : ∃ c', rd h 22 0 = c' := ⟨_, rfl⟩
  rw [hc'] at cne
  have sa := rc.2.1
  have ra := rc.2.2.1
  have s1 : Sh (wr ha 1 1 0) := shOk sa (ok1 (Or.inl rfl))
  have s2 : Sh (wr (wr ha 1 1 0) 1 2 (-1)) := shOk s1 (ok1 (Or.inr rfl))
  have s3 : Sh (wr (wr (wr ha 1 1 0) 1 2 (-1)) 22 0 c) := shOk s2 ok220
  have s4 : Sh (wr (wr (wr (wr ha 1 1 0) 1 2 (-1)) 22 0 c) 3 5 c') := shOk s3 ok35
  have f0 : FrX (fun b => Xt c b ∨ b = 22) h ha := FrX_of sa rc.1 (fun b hb => ra b (fun z => hb (Or.inl (by unfold Xt; omega))) (fun z => hb (Or.inl (by unfold Xt; omega))) (fun z => hb (Or.inl (by unfold Xt; omega)))) (fun b hb => by unfold Xt at hb; omega)
  have f4 : FrX (fun b => Xt c b ∨ b = 22) h (wr (wr (wr (wr ha 1 1 0) 1 2 (-1)) 22 0 c) 3 5 c') := FrX_trans (FrX_trans (FrX_trans (FrX_trans f0 (FrX_wr sa (ok1 (Or.inl rfl)) (by decide) (Or.inl (Or.inl rfl)))) (FrX_wr s1 (ok1 (Or.inr rfl)) (by decide) (Or.inl (Or.inl rfl)))) (FrX_wr s2 ok220 (by decide) (Or.inr rfl))) (FrX_wr s3 ok35 (by decide) (Or.inl (Or.inr (Or.inl rfl))))
  have z4 : hsz (wr (wr (wr (wr ha 1 1 0) 1 2 (-1)) 22 0 c) 3 5 c') = hsz h ∧ hus (wr (wr (wr (wr ha 1 1 0) 1 2 (-1)) 22 0 c) 3 5 c') = hus h ∧ hkd (wr (wr (wr (wr ha 1 1 0) 1 2 (-1)) 22 0 c) 3 5 c') = hkd h ∧ hln (wr (wr (wr (wr ha 1 1 0) 1 2 (-1)) 22 0 c) 3 5 c') = hln h := rc.1
  have fa4 : FrX (fun b => b = 1 ∨ b = 22 ∨ b = 3) ha (wr (wr (wr (wr ha 1 1 0) 1 2 (-1)) 22 0 c) 3 5 c') := FrX_trans (FrX_trans (FrX_trans (FrX_wr sa (ok1 (Or.inl rfl)) (by decide) (Or.inl rfl)) (FrX_wr s1 (ok1 (Or.inr rfl)) (by decide) (Or.inl rfl))) (FrX_wr s2 ok220 (by decide) (Or.inr (Or.inl rfl)))) (FrX_wr s3 ok35 (by decide) (Or.inr (Or.inr rfl)))
  have v22 : rd (wr (wr (wr (wr ha 1 1 0) 1 2 (-1)) 22 0 c) 3 5 c') 22 0 = c := by rw [rd_a (by decide), rd_same]
  have v35 : rd (wr (wr (wr (wr ha 1 1 0) 1 2 (-1)) 22 0 c) 3 5 c') 3 5 = c' := rd_same _ _ _ _
  have v11 : rd (wr (wr (wr (wr ha 1 1 0) 1 2 (-1)) 22 0 c) 3 5 c') 1 1 = 0 := by rw [rd_a (by decide), rd_a (by decide), rd_i (by decide), rd_same]
  have v12 : rd (wr (wr (wr (wr ha 1 1 0) 1 2 (-1)) 22 0 c) 3 5 c') 1 2 = -1 := by rw [rd_a (by decide), rd_a (by decide), rd_same]
  have e22 : rd ha 22 0 = c' := by rw [ra 22 (by decide) (by decide) (by omega)]; exact hc'
  have start : Tide_read_B37 F 1 0 (-1) 1 (wr ha 1 1 0) = cl (Tide_beginDay F 1 (wr (wr (wr (wr ha 1 1 0) 1 2 (-1)) 22 0 c) 3 5 c')) (fun _ h19 => some (0, h19)) := by
    unfold Tide_read_B37
    have w1 : rd (wr (wr ha 1 1 0) 1 2 (-1)) 22 0 = c' := by rw [rd_a (by decide), rd_a (by decide)]; exact e22
    have w2 : rd (wr (wr ha 1 1 0) 1 2 (-1)) 3 5 = c := by rw [rd_a (by decide), rd_a (by decide), rc.2.2.2.1]; exact h5
    rw [pT2 s1, if_pos rfl, gT4 s2, gH0 s2, w1, gT4 s2, gT3 s2, gR5 s2, w2, pH0 s2, gT3 s3, pR5 s3, ivT s4]
  have ck4 : CkI (wr (wr (wr (wr ha 1 1 0) 1 2 (-1)) 22 0 c) 3 5 c') := by unfold CkI; rw [rd_wr_ne (by decide), rd_wr_ne (by decide), rd_wr_ne (by decide), rd_wr_ne (by decide), rd_wr_ne (by decide), rd_wr_ne (by decide), rd_wr_ne (by decide), rd_wr_ne (by decide)]; exact rc.2.2.2.2
  generalize wr (wr (wr (wr ha 1 1 0) 1 2 (-1)) 22 0 c) 3 5 c' = k at *
  have cx4 : CxE k c q.2.1 := CxE_X fa4 (fun b b1 b2 => by omega) cx
  have cl4 : CLz k c q.2.2.1 := CLz_X ic fa4 (fun b b1 b2 => by omega) cl'
  have d4 : Dy k := Dy_X z4 f4 (fun x y o z => by have := own_in o; unfold Xt at z; omega) j.2.2.2
  have w04 : rd k 39 0 = 0 := by rw [f4.2.2.2.1 39 (by decide) (by unfold Xt; omega)]; exact g3.2.2.2
  -- the day of some data that are as told
  have day : ∀ D, Dok D → Tex D → Day D q.2.2.1 → TxE D q.2.1 → ∃ h', Tide_beginDay F 1 k = some (0, h') ∧ FrX (Xb c) k h' ∧ Dy h' ∧ CD h' D ∧ (∀ p : Nat, p < (D 0 0).toNat → rd h' 40 p = (erF D (q.2.2.1 3)).1 p ∧ rd h' 41 p = (erF D (q.2.2.1 3)).2 p) ∧ StE h' 66 D (bgR D) ∧ (rd h' 78 2 = 0 ∧ rd h' 78 1 = rd k 78 1) ∧ rd h' 139 4 = 0 ∧ (rd h' 81 0 = 0 ∧ rd h' 81 1 = 0 ∧ rd h' 81 2 = 0) ∧ (rd h' 84 0 = 0 ∧ rd h' 84 1 = 0 ∧ rd h' 84 2 = 0) ∧ rd h' 82 6 = 0 ∧ ∀ x, 0 ≤ x → x < 17 → rd h' 96 x = -1 := fun D dD tD yD xD =>
    c_beginDay (F := F) (by omega) s4 d4 dD ⟨⟨by have := tD.2.2.2.2.2.2.1; omega, by have := tD.2.2.2.2.2.2.1; omega⟩, ⟨by have := tD.2.2.2.2.2.2.2.1; omega, by have := tD.2.2.2.2.2.2.2.1; omega⟩⟩ v22 (CxE_T xD cx4) cl4 yD w04
  obtain ⟨m1, m2, m3, m4, m5, m6, m7, m8, m9⟩ := j.1
  obtain ⟨x2, -, xs⟩ := m_read_ok (F := F) (h := h) (q := q) (by omega) m1.1.1.1 m1.1.1.2.1 m7 m5 m6 m1.1.2.1 m1.1.2.2.1 hr hw
  obtain ⟨h1, a1, a2, -⟩ := day (dt x2) (Dok_of xs.2.2.2.2.2.2.2.1 xs.2.2.2.2.2.2.2.2.1) xs.2.2.2.2.2.2.2.1 xs.2.2.2.2.2.2.2.2.1 xs.2.2.2.2.2.2.1
  have ff : FrX (fun b => (Xt c b ∨ b = 22) ∨ Xb c b) h h1 := FrX_trans (FrX_mono (fun b hb => Or.inl hb) f4) (FrX_mono (fun b hb => Or.inr hb) a2)
  have hx : ∀ b, ((Xt c b ∨ b = 22) ∨ Xb c b) → b < 194 := fun b hb => by unfold Xt Xb Xs at hb; omega
  have e := RfE_X ff hx
  have jm := RfE_JM e j.1
  obtain ⟨n1, n2, n3, n4, n5, n6, n7, n8, n9⟩ := jm
  obtain ⟨h2, b1, b2⟩ := m_read_ok (F := F) (h := h1) (q := q) (by omega) n1.1.1.1 n1.1.1.2.1 n7 n5 n6 n1.1.2.1 n1.1.2.2.1 (by rw [e.2 195 (by decide) (by decide), e.2 194 (by decide) (by decide)]; exact hr) hw
  obtain ⟨r1, r2, r3, ⟨r4, r5, r6, r7, r8⟩, r9, rA, rB, rC, rD, ⟨bb, cb, rE⟩, rF, rG, rH⟩ := b2
  have dk2 := Dok_of rC rD
  obtain ⟨h1', c1, c2, c3, c4, c5, c6, c7, c8, c9, cA, cB, cC⟩ := day (dt h2) dk2 rC rD rB
  have eh : h1' = h1 := by
    rw [a1] at c1
    injection c1 with z
    injection z with _ z2
    exact z2.symm
  subst eh
  have hl : rd h2 194 18 = 0 ∨ rd h2 194 18 = 1 := by rw [r6]; have := n1.1.1.2.1; omega
  have mo2 : Mo h2 := ⟨r2, hl, dk2⟩
  have bz : Zo 140 (bgR (dt h2)) := Zo_bg mo2
  have n0 : 0 ≤ n := by have := (jRw j).2.2.2.1; omega
  have rn2 : RwN (n + 1) (dt h2) (rd h2 239) := by rw [rF]; exact RwN_mono (by omega) (RwN_bg mo2)
  have w : RfW h1' h2 := ⟨r1, r2, fun x hx => r3 x (by unfold Xr at hx; omega) (by unfold Xr at hx; omega) (by unfold Xr at hx; omega) (by unfold Xr at hx; omega)⟩
  have G := RfW_X w
  have w3 : ∀ b, b < 194 → rd h2 b = rd h1' b := fun b hb => w.2.2 b (by unfold Xr; omega)
  have kk : ∀ b, b < 254 → ¬ Xb c b → rd h1' b = rd k b := fun b hb hq => a2.2.2.2.1 b hb hq
  have kh : ∀ b, b < 254 → ¬ (Xt c b ∨ b = 22) → rd k b = rd h b := fun b hb hq => f4.2.2.2.1 b hb hq
  refine ⟨h1', h2, by rw [start, a1, cl_some], ff.1, b1, ⟨⟨⟨⟨mo2, by rw [rF]; exact bz, by rw [rG]; exact bz, rn2.1.1, ⟨rn2.2.2.2.1.1, by have := rn2.2.2.2.1.2; omega⟩, by rw [r7]; decide, by rw [r8]; decide⟩, by rw [r3 242 (by decide) (by decide) (by decide) (by decide)]; exact n1.2⟩, rC, rD, fun x hx => ⟨bb, cb, rE.2.2.1.2, rE.2.2.2.1.2, rE.2.2.2.2 x hx⟩, ?_, rA, r9, ?_, rn2⟩, ?_, ?_, RfW_Dy w c3⟩, Sc_X (jS j) ff (by unfold Xt Xb Xs; omega), Sc_W w⟩
  · unfold Keys; rw [r3 201 (by decide) (by decide) (by decide) (by decide)]; exact n5
  · intro i i0 i1; rw [r8] at i1; omega
  · unfold JK
    have c22 : rd h2 22 0 = c := by rw [w3 22 (by decide), kk 22 (by decide) (by unfold Xb Xs; omega)]; exact v22
    have z39 : rd h1' 39 0 = 0 := by
      have := c4.2.2.2 0 (Nat.two_pow_pos _)
      rw [wbV_0] at this
      exact this
    refine ⟨⟨⟨?_, by rw [r4]; decide⟩, fun i i0 i1 => by rw [r4] at i1; omega, ?_, ?_⟩, ⟨?_, ?_, ?_⟩, ⟨?_, ?_, ?_, by rw [w3 39 (by decide)]; exact z39⟩, ?_, ?_, ?_, ?_⟩
    · rw [w3 1 (by decide), kk 1 (by decide) (by unfold Xb Xs; omega), v11, r4]
    · rw [w3 1 (by decide), kk 1 (by decide) (by unfold Xb Xs; omega), v12, r5]
    · unfold BtC; rw [w3 2 (by decide), kk 2 (by decide) (by unfold Xb Xs; omega), kh 2 (by decide) (by unfold Xt; omega)]; exact j.2.1.1.2.2.2
    · unfold WdI; rw [w3 4 (by decide), kk 4 (by decide) (by unfold Xb Xs; omega), kh 4 (by decide) (by unfold Xt; omega)]; exact g2.1
    · unfold CkI; rw [w3 5 (by decide), w3 6 (by decide), kk 5 (by decide) (by unfold Xb Xs; omega), kk 6 (by decide) (by unfold Xb Xs; omega)]; exact ck4
    · rw [w3 3 (by decide), kk 3 (by decide) (by unfold Xb Xs; omega), v35, c22]; omega
    · exact CD_X dk2.1.2 G (fun b hb => by unfold Xr at hb; omega) c4
    · rw [c22]
      exact CLz_X ic G (fun b b1 b2 => by unfold Xr; omega) (CLz_X ic a2 (fun b b1 b2 => by unfold Xb Xs; omega) cl4)
    · rw [w3 40 (by decide), w3 41 (by decide)]; exact c5
    · rw [rF]; exact StE_X dk2.2.1.2 G (fun a q1 q2 => by unfold Xr; omega) c6
    · refine ⟨by rw [w3 78 (by decide), c7.1, r7], by rw [r7]; decide, ?_, fun x x0 x1 => by rw [r7] at x1; omega⟩
      rw [w3 78 (by decide), c7.2, kh 78 (by decide) (by unfold Xt; omega)]
      exact j.2.1.2.2.2.2.1.2.2.1
    · intro i i0 i1
      have : i = 0 ∨ i = 1 ∨ i = 2 := by omega
      rw [w3 81 (by decide)]
      rcases this with z | z | z <;> subst z
      · rw [c9.1, rH.1]; exact ⟨rfl, Or.inl rfl, fun y => absurd y (by decide)⟩
      · rw [c9.2.1, rH.2.1]; exact ⟨rfl, Or.inl rfl, fun y => absurd y (by decide)⟩
      · rw [c9.2.2, rH.2.2]; exact ⟨rfl, Or.inl rfl, fun y => absurd y (by decide)⟩
    · exact ⟨⟨by rw [w3 139 (by decide), c8, r8], by rw [r8]; decide⟩, fun i i0 i1 => by rw [r8] at i1; omega⟩
  · refine ⟨fun v v0 v1 => Or.inl ?_, Or.inl (by rw [w3 82 (by decide)]; exact cB), fun x x0 x1 => Or.inl (by rw [w3 96 (by decide)]; exact cC x (by omega) (by omega))⟩
    have : v = 0 ∨ v = 1 ∨ v = 2 := by omega
    rw [w3 84 (by decide)]
    rcases this with z | z | z <;> subst z
    · exact cA.1
    · exact cA.2.1
    · exact cA.2.2
theorem k_read {F : Nat} {n : Int} {h : Hp} {Λ : Nat → Lw} (hF : 6000 ≤ F) (hn : n < 900) (j : JJ n h Λ) : Okc n h (Tide_read F 1 h) (fun h1 => Mod_read F 194 h1) := by
  have s := jS j
  obtain ⟨⟨t1, tb⟩, t2, t3, t4⟩ := j.2.1.1
  have g2 := j.2.1.2.1
  obtain ⟨c, h5⟩ : ∃ c, rd h 3 5 = c := ⟨_, rfl⟩
  have ic : isSc c := by rw [← h5]; unfold isSc; have := g2.2.2; omega
  obtain ⟨v, ha, r1, r2, r3⟩ := c_readText (F := F) (n := rd h 1 1) (by omega) s ic h5 t4 g2.1 g2.2.1 (by rw [t1]; exact tb)
  have er : rdR (rd h 2) (rd h 1 1) = rdR (rd h 195) (rd h 194 2) := by rw [t1]; exact rdR_cg t2
  rw [er] at r3
  have sa := r2.2.1
  have s1 : Sh (wr ha 1 1 0) := shOk sa (ok1 (Or.inl rfl))
  have start : Tide_read F 1 h = if v = 0 then Tide_read_B37 F 1 v (-1) 1 (wr ha 1 1 0) else Tide_read_B37 F 1 v (rd ha 3 9) 1 (wr ha 1 1 0) := by
    unfold Tide_read
    rw [gT3 s, gT0 s, gT1 s, ivR s, r1, cl_some, pT1 sa, gT3 s1, gR9 s1, rd_a (by decide)]
  have bad : v ≠ 0 → (rdR (rd h 195) (rd h 194 2) = Sum.inl (v, rd ha 3 9) ∨ ∃ q, rdR (rd h 195) (rd h 194 2) = Sum.inr q ∧ q.2.2.2 = (v, rd ha 3 9) ∧ v ≠ 0) → Okc n h (Tide_read F 1 h) (fun h1 => Mod_read F 194 h1) := fun v0 hr => by
    have f0 : FrX (Xt c) h ha := FrX_of sa r2.1 (fun b hb => r2.2.2.1 b (fun z => hb (by unfold Xt; omega)) (fun z => hb (by unfold Xt; omega)) (fun z => hb (by unfold Xt; omega))) (fun b hb => by unfold Xt at hb; unfold isSc at ic; omega)
    have f2 : FrX (Xt c) h (wr (wr ha 1 1 0) 1 2 (rd ha 3 9)) := FrX_trans (FrX_trans f0 (FrX_wr sa (ok1 (Or.inl rfl)) (by decide) (Or.inl rfl))) (FrX_wr s1 (ok1 (Or.inr rfl)) (by decide) (Or.inl rfl))
    have ck : CkI (wr (wr ha 1 1 0) 1 2 (rd ha 3 9)) := by unfold CkI; rw [rd_wr_ne (by decide), rd_wr_ne (by decide), rd_wr_ne (by decide), rd_wr_ne (by decide)]; exact r2.2.2.2.2
    obtain ⟨h2, b1, b2, b3⟩ := rd_bad (F := F) (cc := v) (pp := rd ha 3 9) hF hn j ic h5 f2 r2.1 ck (by rw [rd_a (by decide), rd_a (by decide)]; exact r2.2.2.2.1) (by rw [rd_i (by decide), rd_same]) (rd_same _ _ _ _) hr
    refine ⟨v, _, h2, Λ, ?_, f2.1, b1, b2, Sc_X s f2 (by unfold Xt; unfold isSc at ic; omega), b3⟩
    rw [start, if_neg v0]
    unfold Tide_read_B37
    rw [pT2 s1, if_neg v0]
  cases hr : rdR (rd h 195) (rd h 194 2) with
  | inl e =>
    rw [hr] at r3
    obtain ⟨y1, y2, y3⟩ := r3
    exact bad y2 (Or.inl (by rw [hr, y1, y3]))
  | inr q =>
    rw [hr] at r3
    obtain ⟨y1, y2, y3⟩ := r3
    by_cases v0 : v = 0
    · obtain ⟨y4, y5⟩ := y3 v0
      obtain ⟨h1, h2, b1, b2, b3, b4, b5⟩ := rd_good (F := F) hF hn j ic h5 r2 y4 y5 hr (by rw [← y1]; exact v0)
      refine ⟨0, h1, h2, q.2.2.1, ?_, b2, b3, b4, b5⟩
      rw [start, if_pos v0, v0]
      exact b1
    · exact bad v0 (Or.inr ⟨q, hr, Prod.ext y1.symm (y2 v0).symm, v0⟩)
