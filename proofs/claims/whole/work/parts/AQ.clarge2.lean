/-! large, the class's side: how soon a drawing of some size is done -/
theorem zG {n k : Int} {h0 : Hp} {Λ : Nat → Lw} (j : JJ n h0 Λ) (hk : 1 ≤ k ∧ k ≤ 16) : Mo (zH h0 (Λ 0) k) ∧ dt (zH h0 (Λ 0) k) 0 0 = dt h0 0 0 ∧ dt (zH h0 (Λ 0) k) 1 0 = dt h0 1 0 ∧ dt (zH h0 (Λ 0) k) 3 = dt h0 3 ∧ MnD (dt (zH h0 (Λ 0) k)) 8 ∧ ∀ w, 0 ≤ w → w < dt h0 1 0 → Gok (dt (zH h0 (Λ 0) k)) (lgG (dt h0) w) := by
  have tx := j.1.2.1
  have e0 : dt (zH h0 (Λ 0) k) 0 0 = dt h0 0 0 := by rw [zH_dt 0 (by decide)]
  refine ⟨zH_Mo (jMo j) _ _, e0, by rw [zH_dt 1 (by decide)], zH_dt 3 (by decide), fun p m x p0 p1 m0 mx x1 hx => ?_, fun w w0 w1 => ?_⟩
  · rw [zH_12p p0 ⟨by omega, x1⟩] at hx ⊢
    rw [zH_12p p0 ⟨m0, by omega⟩]
    exact nxI_mn m0 mx x1 hx
  · have t := tx.2.2.2.1 w w0 w1
    refine ⟨Qok_sz (h := h0) (L := Λ 0) (k := k) tx hk e0 (fun p p0 p1 => ⟨by rw [zH_6, if_pos (by omega), show (8 : Int) + p - 8 = p by omega], by rw [zH_7, if_pos (by omega), show (8 : Int) + p - 8 = p by omega], by rw [zH_8, if_pos (by omega), show (8 : Int) + p - 8 = p by omega], fun m m0 m1 => zH_12p p0 ⟨m0, m1⟩⟩), ?_, ?_, by show (0 : Int) ≤ 0 ∧ (0 : Int) ≤ 3000; decide⟩
    · show -1000 ≤ dt h0 4 w ∧ dt h0 4 w ≤ 1000
      omega
    · show -1000 ≤ dt h0 5 w ∧ dt h0 5 w ≤ 1000
      omega
theorem lgT_all {D : Nat → Int → Int} {s : Nat} (hs : s < 2 ^ (D 0 0).toNat) : s &&& lgT D = s := by
  rw [and_sub]
  intro i hi
  unfold lgT
  rw [Nat.testBit_two_pow_sub_one, decide_eq_true_eq]
  apply Classical.byContradiction
  intro c
  rw [Nat.testBit_lt_two_pow (Nat.lt_of_lt_of_le hs (Nat.pow_le_pow_right (by decide) (by omega)))] at hi
  exact absurd hi (by decide)
theorem c_spanOf {F : Nat} {n k : Int} {h0 h : Hp} {Λ : Nat → Lw} (hF : 6000 ≤ F) (j : JJ n h0 Λ) (q : PL h0 h Λ) (hk : 1 ≤ k ∧ k ≤ 16) : ∃ v h', Plan_spanOf F 82 22 k h = some (v, h') ∧ PL h0 h' Λ ∧ rd h' 96 = rd h 96 ∧ 0 ≤ v ∧ ∀ b, 0 ≤ b → b ≤ 600 → (v ≤ b ↔ lgB h0 (Λ 0) k b = true) := by
  have dk := jD j
  have mo := jMo j
  have h8 := dk.1.2
  have h00 := dk.1.1
  have h3 := dk.2.1
  have s := q.1.1
  obtain ⟨c, hc⟩ : ∃ c, rd h0 22 0 = c := ⟨_, rfl⟩
  have e22 : ∀ g, PL h0 g Λ → rd g 22 0 = c := fun g z => by rw [z.1.2.2.2.1 22 (by decide) (by unfold Xl; omega)]; exact hc
  obtain ⟨zm, z0, z1, z3, zmn, zg⟩ := zG j hk
  have P256 : 2 ^ (dt h0 0 0).toNat ≤ 256 := Nat.pow_le_pow_right (n := 2) (by decide) (D8 mo)
  have hpos := Nat.two_pow_pos (dt h0 0 0).toNat
  have lgP : lgT (dt h0) = 2 ^ (dt h0 0 0).toNat - 1 := rfl
  unfold Plan_spanOf
  rw [gH0 s, e22 h q]
  refine loopE (fun N i g => Plan_spanOf_L8 F N 82 22 k c (i : Nat) g) (dt h0 0 0).toNat (fun i g => PL h0 g Λ ∧ rd g 96 = rd h 96 ∧ ∀ p, 0 ≤ p → p < (i : Int) → SdE g (115 + 3 * p) (dt (zH h0 (Λ 0) k)) (8 + p)) (fun z => ∃ v h', z = some (v, h') ∧ PL h0 h' Λ ∧ rd h' 96 = rd h 96 ∧ 0 ≤ v ∧ ∀ b, 0 ≤ b → b ≤ 600 → (v ≤ b ↔ lgB h0 (Λ 0) k b = true)) (fun N i g hi P => Or.inl ?_) (fun N g P => ?_) (dt h0 0 0).toNat F 0 h (by omega) (by omega) ⟨q, rfl, fun p p0 p1 => absurd p1 (by omega)⟩
  · obtain ⟨p1, p2, p3⟩ := P
    obtain ⟨h', a1, a2, a3, a4⟩ := c_size1 (F := F) (Λ := Λ) hF j p1 hk hc (Plan_spanOf_L8 F N) i (by omega) p3
    exact ⟨h', ⟨a2, a3.trans p2, a4⟩, a1⟩
  · obtain ⟨p1, p2, p3⟩ := P
    have sg := p1.1.1
    obtain ⟨cd, -, -, -⟩ := PL_sh j p1
    have ic := cd.1.1
    rw [e22 g p1] at ic
    have e4 : rd g c 4 = dt h0 0 0 := by have := cd.1.2.1; rw [e22 g p1] at this; exact this
    obtain ⟨ha, a1, a2, a3⟩ := c_beginSpans (F := F) (x := 94) (by omega) sg (Or.inr rfl)
    have fa := FrX_FrA (by decide) a2
    have qa : PL h0 ha Λ := PL_n h8 p1 fa (fun b hb => by unfold Xl; omega) (Dy_X a2.1 fa (fun x y o => by have := own_in o; omega) p1.2.1)
    have sda : ∀ p, 0 ≤ p → p < dt h0 0 0 → SdE ha (115 + 3 * p) (dt (zH h0 (Λ 0) k)) (8 + p) := fun p p0 p1 => SdE_X fa (by omega) (p3 p p0 (by omega))
    show ∃ v h', Plan_spanOf_L8s F (Plan_spanOf_L8 F N) 82 22 k c (((dt h0 0 0).toNat : Nat) : Int) g = some (v, h') ∧ _
    unfold Plan_spanOf_L8s Plan_spanOf_B108
    rw [gC4 sg ic, e4, if_neg (by omega), gN7 sg, a1, cl_some]
    refine loopE (fun N i g => Plan_spanOf_L118 F N 82 22 c (i : Nat) g) (dt h0 1 0).toNat (fun i g => PL h0 g Λ ∧ rd g 96 = rd h 96 ∧ (∀ p, 0 ≤ p → p < dt h0 0 0 → SdE g (115 + 3 * p) (dt (zH h0 (Λ 0) k)) (8 + p)) ∧ SpW (dt h0 0 0).toNat (fun b w s => lgC h0 (Λ 0) k b w s) i (rd g 94)) (fun z => ∃ v h', z = some (v, h') ∧ PL h0 h' Λ ∧ rd h' 96 = rd h 96 ∧ 0 ≤ v ∧ ∀ b, 0 ≤ b → b ≤ 600 → (v ≤ b ↔ lgB h0 (Λ 0) k b = true)) (fun N i g hi P => Or.inl ?_) (fun N g P => ?_) (dt h0 1 0).toNat F 0 ha (by omega) (by omega) ⟨qa, by rw [a2.2.2 96 (by decide)]; exact p2, sda, SpW_0 (D8 mo) a3⟩
    · obtain ⟨p1, p2, p3, p4⟩ := P
      have sg := p1.1.1
      obtain ⟨cd, -, -, -⟩ := PL_sh j p1
      have cx := cd.1
      rw [e22 g p1] at cx
      have hw : 0 ≤ (i : Int) ∧ (i : Int) < dt h0 1 0 := by omega
      have hw3 : 0 ≤ (i : Int) ∧ (i : Int) < 3 := by omega
      have i91 : isWk 91 := by unfold isWk; omega
      obtain ⟨x1, x2, x3⟩ := cx.2.2.2.2.1 i hw.1 hw.2
      have wb := c_wbegin (F := F) sg i91 cx.1 hw3
      rw [x1, x2, x3] at wb
      have ok := fun y => wk_ok (i := y) i91
      have s1 : Sh (wr g 91 0 (dt h0 4 i)) := shOk sg (ok _)
      have s2 : Sh (wr (wr g 91 0 (dt h0 4 i)) 91 1 (dt h0 5 i)) := shOk s1 (ok _)
      have s3 : Sh (wr (wr (wr g 91 0 (dt h0 4 i)) 91 1 (dt h0 5 i)) 91 2 (dt h0 3 i)) := shOk s2 (ok _)
      have s4 : Sh (wr (wr (wr (wr g 91 0 (dt h0 4 i)) 91 1 (dt h0 5 i)) 91 2 (dt h0 3 i)) 91 3 0) := shOk s3 (ok _)
      have s5 : Sh (wr (wr (wr (wr (wr g 91 0 (dt h0 4 i)) 91 1 (dt h0 5 i)) 91 2 (dt h0 3 i)) 91 3 0) 91 4 0) := shOk s4 (ok _)
      have f5 : FrX (fun b => b = 91) g (wr (wr (wr (wr (wr g 91 0 (dt h0 4 i)) 91 1 (dt h0 5 i)) 91 2 (dt h0 3 i)) 91 3 0) 91 4 0) := FrX_trans (FrX_trans (FrX_trans (FrX_trans (FrX_wr sg (ok _) (by decide) rfl) (FrX_wr s1 (ok _) (by decide) rfl)) (FrX_wr s2 (ok _) (by decide) rfl)) (FrX_wr s3 (ok _) (by decide) rfl)) (FrX_wr s4 (ok _) (by decide) rfl)
      have z5 : hsz (wr (wr (wr (wr (wr g 91 0 (dt h0 4 i)) 91 1 (dt h0 5 i)) 91 2 (dt h0 3 i)) 91 3 0) 91 4 0) = hsz g ∧ hus (wr (wr (wr (wr (wr g 91 0 (dt h0 4 i)) 91 1 (dt h0 5 i)) 91 2 (dt h0 3 i)) 91 3 0) 91 4 0) = hus g ∧ hkd (wr (wr (wr (wr (wr g 91 0 (dt h0 4 i)) 91 1 (dt h0 5 i)) 91 2 (dt h0 3 i)) 91 3 0) 91 4 0) = hkd g ∧ hln (wr (wr (wr (wr (wr g 91 0 (dt h0 4 i)) 91 1 (dt h0 5 i)) 91 2 (dt h0 3 i)) 91 3 0) 91 4 0) = hln g := ⟨rfl, rfl, rfl, rfl⟩
      have wk : WkE (wr (wr (wr (wr (wr g 91 0 (dt h0 4 i)) 91 1 (dt h0 5 i)) 91 2 (dt h0 3 i)) 91 3 0) 91 4 0) 91 (dt h0 4 i) (dt h0 5 i) (dt (zH h0 (Λ 0) k) 3 i) 0 0 := by
        refine ⟨i91, ?_, ?_, ?_, ?_, rd_same _ _ _ _⟩
        · rw [rd_i (by decide), rd_i (by decide), rd_i (by decide), rd_i (by decide), rd_same]
        · rw [rd_i (by decide), rd_i (by decide), rd_i (by decide), rd_same]
        · rw [rd_i (by decide), rd_i (by decide), rd_same, z3]
        · rw [rd_i (by decide), rd_same]
      generalize wr (wr (wr (wr (wr g 91 0 (dt h0 4 i)) 91 1 (dt h0 5 i)) 91 2 (dt h0 3 i)) 91 3 0) 91 4 0 = g5 at *
      have d5 : Dy g5 := Dy_X z5 f5 (fun x y o => by have := own_in o; omega) p1.2.1
      have q5 : PL h0 g5 Λ := PL_n h8 p1 f5 (fun b hb => by unfold Xl; omega) d5
      obtain ⟨cd5, -, -, -⟩ := PL_sh j q5
      have hg := zg i hw.1 hw.2
      have ir : isRw 85 := Or.inl rfl
      obtain ⟨g6, a1, a2, a3, a4⟩ := c_fill (F := F) (g := zH h0 (Λ 0) k) (h := g5) (r := 85) (k := 91) (w := (i : Int)) (sa := 95) (G := lgG (dt h0) i) (al := lgT (dt h0)) (a8 := lgT (dt h0)) (rkd := 0) (by omega) zm hg zmn (Or.inl rfl) (by rw [z1]; exact hw) s5 d5 ir (Or.inr ⟨rfl, rfl⟩) (fun p p0 p1 => by
          rw [z0] at p1
          show SdE g5 (115 + 3 * p) (dt (zH h0 (Λ 0) k)) (8 + p)
          exact SdE_X f5 (by omega) (p3 p p0 p1)) wk (by rw [lgP]; omega) (by rw [lgP]; omega) (fun t ht => Iff.rfl)
      have q6 : PL h0 g6 Λ := PL_n h8 q5 a2 (fun b hb => by unfold Xl; omega) a3
      have e94 : rd g6 94 = rd g 94 := by rw [a2.2.2.2.1 94 (by decide) (by omega), f5.2.2.2.1 94 (by decide) (by omega)]
      obtain ⟨g7, b1, b2, b3⟩ := c_shareIn (F := F) (by omega) zm hg (by rw [z1]; exact hw) a2.1 a4 (Or.inr rfl) (fun v hv => by rw [z0] at hv; rw [e94]; exact (p4 v hv).1)
      have f7 := FrX_FrA (by decide) b2
      have q7 : PL h0 g7 Λ := PL_n h8 q6 f7 (fun b hb => by unfold Xl; omega) (Dy_X b2.1 f7 (fun x y o => by have := own_in o; omega) q6.2.1)
      refine ⟨g7, ⟨q7, by rw [b2.2.2 96 (by decide), a2.2.2.2.1 96 (by decide) (by omega), f5.2.2.2.1 96 (by decide) (by omega)]; exact p2, fun p p0 p1 => SdE_X f7 (by omega) (SdE_X a2 (by omega) (SdE_X f5 (by omega) (p3 p p0 p1))), ?_⟩, ?_⟩
      · rw [← z0]
        refine SpW_s (w := (i : Int)) (a := lgG (dt h0) i 2) zm hg (by rw [z1]; exact hw) (fun b w v z => ?_) (fun b => ?_) (fun b b0 b1 v v0 vl => ?_) (by rw [z0]; exact p4) (fun v hv => by rw [← e94]; exact b3 v hv)
        · rw [z0]
          have : decide (canV _ _ _ _ _ = 1) = true := z
          unfold canV at this
          rw [decide_eq_true_eq] at this
          split at this
          · rename_i y; exact lgT_sub y.1
          · omega
        · show decide (canV _ _ _ _ _ = 1) = true
          unfold canV
          rw [if_pos ⟨Nat.zero_and _, Or.inl rfl⟩]
          rfl
        · rw [sn_le zm hg (by rw [z1]; exact hw) v0 b1]
          show decide (canV _ _ _ _ _ = 1) = true ↔ _
          unfold canV
          rw [decide_eq_true_eq]
          constructor
          · intro z
            split at z
            · rename_i y; exact ⟨y.1, y.2.resolve_left v0⟩
            · omega
          · intro z
            rw [if_pos ⟨z.1, Or.inr z.2⟩]
      · show Plan_spanOf_L118s F (Plan_spanOf_L118 F N) 82 22 c (i : Nat) g = _
        unfold Plan_spanOf_L118s
        have ic5 : isSc c := cx.1
        have e45 : rd g5 c 4 = dt h0 0 0 := by have := cd5.1.2.1; rw [e22 g5 q5] at this; exact this
        have fl : Rows_fill F 85 95 (dt h0 0 0) ((lgT (dt h0) : Nat) : Int) 91 0 g5 = some (0, g6) := by rw [← z0]; exact a1
        rw [gC8 sg ic5, cx.2.2.1, if_pos hw.2, gN3 sg, ivW sg i91, wb, cl_some, gN2 s5, gN8 s5, gC4 s5 ic5, e45, ivH s5, ap_ok mo s5 cd5, cl_some, gN3 s5, ivQ s5 ir, ← lgP, fl, cl_some, gN2 a2.1, gN7 a2.1, ivQ a2.1 ir, b1, cl_some, w32_nat (by omega)]
    · obtain ⟨p1, p2, p3, p4⟩ := P
      have sg := p1.1.1
      obtain ⟨cd, -, -, -⟩ := PL_sh j p1
      have cx := cd.1
      rw [e22 g p1] at cx
      have lt : lgT (dt h0) < 2 ^ (dt h0 0 0).toNat := by rw [lgP]; omega
      have fin := p4 (lgT (dt h0)) lt
      refine ⟨rd g 94 ((lgT (dt h0) : Nat) : Int), g, ?_, p1, p2, fin.1, fin.2⟩
      show Plan_spanOf_L118s F (Plan_spanOf_L118 F N) 82 22 c (((dt h0 1 0).toNat : Nat) : Int) g = _
      unfold Plan_spanOf_L118s Plan_spanOf_B178
      rw [gC8 sg cx.1, cx.2.2.1, if_neg (by omega), gN7 sg, ivH sg, ap_ok mo sg cd, cl_some, aN7 sg (by omega) (by omega), lgP]
theorem c_largest {F : Nat} {n b : Int} {h0 : Hp} {Λ : Nat → Lw} (hF : 6000 ≤ F) (j : JJ n h0 Λ) (hb : 0 ≤ b ∧ b ≤ 600) : ∀ (k M : Nat) (h : Hp), k ≤ 16 → k < M → PL h0 h Λ → ∃ h', Plan_largest_L3 F M 82 22 b (k : Nat) h = some (lgD (fun k => lgB h0 (Λ 0) k b) k, h') ∧ PL h0 h' Λ := by
  have dk := jD j
  intro k
  induction k with
  | zero =>
    intro M h hk hM q
    obtain ⟨M, rfl⟩ : ∃ m, M = m + 1 := ⟨M - 1, by omega⟩
    refine ⟨h, ?_, q⟩
    show Plan_largest_L3s F (Plan_largest_L3 F M) 82 22 b ((0 : Nat) : Int) h = _
    unfold Plan_largest_L3s
    rw [if_neg (by decide)]
    rfl
  | succ k ih =>
    intro M h hk hM q
    obtain ⟨M, rfl⟩ : ∃ m, M = m + 1 := ⟨M - 1, by omega⟩
    have s := q.1.1
    have kk : 1 ≤ ((k + 1 : Nat) : Int) ∧ ((k + 1 : Nat) : Int) ≤ 16 := by omega
    have k17 : 0 ≤ ((k + 1 : Nat) : Int) ∧ ((k + 1 : Nat) : Int) < 17 := by omega
    have es : lgD (fun k => lgB h0 (Λ 0) k b) (k + 1) = if lgB h0 (Λ 0) ((k + 1 : Nat) : Int) b then ((k + 1 : Nat) : Int) else lgD (fun k => lgB h0 (Λ 0) k b) k := rfl
    have wk : w32 (((k + 1 : Nat) : Int) + -1) = ((k : Nat) : Int) := by rw [w32_id (by omega) (by omega)]; omega
    have B : ∀ g, PL h0 g Λ → 0 ≤ rd g 96 ((k + 1 : Nat) : Int) → (∀ b, 0 ≤ b → b ≤ 600 → (rd g 96 ((k + 1 : Nat) : Int) ≤ b ↔ lgB h0 (Λ 0) ((k + 1 : Nat) : Int) b = true)) → ∃ h', Plan_largest_B29 F (Plan_largest_L3 F M) 82 22 b ((k + 1 : Nat) : Int) g = some (lgD (fun k => lgB h0 (Λ 0) k b) (k + 1), h') ∧ PL h0 h' Λ := fun g qg g0 g1 => by
      have sg := qg.1.1
      unfold Plan_largest_B29
      rw [gN9 sg, aN9 sg k17.1 k17.2, es, wk]
      by_cases c : lgB h0 (Λ 0) ((k + 1 : Nat) : Int) b = true
      · rw [if_neg (by have := (g1 b hb.1 hb.2).2 c; omega), if_pos c]
        exact ⟨g, rfl, qg⟩
      · rw [if_pos (by apply Classical.byContradiction; intro z; exact c ((g1 b hb.1 hb.2).1 (by omega))), if_neg c]
        exact ih M g (by omega) (by omega) qg
    show ∃ h', Plan_largest_L3s F (Plan_largest_L3 F M) 82 22 b ((k + 1 : Nat) : Int) h = _ ∧ _
    unfold Plan_largest_L3s
    rw [if_pos (by omega), gN9 s, aN9 s k17.1 k17.2]
    rcases q.2.2.2.2 ((k + 1 : Nat) : Int) kk.1 kk.2 with c | ⟨c1, c2⟩
    · obtain ⟨v, g, a1, a2, a3, a4, a5⟩ := c_spanOf (F := F) hF j q kk
      have sg := a2.1.1
      rw [if_pos c, gN9 s, ivN s, a1, cl_some, sN9 sg k17.1 k17.2]
      have f2 : FrX (fun b => b = 96) g (wr g 96 ((k + 1 : Nat) : Int) v) := FrX_wr sg (ok96 _) (by decide) rfl
      refine B _ ⟨FrX_trans a2.1 (FrX_mono (fun b hb => by unfold Xl; omega) f2), Dy_wr (fun o => by have := own_in o; omega) a2.2.1, ?_⟩ (by rw [rd_same]; exact a4) (by rw [rd_same]; exact a5)
      obtain ⟨g1, g2, g3⟩ := a2.2.2
      refine ⟨fun w w0 w1 => ?_, ?_, fun x x0 x1 => ?_⟩
      · rw [rd_wr_ne (by decide)]
        rcases g1 w w0 w1 with q | ⟨q1, q2, q3⟩
        · exact Or.inl q
        · refine Or.inr ⟨q1, q2, RwE_X dk.1.2 f2 (by omega) (fun p p0 p1 => ?_) q3⟩
          have := sdA_in (L := plG (rd h0 239) w 0 0 3) ⟨p0, p1⟩
          omega
      · rw [rd_wr_ne (by decide), rd_wr_ne (by decide)]; exact g2
      · by_cases e : x = ((k + 1 : Nat) : Int)
        · subst e
          rw [rd_same]
          exact Or.inr ⟨a4, a5⟩
        · rw [rd_i e]; exact g3 x x0 x1
    · rw [if_neg (by omega)]
      exact B h q c1 c2
