/-! hands, alike -/
theorem ap_ok {F : Nat} {h g : Hp} (m : Mo g) (sh : Sh h) (cd : CD h (dt g)) : Shor_allParts F 22 h = some (((2 ^ (dt g 0 0).toNat - 1 : Nat) : Int), h) := by
  have h00 := m.2.2.1.1
  have h08 := m.2.2.1.2
  have P256 : 2 ^ (dt g 0 0).toNat ≤ 256 := Nat.pow_le_pow_right (n := 2) (by decide) (D8 m)
  have hpos := Nat.two_pow_pos (dt g 0 0).toNat
  unfold Shor_allParts
  have e : ishl 1 (dt g 0 0) = ((2 ^ (dt g 0 0).toNat : Nat) : Int) := by
    have := ishl_1 (dt g 0 0).toNat (by omega)
    rw [Int.toNat_of_nonneg (by omega)] at this
    exact this
  rw [gH0 sh, gC4 sh cd.1.1, cd.1.2.1, e, w32_id (by omega) (by omega), Int.ofNat_sub hpos]
  rfl
theorem ok93 {x : Int} (hx : x = 93 ∨ x = 94) : ∀ i, okW x i = true := fun i => by rcases hx with e | e <;> subst e <;> exact okW_arr (by decide) (fun _ => by decide)
theorem vo93 {x : Int} (hx : x = 93 ∨ x = 94) : ∀ q : Hp, Sh q → vo q x 0 ∧ hln q x = 256 := fun q s => by
  rcases hx with e | e <;> subst e
  · exact ⟨s.vo 93 0 (by decide) (by decide) rfl, s.ln 93 256 (by decide) (by decide) rfl⟩
  · exact ⟨s.vo 94 0 (by decide) (by decide) rfl, s.ln 94 256 (by decide) (by decide) rfl⟩
theorem c_beginSpans {F : Nat} {h : Hp} {x : Int} (hF : 1000 ≤ F) (s : Sh h) (hx : x = 93 ∨ x = 94) : ∃ h', Plan_beginSpans F x h = some (0, h') ∧ FrA x h h' ∧ ∀ v : Nat, v < 256 → rd h' x v = if v = 0 then 0 else 10000 := by
  obtain ⟨h1, a1, a2, a3⟩ := c_fillArr (F := F) (v := 10000) hF s (vo93 hx) (by decide) (ok93 hx)
  refine ⟨wr h1 x 0 0, ?_, FrA_wr a2 (ok93 hx 0), fun v hv => ?_⟩
  · unfold Plan_beginSpans
    rw [a1, cl_some, as_ok (vo93 hx h1 a2.2.1).1 (vo93 hx h1 a2.2.1).2 (by decide) (by decide)]
  · by_cases c : v = 0
    · subst c
      rw [if_pos rfl]; exact rd_same _ _ _ _
    · rw [if_neg c, rd_i (by omega)]
      exact a3 v (by omega) (by omega)
/-- what the spans tell after some workers -/
def SpW (P : Nat) (C : Int → Nat → Nat → Bool) (i : Nat) (A : Int → Int) : Prop := ∀ v : Nat, v < 2 ^ P → 0 ≤ A v ∧ ∀ b, 0 ≤ b → b ≤ 600 → (A v ≤ b ↔ shW (C b) i v = true)
theorem SpW_0 {P : Nat} {C : Int → Nat → Nat → Bool} {A : Int → Int} (hP : P ≤ 8) (h : ∀ v : Nat, v < 256 → A v = if v = 0 then 0 else 10000) : SpW P C 0 A := fun v hv => by
  have P256 : 2 ^ P ≤ 256 := Nat.pow_le_pow_right (n := 2) (by decide) hP
  rw [h v (by omega)]
  refine ⟨by split <;> decide, fun b b0 b1 => ?_⟩
  show _ ↔ (v == 0) = true
  rw [beq_iff_eq]
  constructor
  · intro q
    apply Classical.byContradiction
    intro c
    rw [if_neg c] at q
    omega
  · intro q
    rw [if_pos q]; exact b0
theorem SpW_s {g : Hp} {G : Nat → Int} {w a : Int} {al i : Nat} {C : Int → Nat → Nat → Bool} {A B : Int → Int} (m : Mo g) (hg : Gok (dt g) G) (hw : 0 ≤ w ∧ w < dt g 1 0) (hC : ∀ b, ∀ w v, C b w v = true → v < 2 ^ (dt g 0 0).toNat) (h0 : ∀ b, C b i 0 = true) (hc : ∀ b, 0 ≤ b → b ≤ 600 → ∀ v : Nat, v ≠ 0 → v < 2 ^ (dt g 0 0).toNat → (C b i v = true ↔ snC (dt g) G w a al v ≤ b)) (hA : SpW (dt g 0 0).toNat C i A) (hB : ∀ v : Nat, v < 2 ^ (dt g 0 0).toNat → SpN g G w a al A v (B v)) : SpW (dt g 0 0).toNat C (i + 1) B := fun v hv => by
  obtain ⟨s1, s2⟩ := hB v hv
  refine ⟨s1, fun b b0 b1 => ?_⟩
  rw [s2 b b0 b1, shW_step (D8 m) (h0 b) (hC b), (hA v hv).2 b b0 b1]
  have key : ∀ q : Nat, q ≠ 0 → q &&& v = q → (snC (dt g) G w a al q ≤ b ∧ A ((v ^^^ q : Nat) : Int) ≤ b ↔ C b i q = true ∧ shW (C b) i (v ^^^ q) = true) := fun q q0 q1 => by
    have ql : q < 2 ^ (dt g 0 0).toNat := Nat.lt_of_le_of_lt (by rw [← q1]; exact Nat.and_le_right) hv
    rw [hc b b0 b1 q q0 ql, (hA (v ^^^ q) (Nat.xor_lt_two_pow hv ql)).2 b b0 b1]
  constructor
  · rintro (z | ⟨q, q0, q1, q2, q3⟩)
    · exact Or.inl z
    · have := (key q q0 q1).1 ⟨q2, q3⟩
      exact Or.inr ⟨q, q0, q1, this.1, this.2⟩
  · rintro (z | ⟨q, q0, q1, q2, q3⟩)
    · exact Or.inl z
    · have := (key q q0 q1).2 ⟨q2, q3⟩
      exact Or.inr ⟨q, q0, q1, this.1, this.2⟩
theorem JPl_93 {h h' : Hp} {D : Nat → Int → Int} {N : Int → Int} {LG : Int → Int → Bool} (h8 : D 0 0 ≤ 8) (f : FrA 93 h h') (h6 : rd h 82 6 = 0) (g : JPl h D N LG) : JPl h' D N LG := by
  obtain ⟨g1, g2, g3⟩ := g
  have fx := FrX_FrA (by decide) f
  refine ⟨fun w w0 w1 => ?_, ?_, ?_⟩
  · rw [f.2.2 84 (by decide)]
    rcases g1 w w0 w1 with q | ⟨q1, q2, q3⟩
    · exact Or.inl q
    · refine Or.inr ⟨q1, q2, RwE_X h8 fx (by omega) (fun p p0 p1 => ?_) q3⟩
      have := sdA_in (L := plG N w 0 0 3) ⟨p0, p1⟩
      omega
  · rw [f.2.2 82 (by decide)]; exact Or.inl h6
  · rw [f.2.2 96 (by decide)]; exact g3
theorem hnB_gap {D : Nat → Int → Int} {A : Nat → Bool} {a : Nat} (h : ∀ n, a < n → A n = false) : ∀ d : Nat, hnB D A (a + d) = hnB D A a := by
  intro d
  induction d with
  | zero => rfl
  | succ d ih =>
    show (if A (a + d + 1) = true ∧ _ then _ else hnB D A (a + d)) = _
    rw [if_neg (fun z => by rw [h (a + d + 1) (by omega)] at z; exact absurd z.1 (by decide)), ih]
theorem c_shared {F : Nat} {n b : Int} {h0 h : Hp} {Λ : Nat → Lw} (hF : 6000 ≤ F) (j : JJ n h0 Λ) (q : PQ h0 h Λ) (hb : 0 ≤ b ∧ b ≤ 600) (k6 : rd h 82 6 = 1) : Plan_sharedSet_L61 F F 82 22 b 0 1 h = some (((hanS h0 b : Nat) : Int), h) := by
  have mo := jMo j
  have s := q.1.1
  have cd := PQ_CD j q
  have P256 : 2 ^ (dt h0 0 0).toNat ≤ 256 := Nat.pow_le_pow_right (n := 2) (by decide) (D8 mo)
  have hpos := Nat.two_pow_pos (dt h0 0 0).toNat
  obtain ⟨-, spn⟩ : rd h 82 6 = 1 ∧ ∀ v : Nat, v < 2 ^ (dt h0 0 0).toNat → 0 ≤ rd h 93 v ∧ ∀ b, 0 ≤ b → b ≤ 600 → (rd h 93 v ≤ b ↔ shW (fun w s => wcan (dt h0) (rd h0 239) w b s) (dt h0 1 0).toNat v = true) := by
    rcases q.2.2.2.1 with z | z
    · omega
    · exact z
  have hC : ∀ w v : Nat, hanC h0 b w v = true → v < 2 ^ (dt h0 0 0).toNat := fun w v z => wcan_lt z
  have hA := shW_lt hC (dt h0 1 0).toNat
  have fin : hanS h0 b = hnB (dt h0) (shW (hanC h0 b) (dt h0 1 0).toNat) (2 ^ (dt h0 0 0).toNat - 1) := by
    unfold hanS
    have := hnB_gap (D := dt h0) (A := shW (hanC h0 b) (dt h0 1 0).toNat) (a := 2 ^ (dt h0 0 0).toNat - 1) (fun v hv => by
      cases c : shW (hanC h0 b) (dt h0 1 0).toNat v
      · rfl
      · have := hA v c; omega) (255 - (2 ^ (dt h0 0 0).toNat - 1))
    rw [show 2 ^ (dt h0 0 0).toNat - 1 + (255 - (2 ^ (dt h0 0 0).toNat - 1)) = 255 by omega] at this
    exact this
  have lt : ∀ i, i < 2 ^ (dt h0 0 0).toNat → hnB (dt h0) (shW (hanC h0 b) (dt h0 1 0).toNat) i < 2 ^ (dt h0 0 0).toNat := fun i hi => hnB_lt hpos hA i
  rw [fin]
  have key := loop0 (fun N i => Plan_sharedSet_L61 F N 82 22 b ((hnB (dt h0) (shW (hanC h0 b) (dt h0 1 0).toNat) i : Nat) : Int) ((i + 1 : Nat) : Int) h) (2 ^ (dt h0 0 0).toNat - 1) F (some (((hnB (dt h0) (shW (hanC h0 b) (dt h0 1 0).toNat) (2 ^ (dt h0 0 0).toNat - 1) : Nat) : Int), h)) (by omega) (fun N i hi => ?_) (fun N => ?_)
  · exact key
  · show Plan_sharedSet_L61s F (Plan_sharedSet_L61 F N) 82 22 b ((hnB (dt h0) (shW (hanC h0 b) (dt h0 1 0).toNat) i : Nat) : Int) ((i + 1 : Nat) : Int) h = Plan_sharedSet_L61 F N 82 22 b ((hnB (dt h0) (shW (hanC h0 b) (dt h0 1 0).toNat) (i + 1) : Nat) : Int) ((i + 1 + 1 : Nat) : Int) h
    have es : hnB (dt h0) (shW (hanC h0 b) (dt h0 1 0).toNat) (i + 1) = if shW (hanC h0 b) (dt h0 1 0).toNat (i + 1) = true ∧ wbV (dt h0) (hnB (dt h0) (shW (hanC h0 b) (dt h0 1 0).toNat) i) < wbV (dt h0) (i + 1) then i + 1 else hnB (dt h0) (shW (hanC h0 b) (dt h0 1 0).toNat) i := rfl
    have l1 := lt i (by omega)
    have l2 : i + 1 < 2 ^ (dt h0 0 0).toNat := by omega
    have x1 : ¬ ((2 ^ (dt h0 0 0).toNat - 1 : Nat) : Int) < ((i + 1 : Nat) : Int) := by omega
    have x2 : (0 : Int) ≤ ((i + 1 : Nat) : Int) ∧ ((i + 1 : Nat) : Int) < 256 ∧ (0 : Int) ≤ ((hnB (dt h0) (shW (hanC h0 b) (dt h0 1 0).toNat) i : Nat) : Int) ∧ ((hnB (dt h0) (shW (hanC h0 b) (dt h0 1 0).toNat) i : Nat) : Int) < 256 := by omega
    have sp := (spn (i + 1) l2).2 b hb.1 hb.2
    have x3 : w32 (((i + 1 : Nat) : Int) + 1) = ((i + 1 + 1 : Nat) : Int) := w32_nat (by omega)
    unfold Plan_sharedSet_L61s
    rw [ivH s, ap_ok mo s cd, cl_some, if_neg x1, gN5 s, aN5 s x2.1 x2.2.1, x3]
    by_cases c : shW (hanC h0 b) (dt h0 1 0).toNat (i + 1) = true
    · rw [if_neg (by have := sp.2 c; omega), gH4 s, aH4 s x2.1 x2.2.1, gH4 s, aH4 s x2.2.2.1 x2.2.2.2, cd.2.2.2 _ l2, cd.2.2.2 _ l1]
      by_cases c2 : wbV (dt h0) (hnB (dt h0) (shW (hanC h0 b) (dt h0 1 0).toNat) i) < wbV (dt h0) (i + 1)
      · rw [if_pos c2, es, if_pos ⟨c, c2⟩]
      · rw [if_neg c2, es, if_neg (fun z => c2 z.2)]
    · rw [if_pos (by apply Classical.byContradiction; intro z; exact c (sp.1 (by omega))), es, if_neg (fun z => c z.1)]
  · show Plan_sharedSet_L61s F (Plan_sharedSet_L61 F N) 82 22 b _ ((2 ^ (dt h0 0 0).toNat - 1 + 1 : Nat) : Int) h = _
    unfold Plan_sharedSet_L61s
    rw [ivH s, ap_ok mo s cd, cl_some, if_pos (by omega)]
theorem c_sharedSet {F : Nat} {n b : Int} {h0 h : Hp} {Λ : Nat → Lw} (hF : 6000 ≤ F) (j : JJ n h0 Λ) (q : PQ h0 h Λ) (hb : 0 ≤ b ∧ b ≤ 600) : ∃ h1, Plan_sharedSet F 82 22 66 b h = some (((hanS h0 b : Nat) : Int), h1) ∧ PQ h0 h1 Λ := by
  have mo := jMo j
  have dk := jD j
  have rn := jRw j
  have s := q.1.1
  have h3 := dk.2.1
  unfold Plan_sharedSet
  rcases q.2.2.2.1 with k6 | ⟨k6, -⟩
  rotate_left
  · exact ⟨h, by rw [gN6 s, k6, if_neg (by decide), c_shared hF j q hb k6], q⟩
  obtain ⟨ha, a1, a2, a3⟩ := c_beginSpans (F := F) (x := 93) (by omega) s (Or.inl rfl)
  have fa := FrX_FrA (by decide) a2
  have qa : PQ h0 ha Λ := ⟨FrX_trans q.1 (FrX_mono (fun b hb => by unfold Xp; omega) fa), Dy_X a2.1 fa (fun x k o => by have := own_in o; omega) q.2.1, JPl_93 dk.1.2 a2 k6 q.2.2⟩
  have ka : rd ha 82 6 = 0 := by rw [a2.2.2 82 (by decide)]; exact k6
  rw [gN6 s, k6, if_pos rfl, gN5 s, a1, cl_some]
  refine loopE (fun N i h1 => Plan_sharedSet_L17 F N 82 22 66 b (i : Nat) h1) (dt h0 1 0).toNat (fun i h1 => PQ h0 h1 Λ ∧ rd h1 82 6 = 0 ∧ SpW (dt h0 0 0).toNat (fun b w s => wcan (dt h0) (rd h0 239) w b s) i (rd h1 93)) (fun z => ∃ h1, z = some (((hanS h0 b : Nat) : Int), h1) ∧ PQ h0 h1 Λ) (fun N i h1 hi P => Or.inl ?_) (fun N h1 P => ?_) (dt h0 1 0).toNat F 0 ha (by omega) (by omega) ⟨qa, ka, SpW_0 (D8 mo) a3⟩
  · obtain ⟨p1, p2, p3⟩ := P
    have s1 := p1.1.1
    have cd1 := PQ_CD j p1
    have hw : 0 ≤ (i : Int) ∧ (i : Int) < dt h0 1 0 := by omega
    obtain ⟨hb', b1, b2, b3, b4⟩ := c_rowsOf (F := F) hF j p1 hw
    have hg := G_pl mo rn.1.1 (w := (i : Int)) (d := 0) (e := 0) hw (by decide)
    have e93 : rd hb' 93 = rd h1 93 := b4.2.2.2.1 93 (by decide) (by omega)
    have e82 : rd hb' 82 6 = 0 := by rw [b4.2.2.2.1 82 (by decide) (by omega)]; exact p2
    obtain ⟨hc, c1, c2, c3⟩ := c_shareIn (F := F) (by omega) mo hg hw b4.1 b3 (Or.inl rfl) (fun v hv => by rw [e93]; exact (p3 v hv).1)
    have fc := FrX_FrA (by decide) c2
    refine ⟨hc, ⟨⟨FrX_trans b2.1 (FrX_mono (fun b hb => by unfold Xp; omega) fc), Dy_X c2.1 fc (fun x k o => by have := own_in o; omega) b2.2.1, JPl_93 dk.1.2 c2 e82 b2.2.2⟩, by rw [c2.2.2 82 (by decide)]; exact e82, ?_⟩, ?_⟩
    · refine SpW_s (w := (i : Int)) (a := rd h0 239 (38 + (i : Int)) + 0) mo hg hw (fun b w v z => wcan_lt z) (fun b => ?_) (fun b b0 b1 v v0 vl => ?_) p3 (fun v hv => by rw [← e93]; exact c3 v hv)
      · show decide (wcV _ _ _ _ _ = 1) = true
        unfold wcV canV
        rw [if_pos ⟨Nat.zero_and _, Or.inl rfl⟩]
        rfl
      · rw [sn_le mo hg hw v0 b1]
        show decide (wcV _ _ _ _ _ = 1) = true ↔ _
        unfold wcV canV
        rw [decide_eq_true_eq]
        constructor
        · intro z
          split at z
          · rename_i y; exact ⟨y.1, y.2.resolve_left v0⟩
          · omega
        · intro z
          rw [if_pos ⟨z.1, Or.inr z.2⟩]
    · show Plan_sharedSet_L17s F (Plan_sharedSet_L17 F N) 82 22 66 b (i : Nat) h1 = _
      unfold Plan_sharedSet_L17s
      have ir : isRw (97 + 6 * (i : Int)) := b3.1.1
      rw [gH0 s1, gC8 s1 cd1.1.1, cd1.1.2.2.1, if_pos hw.2, ivN s1, b1, cl_some, gN5 b4.1, ivQ b4.1 ir, c1, cl_some, w32_nat (by omega)]
  · obtain ⟨p1, p2, p3⟩ := P
    have s1 := p1.1.1
    have cd1 := PQ_CD j p1
    have s2 : Sh (wr h1 82 6 1) := shOk s1 (ok82 rfl)
    have f2 : FrX (fun b => b = 82) h1 (wr h1 82 6 1) := FrX_wr s1 (ok82 rfl) (by decide) rfl
    have pl : JPl (wr h1 82 6 1) (dt h0) (rd h0 239) (fun k b => lgB h0 (Λ 0) k b) := by
      obtain ⟨g1, g2, g3⟩ := p1.2.2
      refine ⟨fun w w0 w1 => ?_, Or.inr ⟨rd_same _ _ _ _, ?_⟩, ?_⟩
      · rw [rd_wr_ne (by decide)]
        rcases g1 w w0 w1 with q | ⟨q1, q2, q3⟩
        · exact Or.inl q
        · refine Or.inr ⟨q1, q2, RwE_X dk.1.2 f2 (by omega) (fun p p0 p1 => ?_) q3⟩
          have := sdA_in (L := plG (rd h0 239) w 0 0 3) ⟨p0, p1⟩
          omega
      · rw [rd_wr_ne (by decide)]; exact p3
      · rw [rd_wr_ne (by decide)]; exact g3
    have q2 : PQ h0 (wr h1 82 6 1) Λ := ⟨FrX_trans p1.1 (FrX_mono (fun b hb => by unfold Xp; omega) f2), Dy_wr (fun o => by have := own_in o; omega) p1.2.1, pl⟩
    refine ⟨wr h1 82 6 1, ?_, q2⟩
    show Plan_sharedSet_L17s F (Plan_sharedSet_L17 F N) 82 22 66 b (((dt h0 1 0).toNat : Nat) : Int) h1 = _
    unfold Plan_sharedSet_L17s
    rw [gH0 s1, gC8 s1 cd1.1.1, cd1.1.2.2.1, if_neg (by omega), pN6 s1 (Or.inr rfl), c_shared hF j q2 hb (rd_same _ _ _ _)]
theorem k_hands {F : Nat} {n b q : Int} {h : Hp} {Λ : Nat → Lw} (hF : 6000 ≤ F) (j : JJ n h Λ) : Okc n h (Tide_hands F 1 b q h) (fun h1 => Mod_hands F 194 b q h1) := by
  have s := jS j
  have q0 := PQ_0 j
  have mo := jMo j
  by_cases cc : (0 ≤ b ∧ b ≤ 600) ∧ (0 ≤ q ∧ q ≤ 1)
  rotate_left
  · refine okc_p j (r := -1) (h1 := h) ?_ q0 ?_
    · unfold Tide_hands
      rw [c_isBound, cl_some]
      by_cases cb : 0 ≤ b ∧ b ≤ 600
      · rw [if_pos cb, if_neg (by decide)]
        by_cases q1 : q < 0
        · rw [if_pos q1]
        · rw [if_neg q1, if_pos (by apply Classical.byContradiction; intro z; exact cc ⟨cb, by omega, by omega⟩)]
      · rw [if_neg cb, if_pos rfl]
    · obtain ⟨h2, e, f⟩ := m_hands (F := F) (b := b) (q := q) (by omega) j.1.1
      refine ⟨h2, ?_, f⟩
      unfold hanA at e
      rw [if_pos cc] at e
      exact e
  obtain ⟨cb, cq⟩ := cc
  obtain ⟨h1, a1, a2⟩ := c_sharedSet (F := F) hF j q0 cb
  obtain ⟨mt, ed, e239⟩ := PQ_MT j a2
  have s1 := a2.1.1
  refine okc_p j (h1 := h1) ?_ a2 (m_hands (by omega) mt)
  have eh : hanS h1 b = hanS h b := by unfold hanS hanC; rw [ed, e239]
  have P256 : 2 ^ (dt h 0 0).toNat ≤ 256 := Nat.pow_le_pow_right (n := 2) (by decide) (D8 mo)
  have lt : hanS h b < 2 ^ (dt h 0 0).toNat := hnB_lt (Nat.two_pow_pos _) (shW_lt (fun w v z => wcan_lt z) _) _
  unfold Tide_hands hanA
  rw [c_isBound, cl_some, if_pos cb, if_neg (by decide), if_neg (by omega), if_neg (by omega), gT9 s, gT4 s, gT5 s, ivN s, a1, cl_some, if_neg (show ¬ ¬ ((0 ≤ b ∧ b ≤ 600) ∧ (0 ≤ q ∧ q ≤ 1)) from fun z => z ⟨cb, cq⟩), eh, ed]
  by_cases c0 : q = 0
  · rw [if_pos c0, if_pos c0, gT4 s1, gH4 s1, aH4 s1 (by omega) (by omega), (PQ_CD j a2).2.2.2 _ lt]
  · rw [if_neg c0, if_neg c0]
