/-! the class's planner: rows filled as they are wanted -/
theorem c_fill {F : Nat} {h g : Hp} {r k w sa rkd : Int} {G : Nat → Int} {al a8 : Nat} (hF : 1000 ≤ F) (m : Mo g) (hg : Gok (dt g) G) (mn : MnD (dt g) (G 3)) (hM : G 4 = 0 ∨ G 4 = 1) (hw : 0 ≤ w ∧ w < dt g 1 0) (s : Sh h) (d : Dy h) (ir : isRw r) (hsa : G 3 = 0 ∧ sa = 38 ∨ G 3 = 8 ∧ sa = 95) (sd : ∀ p, 0 ≤ p → p < dt g 0 0 → SdE h (sdA (G 3) p) (dt g) (G 3 + p)) (wk : WkE h k (G 0) (G 1) (dt g 3 w) (G 2) rkd) (hl : al < 256) (hl8 : a8 < 256) (h8a : ∀ s : Nat, s < 2 ^ (dt g 0 0).toNat → (s &&& a8 = s ↔ s &&& al = s)) :
    ∃ h', Rows_fill F r sa (dt g 0 0) a8 k (G 4) h = some (0, h') ∧ FrX (fun b => b = r ∨ b = r + 2 ∨ b = r + 3) h h' ∧ Dy h' ∧ RwE h' r (dt g) G w (G 2) al := by
  have o5 : Own r 5 := Or.inr ⟨ir, Or.inl rfl⟩
  have o6 : Own r 6 := Or.inr ⟨ir, Or.inr rfl⟩
  have hr := rw_cases ir
  have hz := s.1
  have h8' : dt g 0 0 ≤ 8 := m.2.2.1.2
  have onr : ∀ k, Own r k → k = 5 ∨ k = 6 := fun k ok => by
    rcases ok with ⟨q, -⟩ | ⟨-, q⟩
    · exact absurd rfl (sr_ne q ir)
    · exact q
  have orb : ∀ b j, Own b j → b ≠ r → b ≠ r + 2 ∧ b ≠ r + 3 := fun b j ob hb => by
    have := own_in ob
    unfold isRw at ir
    rcases ob with ⟨q, -⟩ | ⟨q, -⟩
    · omega
    · unfold isRw at q; omega
  rcases d.2.1 r ir with ⟨q1, q2, q3, q4⟩ | ⟨q1, q2⟩
  · obtain ⟨h', e1, ⟨z1, z2⟩, ⟨r5, r6⟩, fr, re, nb⟩ := c_fill_new (F := F) hF m hg mn hM hw s ir hsa sd wk q3 q4 hl hl8 h8a
    have hkl := fr.2.2.1
    have ow : ∀ b j, Own b j → b ≠ r → rd h' b j = rd h b j := fun b j ob hb => by
      have := own_lt ob
      have := orb b j ob hb
      rw [nb b (by omega) hb this.1 this.2]
    refine ⟨h', e1, ⟨fr.1, fr.2.1, hkl, fun b b1 b2 => nb b (by omega) (fun q => b2 (Or.inl q)) (fun q => b2 (Or.inr (Or.inl q))) (fun q => b2 (Or.inr (Or.inr q))), fun b j ob hb hk => ?_⟩, ⟨fun b hb => ?_, fun b hb => ?_, ?_, ?_⟩, re⟩
    · have := own_hi d ob
      exact nb _ (by omega) (by omega) (by omega) (by omega)
    · have c : b ≠ r := sr_ne hb ir
      unfold SdA
      rw [ow b 4 (Or.inl ⟨hb, Or.inl rfl⟩) c, ow b 5 (Or.inl ⟨hb, Or.inr rfl⟩) c]
      rcases d.1 b hb with ⟨y1, y2, y3, y4⟩ | ⟨y1, y2⟩
      · exact Or.inl ⟨y1, y2, vo_gr (by omega) hkl y3, by rw [(hkl _ (by omega)).2]; exact y4⟩
      · exact Or.inr ⟨vA_gr (by omega) hkl y1, vA_gr (by omega) hkl y2⟩
    · by_cases c : b = r
      · subst c
        exact Or.inr re.2.1
      · unfold RwA
        rw [ow b 5 (Or.inr ⟨hb, Or.inl rfl⟩) c, ow b 6 (Or.inr ⟨hb, Or.inr rfl⟩) c]
        rcases d.2.1 b hb with ⟨y1, y2, y3, y4⟩ | ⟨y1, y2⟩
        · exact Or.inl ⟨y1, y2, vo_gr (by omega) hkl y3, by rw [(hkl _ (by omega)).2]; exact y4⟩
        · exact Or.inr ⟨vA_gr (by omega) hkl y1, vA_gr (by omega) hkl y2⟩
    · exact Dst_new s d (by decide) o5 o6 onr r5 r6 ow
    · have u1 := Ur_new (h := h) (h' := h') ir (fun b hb hne => ow b 5 (Or.inr ⟨hb, Or.inl rfl⟩) hne) q1 (by rw [r5]; omega)
      have u2 : Us h' = Us h := by
        unfold Us
        congr 1
        exact List.map_congr_left (fun y hy => by
          have hy2 := sdL_iff.1 hy
          rw [ow y 5 (Or.inl ⟨hy2, Or.inr rfl⟩) (sr_ne hy2 ir)])
      have d4 := d.2.2.2
      unfold Rm at d4 ⊢
      rw [u1, u2, z1, z2]
      omega
  · have hes : rd h r 5 ≠ rd h r 6 := d.2.2.1 r 5 r 6 o5 o6 (by omega) q1.1.1
    have hd : ∀ p, 0 ≤ p → p < dt g 0 0 → rd h (sdA (G 3) p) 5 ≠ rd h r 5 ∧ rd h (sdA (G 3) p) 5 ≠ rd h r 6 := fun p p0 p1 => by
      have isd := (sd p p0 p1).1
      have os : Own (sdA (G 3) p) 5 := Or.inl ⟨isd, Or.inr rfl⟩
      have ne := sr_ne isd ir
      exact ⟨fun q => d.2.2.1 r 5 _ 5 o5 os (fun z => ne z.1.symm) q1.1.1 q.symm, fun q => d.2.2.1 r 6 _ 5 o6 os (fun z => ne z.1.symm) q2.1.1 q.symm⟩
    obtain ⟨h', e1, ⟨z1, z2⟩, ⟨r5, r6⟩, fr, re⟩ := c_fill_old (F := F) hF m hg mn hM hw s ir hsa sd wk q1 q2 hes hd hl hl8 h8a
    have hkl := fr.2.2.1
    have lo5 := q1.1.1
    have lo6 := q2.1.1
    have nb : ∀ b, b < 254 → b ≠ r → b ≠ r + 2 → b ≠ r + 3 → rd h' b = rd h b := fun b hb b0 b2 b3 => fr.2.2.2 b (by omega) b0 b2 b3 (by omega) (by omega)
    have ow : ∀ b j, Own b j → rd h' b j = rd h b j := fun b j ob => by
      by_cases c : b = r
      · subst c
        rcases onr j ob with e | e
        · rw [e]; exact r5
        · rw [e]; exact r6
      · have := own_lt ob
        have := orb b j ob c
        rw [nb b (by omega) c this.1 this.2]
    refine ⟨h', e1, ⟨fr.1, fr.2.1, hkl, fun b b1 b2 => nb b b1 (fun q => b2 (Or.inl q)) (fun q => b2 (Or.inr (Or.inl q))) (fun q => b2 (Or.inr (Or.inr q))), fun b j ob hb hk => ?_⟩, ⟨fun b hb => ?_, fun b hb => ?_, ?_, ?_⟩, re⟩
    · have := own_hi d ob
      have nr : b ≠ r := fun q => hb (Or.inl q)
      exact fr.2.2.2 _ (by omega) (by omega) (by omega) (by omega) (d.2.2.1 b j r 5 ob o5 (fun z => nr z.1) hk) (d.2.2.1 b j r 6 ob o6 (fun z => nr z.1) hk)
    · unfold SdA
      rw [ow b 4 (Or.inl ⟨hb, Or.inl rfl⟩), ow b 5 (Or.inl ⟨hb, Or.inr rfl⟩)]
      rcases d.1 b hb with ⟨y1, y2, y3, y4⟩ | ⟨y1, y2⟩
      · exact Or.inl ⟨y1, y2, vo_gr (by omega) hkl y3, by rw [(hkl _ (by omega)).2]; exact y4⟩
      · exact Or.inr ⟨vA_gr (by omega) hkl y1, vA_gr (by omega) hkl y2⟩
    · unfold RwA
      rw [ow b 5 (Or.inr ⟨hb, Or.inl rfl⟩), ow b 6 (Or.inr ⟨hb, Or.inr rfl⟩)]
      rcases d.2.1 b hb with ⟨y1, y2, y3, y4⟩ | ⟨y1, y2⟩
      · exact Or.inl ⟨y1, y2, vo_gr (by omega) hkl y3, by rw [(hkl _ (by omega)).2]; exact y4⟩
      · exact Or.inr ⟨vA_gr (by omega) hkl y1, vA_gr (by omega) hkl y2⟩
    · intro a k b j oa ob ne hk
      rw [ow a k oa] at hk
      rw [ow a k oa, ow b j ob]
      exact d.2.2.1 a k b j oa ob ne hk
    · have u1 : Ur h' = Ur h := by
        unfold Ur
        congr 1
        exact List.map_congr_left (fun y hy => by rw [ow y 5 (Or.inr ⟨rwL_iff.1 hy, Or.inl rfl⟩)])
      have u2 : Us h' = Us h := by
        unfold Us
        congr 1
        exact List.map_congr_left (fun y hy => by rw [ow y 5 (Or.inl ⟨sdL_iff.1 hy, Or.inr rfl⟩)])
      have d4 := d.2.2.2
      unfold Rm at d4 ⊢
      rw [u1, u2, z1, z2]
      exact d4
theorem and_sub {s a : Nat} : s &&& a = s ↔ ∀ i, s.testBit i = true → a.testBit i = true := by
  constructor
  · intro e i hi
    have := congrArg (fun x => x.testBit i) e
    simp only [Nat.testBit_and, hi, Bool.true_and] at this
    exact this
  · intro e
    apply Nat.eq_of_testBit_eq
    intro i
    rw [Nat.testBit_and]
    cases c : s.testBit i
    · rfl
    · rw [e i c]; rfl
/-- two ways to say which parts, alike as far as there are parts -/
theorem set_sub {f g : Int → Bool} {P : Nat} (hP : P ≤ 8) (e : ∀ p : Nat, p < P → f p = g p) {s : Nat} (hs : s < 2 ^ P) : s &&& setN f 8 = s ↔ s &&& setN g P = s := by
  have hb : ∀ i, s.testBit i = true → i < P := fun i hi => by
    apply Classical.byContradiction
    intro c
    have : s < 2 ^ i := Nat.lt_of_lt_of_le hs (Nat.pow_le_pow_right (by decide) (by omega))
    rw [Nat.testBit_lt_two_pow this] at hi
    exact absurd hi (by decide)
  rw [and_sub, and_sub]
  constructor <;> intro q i hi <;> have r := q i hi <;> have l := hb i hi <;> rw [setN_bit] at r ⊢ <;> simp only [Bool.and_eq_true, decide_eq_true_eq] at r ⊢
  · exact ⟨l, by rw [← e i l]; exact r.2⟩
  · exact ⟨by omega, by rw [e i l]; exact r.2⟩
theorem mn_day {D : Nat → Int → Int} {Λ : Nat → Lw} (d : Day D Λ) : MnD D 0 := fun p m n p0 p1 m0 mn n1 hn => by
  rw [Int.zero_add] at hn ⊢
  obtain ⟨-, -, -, -, q⟩ := d.2 p p0 p1
  rw [(q n (by omega) n1).2.2.1] at hn ⊢
  rw [(q m m0 (by omega)).2.2.1]
  exact nxI_mn m0 mn n1 hn
/-- while a plan is made -/
def Xp (b : Int) : Prop := 82 ≤ b ∧ b ≤ 138
def PQ (h0 h : Hp) (Λ : Nat → Lw) : Prop := FrX Xp h0 h ∧ Dy h ∧ JPl h (dt h0) (rd h0 239) (fun k b => lgB h0 (Λ 0) k b)
theorem PQ_0 {n : Int} {h : Hp} {Λ : Nat → Lw} (j : JJ n h Λ) : PQ h h Λ := ⟨FrX_refl (jS j), j.2.2.2, j.2.2.1⟩
theorem PQ_end {n : Int} {h0 h h2 : Hp} {Λ : Nat → Lw} (j : JJ n h0 Λ) (q : PQ h0 h Λ) (fr : Fr h h2) : JJ (n + 1) h2 Λ := JJ_q j q.1 (fun b hb => by unfold Xp at hb; unfold Xq; omega) q.2.1 q.2.2 fr
theorem PQ_CD {n : Int} {h0 h : Hp} {Λ : Nat → Lw} (j : JJ n h0 Λ) (q : PQ h0 h Λ) : CD h (dt h0) := CD_X (jD j).1.2 q.1 (fun b hb => by unfold Xp at hb; omega) (jCD j)
theorem PQ_St {n : Int} {h0 h : Hp} {Λ : Nat → Lw} (j : JJ n h0 Λ) (q : PQ h0 h Λ) : StE h 66 (dt h0) (rd h0 239) := StE_X (jD j).2.1.2 q.1 (fun a q1 q2 => by unfold Xp; omega) (jSt j)
theorem PQ_MT {n : Int} {h0 h : Hp} {Λ : Nat → Lw} (j : JJ n h0 Λ) (q : PQ h0 h Λ) : MT h ∧ dt h = dt h0 ∧ rd h 239 = rd h0 239 := by
  have e := RfE_X q.1 (fun b hb => by unfold Xp at hb; omega)
  exact ⟨RfE_MT e j.1.1, RfE_dt e, e.2 239 (by decide) (by decide)⟩
/-- only the known rows of one worker are filled anew -/
theorem JPl_fill {h h' : Hp} {D : Nat → Int → Int} {N : Int → Int} {LG : Int → Int → Bool} {w : Int} (h8 : D 0 0 ≤ 8) (hw : 0 ≤ w ∧ w < D 1 0) (f : FrX (fun b => b = 84 ∨ b = 97 + 6 * w ∨ b = 97 + 6 * w + 2 ∨ b = 97 + 6 * w + 3) h h') (e : ∀ v, 0 ≤ v → v < 3 → v ≠ w → rd h' 84 v = rd h 84 v) (re : RwE h' (97 + 6 * w) D (plG N w 0 0) w (N (38 + w) + 0) (nevN D N)) (e1 : rd h' 84 w = 1) (hw3 : D 1 0 ≤ 3) (g : JPl h D N LG) : JPl h' D N LG := by
  obtain ⟨g1, g2, g3⟩ := g
  have en : ∀ b, b < 254 → (b = 82 ∨ b = 93 ∨ b = 96) → rd h' b = rd h b := fun b h1 h2 => f.2.2.2.1 b h1 (by omega)
  refine ⟨fun v v0 v1 => ?_, ?_, ?_⟩
  · by_cases c : v = w
    · subst c
      exact Or.inr ⟨e1, hw.2, re⟩
    · rw [e v v0 v1 c]
      rcases g1 v v0 v1 with q | ⟨q1, q2, q3⟩
      · exact Or.inl q
      · refine Or.inr ⟨q1, q2, RwE_X h8 f (by omega) (fun p p0 p1 => ?_) q3⟩
        have := sdA_in (L := plG N v 0 0 3) ⟨p0, p1⟩
        omega
  · rw [en 82 (by decide) (by omega), en 93 (by decide) (by omega)]; exact g2
  · rw [en 96 (by decide) (by omega)]; exact g3
theorem c_rowsOf {F : Nat} {n w : Int} {h0 h : Hp} {Λ : Nat → Lw} (hF : 6000 ≤ F) (j : JJ n h0 Λ) (q : PQ h0 h Λ) (hw : 0 ≤ w ∧ w < dt h0 1 0) : ∃ h1, Plan_rowsOf F 82 22 66 w h = some (97 + 6 * w, h1) ∧ PQ h0 h1 Λ ∧ RwE h1 (97 + 6 * w) (dt h0) (plG (rd h0 239) w 0 0) w (rd h0 239 (38 + w) + 0) (nevN (dt h0) (rd h0 239)) ∧ FrX (fun b => b = 84 ∨ b = 97 + 6 * w ∨ b = 97 + 6 * w + 2 ∨ b = 97 + 6 * w + 3) h h1 := by
  have s := q.1.1
  have dk := jD j
  have mo := jMo j
  have rn := jRw j
  have hw3 : 0 ≤ w ∧ w < 3 := by have := dk.2.1.2; omega
  have cd := PQ_CD j q
  have st := PQ_St j q
  unfold Plan_rowsOf
  rcases q.2.2.1 w hw.1 hw3.2 with k0 | ⟨k1, -, k2⟩
  rotate_left
  · refine ⟨h, ?_, q, k2, FrX_refl s⟩
    rw [gN1 s, aN1 s hw.1 hw3.2, k1, if_neg (by decide), gN0 s, aN0 s hw.1 hw3.2]
  have hg := G_pl mo rn.1.1 (w := w) (d := 0) (e := 0) hw (by decide)
  have ir : isRw (97 + 6 * w) := by unfold isRw; omega
  have nN : ∀ p : Nat, p < (dt h0 0 0).toNat → (fun p => decide (rd h0 239 p < 0)) (p : Int) = (fun p => decide (rd h0 239 p = -2)) (p : Int) := fun p hp => by
    have := rn.1.1.2 p (by omega) (by have := dk.1.2; omega)
    show decide _ = decide _
    congr 1
    apply propext
    constructor <;> intro z <;> omega
  obtain ⟨ha, a1, a2, a3, a4⟩ := c_fill (F := F) (g := h0) (h := h) (r := 97 + 6 * w) (k := 66 + 9 + w) (w := w) (sa := 38) (G := plG (rd h0 239) w 0 0) (al := nevN (dt h0) (rd h0 239)) (a8 := setN (fun p => decide (rd h0 239 p < 0)) 8) (rkd := rd h0 239 (41 + w)) (by omega) mo hg (mn_day j.1.2.2.1) (Or.inl rfl) hw s q.2.1 ir (Or.inl ⟨rfl, rfl⟩) (fun p p0 p1 => by
      show SdE h (sdA 0 p) (dt h0) (0 + p)
      rw [Int.zero_add]
      exact (cd.2.2.1 p p0 p1).1) (by
      show WkE h (66 + 9 + w) (rd h0 239 (32 + w)) (rd h0 239 (35 + w)) (dt h0 3 w) (rd h0 239 (38 + w) + 0) (rd h0 239 (41 + w))
      rw [Int.add_zero]
      exact st.2.1 w hw.1 hw.2) (nev8 mo _) (setN_8 _ 8 (by decide)) (fun t ht => set_sub (D8 mo) nN ht)
  have s1 : Sh (wr ha 84 w 1) := shOk a2.1 (ok84 w)
  have f2 : FrX (fun b => b = 84 ∨ b = 97 + 6 * w ∨ b = 97 + 6 * w + 2 ∨ b = 97 + 6 * w + 3) h (wr ha 84 w 1) := FrX_trans (FrX_mono (fun b hb => Or.inr hb) a2) (FrX_wr a2.1 (ok84 w) (by decide) (Or.inl rfl))
  have dy : Dy (wr ha 84 w 1) := Dy_wr (fun o => by have := own_in o; omega) a3
  have re : RwE (wr ha 84 w 1) (97 + 6 * w) (dt h0) (plG (rd h0 239) w 0 0) w (rd h0 239 (38 + w) + 0) (nevN (dt h0) (rd h0 239)) := RwE_X dk.1.2 (FrX_wr (X := fun b => b = 84) a2.1 (ok84 w) (by decide) rfl) (by omega) (fun p p0 p1 => by have := sdA_in (L := plG (rd h0 239) w 0 0 3) ⟨p0, p1⟩; omega) a4
  have pl := JPl_fill dk.1.2 hw f2 (fun v v0 v1 vw => by rw [rd_i vw, a2.2.2.2.1 84 (by decide) (by omega)]) re (rd_same _ _ _ _) dk.2.1.2 q.2.2
  refine ⟨wr ha 84 w 1, ?_, ⟨FrX_trans q.1 (FrX_mono (fun b hb => by unfold Xp; omega) f2), dy, pl⟩, re, f2⟩
  have ic := cd.1.1
  have fl : Rows_fill F (97 + 6 * w) 38 (dt h0 0 0) (setN (fun p => decide (rd h0 239 p < 0)) 8 : Nat) (66 + 9 + w) 0 h = some (0, ha) := a1
  rw [gN1 s, aN1 s hw.1 hw3.2, k0, if_pos rfl, gN0 s, aN0 s hw.1 hw3.2, gH3 s, gH0 s, gC4 s ic, cd.1.2.1, ivS s st.1, c_neverDone (by omega) s st, cl_some, gS0 s st.1, aS0 s st.1 hw.1 hw3.2, ivQ s ir, fl, cl_some, gN1 a2.1, sN1 a2.1 hw.1 hw3.2 (Or.inr rfl), gN0 s1, aN0 s1 hw.1 hw3.2]
