/-! planAt, after -/
theorem gSt {n w : Int} {h : Hp} {Λ : Nat → Lw} (j : JJ n h Λ) : Mo (stH (cpH h) w 0) ∧ dt (stH (cpH h) w 0) = dt h ∧ Pg (stH (cpH h) w 0) = plG (rd h 239) w 0 0 := by
  have f : Fr h (stH (cpH h) w 0) := Fr_st (Fr_cp j.1.1) w 0
  refine ⟨(Fr_MT j.1.1 f).1.1, Fr_dt f, ?_⟩
  rw [Pg_st, cpH_240]
theorem c_ptrace {F : Nat} {n w b : Int} {h0 h : Hp} {Λ : Nat → Lw} (hF : 6000 ≤ F) (j : JJ n h0 Λ) (q : PQ h0 h Λ) (hw : 0 ≤ w ∧ w < dt h0 1 0) (hb : 0 ≤ b ∧ b ≤ 600) : ∃ ha h1, Plan_rowsOf F 82 22 66 w h = some (97 + 6 * w, ha) ∧ Rows_bestSet F (97 + 6 * w) 39 b ha = some (((plSet (dt h0) (rd h0 239) w 0 b : Nat) : Int), ha) ∧ Rows_trace F (97 + 6 * w) ((plSet (dt h0) (rd h0 239) w 0 b : Nat) : Int) 92 ha = some (((pcN (plSet (dt h0) (rd h0 239) w 0 b) 8 : Nat) : Int), h1) ∧ Sh ha ∧ PQ h0 h1 Λ ∧ RwE h1 (97 + 6 * w) (dt h0) (plG (rd h0 239) w 0 0) w (rd h0 239 (38 + w) + 0) (nevN (dt h0) (rd h0 239)) ∧ ∀ i : Int, 0 ≤ i → i < ((pcN (plSet (dt h0) (rd h0 239) w 0 b) 8 : Nat) : Int) → rd h1 92 i = prow (dt h0) (rd h0 239) w b i := by
  have mo := jMo j
  have dk := jD j
  have hw3 : 0 ≤ w ∧ w < 3 := by have := dk.2.1.2; omega
  have hg := G_pl mo (jRw j).1.1 (w := w) (d := 0) (e := 0) hw (by decide)
  obtain ⟨ha, a1, a2, a3, a4⟩ := c_rowsOf (F := F) hF j q hw
  have bs := c_bestSet (F := F) (by omega) mo hg hw a4.1 a3 (fun t ht => (PQ_CD j a2).2.2.2 t ht) hb
  obtain ⟨gm, gd, gp⟩ := gSt (w := w) j
  obtain ⟨h1, t1, t2, t3⟩ := c_trace (F := F) (h := ha) (g := stH (cpH h0) w 0) (r := 97 + 6 * w) (w := w) (a := rd h0 239 (38 + w) + 0) (al := nevN (dt h0) (rd h0 239)) (s := plSet (dt h0) (rd h0 239) w 0 b) (by omega) gm (by rw [gd, gp]; exact hg) (by rw [gd]; exact hw) a4.1 (by rw [gd, gp]; exact a3) (nev8 mo _) (by rw [gd]; exact plSet_lt) plSet_sub
  rw [gd, gp] at t3
  have f92 : FrX (fun b => b = 92) ha h1 := FrX_FrA (by decide) t2
  refine ⟨ha, h1, a1, bs, t1, a4.1, ⟨FrX_trans a2.1 (FrX_mono (fun b hb => by unfold Xp; omega) f92), Dy_X t2.1 f92 (fun x k o => by have := own_in o; omega) a2.2.1, JPl_X dk.1.2 f92 (fun b hb => by omega) a2.2.2⟩, RwE_X dk.1.2 f92 (by omega) (fun p p0 p1 => by have := sdA_in (L := plG (rd h0 239) w 0 0 3) ⟨p0, p1⟩; omega) a3, t3⟩
theorem k_planAt {F : Nat} {n w b i : Int} {h : Hp} {Λ : Nat → Lw} (hF : 6000 ≤ F) (j : JJ n h Λ) : Okc n h (Tide_planAt F 1 w b i h) (fun h1 => Mod_planAt F 194 w b i h1) := by
  have s := jS j
  have cd := jCD j
  have q0 := PQ_0 j
  by_cases cc : (0 ≤ w ∧ w < dt h 1 0) ∧ (0 ≤ b ∧ b ≤ 600) ∧ 0 ≤ i
  rotate_left
  · refine okc_p j (r := -1) (h1 := h) ?_ q0 ?_
    · unfold Tide_planAt
      rw [ivT s, c_isWorker s cd, cl_some]
      by_cases cw : 0 ≤ w ∧ w < dt h 1 0
      · rw [if_pos cw, if_neg (by decide), c_isBound, cl_some]
        by_cases cb : 0 ≤ b ∧ b ≤ 600
        · rw [if_pos cb, if_neg (by decide), if_pos (by omega)]
        · rw [if_neg cb, if_pos rfl]
      · rw [if_neg cw, if_pos rfl]
    · obtain ⟨h2, e, f⟩ := m_planAt (F := F) (w := w) (b := b) (i := i) (by omega) j.1.1
      refine ⟨h2, ?_, f⟩
      unfold plaA at e
      rw [if_pos cc] at e
      exact e
  obtain ⟨cw, cb, ci⟩ := cc
  obtain ⟨ha, h1, a1, a2, a3, sa, pq, -, row⟩ := c_ptrace (F := F) hF j q0 cw cb
  obtain ⟨mt, ed, e239⟩ := PQ_MT j pq
  have s1 := pq.1.1
  have ir : isRw (97 + 6 * w) := by have := (jD j).2.1.2; unfold isRw; omega
  refine okc_p j (h1 := h1) ?_ pq (m_planAt (by omega) mt)
  unfold Tide_planAt Plan_trace
  rw [ivT s, c_isWorker s cd, cl_some, if_pos cw, if_neg (by decide), c_isBound, cl_some, if_pos cb, if_neg (by decide), if_neg (by omega), gT9 s, gT4 s, gT5 s, ivN s, ivN s, a1, cl_some, gH4 sa, ivQ sa ir, a2, cl_some, gN4 sa, ivQ sa ir, a3, cl_some, cl_some]
  unfold plaA
  rw [ed, e239, if_neg (show ¬ ¬ ((0 ≤ w ∧ w < dt h 1 0) ∧ (0 ≤ b ∧ b ≤ 600) ∧ 0 ≤ i) from fun z => z ⟨cw, cb, ci⟩)]
  have p8 := pcN_le (plSet (dt h) (rd h 239) w 0 b) 8
  by_cases c : i < ((pcN (plSet (dt h) (rd h 239) w 0 b) 8 : Nat) : Int)
  · rw [if_pos c, if_pos c, gT9 s1, gN4 s1, aN4 s1 ci (by omega), row i ci c]
  · rw [if_neg c, if_neg c]
theorem or_2lt {a b P : Nat} (ha : a < 2 ^ P) (hb : b < 2 ^ P) : a ||| b < 2 ^ P := Nat.or_lt_two_pow ha hb
theorem sm_e {f g : Int → Int} {k : Nat} (h : ∀ p : Nat, p < k → f p = g p) : smN f k = smN g k := sm_ext k h
theorem k_after {F : Nat} {n w b t : Int} {h : Hp} {Λ : Nat → Lw} (hF : 6000 ≤ F) (j : JJ n h Λ) : Okc n h (Tide_after F 1 w b t h) (fun h1 => Mod_after F 194 w b t h1) := by
  have s := jS j
  have cd := jCD j
  have q0 := PQ_0 j
  have dk := jD j
  have mo := jMo j
  have rn := jRw j
  by_cases cc : (0 ≤ w ∧ w < dt h 1 0) ∧ (0 ≤ b ∧ b ≤ 600) ∧ (0 ≤ t ∧ t < 600)
  rotate_left
  · refine okc_p j (r := -1) (h1 := h) ?_ q0 ?_
    · unfold Tide_after
      rw [ivT s, c_isWorker s cd, cl_some]
      by_cases cw : 0 ≤ w ∧ w < dt h 1 0
      · rw [if_pos cw, if_neg (by decide), c_isBound, cl_some]
        by_cases cb : 0 ≤ b ∧ b ≤ 600
        · rw [if_pos cb, if_neg (by decide), c_isMinute, cl_some, if_neg (fun z => cc ⟨cw, cb, z⟩), if_pos rfl]
        · rw [if_neg cb, if_pos rfl]
      · rw [if_neg cw, if_pos rfl]
    · obtain ⟨h2, e, f⟩ := m_after (F := F) (w := w) (b := b) (t := t) (by omega) j.1.1
      refine ⟨h2, ?_, f⟩
      unfold aftA at e
      rw [if_pos cc] at e
      exact e
  obtain ⟨cw, cb, ct⟩ := cc
  obtain ⟨ha, h1, a1, a2, a3, sa, pq, re, row⟩ := c_ptrace (F := F) hF j q0 cw cb
  obtain ⟨mt, ed, e239⟩ := PQ_MT j pq
  have s1 := pq.1.1
  have cd1 := PQ_CD j pq
  have ir : isRw (97 + 6 * w) := by have := dk.2.1.2; unfold isRw; omega
  have hw3 : 0 ≤ w ∧ w < 3 := by have := dk.2.1.2; omega
  have hP8 := D8 mo
  obtain ⟨gm, gd, gp⟩ := gSt (w := w) j
  have hg := G_pl mo rn.1.1 (w := w) (d := 0) (e := 0) cw (by decide)
  have slt : plSet (dt h) (rd h 239) w 0 b < 2 ^ (dt h 0 0).toNat := plSet_lt
  obtain ⟨S, S0, Sn, Sk, r0, r1, rl⟩ := row_ch (g := stH (cpH h) w 0) (w := w) (a := rd h 239 (38 + w) + 0) (al := nevN (dt h) (rd h 239)) (s := plSet (dt h) (rd h 239) w 0 b) gm (by rw [gd, gp]; exact hg) (by rw [gd]; exact cw) (nev8 mo _) (by rw [gd]; exact slt) plSet_sub
  rw [gd, gp] at Sk r0 r1 rl
  have hA : plA (dt h) (plG (rd h 239) w 0 0) w (CT (dt h) (plG (rd h 239) w 0 0) w (nevN (dt h) (rd h 239))) (rd h 239 (38 + w) + 0) (plSet (dt h) (rd h 239) w 0 b) (fun _ => 0) = prow (dt h) (rd h 239) w b := rfl
  rw [hA] at Sk r0 r1 rl
  have can : plSet (dt h) (rd h 239) w 0 b = 0 ∨ (plSet (dt h) (rd h 239) w 0 b &&& nevN (dt h) (rd h 239) = plSet (dt h) (rd h 239) w 0 b ∧ lrV (CT (dt h) (plG (rd h 239) w 0 0) w (nevN (dt h) (rd h 239))) (rd h 239 (38 + w) + 0) (plSet (dt h) (rd h 239) w 0 b) ≤ b) := bsR_can _
  have tok := fun i => CT_ok mo hg (al := nevN (dt h) (rd h 239)) cw i
  have p8 := pcN_le (plSet (dt h) (rd h 239) w 0 b) 8
  have hsub : plSet (dt h) (rd h 239) w 0 b &&& nevN (dt h) (rd h 239) = plSet (dt h) (rd h 239) w 0 b := plSet_sub
  have hset : plSet (dt h) (rd h 239) w 0 b = plSet (dt h) (rd h 239) w 0 b := rfl
  generalize hT : CT (dt h) (plG (rd h 239) w 0 0) w (nevN (dt h) (rd h 239)) = T at *
  generalize hs : plSet (dt h) (rd h 239) w 0 b = st at *
  generalize hN : pcN st 8 = N at *
  generalize hR : prow (dt h) (rd h 239) w b = A at *
  -- all the ends are minutes
  have fin : ∀ k : Nat, k < N → T (8 * (S (k + 1) : Int) + A (k : Nat)) ≤ 600 ∧ 0 ≤ T (8 * (S (k + 1) : Int) + A (k : Nat)) := by
    have last : ∀ d k : Nat, k + d + 1 = N → T (8 * (S (k + 1) : Int) + A (k : Nat)) ≠ 100000 := by
      intro d
      induction d with
      | zero =>
        intro k hk z
        have e := rl (by omega)
        rw [show N - 1 = k by omega, ← Sn, show N = k + 1 by omega, z] at e
        rcases can with c | c
        · have : N = 0 := by rw [← hN, c]; rfl
          omega
        · rw [← Sn, show N = k + 1 by omega, ← e] at c
          omega
      | succ d ih =>
        intro k hk z
        have e := r1 k (by omega)
        refine ih (k + 1) (by omega) ?_
        rw [e]
        unfold rb1
        rw [z, if_pos rfl]
    intro k hk
    have l := last (N - 1 - k) k (by omega)
    have := tok (8 * (S (k + 1) : Int) + A (k : Nat))
    unfold Vok at this
    omega
  have nev : ∀ k : Nat, k < N → rd h 239 (A (k : Nat)) = -2 := fun k hk => by
    obtain ⟨b1, b2, b3, b4, b5, -⟩ := Sk k hk
    have hb : (S (k + 1)).testBit (A (k : Nat)).toNat = true := by
      rw [b3, Nat.testBit_or, Nat.testBit_two_pow_self, Bool.or_true]
    have := and_sub.1 b5 _ hb
    unfold nevN at this
    rw [setN_bit] at this
    simp only [Bool.and_eq_true, decide_eq_true_eq] at this
    have e := this.2
    rw [Int.toNat_of_nonneg b1.1] at e
    exact e
  have rok := afR_ok mo (w := w) (A := A) (R := rd h 239) (n := N) cw rn.1.1 j.1.1.1.2.1 (fun i i0 i1 => by
    have := (Sk i.toNat (by omega)).1
    rw [Int.toNat_of_nonneg i0] at this
    exact this)
  -- what the acts have done
  have inv : ∀ k : Nat, k ≤ N → (k = 0 → afR (dt h) w A (rd h 239) k = rd h 239) ∧ (∀ i : Nat, k = i + 1 → afR (dt h) w A (rd h 239) k (38 + w) = T (8 * (S k : Int) + A (i : Nat)) ∧ afR (dt h) w A (rd h 239) k (32 + w) = dt h 6 (A (i : Nat)) ∧ afR (dt h) w A (rd h 239) k (35 + w) = dt h 7 (A (i : Nat)) ∧ afR (dt h) w A (rd h 239) k = sndR (dt h) (afR (dt h) w A (rd h 239) i) w (A (i : Nat)) ∧ sndV (dt h) (afR (dt h) w A (rd h 239) i) w (A (i : Nat)) = T (8 * (S k : Int) + A (i : Nat))) ∧ ∀ p : Nat, p < 8 → (S k).testBit p = false → afR (dt h) w A (rd h 239) k p = rd h 239 p ∧ afR (dt h) w A (rd h 239) k (8 + p) = rd h 239 (8 + p) ∧ afR (dt h) w A (rd h 239) k (16 + p) = rd h 239 (16 + p) := by
    intro k
    induction k with
    | zero => exact fun _ => ⟨fun _ => rfl, fun i hi => by omega, fun p _ _ => ⟨rfl, rfl, rfl⟩⟩
    | succ k ih =>
      intro hk
      obtain ⟨i1, i2, i3⟩ := ih (by omega)
      obtain ⟨b1, b2, b3, b4, b5, -⟩ := Sk k (by omega)
      have f := fin k (by omega)
      have an := nev k (by omega)
      have hpa : 0 ≤ A (k : Nat) ∧ A (k : Nat) < 8 := by have := dk.1.2; omega
      have eR : afR (dt h) w A (rd h 239) k (A (k : Nat)) = -2 := by
        have := (i3 (A (k : Nat)).toNat (by omega) b2).1
        rw [Int.toNat_of_nonneg b1.1] at this
        rw [this, an]
      have sv : sndV (dt h) (afR (dt h) w A (rd h 239) k) w (A (k : Nat)) = T (8 * (S (k + 1) : Int) + A (k : Nat)) := by
        have te : T (8 * (S (k + 1) : Int) + A (k : Nat)) = stepV (dt h) 0 w (afR (dt h) w A (rd h 239) k (32 + w)) (afR (dt h) w A (rd h 239) k (35 + w)) (afR (dt h) w A (rd h 239) k (38 + w)) (A (k : Nat)) := by
          cases k with
          | zero =>
            have e := r0 (by omega)
            rw [e, i1 rfl]
            unfold rb0
            show stepV (dt h) 0 w (rd h 239 (32 + w)) (rd h 239 (35 + w)) (rd h 239 (38 + w) + 0) (0 + A ((0 : Nat) : Int)) = _
            rw [Int.add_zero, Int.zero_add]
          | succ k =>
            have e := r1 k (by omega)
            obtain ⟨c1, c2, c3, -, -⟩ := i2 k rfl
            rw [c1, c2, c3, e]
            unfold rb1
            rw [if_neg (by have := fin k (by omega); omega)]
            show stepV (dt h) 0 w (dt h 6 (0 + A (k : Nat))) (dt h 7 (0 + A (k : Nat))) _ (0 + A ((k + 1 : Nat) : Int)) = _
            rw [Int.zero_add, Int.zero_add]
        rw [te] at f ⊢
        unfold sndV
        rw [if_neg (fun z => z.1 eR)]
        unfold stepV at f ⊢
        rw [if_pos rfl] at f ⊢
        show (if nxD (dt h) (A (k : Nat)) (comeR (dt h) (afR (dt h) w A (rd h 239) k) w (A (k : Nat))) < 0 then -2 else _) = _
        unfold comeR
        by_cases c : nxD (dt h) (A (k : Nat)) (afR (dt h) w A (rd h 239) k (38 + w) + wayI (dt h 3 w) (afR (dt h) w A (rd h 239) k (32 + w)) (afR (dt h) w A (rd h 239) k (35 + w)) (dt h 6 (A (k : Nat))) (dt h 7 (A (k : Nat)))) < 0
        · rw [if_pos c] at f; omega
        · rw [if_neg c, if_neg c]
      have eS : afR (dt h) w A (rd h 239) (k + 1) = sndR (dt h) (afR (dt h) w A (rd h 239) k) w (A (k : Nat)) := by
        show actS (dt h) (afR (dt h) w A (rd h 239) k) 0 w (A (k : Nat)) = _
        unfold actS
        rw [if_pos rfl, if_neg (by rw [sv]; omega)]
      refine ⟨fun z => by omega, fun i hi => ?_, fun p hp hb => ?_⟩
      · have ei : i = k := by omega
        subst ei
        rw [eS]
        refine ⟨?_, ?_, ?_, rfl, sv⟩
        · unfold sndR goR
          rw [up_s, sv]
        · unfold sndR goR
          rw [up_n (by omega), up_n (by omega), up_s]
        · unfold sndR goR
          rw [up_n (by omega), up_s]
      · rw [b3, Nat.testBit_or] at hb
        simp only [Bool.or_eq_false_iff] at hb
        obtain ⟨x1, x2, x3⟩ := i3 p hp hb.1
        have ne : (p : Int) ≠ A (k : Nat) := fun z => by
          have : (A (k : Nat)).toNat = p := by omega
          rw [this, Nat.testBit_two_pow_self] at hb
          exact absurd hb.2 (by decide)
        obtain ⟨y1, y2⟩ := Nr_snd (D := dt h) (N := afR (dt h) w A (rd h 239) k) hw3 hpa
        rw [eS, y2 p (by omega) (by omega) (by omega) (by omega) (by omega) (by omega) (by omega) (by omega) (by omega) (by omega), y2 (8 + p) (by omega) (by omega) (by omega) (by omega) (by omega) (by omega) (by omega) (by omega) (by omega) (by omega), y2 (16 + p) (by omega) (by omega) (by omega) (by omega) (by omega) (by omega) (by omega) (by omega) (by omega) (by omega)]
        exact ⟨x1, x2, x3⟩
  -- what the class sees
  have S8 : ∀ k : Nat, k ≤ N → S k < 2 ^ (dt h 0 0).toNat := fun k hk => by
    cases k with
    | zero => rw [S0]; exact Nat.two_pow_pos _
    | succ k => exact (Sk k (by omega)).2.2.2.1
  have P256 : ∀ x : Nat, x < 2 ^ (dt h 0 0).toNat → x < 256 := fun x hx => Nat.lt_of_lt_of_le hx (Nat.pow_le_pow_right (n := 2) (by decide) hP8)
  have loop : ∀ d k M Z : Nat, k + d = N → d < M → Z < 2 ^ (dt h 0 0).toNat → (∀ p : Nat, p < 8 → Z.testBit p = ((S k).testBit p && seenD (dt h) (afR (dt h) w A (rd h 239) k) p t)) → ∃ Z' : Nat, Plan_visibleAfter_L40 F M 82 22 t (97 + 6 * w) (N : Nat) (S k : Nat) (Z : Nat) (k : Nat) h1 = some ((Z' : Int), h1) ∧ Z' < 2 ^ (dt h 0 0).toNat ∧ ∀ p : Nat, p < 8 → Z'.testBit p = ((S N).testBit p && seenD (dt h) (afR (dt h) w A (rd h 239) N) p t) := by
    intro d
    induction d with
    | zero =>
      intro k M Z hk hM hZ hb
      obtain ⟨M, rfl⟩ : ∃ m, M = m + 1 := ⟨M - 1, by omega⟩
      have ek : k = N := by omega
      subst ek
      refine ⟨Z, ?_, hZ, hb⟩
      show Plan_visibleAfter_L40s F _ 82 22 t (97 + 6 * w) (k : Nat) (S k : Nat) (Z : Nat) (k : Nat) h1 = _
      unfold Plan_visibleAfter_L40s
      rw [if_neg (by omega)]
    | succ d ih =>
      intro k M Z hk hM hZ hb
      obtain ⟨M, rfl⟩ : ∃ m, M = m + 1 := ⟨M - 1, by omega⟩
      obtain ⟨b1, b2, b3, b4, b5, b6⟩ := Sk k (by omega)
      have f := fin k (by omega)
      obtain ⟨i1, i2, i3⟩ := inv (k + 1) (by omega)
      obtain ⟨c1, c2, c3, c4, c5⟩ := i2 k rfl
      have hp8 : A (k : Nat) < 8 := by have := dk.1.2; omega
      obtain ⟨a, ea⟩ : ∃ a : Nat, A (k : Nat) = (a : Int) := ⟨(A (k : Nat)).toNat, by omega⟩
      rw [ea, Int.toNat_natCast] at b2 b3
      rw [ea] at f c1 c2 c3 c4 c5 b1
      have ha8 : a < 8 := by omega
      have rk : rd h1 92 (k : Nat) = (a : Int) := by rw [row k (by omega) (by omega), ea]
      have hbit : (S (k + 1)).testBit a = true := by rw [b3, Nat.testBit_or, Nat.testBit_two_pow_self, Bool.or_true]
      have en : rd h1 (rd h1 (97 + 6 * w) 5) (8 * (S (k + 1) : Int) + a) = T (8 * (S (k + 1) : Int) + a) := by
        have := (re.2.2.2 (S (k + 1)) b4).2 (Nat.pos_of_ne_zero b6) b5 a hbit
        rw [this, hT]
        unfold cap
        rw [if_neg (by omega)]
      have seen : seenD (dt h) (afR (dt h) w A (rd h 239) (k + 1)) a t = (decide (T (8 * (S (k + 1) : Int) + a) ≤ t) && !covD (dt h) a (T (8 * (S (k + 1) : Int) + a)) t) := by
        have v1 : afR (dt h) w A (rd h 239) (k + 1) a = T (8 * (S (k + 1) : Int) + a) := by
          rw [c4]
          unfold sndR goR
          rw [up_n (by omega), up_n (by omega), up_n (by omega), up_n (by omega), up_n (by omega), up_n (by omega), up_n (by omega), up_s, c5]
        have v2 : afR (dt h) w A (rd h 239) (k + 1) (8 + a) = 0 := by
          rw [c4]
          unfold sndR goR
          rw [up_n (by omega), up_n (by omega), up_n (by omega), up_n (by omega), up_n (by omega), up_n (by omega), up_s]
        have v3 : afR (dt h) w A (rd h 239) (k + 1) (16 + a) = -2 := by
          rw [c4]
          unfold sndR goR
          rw [up_n (by omega), up_n (by omega), up_n (by omega), up_n (by omega), up_n (by omega), up_s]
        unfold seenD
        rw [v1, v2, v3]
        have n1 : (T (8 * (S (k + 1) : Int) + a) == -2) = false := by
          rw [beq_eq_false_iff_ne]; omega
        have n2 : decide ((-2 : Int) ≤ t) = true := decide_eq_true (by omega)
        rw [n1, n2]
        simp
      have hnext : ∀ Z2 : Nat, Z2 = (if decide (T (8 * (S (k + 1) : Int) + a) ≤ t) && !covD (dt h) a (T (8 * (S (k + 1) : Int) + a)) t then Z ||| 2 ^ a else Z) → ∀ p : Nat, p < 8 → Z2.testBit p = ((S (k + 1)).testBit p && seenD (dt h) (afR (dt h) w A (rd h 239) (k + 1)) p t) := fun Z2 hZ2 p hp => by
        by_cases c : p = a
        · subst c
          rw [seen, hbit, Bool.true_and, hZ2]
          have hz : Z.testBit p = false := by rw [hb p hp, b2, Bool.false_and]
          split
          · rename_i q; rw [q, Nat.testBit_or, Nat.testBit_two_pow_self, Bool.or_true]
          · rename_i q; rw [hz]; simp only [Bool.not_eq_true] at q; exact q.symm
        · have h2 : (2 ^ a).testBit p = false := by rw [Nat.testBit_two_pow_of_ne (Ne.symm c)]
          have e1 : Z2.testBit p = Z.testBit p := by
            rw [hZ2]
            split
            · rw [Nat.testBit_or, h2, Bool.or_false]
            · rfl
          have e2 : (S (k + 1)).testBit p = (S k).testBit p := by rw [b3, Nat.testBit_or, h2, Bool.or_false]
          rw [e1, e2, hb p hp]
          have hpa : 0 ≤ (a : Int) ∧ (a : Int) < 8 := by omega
          obtain ⟨y1, y2⟩ := Nr_snd (D := dt h) (N := afR (dt h) w A (rd h 239) k) (w := w) hw3 hpa
          congr 1
          unfold seenD
          rw [c4, y2 p (by omega) (by omega) (by omega) (by omega) (by omega) (by omega) (by omega) (by omega) (by omega) (by omega), y2 (8 + p) (by omega) (by omega) (by omega) (by omega) (by omega) (by omega) (by omega) (by omega) (by omega) (by omega), y2 (16 + p) (by omega) (by omega) (by omega) (by omega) (by omega) (by omega) (by omega) (by omega) (by omega) (by omega)]
      have sk256 := P256 _ (S8 k (by omega))
      have sk1 := P256 _ b4
      have z256 := P256 _ hZ
      have o1 : (0 : Int) ≤ (k : Int) ∧ (k : Int) < 8 ∧ (k : Int) < (N : Int) := by omega
      have o2 : 0 ≤ 8 * (S (k + 1) : Int) + a ∧ 8 * (S (k + 1) : Int) + a < 2048 := by omega
      have o3 : (0 : Int) ≤ (a : Int) ∧ (a : Int) < 8 := by omega
      have o4 : 0 ≤ T (8 * (S (k + 1) : Int) + a) ∧ T (8 * (S (k + 1) : Int) + a) ≤ 600 := ⟨f.2, f.1⟩
      have aP : a < (dt h 0 0).toNat := by omega
      have wk : w32 ((k : Int) + 1) = ((k + 1 : Nat) : Int) := w32_nat (by omega)
      have io : ior (S k : Int) (ishl 1 (a : Int)) = ((S (k + 1) : Nat) : Int) := by rw [ior_p sk256 ha8, b3]
      have iz : ior (Z : Int) (ishl 1 (a : Int)) = ((Z ||| 2 ^ a : Nat) : Int) := ior_p z256 ha8
      have ix : w32 (w32 (((S (k + 1) : Nat) : Int) * 8) + (a : Int)) = 8 * (S (k + 1) : Int) + a := by
        have e1 : w32 (((S (k + 1) : Nat) : Int) * 8) = ((S (k + 1) : Nat) : Int) * 8 := w32_id (by omega) (by omega)
        rw [e1, w32_id (by omega) (by omega)]; omega
      obtain ⟨isd, isf, ifr⟩ := cd1.2.2.1 a o3.1 b1.2
      have wash := c_washed (F := F) (m := t) (dn := T (8 * (S (k + 1) : Int) + a)) s1 isd.1 isf ct o4 ifr
      show ∃ Z' : Nat, Plan_visibleAfter_L40s F (Plan_visibleAfter_L40 F M) 82 22 t (97 + 6 * w) (N : Nat) (S k : Nat) (Z : Nat) (k : Nat) h1 = some ((Z' : Int), h1) ∧ _
      have unf : Plan_visibleAfter_L40s F (Plan_visibleAfter_L40 F M) 82 22 t (97 + 6 * w) (N : Nat) (S k : Nat) (Z : Nat) (k : Nat) h1 = Plan_visibleAfter_L40 F M 82 22 t (97 + 6 * w) (N : Nat) (S (k + 1) : Nat) ((if decide (T (8 * (S (k + 1) : Int) + a) ≤ t) && !covD (dt h) a (T (8 * (S (k + 1) : Int) + a)) t then Z ||| 2 ^ a else Z : Nat) : Int) ((k + 1 : Nat) : Int) h1 := by
        unfold Plan_visibleAfter_L40s
        rw [if_pos o1.2.2, gN4 s1, aN4 s1 o1.1 o1.2.1, rk, lt_eq, io, gQ5 s1 ir, ix, al_ok re.2.1.1.1.2 re.2.1.1.2 o2.1 o2.2, en, wk]
        by_cases c : t < T (8 * (S (k + 1) : Int) + a)
        · rw [if_pos c, if_neg (by simp only [Bool.and_eq_true, decide_eq_true_eq]; exact fun q => absurd q.1 (Int.not_le.2 c))]
        · rw [if_neg c, gH3 s1, aH3 s1 o3.1 o3.2, ivA s1 isd.1, wash, cl_some]
          by_cases cv : covD (dt h) a (T (8 * (S (k + 1) : Int) + a)) t = true
          · rw [if_pos cv, if_neg (by decide), if_neg (by rw [cv]; simp)]
          · rw [if_neg cv, if_pos rfl, lt_eq, iz, if_pos (by simp only [Bool.not_eq_true] at cv; rw [cv]; simp only [Bool.and_eq_true, decide_eq_true_eq]; exact ⟨Int.not_lt.1 c, rfl⟩)]
      rw [unf]
      exact ih (k + 1) M _ (by omega) (by omega) (by split <;> first | exact or_2lt hZ (Nat.pow_lt_pow_right (by decide) aP) | exact hZ) (hnext _ rfl)
  obtain ⟨Z, z1, z2, z3⟩ := loop N 0 F 0 (by omega) (by omega) (Nat.two_pow_pos _) (fun p hp => by rw [S0, Nat.zero_testBit, Bool.false_and])
  rw [S0] at z1
  have vis := c_visible (F := F) (by omega) s dk cd (jSt j) rn.1 ct
  obtain ⟨-, -, iN⟩ := inv N (by omega)
  have Vb : ∀ p : Nat, p < (dt h 0 0).toNat → ((setN (fun p => seenD (dt h) (rd h 239) p t) (dt h 0 0).toNat) ||| Z).testBit p = seenD (dt h) (afR (dt h) w A (rd h 239) N) p t := fun p hp => by
    rw [Nat.testBit_or, setN_bit, z3 p (by omega)]
    have dp : decide (p < (dt h 0 0).toNat) = true := decide_eq_true hp
    rw [dp, Bool.true_and]
    cases c : (S N).testBit p
    · rw [Bool.false_and, Bool.or_false]
      obtain ⟨x1, x2, x3⟩ := iN p (by omega) c
      unfold seenD
      rw [x1, x2, x3]
    · rw [Bool.true_and]
      have n2 : rd h 239 p = -2 := by
        rw [Sn] at c
        have := and_sub.1 hsub _ c
        unfold nevN at this
        rw [setN_bit] at this
        simp only [Bool.and_eq_true, decide_eq_true_eq] at this
        exact this.2
      have : seenD (dt h) (rd h 239) p t = false := by unfold seenD; rw [n2]; rfl
      rw [this, Bool.false_or]
  have Vlt : (setN (fun p => seenD (dt h) (rd h 239) p t) (dt h 0 0).toNat) ||| Z < 2 ^ (dt h 0 0).toNat := or_2lt (setN_lt _ _) z2
  have V256 := P256 _ Vlt
  have iv : ior ((setN (fun p => seenD (dt h) (rd h 239) p t) (dt h 0 0).toNat : Nat) : Int) ((Z : Nat) : Int) = (((setN (fun p => seenD (dt h) (rd h 239) p t) (dt h 0 0).toNat) ||| Z : Nat) : Int) := ior_nat (by have := P256 _ (setN_lt (fun p => seenD (dt h) (rd h 239) p t) (dt h 0 0).toNat); omega) (by have := P256 _ z2; omega)
  have Vw : wbV (dt h) ((setN (fun p => seenD (dt h) (rd h 239) p t) (dt h 0 0).toNat) ||| Z) = phS (dt h) (afR (dt h) w A (rd h 239) N) t (dt h 0 0).toNat := by
    have e : ((setN (fun p => seenD (dt h) (rd h 239) p t) (dt h 0 0).toNat) ||| Z) = setN (fun p => seenD (dt h) (afR (dt h) w A (rd h 239) N) p t) (dt h 0 0).toNat := by
      apply Nat.eq_of_testBit_eq
      intro i
      by_cases c : i < (dt h 0 0).toNat
      · rw [Vb i c, setN_bit, decide_eq_true c, Bool.true_and]
      · rw [setN_bit, decide_eq_false c, Bool.false_and]
        exact Nat.testBit_lt_two_pow (Nat.lt_of_lt_of_le Vlt (Nat.pow_le_pow_right (by decide) (by omega)))
    rw [e, wbV_set hP8]
    rfl
  refine okc_p j (h1 := h1) ?_ pq (m_after (by omega) mt)
  have h00 := dk.1.1
  have hp := phS_in dk (R := afR (dt h) w A (rd h 239) N) (t := t) (dt h 0 0).toNat (by omega)
  have h14 := dk.2.2.2.2.2.2.2.2 t ct.1 ct.2
  have hm : 0 ≤ phS (dt h) (afR (dt h) w A (rd h 239) N) t (dt h 0 0).toNat * dt h 14 t ∧ phS (dt h) (afR (dt h) w A (rd h 239) N) t (dt h 0 0).toNat * dt h 14 t ≤ 792 * 100 := ⟨Int.mul_nonneg hp.1 h14.1, Int.mul_le_mul (by omega) h14.2 h14.1 (by decide)⟩
  unfold Tide_after Plan_visibleAfter
  rw [ivT s, c_isWorker s cd, cl_some, if_pos cw, if_neg (by decide), c_isBound, cl_some, if_pos cb, if_neg (by decide), c_isMinute, cl_some, if_pos ct, if_neg (by decide), gT5 s, gT4 s, ivS s (Or.inl rfl), vis, cl_some, gT9 s, gT4 s, gT5 s, ivN s, ivN s, a1, cl_some, gH4 sa, ivQ sa ir, a2, cl_some, gN4 sa, ivQ sa ir, a3, cl_some]
  rw [show Plan_visibleAfter_L40 F F 82 22 t (97 + 6 * w) ((N : Nat) : Int) 0 0 0 h1 = some ((Z : Int), h1) from z1, cl_some, lt_eq, iv, gT4 s1, gH4 s1, aH4 s1 (by omega) (by omega), gT4 s1, gH2 s1, aH2 s1 ct.1 ct.2, cd1.2.2.2 _ Vlt, (cd1.2.1 t ct.1 ct.2).2, Vw, w32_id (by omega) (by omega)]
  unfold aftA
  rw [ed, e239, if_neg (show ¬ ¬ ((0 ≤ w ∧ w < dt h 1 0) ∧ (0 ≤ b ∧ b ≤ 600) ∧ (0 ≤ t ∧ t < 600)) from fun z => z ⟨cw, cb, ct⟩), hs, hN, hR]
