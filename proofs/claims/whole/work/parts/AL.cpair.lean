/-! two, alike -/
theorem wb_in {g : Hp} (m : Mo g) {s : Nat} (hs : s < 2 ^ (dt g 0 0).toNat) : 0 ≤ wbV (dt g) s ∧ wbV (dt g) s ≤ 792 := wbS_in m.2.2 hs 8
def twE (q : Nat × Nat) : Int := 256 * (q.1 : Int) + q.2
theorem c_pairI {F : Nat} {h g : Hp} {r1 r2 w2 a2 b : Int} {G2 : Nat → Int} {al2 s : Nat} {q0 : Nat × Nat} {co : Nat → Bool} (m : Mo g) (hg2 : Gok (dt g) G2) (hw2 : 0 ≤ w2 ∧ w2 < dt g 1 0) (sh : Sh h) (re2 : RwE h r2 (dt g) G2 w2 a2 al2) (cd : CD h (dt g)) (hb : 0 ≤ b ∧ b ≤ 600) (hs : s < 2 ^ (dt g 0 0).toNat) (hq0 : q0.1 < 2 ^ (dt g 0 0).toNat ∧ q0.2 < 2 ^ (dt g 0 0).toNat) (hco : ∀ n, n < 2 ^ (dt g 0 0).toNat → canV (CT (dt g) G2 w2 al2) a2 b al2 n = if co n then 1 else 0) (hcl : ∀ n, co n = true → n < 2 ^ (dt g 0 0).toNat) (R15 : Int → Int → Int → Int → Int → Int → Int → Int → Hp → Option (Int × Hp)) :
    ∀ d M t c : Nat, ((2 ^ (dt g 0 0).toNat - 1) ^^^ s) - t ≤ d → d < M → t &&& ((2 ^ (dt g 0 0).toNat - 1) ^^^ s) = t → c ≤ t →
      Plan_bestPair_L49 F R15 M 22 r1 r2 b ((2 ^ (dt g 0 0).toNat - 1 : Nat) : Int) (wbV (dt g) ((twI (dt g) co s q0 t).1 ||| (twI (dt g) co s q0 t).2)) (twE (twI (dt g) co s q0 t)) (s : Nat) (((2 ^ (dt g 0 0).toNat - 1) ^^^ s : Nat) : Int) (c : Nat) (t : Nat) h = R15 22 r1 r2 b ((2 ^ (dt g 0 0).toNat - 1 : Nat) : Int) (wbV (dt g) ((twI (dt g) co s q0 256).1 ||| (twI (dt g) co s q0 256).2)) (twE (twI (dt g) co s q0 256)) ((s + 1 : Nat) : Int) h := by
  obtain ⟨o1, o2⟩ := opnS hs
  have P256 : 2 ^ (dt g 0 0).toNat ≤ 256 := Nat.pow_le_pow_right (n := 2) (by decide) (D8 m)
  generalize hop : (2 ^ (dt g 0 0).toNat - 1) ^^^ s = op at *
  have hpos := Nat.two_pow_pos (dt g 0 0).toNat
  intro d
  induction d with
  | zero =>
    intro M t c hd hM ht hc
    obtain ⟨M, rfl⟩ : ∃ k, M = k + 1 := ⟨M - 1, by omega⟩
    have tle : t ≤ op := by rw [← ht]; exact Nat.and_le_right
    have et : t = op := by omega
    subst et
    show Plan_bestPair_L49s F R15 (Plan_bestPair_L49 F R15 M) 22 r1 r2 b _ _ _ (s : Nat) (t : Nat) (c : Nat) (t : Nat) h = _
    have stp : twI (dt g) co s q0 256 = twI (dt g) co s q0 (t + 1) := by
      have := twI_gap (D := dt g) (co := co) (s := s) (q := q0) (a := t + 1) (256 - (t + 1)) (fun n n0 n1 z => by
        have := (o2 n (hcl n z.2)).1 z.1
        have : n ≤ t := by rw [← this]; exact Nat.and_le_right
        omega)
      rw [show t + 1 + (256 - (t + 1)) = 256 by omega] at this
      exact this
    have z0 : s &&& t = 0 := (o2 t o1).2 ht
    have b1 := wb_in m hs
    have b2 := wb_in m o1
    have wor := wbV_or (D := dt g) z0
    have ib := c_isBy (F := F) m hg2 hw2 sh re2 hb o1
    have es : twI (dt g) co s q0 (t + 1) = if s &&& t = 0 ∧ co t = true ∧ wbV (dt g) ((twI (dt g) co s q0 t).1 ||| (twI (dt g) co s q0 t).2) < wbV (dt g) (s ||| t) then (s, t) else twI (dt g) co s q0 t := rfl
    have n1 : ¬ ((2 ^ (dt g 0 0).toNat - 1 : Nat) : Int) < (c : Nat) := by omega
    have i1 : (0 : Int) ≤ (s : Int) ∧ (s : Int) < 256 ∧ (0 : Int) ≤ (t : Int) ∧ (t : Int) < 256 := by omega
    have n2 : w32 (wbV (dt g) s + wbV (dt g) t) = wbV (dt g) s + wbV (dt g) t := w32_id (by omega) (by omega)
    have n3 : w32 (w32 ((s : Int) * 256) + (t : Int)) = 256 * (s : Int) + t := by
      have e : w32 ((s : Int) * 256) = (s : Int) * 256 := w32_id (by omega) (by omega)
      rw [e, w32_id (by omega) (by omega)]; omega
    have n4 : w32 ((s : Int) + 1) = ((s + 1 : Nat) : Int) := w32_nat (by omega)
    have B : ∀ x y, Plan_bestPair_B106 F R15 (Plan_bestPair_L49 F R15 M) 22 r1 r2 b ((2 ^ (dt g 0 0).toNat - 1 : Nat) : Int) x y (s : Nat) (t : Nat) (c : Nat) (t : Nat) h = R15 22 r1 r2 b ((2 ^ (dt g 0 0).toNat - 1 : Nat) : Int) x y ((s + 1 : Nat) : Int) h := fun x y => by
      unfold Plan_bestPair_B106
      rw [if_pos rfl, n4]
    rw [stp]
    unfold Plan_bestPair_L49s
    rw [if_neg n1, gH4 sh, aH4 sh i1.1 i1.2.1, gH4 sh, aH4 sh i1.2.2.1 i1.2.2.2, cd.2.2.2 _ hs, cd.2.2.2 _ o1, lt_eq, n2]
    by_cases cw : wbV (dt g) ((twI (dt g) co s q0 t).1 ||| (twI (dt g) co s q0 t).2) < wbV (dt g) s + wbV (dt g) t
    · rw [if_pos cw, ivQ sh re2.1.1, ib, cl_some, hco t o1]
      by_cases cc : co t = true
      · have e' : twI (dt g) co s q0 (t + 1) = (s, t) := by rw [es, if_pos ⟨z0, cc, by rw [wor]; exact cw⟩]
        rw [if_pos cc, if_neg (by decide), lt_eq, n3, e', B, wor]
        rfl
      · have e' : twI (dt g) co s q0 (t + 1) = twI (dt g) co s q0 t := by rw [es, if_neg (fun z => cc z.2.1)]
        rw [if_neg cc, if_pos rfl, e', B]
    · have e' : twI (dt g) co s q0 (t + 1) = twI (dt g) co s q0 t := by rw [es, if_neg (fun z => cw (by rw [← wor]; exact z.2.2))]
      rw [if_neg cw, e', B]
  | succ d ih =>
    intro M t c hd hM ht hc
    obtain ⟨M, rfl⟩ : ∃ k, M = k + 1 := ⟨M - 1, by omega⟩
    have tle : t ≤ op := by rw [← ht]; exact Nat.and_le_right
    by_cases et : t = op
    · exact ih (M + 1) t c (by omega) (by omega) ht hc
    have hlt : t < op := by omega
    obtain ⟨g1, g2, g3⟩ := gap_ok (by omega) ht hlt
    have nle : nxS op t ≤ op := by rw [← g2]; exact Nat.and_le_right
    have ht2 : t < 2 ^ (dt g 0 0).toNat := by omega
    have stp : twI (dt g) co s q0 (nxS op t) = twI (dt g) co s q0 (t + 1) := by
      have := twI_gap (D := dt g) (co := co) (s := s) (q := q0) (a := t + 1) (nxS op t - (t + 1)) (fun n n0 n1 z => g3 n (by omega) (by omega) ((o2 n (hcl n z.2)).1 z.1))
      rw [show t + 1 + (nxS op t - (t + 1)) = nxS op t by omega] at this
      exact this
    have z0 : s &&& t = 0 := (o2 t ht2).2 ht
    have b1 := wb_in m hs
    have b2 := wb_in m ht2
    have wor := wbV_or (D := dt g) z0
    have ib := c_isBy (F := F) m hg2 hw2 sh re2 hb ht2
    have es : twI (dt g) co s q0 (t + 1) = if s &&& t = 0 ∧ co t = true ∧ wbV (dt g) ((twI (dt g) co s q0 t).1 ||| (twI (dt g) co s q0 t).2) < wbV (dt g) (s ||| t) then (s, t) else twI (dt g) co s q0 t := rfl
    have nxt := ih M (nxS op t) (c + 1) (by omega) (by omega) g2 (by omega)
    rw [stp] at nxt
    have n1 : ¬ ((2 ^ (dt g 0 0).toNat - 1 : Nat) : Int) < (c : Nat) := by omega
    have i1 : (0 : Int) ≤ (s : Int) ∧ (s : Int) < 256 ∧ (0 : Int) ≤ (t : Int) ∧ (t : Int) < 256 := by omega
    have n5 : ¬ ((t : Nat) : Int) = (op : Nat) := by omega
    have n60 : c < 256 := by omega
    have n70 : t < 256 ∧ op < 256 := by omega
    have n7 : iand (w32 ((t : Int) - op)) op = ((nxS op t : Nat) : Int) := nx_I t n70.1 op n70.2
    have n6 : w32 ((c : Int) + 1) = ((c + 1 : Nat) : Int) := w32_nat (Nat.lt_trans n60 (by decide))
    have n2 : w32 (wbV (dt g) s + wbV (dt g) t) = wbV (dt g) s + wbV (dt g) t := w32_id (by omega) (by omega)
    have n3 : w32 (w32 ((s : Int) * 256) + (t : Int)) = 256 * (s : Int) + t := by
      have e : w32 ((s : Int) * 256) = (s : Int) * 256 := w32_id (by omega) (by omega)
      rw [e, w32_id (by omega) (by omega)]; omega
    show Plan_bestPair_L49s F R15 (Plan_bestPair_L49 F R15 M) 22 r1 r2 b _ _ _ (s : Nat) (op : Nat) (c : Nat) (t : Nat) h = _
    have B : ∀ x y, Plan_bestPair_B106 F R15 (Plan_bestPair_L49 F R15 M) 22 r1 r2 b ((2 ^ (dt g 0 0).toNat - 1 : Nat) : Int) x y (s : Nat) (op : Nat) (c : Nat) (t : Nat) h = Plan_bestPair_L49 F R15 M 22 r1 r2 b ((2 ^ (dt g 0 0).toNat - 1 : Nat) : Int) x y (s : Nat) (op : Nat) ((c + 1 : Nat) : Int) ((nxS op t : Nat) : Int) h := fun x y => by
      unfold Plan_bestPair_B106
      rw [if_neg n5, lt_eq, n7, n6]
    rw [← nxt]
    unfold Plan_bestPair_L49s
    rw [if_neg n1, gH4 sh, aH4 sh i1.1 i1.2.1, gH4 sh, aH4 sh i1.2.2.1 i1.2.2.2, cd.2.2.2 _ hs, cd.2.2.2 _ ht2, lt_eq, n2]
    by_cases cw : wbV (dt g) ((twI (dt g) co s q0 t).1 ||| (twI (dt g) co s q0 t).2) < wbV (dt g) s + wbV (dt g) t
    · rw [if_pos cw, ivQ sh re2.1.1, ib, cl_some, hco t ht2]
      by_cases cc : co t = true
      · have e' : twI (dt g) co s q0 (t + 1) = (s, t) := by rw [es, if_pos ⟨z0, cc, by rw [wor]; exact cw⟩]
        rw [if_pos cc, if_neg (by decide), lt_eq, n3, e', B, wor]
        rfl
      · have e' : twI (dt g) co s q0 (t + 1) = twI (dt g) co s q0 t := by rw [es, if_neg (fun z => cc z.2.1)]
        rw [if_neg cc, if_pos rfl, e', B]
    · have e' : twI (dt g) co s q0 (t + 1) = twI (dt g) co s q0 t := by rw [es, if_neg (fun z => cw (by rw [← wor]; exact z.2.2))]
      rw [if_neg cw, e', B]
theorem twI_dis {D : Nat → Int → Int} {co : Nat → Bool} {s : Nat} {q : Nat × Nat} (hq : q.1 &&& q.2 = 0) : ∀ n, (twI D co s q n).1 &&& (twI D co s q n).2 = 0 := by
  intro n
  induction n with
  | zero => exact hq
  | succ n ih =>
    unfold twI
    split
    · rename_i z; exact z.1
    · exact ih
theorem twO_dis {D : Nat → Int → Int} {cw co : Nat → Bool} : ∀ n, (twO D cw co n).1 &&& (twO D cw co n).2 = 0 := by
  intro n
  induction n with
  | zero => show (0 &&& 0 : Nat) = 0; decide
  | succ n ih =>
    unfold twO
    split
    · exact twI_dis ih 256
    · exact ih
theorem twO_gap {D : Nat → Int → Int} {cw co : Nat → Bool} {a : Nat} : ∀ d : Nat, (∀ n, a ≤ n → cw n = false) → twO D cw co (a + d) = twO D cw co a := by
  intro d
  induction d with
  | zero => intro _; rfl
  | succ d ih =>
    intro hn
    show (if cw (a + d) = true then _ else twO D cw co (a + d)) = _
    rw [if_neg (by rw [hn (a + d) (by omega)]; decide), ih hn]
theorem c_pair {F : Nat} {h g : Hp} {r1 r2 w1 w2 a1 a2 b : Int} {G1 G2 : Nat → Int} {al1 al2 : Nat} {cw co : Nat → Bool} (hF : 6000 ≤ F) (m : Mo g) (hg1 : Gok (dt g) G1) (hw1 : 0 ≤ w1 ∧ w1 < dt g 1 0) (hg2 : Gok (dt g) G2) (hw2 : 0 ≤ w2 ∧ w2 < dt g 1 0) (sh : Sh h) (re1 : RwE h r1 (dt g) G1 w1 a1 al1) (re2 : RwE h r2 (dt g) G2 w2 a2 al2) (cd : CD h (dt g)) (hb : 0 ≤ b ∧ b ≤ 600) (hcw : ∀ n, n < 2 ^ (dt g 0 0).toNat → canV (CT (dt g) G1 w1 al1) a1 b al1 n = if cw n then 1 else 0) (hwl : ∀ n, cw n = true → n < 2 ^ (dt g 0 0).toNat) (hco : ∀ n, n < 2 ^ (dt g 0 0).toNat → canV (CT (dt g) G2 w2 al2) a2 b al2 n = if co n then 1 else 0) (hcl : ∀ n, co n = true → n < 2 ^ (dt g 0 0).toNat) :
    Plan_bestPair F 82 22 r1 r2 b h = some (twE (twO (dt g) cw co 256), h) ∧ (twO (dt g) cw co 256).1 < 2 ^ (dt g 0 0).toNat ∧ (twO (dt g) cw co 256).2 < 2 ^ (dt g 0 0).toNat := by
  have P256 : 2 ^ (dt g 0 0).toNat ≤ 256 := Nat.pow_le_pow_right (n := 2) (by decide) (D8 m)
  have hpos := Nat.two_pow_pos (dt g 0 0).toNat
  have lt := fun n => twO_lt (D := dt g) hpos hwl hcl n
  refine ⟨?_, (lt 256).1, (lt 256).2⟩
  have h00 := m.2.2.1.1
  have h08 := m.2.2.1.2
  have ap : Shor_allParts F 22 h = some (((2 ^ (dt g 0 0).toNat - 1 : Nat) : Int), h) := by
    unfold Shor_allParts
    have e : ishl 1 (dt g 0 0) = ((2 ^ (dt g 0 0).toNat : Nat) : Int) := by
      have := ishl_1 (dt g 0 0).toNat (by omega)
      rw [Int.toNat_of_nonneg (by omega)] at this
      exact this
    rw [gH0 sh, gC4 sh cd.1.1, cd.1.2.1, e, w32_id (by omega) (by omega), Int.ofNat_sub hpos]
    rfl
  have fin : twO (dt g) cw co 256 = twO (dt g) cw co (2 ^ (dt g 0 0).toNat) := by
    have := twO_gap (D := dt g) (cw := cw) (co := co) (a := 2 ^ (dt g 0 0).toNat) (256 - 2 ^ (dt g 0 0).toNat) (fun n hn => by
      cases c : cw n
      · rfl
      · have := hwl n c; omega)
    rw [show 2 ^ (dt g 0 0).toNat + (256 - 2 ^ (dt g 0 0).toNat) = 256 by omega] at this
    exact this
  unfold Plan_bestPair
  rw [ivH sh, ap, cl_some, fin]
  have z0 : wbV (dt g) ((twO (dt g) cw co 0).1 ||| (twO (dt g) cw co 0).2) = 0 := by
    show wbV (dt g) (0 ||| 0) = 0
    rw [Nat.or_self]; exact wbV_0 _
  have key := loop0 (fun N i => Plan_bestPair_L15 F N 22 r1 r2 b ((2 ^ (dt g 0 0).toNat - 1 : Nat) : Int) (wbV (dt g) ((twO (dt g) cw co i).1 ||| (twO (dt g) cw co i).2)) (twE (twO (dt g) cw co i)) (i : Nat) h) (2 ^ (dt g 0 0).toNat) F (some (twE (twO (dt g) cw co (2 ^ (dt g 0 0).toNat)), h)) (by omega) (fun N i hi => ?_) (fun N => ?_)
  · rw [z0] at key
    exact key
  · show Plan_bestPair_L15s F (Plan_bestPair_L15 F N) 22 r1 r2 b ((2 ^ (dt g 0 0).toNat - 1 : Nat) : Int) (wbV (dt g) ((twO (dt g) cw co i).1 ||| (twO (dt g) cw co i).2)) (twE (twO (dt g) cw co i)) (i : Nat) h = Plan_bestPair_L15 F N 22 r1 r2 b ((2 ^ (dt g 0 0).toNat - 1 : Nat) : Int) (wbV (dt g) ((twO (dt g) cw co (i + 1)).1 ||| (twO (dt g) cw co (i + 1)).2)) (twE (twO (dt g) cw co (i + 1))) ((i + 1 : Nat) : Int) h
    have es : twO (dt g) cw co (i + 1) = if cw i = true then twI (dt g) co i (twO (dt g) cw co i) 256 else twO (dt g) cw co i := rfl
    have n1 : ¬ ((2 ^ (dt g 0 0).toNat - 1 : Nat) : Int) < (i : Nat) := by omega
    have ib := c_isBy (F := F) m hg1 hw1 sh re1 hb hi
    have x1 : 2 ^ (dt g 0 0).toNat - 1 < 2147483648 ∧ i < 2147483648 ∧ i < 1000000 := by omega
    have ix : ixor ((2 ^ (dt g 0 0).toNat - 1 : Nat) : Int) (i : Nat) = (((2 ^ (dt g 0 0).toNat - 1) ^^^ i : Nat) : Int) := ixor_nat x1.1 x1.2.1
    have ol := (opnS hi).1
    have x3 : ((2 ^ (dt g 0 0).toNat - 1) ^^^ i) - 0 ≤ 256 := by omega
    have x4 : 256 < F := by omega
    have n4 : w32 ((i : Int) + 1) = ((i + 1 : Nat) : Int) := w32_nat x1.2.2
    rw [es]
    unfold Plan_bestPair_L15s
    rw [if_neg n1, ivQ sh re1.1.1, ib, cl_some, hcw i hi]
    by_cases c : cw i = true
    · rw [if_pos c, if_neg (by decide), lt_eq, ix, if_pos c]
      exact c_pairI (F := F) m hg2 hw2 sh re2 cd hb hi (lt i) hco hcl (Plan_bestPair_L15 F N) 256 F 0 0 x3 x4 (Nat.zero_and _) (Nat.le_refl 0)
    · rw [if_neg c, if_pos rfl, if_neg c, n4]
  · show Plan_bestPair_L15s F (Plan_bestPair_L15 F N) 22 r1 r2 b ((2 ^ (dt g 0 0).toNat - 1 : Nat) : Int) _ _ ((2 ^ (dt g 0 0).toNat : Nat) : Int) h = _
    unfold Plan_bestPair_L15s
    rw [if_pos (by omega)]
theorem k_two {F : Nat} {n w o b q : Int} {h : Hp} {Λ : Nat → Lw} (hF : 6000 ≤ F) (j : JJ n h Λ) : Okc n h (Tide_two F 1 w o b q h) (fun h1 => Mod_two F 194 w o b q h1) := by
  have s := jS j
  have cd := jCD j
  have q0 := PQ_0 j
  have dk := jD j
  have mo := jMo j
  have rn := jRw j
  by_cases cc : ((0 ≤ w ∧ w < dt h 1 0) ∧ (0 ≤ o ∧ o < dt h 1 0) ∧ ¬ w = o) ∧ (0 ≤ b ∧ b ≤ 600) ∧ (0 ≤ q ∧ q ≤ 2)
  rotate_left
  · refine okc_p j (r := -1) (h1 := h) ?_ q0 ?_
    · unfold Tide_two
      rw [ivT s, c_isWorker s cd, cl_some]
      by_cases cw : 0 ≤ w ∧ w < dt h 1 0
      · rw [if_pos cw, if_neg (by decide), ivT s, c_isWorker s cd, cl_some]
        by_cases co : 0 ≤ o ∧ o < dt h 1 0
        · rw [if_pos co, if_neg (by decide)]
          by_cases e : w = o
          · rw [if_pos e]
          · rw [if_neg e, c_isBound, cl_some]
            by_cases cb : 0 ≤ b ∧ b ≤ 600
            · rw [if_pos cb, if_neg (by decide)]
              by_cases q1 : q < 0
              · rw [if_pos q1]
              · rw [if_neg q1, if_pos (by apply Classical.byContradiction; intro z; exact cc ⟨⟨cw, co, e⟩, cb, by omega, by omega⟩)]
            · rw [if_neg cb, if_pos rfl]
        · rw [if_neg co, if_pos rfl]
      · rw [if_neg cw, if_pos rfl]
    · obtain ⟨h2, e, f⟩ := m_two (F := F) (w := w) (o := o) (b := b) (q := q) (by omega) j.1.1
      refine ⟨h2, ?_, f⟩
      unfold twoA at e
      rw [if_pos cc] at e
      exact e
  obtain ⟨⟨cw, co, ne⟩, cb, cq⟩ := cc
  obtain ⟨ha, a1, a2, a3, a4⟩ := c_rowsOf (F := F) hF j q0 cw
  obtain ⟨hb, b1, b2, b3, b4⟩ := c_rowsOf (F := F) hF j a2 co
  have h3 := dk.2.1.2
  have a3' : RwE hb (97 + 6 * w) (dt h) (plG (rd h 239) w 0 0) w (rd h 239 (38 + w) + 0) (nevN (dt h) (rd h 239)) := RwE_X dk.1.2 b4 (by omega) (fun p p0 p1 => by have := sdA_in (L := plG (rd h 239) w 0 0 3) ⟨p0, p1⟩; omega) a3
  obtain ⟨mt, ed, e239⟩ := PQ_MT j b2
  have s1 := b4.1
  have cd1 := PQ_CD j b2
  have hg1 := G_pl mo rn.1.1 (w := w) (d := 0) (e := 0) cw (by decide)
  have hg2 := G_pl mo rn.1.1 (w := o) (d := 0) (e := 0) co (by decide)
  obtain ⟨p1, p2, p3⟩ := c_pair (F := F) (cw := wcan (dt h) (rd h 239) w b) (co := wcan (dt h) (rd h 239) o b) hF mo hg1 cw hg2 co s1 a3' b3 cd1 cb (fun t _ => wcV_if _ _ _ _ _) (fun t ht => wcan_lt ht) (fun t _ => wcV_if _ _ _ _ _) (fun t ht => wcan_lt ht)
  refine okc_p j (h1 := hb) ?_ b2 (m_two (by omega) mt)
  have P256 : 2 ^ (dt h 0 0).toNat ≤ 256 := Nat.pow_le_pow_right (n := 2) (by decide) (D8 mo)
  unfold Tide_two twoA twoR
  rw [ed, e239, ivT s, c_isWorker s cd, cl_some, if_pos cw, if_neg (by decide), ivT s, c_isWorker s cd, cl_some, if_pos co, if_neg (by decide), if_neg ne, c_isBound, cl_some, if_pos cb, if_neg (by decide), if_neg (by omega), if_neg (by omega), gT9 s, gT4 s, gT5 s, ivN s, a1, cl_some, gT9 a4.1, gT4 a4.1, gT5 a4.1, ivN a4.1, b1, cl_some, gT9 s1, gT4 s1, ivN s1, p1, cl_some]
  have nn : ¬ ¬ (((0 ≤ w ∧ w < dt h 1 0) ∧ (0 ≤ o ∧ o < dt h 1 0) ∧ ¬ w = o) ∧ (0 ≤ b ∧ b ≤ 600) ∧ (0 ≤ q ∧ q ≤ 2)) := fun z => z ⟨⟨cw, co, ne⟩, cb, cq⟩
  rw [if_neg nn]
  have dis := twO_dis (D := dt h) (cw := wcan (dt h) (rd h 239) w b) (co := wcan (dt h) (rd h 239) o b) 256
  generalize twO (dt h) (wcan (dt h) (rd h 239) w b) (wcan (dt h) (rd h 239) o b) 256 = r at *
  have r1 : r.1 < 256 := by omega
  have r2 : r.2 < 256 := by omega
  have wor := wbV_or (D := dt h) dis
  have c1 := wb_in mo p2
  have c2 := wb_in mo p3
  have x1 : (0 : Int) ≤ (r.1 : Int) ∧ (r.1 : Int) < 256 ∧ (0 : Int) ≤ (r.2 : Int) ∧ (r.2 : Int) < 256 := by omega
  have v1 : -2147483648 ≤ (r.1 : Int) ∧ (r.1 : Int) < 2147483648 := by omega
  have v2 : 0 ≤ 256 * (r.1 : Int) + r.2 ∧ 256 * (r.1 : Int) + r.2 < 1000000 ∧ (256 * (r.1 : Int) + r.2) % 256 = r.2 ∧ (256 * (r.1 : Int) + r.2) / 256 = r.1 := by omega
  have v3 : -2147483648 ≤ wbV (dt h) r.1 + wbV (dt h) r.2 ∧ wbV (dt h) r.1 + wbV (dt h) r.2 < 2147483648 := by omega
  have d1 : (twE r).tdiv 256 = (r.1 : Int) := by unfold twE; rw [Int.tdiv_eq_ediv_of_nonneg v2.1]; exact v2.2.2.2
  have d2 : w32 ((r.1 : Nat) : Int) = (r.1 : Int) := w32_id v1.1 v1.2
  have d3 : irem (twE r) 256 = (r.2 : Int) := by unfold twE; rw [irem_e v2.1 v2.2.1 (by decide) (by decide)]; exact v2.2.2.1
  have d4 : w32 (wbV (dt h) r.1 + wbV (dt h) r.2) = wbV (dt h) r.1 + wbV (dt h) r.2 := w32_id v3.1 v3.2
  rw [dv_ok (by decide), dm_ok (by decide), d1, d2, d3]
  by_cases c0 : q = 0
  · rw [if_pos c0, if_pos c0, gT4 s1, gH4 s1, aH4 s1 x1.1 x1.2.1, gT4 s1, gH4 s1, aH4 s1 x1.2.2.1 x1.2.2.2, cd1.2.2.2 _ p2, cd1.2.2.2 _ p3, d4, wor]
  · rw [if_neg c0, if_neg c0]
    by_cases c1 : q = 1
    · rw [if_pos c1, if_pos c1]
    · rw [if_neg c1, if_neg c1]
