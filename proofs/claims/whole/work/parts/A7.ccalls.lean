/-! the class's small calls -/
theorem jS {n : Int} {h : Hp} {Λ : Nat → Lw} (j : JJ n h Λ) : Sh h := j.1.1.1.1.1
theorem jMo {n : Int} {h : Hp} {Λ : Nat → Lw} (j : JJ n h Λ) : Mo h := j.1.1.1.1
theorem jD {n : Int} {h : Hp} {Λ : Nat → Lw} (j : JJ n h Λ) : Dok (dt h) := j.1.1.1.1.2.2
theorem jCD {n : Int} {h : Hp} {Λ : Nat → Lw} (j : JJ n h Λ) : CD h (dt h) := j.2.1.2.2.1.1
theorem jSt {n : Int} {h : Hp} {Λ : Nat → Lw} (j : JJ n h Λ) : StE h 66 (dt h) (rd h 239) := j.2.1.2.2.2.1
theorem jRw {n : Int} {h : Hp} {Λ : Nat → Lw} (j : JJ n h Λ) : RwN n (dt h) (rd h 239) := j.1.2.2.2.2.2.2.2.2
theorem k_place {F : Nat} {n : Int} {h : Hp} {Λ : Nat → Lw} (j : JJ n h Λ) : Okc n h (Tide_place F 1 h) (fun h1 => Mod_place F 194 h1) := by
  refine okc_q0 j (r := rd h 194 17) ?_ ⟨h, m_place (jS j), Fr_refl j.1.1⟩
  unfold Tide_place
  rw [gT2 (jS j), j.2.1.1.2.2.1]
theorem k_part {F : Nat} {n p q : Int} {h : Hp} {Λ : Nat → Lw} (j : JJ n h Λ) : Okc n h (Tide_part F 1 p q h) (fun h1 => Mod_part F 194 p q h1) := by
  refine okc_q0 j (r := prtM h p q) ?_ ⟨h, m_part (jMo j), Fr_refl j.1.1⟩
  have s := jS j
  have cd := jCD j
  have st := jSt j
  have h8 : dt h 0 0 ≤ 8 := (jD j).1.2
  have ib : isSt 66 := Or.inl rfl
  unfold Tide_part prtM
  rw [ivT s, c_isPart s cd, cl_some]
  by_cases c : 0 ≤ p ∧ p < dt h 0 0
  · obtain ⟨z1, z2, z3⟩ := cd.2.2.1 p c.1 c.2
    obtain ⟨t1, t2, t3, t4⟩ := st.2.2.1 p c.1 (by omega)
    obtain ⟨x1, x2, x3, x4⟩ := cd.1.2.2.2.1 p c.1 c.2
    have h01 := ((jRw j).1.2 p c.1 (by omega)).1
    rw [if_pos c, if_neg (by decide), if_neg (not_not_intro c)]
    by_cases q0 : q = 0
    · rw [tsw_at 0 (by omega) (by decide), if_pos q0]
      show (gf h 1 111 4 fun v3 => _) = _
      rw [gT4 s, gH3 s, aH3 s c.1 (by omega), gA s z1.1, z2.1]
    · rw [if_neg q0]
      by_cases q1 : q = 1
      · rw [tsw_at 1 (by omega) (by decide), if_pos q1]
        show (gf h 1 111 5 fun v3 => _) = _
        rw [gT5 s, gS1 s ib, aS1 s ib c.1 (by omega), t1]
      · rw [if_neg q1]
        by_cases q2 : q = 2
        · rw [tsw_at 2 (by omega) (by decide), if_pos q2]
          show (gf h 1 111 5 fun v3 => _) = _
          rw [gT5 s, gS4 s ib, aS4 s ib c.1 (by omega), t4]
          rcases h01 with e | e
          · rw [e, if_pos rfl]
          · rw [e, if_neg (by decide)]
        · rw [if_neg q2]
          by_cases q3 : q = 3
          · rw [tsw_at 3 (by omega) (by decide), if_pos q3]
            show (gf h 1 111 4 fun v3 => _) = _
            rw [gT4 s, gH0 s, gC2 s cd.1.1, aC2 s cd.1.1 c.1 (by omega), x3]
          · rw [if_neg q3]
            by_cases q4 : q = 4
            · rw [tsw_at 4 (by omega) (by decide), if_pos q4]
              show (gf h 1 111 4 fun v3 => _) = _
              rw [gT4 s, gH0 s, gC3 s cd.1.1, aC3 s cd.1.1 c.1 (by omega), x4]
            · rw [if_neg q4]
              by_cases q5 : q = 5
              · rw [tsw_at 5 (by omega) (by decide), if_pos q5]
                show (gf h 1 111 5 fun v3 => _) = _
                rw [gT5 s, gS3 s ib, aS3 s ib c.1 (by omega), t3]
              · rw [if_neg q5, tsw_no (by omega)]
  · rw [if_neg c, if_pos rfl, if_pos c]
theorem k_worker {F : Nat} {n w q : Int} {h : Hp} {Λ : Nat → Lw} (j : JJ n h Λ) : Okc n h (Tide_worker F 1 w q h) (fun h1 => Mod_worker F 194 w q h1) := by
  refine okc_q0 j (r := wrkM h w q) ?_ ⟨h, m_worker (jMo j), Fr_refl j.1.1⟩
  have s := jS j
  have cd := jCD j
  have st := jSt j
  have h3 : dt h 1 0 ≤ 3 := (jD j).2.1.2
  have ib : isSt 66 := Or.inl rfl
  unfold Tide_worker wrkM
  rw [ivT s, c_isWorker s cd, cl_some]
  by_cases c : 0 ≤ w ∧ w < dt h 1 0
  · obtain ⟨t0, t1, t2, t3, t4, t5⟩ := st.2.1 w c.1 c.2
    rw [if_pos c, if_neg (by decide), if_neg (not_not_intro c), gT5 s, gS0 s ib, aS0 s ib c.1 (by omega)]
    by_cases q0 : q = 0
    · rw [tsw_at 0 (by omega) (by decide), if_pos q0]
      show (gf h (66 + 9 + w) 110 0 fun v3 => _) = _
      rw [gW s t0, t1]
    · rw [if_neg q0]
      by_cases q1 : q = 1
      · rw [tsw_at 1 (by omega) (by decide), if_pos q1]
        show (gf h (66 + 9 + w) 110 1 fun v3 => _) = _
        rw [gW s t0, t2]
      · rw [if_neg q1]
        by_cases q2 : q = 2
        · rw [tsw_at 2 (by omega) (by decide), if_pos q2]
          show (gf h (66 + 9 + w) 110 3 fun v3 => _) = _
          rw [gW s t0, t4]
        · rw [if_neg q2]
          by_cases q3 : q = 3
          · rw [tsw_at 3 (by omega) (by decide), if_pos q3]
            show (gf h (66 + 9 + w) 110 2 fun v3 => _) = _
            rw [gW s t0, t3]
          · rw [if_neg q3]
            by_cases q4 : q = 4
            · rw [tsw_at 4 (by omega) (by decide), if_pos q4]
              show (gf h (66 + 9 + w) 110 4 fun v3 => _) = _
              rw [gW s t0, t5]
            · rw [if_neg q4, tsw_no (by omega)]
  · rw [if_neg c, if_pos rfl, if_pos c]
theorem k_minute {F : Nat} {n t q : Int} {h : Hp} {Λ : Nat → Lw} (j : JJ n h Λ) : Okc n h (Tide_minute F 1 t q h) (fun h1 => Mod_minute F 194 t q h1) := by
  refine okc_q0 j (r := mnuM h t q) ?_ ⟨h, m_minute (jMo j), Fr_refl j.1.1⟩
  have s := jS j
  have cd := jCD j
  unfold Tide_minute mnuM
  rw [c_isMinute, cl_some]
  by_cases c : 0 ≤ t ∧ t < 600
  · obtain ⟨x1, x2⟩ := cd.2.1 t c.1 c.2
    rw [if_pos c, if_neg (by decide), if_neg (not_not_intro c)]
    by_cases q0 : q = 0
    · rw [if_pos q0, if_pos q0, gT4 s, gH1 s, aH1 s c.1 c.2, x1]
    · rw [if_neg q0, if_neg q0]
      by_cases q1 : q = 1
      · rw [if_pos q1, if_pos q1, gT4 s, gH2 s, aH2 s c.1 c.2, x2]
      · rw [if_neg q1, if_neg q1]
  · rw [if_neg c, if_pos rfl, if_pos c]
theorem k_free {F : Nat} {n p t : Int} {h : Hp} {Λ : Nat → Lw} (j : JJ n h Λ) : Okc n h (Tide_free F 1 p t h) (fun h1 => Mod_free F 194 p t h1) := by
  refine okc_q0 j (r := freM h p t) ?_ ⟨h, m_free (jMo j), Fr_refl j.1.1⟩
  have s := jS j
  have cd := jCD j
  have h8 : dt h 0 0 ≤ 8 := (jD j).1.2
  unfold Tide_free freM
  rw [ivT s, c_isPart s cd, cl_some]
  by_cases c : 0 ≤ p ∧ p < dt h 0 0
  · obtain ⟨z1, z2, z3⟩ := cd.2.2.1 p c.1 c.2
    rw [if_pos c, if_neg (by decide), c_isMinute, cl_some]
    by_cases d : 0 ≤ t ∧ t < 600
    · rw [if_pos d, if_neg (by decide), if_pos ⟨c, d⟩, gT4 s, gH3 s, aH3 s c.1 (by omega), ivA s z1.1, c_freeFor s z1.1 z2 d.1, cl_some, if_pos d.2]
    · rw [if_neg d, if_pos rfl, if_neg (fun z => d z.2)]
  · rw [if_neg c, if_pos rfl, if_neg (fun z => c z.1)]
theorem k_when {F : Nat} {n p t : Int} {h : Hp} {Λ : Nat → Lw} (j : JJ n h Λ) : Okc n h (Tide_when F 1 p t h) (fun h1 => Mod_when F 194 p t h1) := by
  refine okc_q0 j (r := whnM h p t) ?_ ⟨h, m_when (jMo j), Fr_refl j.1.1⟩
  have s := jS j
  have cd := jCD j
  have h8 : dt h 0 0 ≤ 8 := (jD j).1.2
  unfold Tide_when whnM
  rw [ivT s, c_isPart s cd, cl_some]
  by_cases c : 0 ≤ p ∧ p < dt h 0 0
  · obtain ⟨z1, z2, z3⟩ := cd.2.2.1 p c.1 c.2
    rw [if_pos c, if_neg (by decide), c_isMinute, cl_some]
    by_cases d : 0 ≤ t ∧ t < 600
    · rw [if_pos d, if_neg (by decide), if_pos ⟨c, d⟩, gT4 s, gH3 s, aH3 s c.1 (by omega), ivA s z1.1, c_startFrom s z1 d.1, cl_some]
    · rw [if_neg d, if_pos rfl, if_neg (fun z => d z.2)]
  · rw [if_neg c, if_pos rfl, if_neg (fun z => c z.1)]
theorem Fr_cpI {h : Hp} (m : MT h) (t : Int) : Fr h (cpI h t) := by
  unfold cpI
  split
  · exact Fr_cp m
  · exact Fr_refl m
theorem k_seen {F : Nat} {n t : Int} {h : Hp} {Λ : Nat → Lw} (hF : 6000 ≤ F) (j : JJ n h Λ) : Okc n h (Tide_seen F 1 t h) (fun h1 => Mod_seen F 194 t h1) := by
  refine okc_q0 j (r := senA h t) ?_ ⟨_, m_seen (by omega) j.1.1.1, Fr_cpI j.1.1 t⟩
  have s := jS j
  unfold Tide_seen senA
  rw [c_isMinute, cl_some]
  by_cases c : 0 ≤ t ∧ t < 600
  · rw [if_pos c, if_neg (by decide), if_pos c, gT5 s, gT4 s, ivS s (Or.inl rfl), c_visible (by omega) s (jD j) (jCD j) (jSt j) (jRw j).1 c, cl_some]
  · rw [if_neg c, if_pos rfl, if_neg c]
theorem wbS_set {D : Nat → Int → Int} {f : Int → Bool} {n : Nat} : ∀ k : Nat, k ≤ n → wbS D (setN f n) k = smN (fun p => if f p then D 2 p else 0) k := by
  intro k
  induction k with
  | zero => intro _; rfl
  | succ k ih =>
    intro hk
    show wbS D (setN f n) k + (if (setN f n).testBit ((k : Int)).toNat = true then D 2 k else 0) = smN (fun p => if f p then D 2 p else 0) k + (if f k then D 2 k else 0)
    rw [ih (by omega), Int.toNat_natCast, setN_bit, decide_eq_true (show k < n by omega), Bool.true_and]
theorem wbV_set {D : Nat → Int → Int} {f : Int → Bool} {n : Nat} (hn : n ≤ 8) : wbV D (setN f n) = smN (fun p => if f p then D 2 p else 0) n := by
  rw [← wbS_set n (Nat.le_refl _)]
  unfold wbV
  have : ∀ k : Nat, n + k ≤ 8 → wbS D (setN f n) (n + k) = wbS D (setN f n) n := by
    intro k
    induction k with
    | zero => intro _; rfl
    | succ k ih =>
      intro hk
      show wbS D (setN f n) (n + k) + (if (setN f n).testBit ((n + k : Nat) : Int).toNat = true then D 2 ((n + k : Nat) : Int) else 0) = _
      rw [ih (by omega), Int.toNat_natCast, setN_bit, decide_eq_false (by omega), Bool.false_and, if_neg (by decide), Int.add_zero]
  have := this (8 - n) (by omega)
  rw [show n + (8 - n) = 8 by omega] at this
  exact this
theorem c_picture {F : Nat} {n t : Int} {h : Hp} {Λ : Nat → Lw} (hF : 6000 ≤ F) (j : JJ n h Λ) (ht : 0 ≤ t ∧ t < 600) : Tide_picture F 1 t h = some (phoV h t, h) ∧ 0 ≤ phoV h t := by
  have s := jS j
  have cd := jCD j
  have dk := jD j
  have h8 : dt h 0 0 ≤ 8 := dk.1.2
  have hsl := setN_lt (fun p => seenD (dt h) (rd h 239) p t) (dt h 0 0).toNat
  have t8 := two8 (show (dt h 0 0).toNat ≤ 8 by omega)
  have hw : wbV (dt h) (setN (fun p => seenD (dt h) (rd h 239) p t) (dt h 0 0).toNat) = phS (dt h) (rd h 239) t (dt h 0 0).toNat := wbV_set (by omega)
  have h00 := dk.1.1
  have hp := phS_in dk (R := rd h 239) (t := t) (dt h 0 0).toNat (by omega)
  have h14 := dk.2.2.2.2.2.2.2.2 t ht.1 ht.2
  have hm : 0 ≤ phS (dt h) (rd h 239) t (dt h 0 0).toNat * dt h 14 t ∧ phS (dt h) (rd h 239) t (dt h 0 0).toNat * dt h 14 t ≤ 792 * 100 := ⟨Int.mul_nonneg hp.1 h14.1, Int.mul_le_mul (by omega) h14.2 h14.1 (by decide)⟩
  refine ⟨?_, hm.1⟩
  unfold Tide_picture phoV
  rw [gT4 s, gH4 s, gT5 s, gT4 s, ivS s (Or.inl rfl), c_visible (by omega) s dk cd (jSt j) (jRw j).1 ht, cl_some, aH4 s (by omega) (by omega), cd.2.2.2 _ hsl, hw, gT4 s, gH2 s, aH2 s ht.1 ht.2, (cd.2.1 t ht.1 ht.2).2, w32_id (by omega) (by omega)]
theorem k_photo {F : Nat} {n t : Int} {h : Hp} {Λ : Nat → Lw} (hF : 6000 ≤ F) (j : JJ n h Λ) : Okc n h (Tide_photo F 1 t h) (fun h1 => Mod_photo F 194 t h1) := by
  refine okc_q0 j (r := phoA h t) ?_ ⟨_, m_photo (by omega) j.1.1.1, Fr_cpI j.1.1 t⟩
  have s := jS j
  unfold Tide_photo phoA
  rw [c_isMinute, cl_some]
  by_cases c : 0 ≤ t ∧ t < 600
  · rw [if_pos c, if_neg (by decide), if_pos c, ivT s, (c_picture hF j c).1, cl_some]
  · rw [if_neg c, if_pos rfl, if_neg c]
theorem k_bestMinute {F : Nat} {n : Int} {h : Hp} {Λ : Nat → Lw} (hF : 6000 ≤ F) (j : JJ n h Λ) : Okc n h (Tide_bestMinute F 1 h) (fun h1 => Mod_bestMinute F 194 h1) := by
  refine okc_q0 j (r := bmx (phoV h) 599) ?_ ⟨_, m_bestMinute (by omega) j.1.1.1, Fr_cp j.1.1⟩
  have s := jS j
  unfold Tide_bestMinute
  have key := loop0 (fun N i => Tide_bestMinute_L6 F N 1 (if i = 0 then 0 else bmx (phoV h) (i - 1)) (if i = 0 then 0 else phoV h (bmx (phoV h) (i - 1))) (i : Nat) h) 600 F (some (bmx (phoV h) 599, h)) (by omega) (fun N i hi => ?_) (fun N => ?_)
  · exact key
  · obtain ⟨e1, e2⟩ := c_picture (F := F) (t := (i : Int)) hF j ⟨by omega, by omega⟩
    show Tide_bestMinute_L6s F (Tide_bestMinute_L6 F N) 1 (if i = 0 then 0 else bmx (phoV h) (i - 1)) (if i = 0 then 0 else phoV h (bmx (phoV h) (i - 1))) (i : Nat) h = Tide_bestMinute_L6 F N 1 (if i + 1 = 0 then 0 else bmx (phoV h) (i + 1 - 1)) (if i + 1 = 0 then 0 else phoV h (bmx (phoV h) (i + 1 - 1))) ((i + 1 : Nat) : Int) h
    unfold Tide_bestMinute_L6s
    rw [if_pos (show (i : Int) < 600 by omega), ivT s, e1, cl_some, if_neg (show ¬ i + 1 = 0 by omega), if_neg (show ¬ i + 1 = 0 by omega), show i + 1 - 1 = i by omega, w32_nat (by omega)]
    by_cases c0 : i = 0
    · subst c0
      rw [if_pos rfl, if_pos rfl]
      show (if 0 < phoV h ((0 : Nat) : Int) then Tide_bestMinute_L6 F N 1 ((0 : Nat) : Int) (phoV h ((0 : Nat) : Int)) _ h else Tide_bestMinute_L6 F N 1 0 0 _ h) = Tide_bestMinute_L6 F N 1 0 (phoV h 0) _ h
      by_cases c : 0 < phoV h ((0 : Nat) : Int)
      · rw [if_pos c]; rfl
      · rw [if_neg c, show phoV h 0 = 0 by have : phoV h ((0 : Nat) : Int) = phoV h 0 := rfl; omega]
    · rw [if_neg c0, if_neg c0]
      obtain ⟨k, rfl⟩ : ∃ k, i = k + 1 := ⟨i - 1, by omega⟩
      rw [show k + 1 - 1 = k by omega]
      have eb : bmx (phoV h) (k + 1) = if phoV h (bmx (phoV h) k) < phoV h ((k + 1 : Nat) : Int) then ((k + 1 : Nat) : Int) else bmx (phoV h) k := rfl
      rw [eb]
      by_cases c : phoV h (bmx (phoV h) k) < phoV h ((k + 1 : Nat) : Int)
      · rw [if_pos c, if_pos c]
      · rw [if_neg c, if_neg c]
  · show Tide_bestMinute_L6s F (Tide_bestMinute_L6 F N) 1 (if (600 : Nat) = 0 then 0 else bmx (phoV h) (600 - 1)) _ ((600 : Nat) : Int) h = _
    unfold Tide_bestMinute_L6s
    rw [if_neg (by decide), if_neg (by decide)]
