/-! the class's small calls, further ones -/
theorem k_stays {F : Nat} {n p t : Int} {h : Hp} {Λ : Nat → Lw} (hF : 6000 ≤ F) (j : JJ n h Λ) : Okc n h (Tide_stays F 1 p t h) (fun h1 => Mod_stays F 194 p t h1) := by
  refine okc_q0 j (r := styA h p t) ?_ ⟨h, m_stays (by omega) (jMo j), Fr_refl j.1.1⟩
  have s := jS j
  have cd := jCD j
  have h8 : dt h 0 0 ≤ 8 := (jD j).1.2
  unfold Tide_stays styA
  rw [ivT s, c_isPart s cd, cl_some]
  by_cases c : 0 ≤ p ∧ p < dt h 0 0
  · obtain ⟨z1, z2, z3⟩ := cd.2.2.1 p c.1 c.2
    rw [if_pos c, if_neg (by decide), c_isMinute, cl_some]
    by_cases d : 0 ≤ t ∧ t < 600
    · rw [if_pos d, if_neg (by decide), if_neg (not_not_intro ⟨c, d⟩)]
      have key : ∀ (k N : Nat) (i : Int), 0 ≤ i → t + i + k = 600 → k < N → Tide_stays_L19 F N 1 p t (t + i) h = some (stL (fun m => dt h 10 (600 * p + t + m)) k i, h) := by
        intro k
        induction k with
        | zero =>
          intro N i i0 hi hN
          obtain ⟨N, rfl⟩ : ∃ m, N = m + 1 := ⟨N - 1, by omega⟩
          show Tide_stays_L19s F (Tide_stays_L19 F N) 1 p t (t + i) h = _
          unfold Tide_stays_L19s
          rw [if_neg (by omega), w32_id (by omega) (by omega), show t + i - t = i by omega]
          rfl
        | succ k ih =>
          intro N i i0 hi hN
          obtain ⟨N, rfl⟩ : ∃ m, N = m + 1 := ⟨N - 1, by omega⟩
          show Tide_stays_L19s F (Tide_stays_L19 F N) 1 p t (t + i) h = some (if 0 < dt h 10 (600 * p + t + i) then stL (fun m => dt h 10 (600 * p + t + m)) k (i + 1) else i, h)
          unfold Tide_stays_L19s
          rw [if_pos (by omega), gT4 s, gH3 s, aH3 s c.1 (by omega), ivA s z1.1, c_freeFor s z1.1 z2 (show 0 ≤ t + i by omega), cl_some, if_pos (show t + i < 600 by omega), show 600 * p + (t + i) = 600 * p + t + i by omega]
          by_cases e : 0 < dt h 10 (600 * p + t + i)
          · rw [if_pos e, if_pos e, w32_id (by omega) (by omega), show t + i + 1 = t + (i + 1) by omega]
            exact ih N (i + 1) (by omega) (by omega) (by omega)
          · rw [if_neg e, if_neg e, w32_id (by omega) (by omega), show t + i - t = i by omega]
      have := key (600 - t).toNat F 0 (Int.le_refl _) (by omega) (by omega)
      rw [Int.add_zero] at this
      exact this
    · rw [if_neg d, if_pos rfl, if_pos (fun z => d z.2)]
  · rw [if_neg c, if_pos rfl, if_pos (fun z => c z.1)]
theorem k_quickest {F : Nat} {n w q : Int} {h : Hp} {Λ : Nat → Lw} (hF : 6000 ≤ F) (j : JJ n h Λ) : Okc n h (Tide_quickest F 1 w q h) (fun h1 => Mod_quickest F 194 w q h1) := by
  refine okc_q0 j (r := qckA h w q) ?_ (m_quickest (by omega) j.1.1)
  have s := jS j
  have cd := jCD j
  have dk := jD j
  have h8 : dt h 0 0 ≤ 8 := dk.1.2
  have h00 := dk.1.1
  unfold Tide_quickest qckA
  rw [ivT s, c_isWorker s cd, cl_some]
  by_cases c : 0 ≤ w ∧ w < dt h 1 0
  · rw [if_pos c, if_neg (by decide)]
    by_cases q0 : q < 0
    · rw [if_pos q0, if_pos (fun z => by omega)]
    · rw [if_neg q0]
      by_cases q1 : 1 < q
      · rw [if_pos q1, if_pos (fun z => by omega)]
      · rw [if_neg q1, if_neg (not_not_intro ⟨c, by omega, by omega⟩)]
        have hv : ∀ p, 0 ≤ p → p < dt h 0 0 → sndV (dt h) (rd h 239) w p = -2 ∨ (0 < sndV (dt h) (rd h 239) w p ∧ sndV (dt h) (rd h 239) w p ≤ 600) := fun p p0 p1 => sndV_in (jMo j) ⟨p0, p1⟩ (comeR_in (jMo j) (jRw j).1.1 c ⟨p0, p1⟩)
        have hq : ∀ k : Nat, (k : Int) ≤ dt h 0 0 → (qkB (sndV (dt h) (rd h 239) w) k).1 = -2 ∧ (qkB (sndV (dt h) (rd h 239) w) k).2 = -2 ∨ (0 ≤ (qkB (sndV (dt h) (rd h 239) w) k).1 ∧ 0 ≤ (qkB (sndV (dt h) (rd h 239) w) k).2 ∧ (qkB (sndV (dt h) (rd h 239) w) k).2 ≤ 600) := by
          intro k
          induction k with
          | zero => intro _; exact Or.inl ⟨rfl, rfl⟩
          | succ k ih =>
            intro hk
            have := hv k (by omega) (by omega)
            have i1 := ih (by omega)
            unfold qkB
            split
            · exact i1
            · split
              · exact Or.inr ⟨by show 0 ≤ (k : Int); omega, by show 0 ≤ sndV _ _ _ _; omega, by show sndV _ _ _ _ ≤ 600; omega⟩
              · exact i1
        have key := loop0 (fun N i => Tide_quickest_L30 F N 1 w q (if (qkB (sndV (dt h) (rd h 239) w) i).1 < 0 then 10000 else (qkB (sndV (dt h) (rd h 239) w) i).2) (qkB (sndV (dt h) (rd h 239) w) i).1 (i : Nat) h) (dt h 0 0).toNat F (some (if q = 0 then (qkB (sndV (dt h) (rd h 239) w) (dt h 0 0).toNat).1 else (qkB (sndV (dt h) (rd h 239) w) (dt h 0 0).toNat).2, h)) (by omega) (fun N i hi => ?_) (fun N => ?_)
        · exact key
        · have hqi := hq i (by omega)
          have hvi := hv i (by omega) (by omega)
          have eq : qkB (sndV (dt h) (rd h 239) w) (i + 1) = if sndV (dt h) (rd h 239) w i < 0 then qkB (sndV (dt h) (rd h 239) w) i else if (qkB (sndV (dt h) (rd h 239) w) i).1 < 0 ∨ sndV (dt h) (rd h 239) w i < (qkB (sndV (dt h) (rd h 239) w) i).2 then ((i : Int), sndV (dt h) (rd h 239) w i) else qkB (sndV (dt h) (rd h 239) w) i := rfl
          show Tide_quickest_L30s F (Tide_quickest_L30 F N) 1 w q (if (qkB (sndV (dt h) (rd h 239) w) i).1 < 0 then 10000 else (qkB (sndV (dt h) (rd h 239) w) i).2) (qkB (sndV (dt h) (rd h 239) w) i).1 (i : Nat) h = Tide_quickest_L30 F N 1 w q (if (qkB (sndV (dt h) (rd h 239) w) (i + 1)).1 < 0 then 10000 else (qkB (sndV (dt h) (rd h 239) w) (i + 1)).2) (qkB (sndV (dt h) (rd h 239) w) (i + 1)).1 ((i + 1 : Nat) : Int) h
          unfold Tide_quickest_L30s
          rw [gT4 s, gH0 s, gC4 s cd.1.1, cd.1.2.1, if_pos (show (i : Int) < dt h 0 0 by omega), gT5 s, gT4 s, ivS s (Or.inl rfl), c_wouldBeDone s dk cd (jSt j) (jRw j).1 c ⟨by omega, by omega⟩, cl_some, w32_nat (by omega), eq]
          by_cases e1 : sndV (dt h) (rd h 239) w i < 0
          · rw [if_pos e1, if_pos e1]
          · rw [if_neg e1, if_neg e1]
            by_cases e2 : (qkB (sndV (dt h) (rd h 239) w) i).1 < 0
            · rw [if_pos e2, if_pos (by omega), if_pos (Or.inl e2)]
              show _ = Tide_quickest_L30 F N 1 w q (if (i : Int) < 0 then 10000 else sndV (dt h) (rd h 239) w i) (i : Int) ((i + 1 : Nat) : Int) h
              rw [if_neg (by omega)]
            · rw [if_neg e2]
              by_cases e3 : sndV (dt h) (rd h 239) w i < (qkB (sndV (dt h) (rd h 239) w) i).2
              · rw [if_pos e3, if_pos (Or.inr e3)]
                show _ = Tide_quickest_L30 F N 1 w q (if (i : Int) < 0 then 10000 else sndV (dt h) (rd h 239) w i) (i : Int) ((i + 1 : Nat) : Int) h
                rw [if_neg (by omega)]
              · have e4 : ¬ ((qkB (sndV (dt h) (rd h 239) w) i).1 < 0 ∨ sndV (dt h) (rd h 239) w i < (qkB (sndV (dt h) (rd h 239) w) i).2) := by omega
                rw [if_neg e3, if_neg e4, if_neg e2]
        · have hqi := hq (dt h 0 0).toNat (by omega)
          show Tide_quickest_L30s F (Tide_quickest_L30 F N) 1 w q _ _ ((dt h 0 0).toNat : Nat) h = _
          unfold Tide_quickest_L30s
          rw [gT4 s, gH0 s, gC4 s cd.1.1, cd.1.2.1, if_neg (show ¬ ((dt h 0 0).toNat : Int) < dt h 0 0 by omega)]
          unfold Tide_quickest_B85
          by_cases e : q = 0
          · rw [if_pos e, if_pos e]
          · rw [if_neg e, if_neg e]
            by_cases e2 : (qkB (sndV (dt h) (rd h 239) w) (dt h 0 0).toNat).1 < 0
            · rw [if_pos e2, show (qkB (sndV (dt h) (rd h 239) w) (dt h 0 0).toNat).1 = (qkB (sndV (dt h) (rd h 239) w) (dt h 0 0).toNat).2 by omega]
            · rw [if_neg e2, if_neg e2]
  · rw [if_neg c, if_pos rfl, if_pos (fun z => c z.1)]
theorem jPk {n : Int} {h : Hp} {Λ : Nat → Lw} (j : JJ n h Λ) : pegOk (dt h) := by
  have t := j.1.2.1
  obtain ⟨-, -, -, -, -, -, a, b, -⟩ := t
  exact ⟨⟨by omega, by omega⟩, ⟨by omega, by omega⟩⟩
theorem k_error {F : Nat} {n p q : Int} {h : Hp} {Λ : Nat → Lw} (hF : 6000 ≤ F) (j : JJ n h Λ) : Okc n h (Tide_error F 1 p q h) (fun h1 => Mod_error F 194 p q h1) := by
  refine okc_q0 j (r := errA h (Λ 3) p q) ?_ (m_error (by omega) j.1.1 (jPk j) (RLr_w (jMo j).2.1 (j.1.2.2.2.1 3 (by decide))))
  have s := jS j
  have cd := jCD j
  have h8 : dt h 0 0 ≤ 8 := (jD j).1.2
  unfold Tide_error errA
  rw [ivT s, c_isPart s cd, cl_some]
  by_cases c : 0 ≤ p ∧ p < dt h 0 0
  · have er := j.2.1.2.2.1.2.2.1 p.toNat (by omega)
    rw [Int.toNat_of_nonneg c.1] at er
    rw [if_pos c, if_neg (by decide), if_neg (not_not_intro c)]
    by_cases e : q = 0
    · rw [if_pos e, if_pos e, gT4 s, gH5 s, aH5 s c.1 (by omega), er.1]
    · rw [if_neg e, if_neg e, gT4 s, gH6 s, aH6 s c.1 (by omega), er.2]
  · rw [if_neg c, if_pos rfl, if_pos c]
theorem k_fails {F : Nat} {n v : Int} {h : Hp} {Λ : Nat → Lw} (hF : 6000 ≤ F) (j : JJ n h Λ) : Okc n h (Tide_fails F 1 v h) (fun h1 => Mod_fails F 194 v h1) := by
  refine okc_q0 j (r := flsA h (Λ 3) v) ?_ (m_fails (by omega) j.1.1 (jPk j) (RLr_w (jMo j).2.1 (j.1.2.2.2.1 3 (by decide))))
  have s := jS j
  have cd := jCD j
  have h8 : dt h 0 0 ≤ 8 := (jD j).1.2
  have h00 := (jD j).1.1
  unfold Tide_fails flsA
  by_cases c : v < 0
  · rw [if_pos c, if_pos c]
  · rw [if_neg c, if_neg c]
    have key := loop0 (fun N i => Tide_fails_L10 F N 1 v ((setN (fun p => decide (v < (erF (dt h) (Λ 3)).1 p)) i : Nat) : Int) (i : Nat) h) (dt h 0 0).toNat F (some (((setN (fun p => decide (v < (erF (dt h) (Λ 3)).1 p)) (dt h 0 0).toNat : Nat) : Int), h)) (by omega) (fun N i hi => ?_) (fun N => ?_)
    · exact key
    · have er := j.2.1.2.2.1.2.2.1 i hi
      have h8s := setN_8 (fun p => decide (v < (erF (dt h) (Λ 3)).1 p)) i (by omega)
      show Tide_fails_L10s F (Tide_fails_L10 F N) 1 v ((setN (fun p => decide (v < (erF (dt h) (Λ 3)).1 p)) i : Nat) : Int) (i : Nat) h = Tide_fails_L10 F N 1 v ((if decide (v < (erF (dt h) (Λ 3)).1 i) then setN (fun p => decide (v < (erF (dt h) (Λ 3)).1 p)) i ||| 2 ^ i else setN (fun p => decide (v < (erF (dt h) (Λ 3)).1 p)) i : Nat) : Int) ((i + 1 : Nat) : Int) h
      unfold Tide_fails_L10s
      rw [gT4 s, gH0 s, gC4 s cd.1.1, cd.1.2.1, if_pos (show (i : Int) < dt h 0 0 by omega), gT4 s, gH5 s, aH5 s (by omega) (by omega), er.1, w32_nat (by omega)]
      by_cases e : v < (erF (dt h) (Λ 3)).1 i
      · rw [if_pos e, decide_eq_true e, if_pos rfl, ior_p h8s (by omega), lt_eq]
      · rw [if_neg e, decide_eq_false e, if_neg (by decide)]
    · show Tide_fails_L10s F (Tide_fails_L10 F N) 1 v _ ((dt h 0 0).toNat : Nat) h = _
      unfold Tide_fails_L10s
      rw [gT4 s, gH0 s, gC4 s cd.1.1, cd.1.2.1, if_neg (by omega)]
/-- the windows, minute by minute -/
theorem wnM_fuel {f : Int → Int} {i l : Int} (hf : ∀ t, 0 ≤ t → t < 600 → 0 ≤ f t) : ∀ (d k k' : Nat) (c t : Int), 0 ≤ t → 600 - t ≤ d → 600 - t ≤ k → 600 - t ≤ k' → wnM f i l k c t = wnM f i l k' c t := by
  intro d
  induction d with
  | zero =>
    intro k k' c t t0 hd h1 h2
    have e : ∀ q : Nat, wnM f i l q c t = if i = -1 then c else -1 := fun q => by
      cases q with
      | zero => rfl
      | succ q => unfold wnM; rw [if_neg (by omega)]
    rw [e k, e k']
  | succ d ih =>
    intro k k' c t t0 hd h1 h2
    by_cases c6 : t < 600
    · obtain ⟨a, rfl⟩ : ∃ a, k = a + 1 := ⟨k - 1, by omega⟩
      obtain ⟨b, rfl⟩ : ∃ b, k' = b + 1 := ⟨k' - 1, by omega⟩
      have := hf t t0 c6
      unfold wnM
      rw [if_pos c6, if_pos c6]
      by_cases c1 : 0 < f t ∧ c = i
      · rw [if_pos c1, if_pos c1]
      · rw [if_neg c1, if_neg c1]
        by_cases c2 : 0 < f t
        · rw [if_pos c2, if_pos c2]; exact ih a b _ _ (by omega) (by omega) (by omega) (by omega)
        · rw [if_neg c2, if_neg c2]; exact ih a b _ _ (by omega) (by omega) (by omega) (by omega)
    · have e : ∀ q : Nat, wnM f i l q c t = if i = -1 then c else -1 := fun q => by
        cases q with
        | zero => rfl
        | succ q => unfold wnM; rw [if_neg c6]
      rw [e k, e k']
theorem hoI_su (f : Int → Int) (a b m : Int) (hm : 0 ≤ m ∧ m < 599) : hoI f a b m = if a ≤ f m ∧ f m ≤ b then hoI f a b (m + 1) + 1 else 0 := by
  unfold hoI
  obtain ⟨k, hk⟩ : ∃ k : Nat, (599 - m).toNat = k + 1 := ⟨(599 - m).toNat - 1, by omega⟩
  have e : (599 - (m + 1)).toNat = k := by omega
  rw [hk, e]
  show (if a ≤ f (598 - (k : Int)) ∧ f (598 - (k : Int)) ≤ b then hoK f a b k + 1 else 0) = _
  rw [show 598 - (k : Int) = m by omega]
theorem hoI_599 (f : Int → Int) (a b : Int) : hoI f a b 599 = if a ≤ f 599 ∧ f 599 ≤ b then 1 else 0 := rfl
theorem c_holds {F : Nat} {n p m : Int} {h : Hp} {Λ : Nat → Lw} (j : JJ n h Λ) (hp : 0 ≤ p ∧ p < dt h 0 0) (hm : 0 ≤ m ∧ m < 600) : Shor_holds F 22 (42 + 3 * p) m h = some (if 0 < dt h 11 (600 * p + m) then 1 else 0, h) ∧ (0 < dt h 11 (600 * p + m) → m < 599 → dt h 11 (600 * p + m) = dt h 11 (600 * p + (m + 1)) + 1) ∧ 0 ≤ dt h 11 (600 * p + m) ∧ (m = 599 → dt h 11 (600 * p + m) ≤ 1) := by
  have s := jS j
  have cd := jCD j
  obtain ⟨z1, z2, z3⟩ := cd.2.2.1 p hp.1 hp.2
  obtain ⟨-, -, -, -, dm⟩ := j.1.2.2.1.2 p hp.1 hp.2
  obtain ⟨y1, y2, -⟩ := dm m hm.1 hm.2
  have hk := hoK_in (frI (dt h 13) (dt h 9 p)) (dt h 17 0) (dt h 18 0) (599 - m).toNat
  have cc := cd.1.2.2.2.2.2
  have ho : 0 < dt h 11 (600 * p + m) ↔ dt h 17 0 ≤ dt h 10 (600 * p + m) ∧ dt h 10 (600 * p + m) ≤ dt h 18 0 := by
    rw [y2, y1]
    by_cases c : m = 599
    · subst c
      rw [hoI_599]
      split
      · exact ⟨fun _ => by assumption, fun _ => by decide⟩
      · exact ⟨fun q => absurd q (by decide), fun q => absurd q (by assumption)⟩
    · have hk2 := hoK_in (frI (dt h 13) (dt h 9 p)) (dt h 17 0) (dt h 18 0) (599 - (m + 1)).toNat
      rw [hoI_su _ _ _ _ ⟨hm.1, by omega⟩]
      unfold hoI
      split
      · exact ⟨fun _ => by assumption, fun _ => by omega⟩
      · exact ⟨fun q => absurd q (by decide), fun q => absurd q (by assumption)⟩
  refine ⟨?_, fun c1 c2 => ?_, by rw [y2]; exact hk.1, fun c => ?_⟩
  · unfold Shor_holds
    rw [ivA s z1.1, c_freeFor s z1.1 z2 hm.1, cl_some, if_pos hm.2, gH0 s, gC9 s cd.1.1, cc.1]
    by_cases c1 : dt h 10 (600 * p + m) < dt h 17 0
    · rw [if_pos c1, rz_0, if_neg (fun q => by have := ho.1 q; omega)]
    · rw [if_neg c1, gH0 s, gC10 s cd.1.1, cc.2.1]
      by_cases c2 : dt h 18 0 < dt h 10 (600 * p + m)
      · rw [if_pos c2, rz_0, if_neg (fun q => by have := ho.1 q; omega)]
      · rw [if_neg c2, rz_1, if_pos (ho.2 ⟨by omega, by omega⟩)]
  · obtain ⟨w1, w2, -⟩ := dm (m + 1) (by omega) (by omega)
    have := ho.1 c1
    rw [y2, w2, hoI_su _ _ _ _ ⟨hm.1, c2⟩, if_pos (by rw [← y1]; exact this)]
  · subst c
    rw [y2, hoI_599]
    split <;> decide
theorem c_lastH {F : Nat} {n p : Int} {h : Hp} {Λ : Nat → Lw} (hF : 6000 ≤ F) (j : JJ n h Λ) (hp : 0 ≤ p ∧ p < dt h 0 0) : ∀ (k N : Nat) (m : Int), 0 ≤ m → m + k = 599 → k < N → 0 < dt h 11 (600 * p + m) → Tide_lastHolding_L2 F N 1 (42 + 3 * p) m h = some (m + dt h 11 (600 * p + m) - 1, h) := by
  have s := jS j
  intro k
  induction k with
  | zero =>
    intro N m m0 mk hN hf
    obtain ⟨N, rfl⟩ : ∃ q, N = q + 1 := ⟨N - 1, by omega⟩
    obtain ⟨-, -, -, a4⟩ := c_holds (F := F) j hp ⟨m0, show m < 600 by omega⟩
    have := a4 (by omega)
    show Tide_lastHolding_L2s F (Tide_lastHolding_L2 F N) 1 (42 + 3 * p) m h = _
    unfold Tide_lastHolding_L2s
    rw [w32_id (by omega) (by omega), if_neg (by omega)]
    rw [show dt h 11 (600 * p + m) = 1 by omega, show m + 1 - 1 = m by omega]
  | succ k ih =>
    intro N m m0 mk hN hf
    obtain ⟨N, rfl⟩ : ∃ q, N = q + 1 := ⟨N - 1, by omega⟩
    obtain ⟨-, a2, -, -⟩ := c_holds (F := F) j hp ⟨m0, show m < 600 by omega⟩
    obtain ⟨b1, -, b3, -⟩ := c_holds (F := F) j hp (m := m + 1) ⟨by omega, by omega⟩
    have e := a2 hf (by omega)
    show Tide_lastHolding_L2s F (Tide_lastHolding_L2 F N) 1 (42 + 3 * p) m h = _
    unfold Tide_lastHolding_L2s
    rw [w32_id (by omega) (by omega), if_pos (by omega), gT4 s, ivH s, b1, cl_some]
    by_cases c : 0 < dt h 11 (600 * p + (m + 1))
    · rw [if_pos c, if_neg (by decide), ih N (m + 1) (by omega) (by omega) (by omega) c, e, show m + 1 + dt h 11 (600 * p + (m + 1)) - 1 = m + (dt h 11 (600 * p + (m + 1)) + 1) - 1 by omega]
    · rw [if_neg c, if_pos rfl, show m + dt h 11 (600 * p + m) - 1 = m by omega]
theorem k_window {F : Nat} {n p i l : Int} {h : Hp} {Λ : Nat → Lw} (hF : 6000 ≤ F) (j : JJ n h Λ) : Okc n h (Tide_window F 1 p i l h) (fun h1 => Mod_window F 194 p i l h1) := by
  have hle : ∀ p, 0 ≤ p → p < dt h 0 0 → ∀ t, 0 ≤ t → t < 600 → 0 ≤ dt h 11 (600 * p + t) ∧ dt h 11 (600 * p + t) ≤ 600 := fun p p0 p1 t t0 t1 => by
    obtain ⟨-, -, -, -, dm⟩ := j.1.2.2.1.2 p p0 p1
    obtain ⟨-, y2, -⟩ := dm t t0 t1
    have hk := hoK_in (frI (dt h 13) (dt h 9 p)) (dt h 17 0) (dt h 18 0) (599 - t).toNat
    rw [y2]
    unfold hoI
    omega
  refine okc_q0 j (r := wndA h p i l) ?_ ⟨h, m_window (by omega) (jMo j) hle, Fr_refl j.1.1⟩
  have s := jS j
  have cd := jCD j
  have h8 : dt h 0 0 ≤ 8 := (jD j).1.2
  unfold Tide_window wndA
  rw [ivT s, c_isPart s cd, cl_some]
  by_cases c : 0 ≤ p ∧ p < dt h 0 0
  · rw [if_pos c, if_neg (by decide)]
    by_cases ci : i < -1
    · rw [if_pos ci, if_pos (fun z => by omega)]
    · rw [if_neg ci, if_neg (not_not_intro ⟨c, by omega⟩), gT4 s, gH3 s, aH3 s c.1 (by omega)]
      have hf0 : ∀ t, 0 ≤ t → t < 600 → 0 ≤ dt h 11 (600 * p + t) := fun t t0 t1 => (hle p c.1 c.2 t t0 t1).1
      have key : ∀ (k N : Nat) (t c0 w : Int), 0 ≤ t → t + k = 600 → k < N → (w = 0 ∨ w = 1) → (0 ≤ c0 ∧ c0 ≤ t) → Tide_window_L35 F N 1 i l (42 + 3 * p) c0 w t h = some (wnM (fun t => dt h 11 (600 * p + t)) i l 600 c0 (if w = 0 then t else if t < 600 then t + dt h 11 (600 * p + t) else t), h) := by
        intro k
        induction k with
        | zero =>
          intro N t c0 w t0 tk hN hw hc
          obtain ⟨N, rfl⟩ : ∃ q, N = q + 1 := ⟨N - 1, by omega⟩
          show Tide_window_L35s F (Tide_window_L35 F N) 1 i l (42 + 3 * p) c0 w t h = _
          unfold Tide_window_L35s
          rw [if_neg (by omega), if_neg (show ¬ t < 600 by omega), ite_self]
          unfold Tide_window_B103
          show _ = some (if t < 600 then _ else _, h)
          rw [if_neg (show ¬ t < 600 by omega)]
          by_cases e : i = -1
          · rw [if_pos e, if_pos e]
          · rw [if_neg e, if_neg e]
        | succ k ih =>
          intro N t c0 w t0 tk hN hw hc
          obtain ⟨N, rfl⟩ : ∃ q, N = q + 1 := ⟨N - 1, by omega⟩
          obtain ⟨a1, a2, a3, a4⟩ := c_holds (F := F) j c (m := t) ⟨t0, by omega⟩
          have nx : 0 < dt h 11 (600 * p + t) → (if t + 1 < 600 then t + 1 + dt h 11 (600 * p + (t + 1)) else t + 1) = t + dt h 11 (600 * p + t) := fun q => by
            by_cases z : t + 1 < 600
            · rw [if_pos z]; have := a2 q (by omega); omega
            · rw [if_neg z]; have := a4 (by omega); omega
          have wn0 : ¬ 0 < dt h 11 (600 * p + t) → wnM (fun t => dt h 11 (600 * p + t)) i l 600 c0 t = wnM (fun t => dt h 11 (600 * p + t)) i l 600 c0 (t + 1) := fun q => by
            show (if t < 600 then _ else _) = _
            rw [if_pos (by omega), if_neg (fun z => q z.1), if_neg q, if_neg q]
            exact wnM_fuel hf0 600 599 600 c0 (t + 1) (by omega) (by omega) (by omega) (by omega)
          show Tide_window_L35s F (Tide_window_L35 F N) 1 i l (42 + 3 * p) c0 w t h = _
          unfold Tide_window_L35s
          rw [if_pos (by omega), gT4 s, ivH s, a1, cl_some, w32_id (x := t + 1) (by omega) (by omega), if_pos (show t < 600 by omega)]
          by_cases q : 0 < dt h 11 (600 * p + t)
          · rw [if_pos q, if_neg (by decide)]
            rcases hw with e | e
            · subst e
              rw [if_pos rfl, if_pos rfl]
              by_cases e2 : c0 = i
              · have wv : wnM (fun t => dt h 11 (600 * p + t)) i l 600 c0 t = if l = 0 then t else t + dt h 11 (600 * p + t) - 1 := by
                  show (if t < 600 then _ else _) = _
                  rw [if_pos (by omega), if_pos ⟨q, e2⟩]
                rw [if_pos e2, wv]
                unfold Tide_window_B72
                by_cases e3 : l = 0
                · rw [if_pos e3, if_pos e3]
                · rw [if_neg e3, if_neg e3, ivT s]
                  unfold Tide_lastHolding
                  rw [c_lastH hF j c (599 - t).toNat F t t0 (by omega) (by omega) q, cl_some]
              · have wv : wnM (fun t => dt h 11 (600 * p + t)) i l 600 c0 t = wnM (fun t => dt h 11 (600 * p + t)) i l 600 (c0 + 1) (t + dt h 11 (600 * p + t)) := by
                  show (if t < 600 then _ else _) = _
                  rw [if_pos (by omega), if_neg (fun z => e2 z.2), if_pos q, if_pos q]
                  exact wnM_fuel hf0 600 599 600 (c0 + 1) (t + dt h 11 (600 * p + t)) (by omega) (by omega) (by omega) (by omega)
                rw [if_neg e2, wv, w32_id (by omega) (by omega), ih N (t + 1) (c0 + 1) 1 (by omega) (by omega) (by omega) (Or.inr rfl) (by omega), if_neg (by decide), nx q]
            · subst e
              rw [if_neg (by decide), if_neg (by decide), ih N (t + 1) c0 1 (by omega) (by omega) (by omega) (Or.inr rfl) (by omega), if_neg (by decide), nx q]
          · rw [if_neg q, if_pos rfl, ih N (t + 1) c0 0 (by omega) (by omega) (by omega) (Or.inl rfl) (by omega), if_pos rfl]
            rcases hw with e | e
            · subst e; rw [if_pos rfl, wn0 q]
            · subst e
              rw [if_neg (by decide), show t + dt h 11 (600 * p + t) = t by omega, wn0 q]
      have := key 600 F 0 0 0 (Int.le_refl _) (by omega) (by omega) (Or.inl rfl) (by omega)
      rw [if_pos rfl] at this
      exact this
  · rw [if_neg c, if_pos rfl, if_pos (fun z => c z.1)]
