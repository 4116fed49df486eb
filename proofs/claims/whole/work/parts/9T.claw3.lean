/-! the class reads a law -/
theorem Fq_refl {c : Int} {h : Hp} (s : Sh h) (hu : 0 ≤ rd h (c + 8) 4 ∧ rd h (c + 8) 4 ≤ 450) (h7 : 0 ≤ rd h 3 7 ∧ rd h 3 7 ≤ 400) : Fq c h h := ⟨⟨rfl, rfl, rfl, rfl⟩, s, fun _ _ _ _ => rfl, fun _ _ => rfl, fun _ _ => rfl, ⟨hu.1, Int.le_refl _, hu.2⟩, h7, fun _ _ => rfl⟩
theorem Fq_trans {c : Int} {hb h h' : Hp} (a : Fq c hb h) (b : Fq c h h') : Fq c hb h' := by
  obtain ⟨a1, a2, a3, a4, a5, a6, a7, a8⟩ := a
  obtain ⟨b1, b2, b3, b4, b5, b6, b7, b8⟩ := b
  exact ⟨⟨b1.1.trans a1.1, b1.2.1.trans a1.2.1, b1.2.2.1.trans a1.2.2.1, b1.2.2.2.trans a1.2.2.2⟩, b2, fun x h1 h2 h3 => (b3 x h1 h2 h3).trans (a3 x h1 h2 h3), fun k hk => (b4 k hk).trans (a4 k hk), fun k hk => (b5 k hk).trans (a5 k hk), ⟨a6.1, by omega, b6.2.2⟩, b7, fun j hj => (b8 j (by omega)).trans (a8 j hj)⟩
theorem ED_trans {c : Int} {hb h h' : Hp} {e p : Int} (a : Fq c hb h) (b : ED c h h' e p) : ED c hb h' e p := ⟨Fq_trans a b.1, b.2⟩
/-- a heap in which a piece may begin -/
theorem EC_here {c b : Int} {hb h : Hp} {t : Nat} (f : Fq c hb h) (g : rd h 3 8 = 0 ∧ rd h 3 7 = t ∧ t ≤ 400) (hb2 : rd h (c + 8) 4 ≤ b + t) : EC c b h h t [] := ⟨Fq_refl f.2.1 ⟨by have := f.2.2.2.2.2.1; omega, f.2.2.2.2.2.1.2.2⟩ f.2.2.2.2.2.2.1, g, by simp, trivial, hb2⟩
def CLp (S : Int → Int) : Int → Lw → Int → Prop
  | a, [], z => z = a
  | _, (none, _) :: _, _ => False
  | a, (some t, b) :: r, z => clA S a t.1 ∧ clA S (a + t.1.length) t.2 ∧ S (a + t.1.length + t.2.length) = (a + t.1.length + t.2.length + 1 + b.length + 1) * 256 + 3 ∧ clA S (a + t.1.length + t.2.length + 1) b ∧ S (a + t.1.length + t.2.length + 1 + b.length) = 4 ∧ CLp S (a + t.1.length + t.2.length + 1 + b.length + 1) r z
theorem CLp_le {S : Int → Int} : ∀ (L : Lw) (a z : Int), CLp S a L z → a ≤ z
  | [], a, z, h => by have : z = a := h; omega
  | (none, _) :: _, _, _, h => absurd h (by simp [CLp])
  | (some t, b) :: r, a, z, h => by
    have := CLp_le r _ z h.2.2.2.2.2
    omega
theorem CLp_eq {S S' : Int → Int} : ∀ (L : Lw) (a z : Int), (∀ j, a ≤ j → j < z → S' j = S j) → CLp S a L z → CLp S' a L z
  | [], _, _, _, h => h
  | (none, _) :: _, _, _, _, h => absurd h (by simp [CLp])
  | (some t, b) :: r, a, z, e, h => by
    obtain ⟨h1, h2, h3, h4, h5, h6⟩ := h
    have hz := CLp_le r _ z h6
    exact ⟨clA_eq _ _ (fun j j0 j1 => e j j0 (by omega)) h1, clA_eq _ _ (fun j j0 j1 => e j (by omega) (by omega)) h2, by rw [e _ (by omega) (by omega)]; exact h3, clA_eq _ _ (fun j j0 j1 => e j (by omega) (by omega)) h4, by rw [e _ (by omega) (by omega)]; exact h5, CLp_eq r _ z (fun j j0 j1 => e j (by omega) j1) h6⟩
theorem CLp_app {S : Int → Int} {t1 t2 b : Cds} : ∀ (L : Lw) (a y : Int), CLp S a L y → clA S y t1 → clA S (y + t1.length) t2 → S (y + t1.length + t2.length) = (y + t1.length + t2.length + 1 + b.length + 1) * 256 + 3 → clA S (y + t1.length + t2.length + 1) b → S (y + t1.length + t2.length + 1 + b.length) = 4 → CLp S a (L ++ [(some (t1, t2), b)]) (y + t1.length + t2.length + 1 + b.length + 1)
  | [], a, y, h, h1, h2, h3, h4, h5 => by
    have e : y = a := h
    subst e
    exact ⟨h1, h2, h3, h4, h5, rfl⟩
  | (none, _) :: _, _, _, h, _, _, _, _, _ => absurd h (by simp [CLp])
  | (some t, b') :: r, a, y, h, h1, h2, h3, h4, h5 => by
    obtain ⟨g1, g2, g3, g4, g5, g6⟩ := h
    exact ⟨g1, g2, g3, g4, g5, CLp_app r _ y g6 h1 h2 h3 h4 h5⟩
theorem CLp_w {S : Int → Int} {U : Int} {b : Cds} : ∀ (L : Lw) (a y : Int), CLp S a L y → clA S y b → S (y + b.length) = 4 → y + b.length < U → CLw S U a (L ++ [(none, b)])
  | [], a, y, h, h1, h2, h3 => by
    have e : y = a := h
    subst e
    exact ⟨h1, h2, h3, rfl⟩
  | (none, _) :: _, _, _, h, _, _, _ => absurd h (by simp [CLp])
  | (some t, b') :: r, a, y, h, h1, h2, h3 => by
    obtain ⟨g1, g2, g3, g4, g5, g6⟩ := h
    have := CLp_le r _ y g6
    exact ⟨g1, g2, g3, g4, g5, by omega, CLp_w r _ y g6 h1 h2 h3⟩
theorem CLw_mono {S S' : Int → Int} {U U' : Int} (hU : U ≤ U') : ∀ (L : Lw) (a : Int), (∀ j, a ≤ j → j < U → S' j = S j) → CLw S U a L → CLw S' U' a L
  | [], _, _, h => absurd h (by simp [CLw])
  | (none, b) :: r, a, e, h => by
    obtain ⟨h1, h2, h3, h4⟩ := h
    exact ⟨clA_eq _ _ (fun j j0 j1 => e j j0 (by omega)) h1, by rw [e _ (by omega) (by omega)]; exact h2, by omega, h4⟩
  | (some t, b) :: r, a, e, h => by
    obtain ⟨h1, h2, h3, h4, h5, h6, h7⟩ := h
    exact ⟨clA_eq _ _ (fun j j0 j1 => e j j0 (by omega)) h1, clA_eq _ _ (fun j j0 j1 => e j (by omega) (by omega)) h2, by rw [e _ (by omega) (by omega)]; exact h3, clA_eq _ _ (fun j j0 j1 => e j (by omega) (by omega)) h4, by rw [e _ (by omega) (by omega)]; exact h5, by omega, CLw_mono hU r _ (fun j j0 j1 => e j (by omega) j1) h7⟩
theorem c_jump {F : Nat} {h : Hp} {c j : Int} (s : Sh h) (ic : isSc c) (hj : 0 ≤ j) (hu : 0 ≤ rd h (c + 8) 4 ∧ rd h (c + 8) 4 ≤ 450) : Laws_jumpHere F (c + 8) j h = some (0, if j < rd h (c + 8) 4 then wr h (c + 9) j (rd h (c + 8) 4 * 256 + 3) else h) := by
  unfold Laws_jumpHere
  rw [if_neg (by omega), gL4 s ic]
  by_cases q : j < rd h (c + 8) 4
  · rw [if_pos q, if_pos q, gL0 s ic, gL4 s ic, w32_id (x := rd h (c + 8) 4 * 256) (by omega) (by omega), w32_id (by omega) (by omega), sL0 s ic hj (by omega)]
  · rw [if_neg q, if_neg q]
theorem Fq_jp {c : Int} (ic : isSc c) {hb h : Hp} (f : Fq c hb h) {j x : Int} (hj : rd hb (c + 8) 4 ≤ j) : Fq c hb (wr h (c + 9) j x) := by
  have hcc : c = 9 ∨ c = 23 := ic
  obtain ⟨f1, f2, f3, f4, f5, f6, f7, f8⟩ := f
  exact ⟨f1, shOk f2 (okC ic (Or.inr (by decide))), fun a h1 h2 h3 => by rw [rd_wr_ne h3]; exact f3 a h1 h2 h3, fun k hk => by rw [rd_wr_ne (by omega)]; exact f4 k hk, fun k hk => by rw [rd_wr_ne (by omega)]; exact f5 k hk, by rw [rd_wr_ne (by omega)]; exact f6, by rw [rd_wr_ne (by omega)]; exact f7, fun i hi => by rw [rd_i (by omega)]; exact f8 i hi⟩
theorem t_jump_d {F : Nat} {c : Int} (ic : isSc c) {hb h : Hp} {j e p : Int} (hj : rd hb (c + 8) 4 ≤ j) (g : ED c hb h e p) : T (Laws_jumpHere F (c + 8) j h) (fun _ h' => ED c hb h' e p) := by
  have hcc : c = 9 ∨ c = 23 := ic
  obtain ⟨f, he, e8, e9⟩ := g
  have f6 := f.2.2.2.2.2.1
  rw [c_jump f.2.1 ic (by omega) ⟨by omega, f6.2.2⟩]
  by_cases q : j < rd h (c + 8) 4
  · rw [if_pos q]
    exact T_some ⟨Fq_jp ic f hj, he, by rw [rd_wr_ne (by omega)]; exact e8, by rw [rd_wr_ne (by omega)]; exact e9⟩
  · rw [if_neg q]; exact T_some ⟨f, he, e8, e9⟩
/-- a law is being read -/
def LZ (c b : Int) (hb h : Hp) (t : Nat) (L : Lw) : Prop := Fq c hb h ∧ (rd h 3 8 = 0 ∧ rd h 3 7 = t ∧ t ≤ 400) ∧ CLp (rd h (c + 9)) (rd hb (c + 8) 4) L (rd h (c + 8) 4) ∧ rd h (c + 8) 4 ≤ b + t
def LEz (c b : Int) (hb h : Hp) (t : Nat) (L : Lw) : Prop := Fq c hb h ∧ (rd h 3 8 = 0 ∧ rd h 3 7 = t ∧ t ≤ 400) ∧ CLw (rd h (c + 9)) (rd h (c + 8) 4) (rd hb (c + 8) 4) L ∧ rd h (c + 8) 4 ≤ b + t
theorem t_last {F : Nat} {c b : Int} {K V P : Nat → Int} (hF : 1000 ≤ F) (ic : isSc c) {hb h : Hp} (tk : TkC hb K V P) (h5 : rd hb 3 5 = c) (hb20 : b ≤ 20) {t : Nat} {L : Lw} (g : LZ c b hb h t L) : T (Read_takeLaw_B137 F 3 (c + 8) h) (fun _ h' => match rbd (pE K V P t []) (fun q => Sum.inr (q.1, L ++ [(none, q.2)]) : _ → (Int × Int) ⊕ (Nat × Lw)) with | Sum.inr q => LEz c (b + 1) hb h' q.1 q.2 | Sum.inl q => ED c hb h' q.1 q.2) := by
  have hcc : c = 9 ∨ c = 23 := ic
  obtain ⟨f, ga, gp, gb⟩ := g
  have s := f.2.1
  have tk1 := TkC_Fq ic f tk
  have h5' : rd h 3 5 = c := by rw [f.2.2.2.1 5 (by omega)]; exact h5
  obtain ⟨u1, u2⟩ := sp_E (F := F) (K := K) (V := V) (P := P) hF ic h tk1 h5'
  unfold Read_takeLaw_B137
  refine T_iv s (u1 b h t [] hb20 (EC_here f ga gb)) (fun _ h1 g1 => ?_)
  cases hu : pE K V P t [] with
  | inl q =>
    rw [hu] at g1
    have g2 := ED_trans f g1
    exact T_ivL g2.1.2.1 ic (t_emit_d ic (by decide) (by decide) g2) (fun _ h2 g3 => T_some g3.1)
  | inr q =>
    rw [hu] at g1
    obtain ⟨f1, ga1, g4, g9, gb1⟩ := g1
    have f6 := f.2.2.2.2.2.1
    have F6 := f1.2.2.2.2.2.1
    have F1 := Fq_trans f f1
    rw [ivL f1.2.1 ic, c_emit f1.2.1 ic (by omega) (by decide) (by decide), if_pos (by omega), cl_some]
    refine T_some ⟨Fq_em ic F1 (by omega), ⟨by rw [rd_wr_ne (by omega), rd_wr_ne (by omega)]; exact ga1.1, by rw [rd_wr_ne (by omega), rd_wr_ne (by omega)]; exact ga1.2.1, ga1.2.2⟩, ?_, by rw [rd_same]; omega⟩
    rw [rd_same, rd_wr_ne (show c + 9 ≠ c + 8 by omega)]
    refine CLp_w L _ (rd h (c + 8) 4) (CLp_eq L _ _ (fun j j0 j1 => ?_) gp) (clA_eq _ _ (fun j j0 j1 => ?_) g9) ?_ (by omega)
    · rw [rd_i (by omega)]; exact f1.2.2.2.2.2.2.2 j j1
    · rw [rd_i (by omega)]
    · rw [← g4, rd_same]; decide
theorem t_ifs {F : Nat} {c b : Int} {K V P : Nat → Int} (hF : 1000 ≤ F) (ic : isSc c) {hb : Hp} (tk : TkC hb K V P) (h5 : rd hb 3 5 = c) (hb20 : b ≤ 20) : ∀ (n N : Nat) (h : Hp) (t : Nat) (L : Lw), n ≤ 4 → n < N → LZ c b hb h t L → T (Read_takeLaw_L30 F N 3 (c + 8) (4 - (n : Int)) h) (fun _ h' => match pIf K V P n t L with | Sum.inr q => LEz c (b + 1) hb h' q.1 q.2 | Sum.inl q => ED c hb h' q.1 q.2) := by
  have hcc : c = 9 ∨ c = 23 := ic
  obtain ⟨ua, ub⟩ := sp_E (F := F) (K := K) (V := V) (P := P) hF ic hb tk h5
  have dead : ∀ (N : Nat) (l3 : Int) (h : Hp) (e p : Int), 0 < N → ED c hb h e p → T (Read_takeLaw_L30 F N 3 (c + 8) l3 h) (fun _ h' => ED c hb h' e p) := by
    intro N l3 h e p hN g
    obtain ⟨n, rfl⟩ : ∃ n, N = n + 1 := ⟨N - 1, by omega⟩
    have B : T (Read_takeLaw_B137 F 3 (c + 8) h) (fun _ h' => ED c hb h' e p) := by
      unfold Read_takeLaw_B137
      refine T_iv g.1.2.1 (ub h e p g) (fun _ h1 g1 => ?_)
      exact T_ivL g1.1.2.1 ic (t_emit_d ic (by decide) (by decide) g1) (fun _ h2 g2 => T_some g2.1)
    show T (Read_takeLaw_L30s F (Read_takeLaw_L30 F n) 3 (c + 8) l3 h) _
    unfold Read_takeLaw_L30s
    by_cases c4 : 4 < l3
    · rw [if_pos c4]; exact B
    · rw [if_neg c4, gR8 g.1.2.1, if_neg (by rw [g.2.2.1]; exact g.2.1)]; exact B
  intro n
  induction n with
  | zero =>
    intro N h t L _ hN g
    obtain ⟨N, rfl⟩ : ∃ n, N = n + 1 := ⟨N - 1, by omega⟩
    have g0 := g
    obtain ⟨f, ga, gp, gb⟩ := g
    have s := f.2.1
    obtain ⟨k1, k2, k3, k4⟩ := TkC_Fq ic f tk t ga.2.2
    show T (Read_takeLaw_L30s F (Read_takeLaw_L30 F N) 3 (c + 8) (4 - ((0 : Nat) : Int)) h) (fun _ h' => match (if K t = 10 then Sum.inl (2, P t) else rbd (pE K V P t []) (fun q => Sum.inr (q.1, L ++ [(none, q.2)]))) with | Sum.inr q => LEz c (b + 1) hb h' q.1 q.2 | Sum.inl q => ED c hb h' q.1 q.2)
    unfold Read_takeLaw_L30s
    rw [if_neg (by decide), gR8 s, ga.1, if_pos rfl, gR1 s, gR7 s, ga.2.1, aR1 s (by omega) (by omega), k1]
    by_cases c10 : K t = 10
    · rw [if_pos c10, if_pos c10, if_pos (by decide)]
      unfold Read_takeLaw_B61
      exact T_iv s (t_fail ic (by decide) (TkC_Fq ic f tk) (EC_here f ga gb)) (fun _ h1 g1 => T_some (ED_trans f g1))
    · rw [if_neg c10, if_neg c10]
      exact t_last hF ic tk h5 hb20 g0
  | succ n ih =>
    intro N h t L hn hN g
    obtain ⟨N, rfl⟩ : ∃ n, N = n + 1 := ⟨N - 1, by omega⟩
    have g0 := g
    obtain ⟨f, ga, gp, gb⟩ := g
    have s := f.2.1
    obtain ⟨k1, k2, k3, k4⟩ := TkC_Fq ic f tk t ga.2.2
    show T (Read_takeLaw_L30s F (Read_takeLaw_L30 F N) 3 (c + 8) (4 - ((n + 1 : Nat) : Int)) h) (fun _ h' => match (if K t = 10 then rbd (pAcc K P 10 t) (fun t1 => rbd (pE K V P t1 []) (fun a => rbd (pAcc K P 60 a.1) (fun t2 => rbd (pE K V P t2 []) (fun b => rbd (pAcc K P 11 b.1) (fun t3 => rbd (pE K V P t3 []) (fun c => rbd (pAcc K P 12 c.1) (fun t4 => pIf K V P n t4 (L ++ [(some (a.2, b.2), c.2)])))))))) else rbd (pE K V P t []) (fun q => Sum.inr (q.1, L ++ [(none, q.2)]))) with | Sum.inr q => LEz c (b + 1) hb h' q.1 q.2 | Sum.inl q => ED c hb h' q.1 q.2)
    unfold Read_takeLaw_L30s
    rw [if_neg (by omega), gR8 s, ga.1, if_pos rfl, gR1 s, gR7 s, ga.2.1, aR1 s (by omega) (by omega), k1]
    by_cases c10 : K t = 10
    · rw [if_pos c10, if_pos c10, if_neg (by omega)]
      have f6 := f.2.2.2.2.2.1
      refine T_iv s (t_acc ic (TkC_Fq ic f tk) (EC_here f ga gb)) (fun r h1 g1 => ?_)
      cases p1 : pAcc K P 10 t with
      | inl q =>
        rw [p1] at g1
        have d0 := ED_trans f g1.2
        refine T_iv d0.1.2.1 (ub _ _ _ d0) (fun _ k11 d11 => ?_)
        refine T_iv d11.1.2.1 (t_acc_d d11) (fun _ k12 d12 => ?_)
        replace d12 := d12.2
        refine T_iv d12.1.2.1 (ub _ _ _ d12) (fun _ k13 d13 => ?_)
        refine T_iv d13.1.2.1 (t_acc_d d13) (fun _ k14 d14 => ?_)
        replace d14 := d14.2
        refine T_ivL d14.1.2.1 ic (t_emit_d ic (by decide) (by decide) d14) (fun rj k15 d15 => ?_)
        have hj := d15.2
        replace d15 := d15.1
        refine T_iv d15.1.2.1 (ub _ _ _ d15) (fun _ k16 d16 => ?_)
        refine T_ivL d16.1.2.1 ic (t_emit_d ic (by decide) (by decide) d16) (fun _ k17 d17 => ?_)
        replace d17 := d17.1
        refine T_iv d17.1.2.1 (t_acc_d d17) (fun _ k18 d18 => ?_)
        replace d18 := d18.2
        refine T_ivL d18.1.2.1 ic (t_jump_d ic hj d18) (fun _ k19 d19 => ?_)
        exact dead N _ _ _ _ (by omega) d19
      | inr t1 =>
        rw [p1] at g1
        obtain ⟨f1, ga1, g41, g91, gb1⟩ := g1.2
        have z1 := Fq_trans f f1
        have tk1 := TkC_Fq ic z1 tk
        obtain ⟨ua1, -⟩ := sp_E (F := F) (K := K) (V := V) (P := P) hF ic h1 tk1 (by rw [z1.2.2.2.1 5 (by omega)]; exact h5)
        refine T_iv f1.2.1 (ua1 (b - 1) h1 t1 [] (by omega) (EC_here z1 ga1 gb1)) (fun _ h2 g2 => ?_)
        show T _ (fun _ h' => match rbd (pE K V P t1 []) (fun a => rbd (pAcc K P 60 a.1) (fun t2 => rbd (pE K V P t2 []) (fun b => rbd (pAcc K P 11 b.1) (fun t3 => rbd (pE K V P t3 []) (fun c => rbd (pAcc K P 12 c.1) (fun t4 => pIf K V P n t4 (L ++ [(some (a.2, b.2), c.2)]))))))) with | Sum.inr q => LEz c (b + 1) hb h' q.1 q.2 | Sum.inl q => ED c hb h' q.1 q.2)
        cases p2 : pE K V P t1 [] with
        | inl q =>
          rw [p2] at g2
          have d0 := ED_trans z1 g2
          show T _ (fun _ h' => ED c hb h' q.1 q.2)
          refine T_iv d0.1.2.1 (t_acc_d d0) (fun _ k21 d21 => ?_)
          replace d21 := d21.2
          refine T_iv d21.1.2.1 (ub _ _ _ d21) (fun _ k22 d22 => ?_)
          refine T_iv d22.1.2.1 (t_acc_d d22) (fun _ k23 d23 => ?_)
          replace d23 := d23.2
          refine T_ivL d23.1.2.1 ic (t_emit_d ic (by decide) (by decide) d23) (fun rj k24 d24 => ?_)
          have hj := d24.2
          replace d24 := d24.1
          refine T_iv d24.1.2.1 (ub _ _ _ d24) (fun _ k25 d25 => ?_)
          refine T_ivL d25.1.2.1 ic (t_emit_d ic (by decide) (by decide) d25) (fun _ k26 d26 => ?_)
          replace d26 := d26.1
          refine T_iv d26.1.2.1 (t_acc_d d26) (fun _ k27 d27 => ?_)
          replace d27 := d27.2
          refine T_ivL d27.1.2.1 ic (t_jump_d ic hj d27) (fun _ k28 d28 => ?_)
          exact dead N _ _ _ _ (by omega) d28
        | inr a =>
          rw [p2] at g2
          refine T_iv g2.1.2.1 (t_acc ic tk1 g2) (fun r h3 g3 => ?_)
          show T _ (fun _ h' => match rbd (pAcc K P 60 a.1) (fun t2 => rbd (pE K V P t2 []) (fun b => rbd (pAcc K P 11 b.1) (fun t3 => rbd (pE K V P t3 []) (fun c => rbd (pAcc K P 12 c.1) (fun t4 => pIf K V P n t4 (L ++ [(some (a.2, b.2), c.2)])))))) with | Sum.inr q => LEz c (b + 1) hb h' q.1 q.2 | Sum.inl q => ED c hb h' q.1 q.2)
          cases p3 : pAcc K P 60 a.1 with
          | inl q =>
            rw [p3] at g3
            have d0 := ED_trans z1 g3.2
            show T _ (fun _ h' => ED c hb h' q.1 q.2)
            refine T_iv d0.1.2.1 (ub _ _ _ d0) (fun _ k31 d31 => ?_)
            refine T_iv d31.1.2.1 (t_acc_d d31) (fun _ k32 d32 => ?_)
            replace d32 := d32.2
            refine T_ivL d32.1.2.1 ic (t_emit_d ic (by decide) (by decide) d32) (fun rj k33 d33 => ?_)
            have hj := d33.2
            replace d33 := d33.1
            refine T_iv d33.1.2.1 (ub _ _ _ d33) (fun _ k34 d34 => ?_)
            refine T_ivL d34.1.2.1 ic (t_emit_d ic (by decide) (by decide) d34) (fun _ k35 d35 => ?_)
            replace d35 := d35.1
            refine T_iv d35.1.2.1 (t_acc_d d35) (fun _ k36 d36 => ?_)
            replace d36 := d36.2
            refine T_ivL d36.1.2.1 ic (t_jump_d ic hj d36) (fun _ k37 d37 => ?_)
            exact dead N _ _ _ _ (by omega) d37
          | inr t2 =>
            rw [p3] at g3
            obtain ⟨f3, ga3, g43, g93, gb3⟩ := g3.2
            have z3 := Fq_trans z1 f3
            have tk3 := TkC_Fq ic z3 tk
            obtain ⟨ua3, -⟩ := sp_E (F := F) (K := K) (V := V) (P := P) hF ic h3 tk3 (by rw [z3.2.2.2.1 5 (by omega)]; exact h5)
            refine T_iv f3.2.1 (ua3 (b - 1 - 1) h3 t2 [] (by omega) (EC_here z3 ga3 gb3)) (fun _ h4 g4 => ?_)
            show T _ (fun _ h' => match rbd (pE K V P t2 []) (fun b => rbd (pAcc K P 11 b.1) (fun t3 => rbd (pE K V P t3 []) (fun c => rbd (pAcc K P 12 c.1) (fun t4 => pIf K V P n t4 (L ++ [(some (a.2, b.2), c.2)]))))) with | Sum.inr q => LEz c (b + 1) hb h' q.1 q.2 | Sum.inl q => ED c hb h' q.1 q.2)
            cases p4 : pE K V P t2 [] with
            | inl q =>
              rw [p4] at g4
              have d0 := ED_trans z3 g4
              show T _ (fun _ h' => ED c hb h' q.1 q.2)
              refine T_iv d0.1.2.1 (t_acc_d d0) (fun _ k41 d41 => ?_)
              replace d41 := d41.2
              refine T_ivL d41.1.2.1 ic (t_emit_d ic (by decide) (by decide) d41) (fun rj k42 d42 => ?_)
              have hj := d42.2
              replace d42 := d42.1
              refine T_iv d42.1.2.1 (ub _ _ _ d42) (fun _ k43 d43 => ?_)
              refine T_ivL d43.1.2.1 ic (t_emit_d ic (by decide) (by decide) d43) (fun _ k44 d44 => ?_)
              replace d44 := d44.1
              refine T_iv d44.1.2.1 (t_acc_d d44) (fun _ k45 d45 => ?_)
              replace d45 := d45.2
              refine T_ivL d45.1.2.1 ic (t_jump_d ic hj d45) (fun _ k46 d46 => ?_)
              exact dead N _ _ _ _ (by omega) d46
            | inr e =>
              rw [p4] at g4
              refine T_iv g4.1.2.1 (t_acc ic tk3 g4) (fun r h5a g5 => ?_)
              show T _ (fun _ h' => match rbd (pAcc K P 11 e.1) (fun t3 => rbd (pE K V P t3 []) (fun c => rbd (pAcc K P 12 c.1) (fun t4 => pIf K V P n t4 (L ++ [(some (a.2, e.2), c.2)])))) with | Sum.inr q => LEz c (b + 1) hb h' q.1 q.2 | Sum.inl q => ED c hb h' q.1 q.2)
              cases p5 : pAcc K P 11 e.1 with
              | inl q =>
                rw [p5] at g5
                have d0 := ED_trans z3 g5.2
                show T _ (fun _ h' => ED c hb h' q.1 q.2)
                refine T_ivL d0.1.2.1 ic (t_emit_d ic (by decide) (by decide) d0) (fun rj k51 d51 => ?_)
                have hj := d51.2
                replace d51 := d51.1
                refine T_iv d51.1.2.1 (ub _ _ _ d51) (fun _ k52 d52 => ?_)
                refine T_ivL d52.1.2.1 ic (t_emit_d ic (by decide) (by decide) d52) (fun _ k53 d53 => ?_)
                replace d53 := d53.1
                refine T_iv d53.1.2.1 (t_acc_d d53) (fun _ k54 d54 => ?_)
                replace d54 := d54.2
                refine T_ivL d54.1.2.1 ic (t_jump_d ic hj d54) (fun _ k55 d55 => ?_)
                exact dead N _ _ _ _ (by omega) d55
              | inr t3 =>
                rw [p5] at g5
                obtain ⟨f5, ga5, g45, g95, gb5⟩ := g5.2
                have z5 := Fq_trans z3 f5
                have F5 := z5.2.2.2.2.2.1
                have F31 := z1.2.2.2.2.2.1
                have F33 := z3.2.2.2.2.2.1
                rw [ivL f5.2.1 ic, c_emit f5.2.1 ic (by omega) (by decide) (by decide), if_pos (by omega), cl_some]
                have z6 := Fq_em ic z5 (x := 0 * 256 + 3) (show rd h5a (c + 8) 4 < 450 by omega)
                generalize hh6 : wr (wr h5a (c + 9) (rd h5a (c + 8) 4) (0 * 256 + 3)) (c + 8) 4 (rd h5a (c + 8) 4 + 1) = h6 at *
                have u6 : rd h6 (c + 8) 4 = rd h5a (c + 8) 4 + 1 := by rw [← hh6, rd_same]
                have a6 : rd h6 3 8 = 0 ∧ rd h6 3 7 = t3 ∧ t3 ≤ 400 := by rw [← hh6, rd_wr_ne (by omega), rd_wr_ne (by omega)]; exact ga5
                have s6 : ∀ j, j ≠ rd h5a (c + 8) 4 → rd h6 (c + 9) j = rd h5a (c + 9) j := fun j hj => by rw [← hh6, rd_wr_ne (by omega), rd_i hj]
                have tk6 := TkC_Fq ic z6 tk
                obtain ⟨ua6, -⟩ := sp_E (F := F) (K := K) (V := V) (P := P) hF ic h6 tk6 (by rw [z6.2.2.2.1 5 (by omega)]; exact h5)
                refine T_iv z6.2.1 (ua6 (b - 1 - 1) h6 t3 [] (by omega) (EC_here z6 a6 (by omega))) (fun _ h7 g7 => ?_)
                show T _ (fun _ h' => match rbd (pE K V P t3 []) (fun c => rbd (pAcc K P 12 c.1) (fun t4 => pIf K V P n t4 (L ++ [(some (a.2, e.2), c.2)]))) with | Sum.inr q => LEz c (b + 1) hb h' q.1 q.2 | Sum.inl q => ED c hb h' q.1 q.2)
                cases p6 : pE K V P t3 [] with
                | inl q =>
                  rw [p6] at g7
                  have d0 := ED_trans z6 g7
                  have hj : rd hb (c + 8) 4 ≤ rd h5a (c + 8) 4 := F5.2.1
                  show T _ (fun _ h' => ED c hb h' q.1 q.2)
                  refine T_ivL d0.1.2.1 ic (t_emit_d ic (by decide) (by decide) d0) (fun _ k61 d61 => ?_)
                  replace d61 := d61.1
                  refine T_iv d61.1.2.1 (t_acc_d d61) (fun _ k62 d62 => ?_)
                  replace d62 := d62.2
                  refine T_ivL d62.1.2.1 ic (t_jump_d ic hj d62) (fun _ k63 d63 => ?_)
                  exact dead N _ _ _ _ (by omega) d63
                | inr w =>
                  rw [p6] at g7
                  obtain ⟨f7, ga7, g47, g97, gb7⟩ := g7
                  have z7 := Fq_trans z6 f7
                  have F7 := z7.2.2.2.2.2.1
                  rw [ivL f7.2.1 ic, c_emit f7.2.1 ic (by omega) (by decide) (by decide), if_pos (by omega), cl_some]
                  have z8 := Fq_em ic z7 (x := 0 * 256 + 4) (show rd h7 (c + 8) 4 < 450 by omega)
                  generalize hh8 : wr (wr h7 (c + 9) (rd h7 (c + 8) 4) (0 * 256 + 4)) (c + 8) 4 (rd h7 (c + 8) 4 + 1) = h8 at *
                  have u8 : rd h8 (c + 8) 4 = rd h7 (c + 8) 4 + 1 := by rw [← hh8, rd_same]
                  have a8 : rd h8 3 8 = 0 ∧ rd h8 3 7 = w.1 ∧ w.1 ≤ 400 := by rw [← hh8, rd_wr_ne (by omega), rd_wr_ne (by omega)]; exact ga7
                  have s8 : ∀ j, j ≠ rd h7 (c + 8) 4 → rd h8 (c + 9) j = rd h7 (c + 9) j := fun j hj => by rw [← hh8, rd_wr_ne (by omega), rd_i hj]
                  have s8' : rd h8 (c + 9) (rd h7 (c + 8) 4) = 4 := by rw [← hh8, rd_wr_ne (by omega), rd_same]; decide
                  refine T_iv z8.2.1 (t_acc ic (TkC_Fq ic z8 tk) (EC_here (b := b - 1) z8 a8 (by omega))) (fun r h9 g9 => ?_)
                  show T _ (fun _ h' => match rbd (pAcc K P 12 w.1) (fun t4 => pIf K V P n t4 (L ++ [(some (a.2, e.2), w.2)])) with | Sum.inr q => LEz c (b + 1) hb h' q.1 q.2 | Sum.inl q => ED c hb h' q.1 q.2)
                  have hj : rd hb (c + 8) 4 ≤ rd h5a (c + 8) 4 := F5.2.1
                  cases p7 : pAcc K P 12 w.1 with
                  | inl q =>
                    rw [p7] at g9
                    have d0 := ED_trans z8 g9.2
                    show T _ (fun _ h' => ED c hb h' q.1 q.2)
                    refine T_ivL d0.1.2.1 ic (t_jump_d ic hj d0) (fun _ k71 d71 => ?_)
                    exact dead N _ _ _ _ (by omega) d71
                  | inr t4 =>
                    rw [p7] at g9
                    obtain ⟨f9, ga9, g49, g99, gb9⟩ := g9.2
                    have z9 := Fq_trans z8 f9
                    have F9 := z9.2.2.2.2.2.1
                    have l0 : (([] : Cds).length : Int) = 0 := rfl
                    rw [ivL f9.2.1 ic, c_jump f9.2.1 ic (by omega) ⟨by omega, F9.2.2⟩, if_pos (by omega), cl_some, w32_id (by omega) (by omega), show 4 - ((n + 1 : Nat) : Int) + 1 = 4 - (n : Int) by omega]
                    refine ih N _ t4 (L ++ [(some (a.2, e.2), w.2)]) (by omega) (by omega) ⟨Fq_jp ic z9 (by omega), by rw [rd_wr_ne (by omega)]; exact ga9, ?_, by rw [rd_wr_ne (by omega)]; omega⟩
                    rw [rd_wr_ne (show c + 8 ≠ c + 9 by omega)]
                    have uh1 : rd h1 (c + 8) 4 = rd h (c + 8) 4 := by rw [g41, l0]; omega
                    have uh3 : rd h3 (c + 8) 4 = rd h (c + 8) 4 + a.2.length := by rw [g43, uh1]
                    have uh5 : rd h5a (c + 8) 4 = rd h (c + 8) 4 + a.2.length + e.2.length := by rw [g45, uh3]
                    have uh7 : rd h7 (c + 8) 4 = rd h (c + 8) 4 + a.2.length + e.2.length + 1 + w.2.length := by rw [g47, u6, uh5]
                    have uh9 : rd h9 (c + 8) 4 = rd h (c + 8) 4 + a.2.length + e.2.length + 1 + w.2.length + 1 := by rw [g49, u8, uh7, l0]; omega
                    have S9 : ∀ j, j < rd h8 (c + 8) 4 → rd h9 (c + 9) j = rd h8 (c + 9) j := f9.2.2.2.2.2.2.2
                    have S7 : ∀ j, j < rd h6 (c + 8) 4 → rd h7 (c + 9) j = rd h6 (c + 9) j := f7.2.2.2.2.2.2.2
                    have S5 : ∀ j, j < rd h3 (c + 8) 4 → rd h5a (c + 9) j = rd h3 (c + 9) j := f5.2.2.2.2.2.2.2
                    have S3 : ∀ j, j < rd h1 (c + 8) 4 → rd h3 (c + 9) j = rd h1 (c + 9) j := f3.2.2.2.2.2.2.2
                    have S1 : ∀ j, j < rd h (c + 8) 4 → rd h1 (c + 9) j = rd h (c + 9) j := f1.2.2.2.2.2.2.2
                    rw [uh9]
                    rw [uh1] at g93
                    rw [uh3] at g95
                    rw [u6, uh5] at g97
                    refine CLp_app L _ (rd h (c + 8) 4) (CLp_eq L _ _ (fun j j0 j1 => ?_) gp) (clA_eq _ _ (fun j j0 j1 => ?_) g93) (clA_eq _ _ (fun j j0 j1 => ?_) g95) ?_ (clA_eq _ _ (fun j j0 j1 => ?_) g97) ?_
                    · rw [rd_i (by omega), S9 j (by omega), s8 j (by omega), S7 j (by omega), s6 j (by omega), S5 j (by omega), S3 j (by omega), S1 j (by omega)]
                    · rw [rd_i (by omega), S9 j (by omega), s8 j (by omega), S7 j (by omega), s6 j (by omega), S5 j (by omega)]
                    · rw [rd_i (by omega), S9 j (by omega), s8 j (by omega), S7 j (by omega), s6 j (by omega)]
                    · rw [← uh5, rd_same]
                    · rw [rd_i (by omega), S9 j (by omega), s8 j (by omega)]
                    · rw [← uh7, rd_i (by omega), S9 _ (by omega), s8']
    · rw [if_neg c10, if_neg c10]
      exact t_last hF ic tk h5 hb20 g0
