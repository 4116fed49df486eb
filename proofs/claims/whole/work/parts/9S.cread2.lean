/-! the class reads sides of laws: units, products, sums -/
/-- a piece of a law is read as the grammar says -/
def SpX (c : Int) (K V P : Nat → Int) (U : Pr) (f : Hp → Option (Int × Hp)) : Prop := ∀ hb, TkC hb K V P → rd hb 3 5 = c → (∀ b h t o, b ≤ 20 → EC c b hb h t o → T (f h) (fun _ h' => match U t o with | Sum.inr q => EC c b hb h' q.1 q.2 | Sum.inl q => ED c hb h' q.1 q.2)) ∧ ∀ h e p, ED c hb h e p → T (f h) (fun _ h' => ED c hb h' e p)
theorem T_iv {h : Hp} (s : Sh h) {o : Option (Int × Hp)} {f : Int → Hp → Option (Int × Hp)} {P Q : Int → Hp → Prop} (a : T o P) (b : ∀ r h, P r h → T (f r h) Q) : T (iv h 3 103 o f) Q := by
  rw [ivR s]; exact T_cl a b
theorem T_ivL {h : Hp} {c : Int} (s : Sh h) (ic : isSc c) {o : Option (Int × Hp)} {f : Int → Hp → Option (Int × Hp)} {P Q : Int → Hp → Prop} (a : T o P) (b : ∀ r h, P r h → T (f r h) Q) : T (iv h (c + 8) 100 o f) Q := by
  rw [ivL s ic]; exact T_cl a b
theorem sp_unit {F : Nat} {c : Int} {K V P : Nat → Int} {S : Option Pr} {d : Int} {S' : Int → Int → Hp → Option (Int × Hp)} (ic : isSc c) (hd : 0 ≤ d ∧ d ≤ 6) (hS : (S = none ∧ d = 6) ∨ ∃ U, S = some U ∧ d < 6 ∧ SpX c K V P U (fun h => S' 3 (d + 1) h)) : SpX c K V P (pU K V P S) (fun h => Read_takeUnit F S' 3 d h) := by
  intro hb tk h5
  have hcc : c = 9 ∨ c = 23 := ic
  refine ⟨fun b h t o hb20 g => ?_, fun h e p g => ?_⟩
  · have g0 := g
    obtain ⟨f, ⟨g8, g7, gt⟩, g4, g9, gb⟩ := g
    have s := f.2.1
    have tk1 := TkC_Fq ic f tk
    obtain ⟨k1, k2, k3, k4⟩ := tk1 t gt
    have h5' : rd h 3 5 = c := by rw [f.2.2.2.1 5 (by omega)]; exact h5
    have par : K t = 40 → T (Read_takeUnit_B84 F S' 3 d (K t) h) (fun _ h' => match pU K V P S t o with | Sum.inr q => EC c b hb h' q.1 q.2 | Sum.inl q => ED c hb h' q.1 q.2) := by
      intro c40
      rcases hS with ⟨e1, e2⟩ | ⟨U, e1, e2, sp⟩
      · subst e1
        unfold Read_takeUnit_B84 pU
        rw [if_pos c40, if_neg (by omega), if_neg (by omega), if_neg (by omega), if_pos c40]
        exact T_iv s (t_fail ic (by decide) tk g0) (fun _ h1 g1 => T_some g1)
      · subst e1
        unfold Read_takeUnit_B84 pU
        rw [if_pos c40, if_pos e2, if_neg (by omega), if_neg (by omega), if_pos c40, c40]
        refine T_iv s (t_acc ic tk g0) (fun r h1 g1 => ?_)
        show T _ (fun _ h' => match rbd (pAcc K P 40 t) (fun t1 => rbd (U t1 o) (fun q => rbd (pAcc K P 41 q.1) (fun t3 => (Sum.inr (t3, q.2) : (Int × Int) ⊕ (Nat × Cds))))) with | Sum.inr q => EC c b hb h' q.1 q.2 | Sum.inl q => ED c hb h' q.1 q.2)
        cases hp : pAcc K P 40 t with
        | inl q => rw [hp] at g1; rw [if_pos g1.1]; exact T_some g1.2
        | inr t1 =>
          rw [hp] at g1
          rw [if_neg (by rw [g1.1]; decide), w32_id (by omega) (by omega)]
          obtain ⟨u1, u2⟩ := sp hb tk h5
          refine T_iv g1.2.1.2.1 (u1 (b - 1) h1 t1 o (by omega) g1.2) (fun _ h2 g2 => ?_)
          show T _ (fun _ h' => match rbd (U t1 o) (fun q => rbd (pAcc K P 41 q.1) (fun t3 => (Sum.inr (t3, q.2) : (Int × Int) ⊕ (Nat × Cds)))) with | Sum.inr q => EC c b hb h' q.1 q.2 | Sum.inl q => ED c hb h' q.1 q.2)
          cases hu : U t1 o with
          | inl q =>
            rw [hu] at g2
            exact T_iv g2.1.2.1 (t_acc_d g2) (fun _ h3 g3 => T_some g3.2)
          | inr q =>
            rw [hu] at g2
            refine T_iv g2.1.2.1 (t_acc ic tk g2) (fun r h3 g3 => ?_)
            show T _ (fun _ h' => match rbd (pAcc K P 41 q.1) (fun t3 => (Sum.inr (t3, q.2) : (Int × Int) ⊕ (Nat × Cds))) with | Sum.inr q => EC c b hb h' q.1 q.2 | Sum.inl q => ED c hb h' q.1 q.2)
            cases hp2 : pAcc K P 41 q.1 with
            | inl z => rw [hp2] at g3; exact T_some g3.2
            | inr t3 => rw [hp2] at g3; exact T_some (EC_mono g3.2 (by omega))
    show T (Read_takeUnit F S' 3 d h) _
    unfold Read_takeUnit
    rw [gR1 s, gR7 s, g7, aR1 s (by omega) (by omega), k1]
    by_cases c40 : K t = 40
    · rw [if_neg (by omega), if_neg (by omega), if_pos (by omega)]
      exact par c40
    clear par
    unfold pU
    by_cases c19 : K t = 19
    · have hv := k4 c19
      rw [if_pos c19, if_pos c19, gR5 s, h5', gC14 s ic, gR2 s, gR7 s, g7, aR2 s (by omega) (by omega), k3, c19]
      refine T_ivL s ic (t_emit ic (q := (0, V t)) (by omega) hv (by decide) rfl (fun _ => hv) g0) (fun _ h1 g1 => ?_)
      refine T_iv g1.1.2.1 (t_acc ic tk g1) (fun r h2 g2 => ?_)
      cases hp : pAcc K P 19 t with
      | inl q => rw [hp] at g2; exact T_some g2.2
      | inr t' => rw [hp] at g2; exact T_some (EC_mono g2.2 (by omega))
    · rw [if_neg c19, if_neg c19]
      by_cases cv : 13 ≤ K t ∧ K t ≤ 17
      · rw [if_neg (by omega), if_neg (by omega), if_pos cv, gR5 s, h5', gC14 s ic, w32_id (by omega) (by omega)]
        refine T_ivL s ic (t_emit ic (q := (1, K t - 13)) (by omega) (by omega) (by decide) rfl (fun z => absurd z (show ¬ (1 : Int) = 0 by decide)) g0) (fun _ h1 g1 => ?_)
        refine T_iv g1.1.2.1 (t_acc ic tk g1) (fun r h2 g2 => ?_)
        cases hp : pAcc K P (K t) t with
        | inl q => rw [hp] at g2; exact T_some g2.2
        | inr t' => rw [hp] at g2; exact T_some (EC_mono g2.2 (by omega))
      · rw [if_neg cv, if_neg c40]
        have B : T (Read_takeUnit_B84 F S' 3 d (K t) h) (fun _ h' => ED c hb h' 1 (P t)) := by
          unfold Read_takeUnit_B84
          rw [if_neg c40]
          exact T_iv s (t_fail ic (by decide) tk g0) (fun _ h1 g1 => T_some g1)
        by_cases c13 : K t < 13
        · rw [if_pos c13]; exact B
        · rw [if_neg c13, if_pos (by omega)]; exact B
  · have g0 := g
    obtain ⟨f, he, e8, e9⟩ := g
    have s := f.2.1
    have f7 := f.2.2.2.2.2.2.1
    obtain ⟨t, ht⟩ := Int.eq_ofNat_of_zero_le f7.1
    have tk1 := TkC_Fq ic f tk
    obtain ⟨k1, k2, k3, k4⟩ := tk1 t (by omega)
    have h5' : rd h 3 5 = c := by rw [f.2.2.2.1 5 (by omega)]; exact h5
    show T (Read_takeUnit F S' 3 d h) _
    unfold Read_takeUnit
    rw [gR1 s, gR7 s, ht, aR1 s (by omega) (by omega), k1]
    have B : T (Read_takeUnit_B84 F S' 3 d (K t) h) (fun _ h' => ED c hb h' e p) := by
      unfold Read_takeUnit_B84
      by_cases c40 : K t = 40
      · rw [if_pos c40]
        by_cases c6 : d < 6
        · rw [if_pos c6]
          refine T_iv s (t_acc_d g0) (fun r h1 g1 => ?_)
          rw [if_pos g1.1]
          exact T_some g1.2
        · rw [if_neg c6]
          exact T_iv s (t_fail_d g0) (fun _ h1 g1 => T_some g1)
      · rw [if_neg c40]
        exact T_iv s (t_fail_d g0) (fun _ h1 g1 => T_some g1)
    by_cases c19 : K t = 19
    · have hv := k4 c19
      rw [if_pos c19, gR5 s, h5', gC14 s ic, gR2 s, gR7 s, ht, aR2 s (by omega) (by omega), k3]
      refine T_ivL s ic (t_emit_d ic (by omega) (by decide) g0) (fun _ h1 g1 => ?_)
      exact T_iv g1.1.1.2.1 (t_acc_d g1.1) (fun _ h2 g2 => T_some g2.2)
    · rw [if_neg c19]
      by_cases c13 : K t < 13
      · rw [if_pos c13]; exact B
      · rw [if_neg c13]
        by_cases c17 : 17 < K t
        · rw [if_pos c17]; exact B
        · rw [if_neg c17, gR5 s, h5', gC14 s ic, w32_id (by omega) (by omega)]
          refine T_ivL s ic (t_emit_d ic (by omega) (by decide) g0) (fun _ h1 g1 => ?_)
          exact T_iv g1.1.1.2.1 (t_acc_d g1.1) (fun _ h2 g2 => T_some g2.2)
theorem csc_sg {k : Int} (h : k = 42 ∨ k = 47 ∨ k = 43 ∨ k = 45) : csc (opk k, 0) = 0 * 256 + k := by
  rcases h with e | e | e | e <;> subst e <;> rfl
theorem lp_Product {F : Nat} {c : Int} {K V P : Nat → Int} {U : Pr} {d : Int} {S' : Int → Int → Hp → Option (Int × Hp)} (ic : isSc c) (sp : SpX c K V P U (fun h => Read_takeUnit F S' 3 d h)) {hb : Hp} (tk : TkC hb K V P) (h5 : rd hb 3 5 = c) {b : Int} (hb20 : b ≤ 20) : ∀ (n N : Nat) (h : Hp) (t : Nat) (o : Cds), n ≤ 401 → n < N → EC c b hb h t o → T (Read_takeProduct_L7 F S' N 3 d (401 - (n : Int)) h) (fun _ h' => match pL K P 42 47 U n t o with | Sum.inr q => EC c b hb h' q.1 q.2 | Sum.inl q => ED c hb h' q.1 q.2) := by
  have dead : ∀ (N : Nat) (l2 : Int) (h : Hp) (e p : Int), 0 < N → ED c hb h e p → T (Read_takeProduct_L7 F S' N 3 d l2 h) (fun _ h' => ED c hb h' e p) := by
    intro N l2 h e p hN g
    obtain ⟨n, rfl⟩ : ∃ n, N = n + 1 := ⟨N - 1, by omega⟩
    show T (Read_takeProduct_L7s F S' (Read_takeProduct_L7 F S' n) 3 d l2 h) _
    unfold Read_takeProduct_L7s
    by_cases c4 : 400 < l2
    · rw [if_pos c4]; exact T_some g
    · rw [if_neg c4, gR8 g.1.2.1, if_neg (by rw [g.2.2.1]; exact g.2.1)]; exact T_some g
  intro n
  induction n with
  | zero =>
    intro N h t o _ hN g
    obtain ⟨n, rfl⟩ : ∃ n, N = n + 1 := ⟨N - 1, by omega⟩
    show T (Read_takeProduct_L7s F S' (Read_takeProduct_L7 F S' n) 3 d (401 - ((0 : Nat) : Int)) h) _
    unfold Read_takeProduct_L7s
    rw [if_pos (by decide)]
    exact T_some g
  | succ n ih =>
    intro N h t o hn hN g
    obtain ⟨N, rfl⟩ : ∃ n, N = n + 1 := ⟨N - 1, by omega⟩
    have g0 := g
    obtain ⟨f, ⟨g8, g7, gt⟩, g4, g9, gb⟩ := g
    have s := f.2.1
    obtain ⟨k1, k2, k3, k4⟩ := TkC_Fq ic f tk t gt
    have B : (K t = 42 ∨ K t = 47) → T (Read_takeProduct_B49 F S' (Read_takeProduct_L7 F S' N) 3 d (401 - ((n + 1 : Nat) : Int)) h) (fun _ h' => match rbd (pAcc K P (K t) t) (fun t1 => rbd (U t1 o) (fun q => pL K P 42 47 U n q.1 (q.2 ++ [(opk (K t), 0)]))) with | Sum.inr q => EC c b hb h' q.1 q.2 | Sum.inl q => ED c hb h' q.1 q.2) := by
      intro hk
      unfold Read_takeProduct_B49
      rw [gR1 s, gR7 s, g7, aR1 s (by omega) (by omega), k1]
      refine T_iv s (t_acc ic tk g0) (fun r h1 g1 => ?_)
      obtain ⟨u1, u2⟩ := sp hb tk h5
      have step : ∀ h2 e p, ED c hb h2 e p → T (gf h2 3 103 5 fun v17 => gf h2 v17 106 14 fun v18 => iv h2 v18 100 (Laws_emit F v18 (K t) 0 h2) fun r19 h20 => Read_takeProduct_L7 F S' N 3 d (w32 (401 - ((n + 1 : Nat) : Int) + 1)) h20) (fun _ h' => ED c hb h' e p) := by
        intro h2 e p g2
        have s2 := g2.1.2.1
        rw [gR5 s2, g2.1.2.2.2.1 5 (by omega), h5, gC14 s2 ic]
        refine T_ivL s2 ic (t_emit_d ic (by decide) (by omega) g2) (fun _ h3 g3 => ?_)
        exact dead N _ h3 e p (by omega) g3.1
      cases hp : pAcc K P (K t) t with
      | inl q =>
        rw [hp] at g1
        refine T_iv g1.2.1.2.1 (u2 h1 q.1 q.2 g1.2) (fun _ h2 g2 => ?_)
        exact step h2 q.1 q.2 g2
      | inr t1 =>
        rw [hp] at g1
        refine T_iv g1.2.1.2.1 (u1 (b - 1) h1 t1 o (by omega) g1.2) (fun _ h2 g2 => ?_)
        show T _ (fun _ h' => match rbd (U t1 o) (fun q => pL K P 42 47 U n q.1 (q.2 ++ [(opk (K t), 0)])) with | Sum.inr q => EC c b hb h' q.1 q.2 | Sum.inl q => ED c hb h' q.1 q.2)
        cases hu : U t1 o with
        | inl q => rw [hu] at g2; exact step h2 q.1 q.2 g2
        | inr q =>
          rw [hu] at g2
          have s2 := g2.1.2.1
          rw [gR5 s2, g2.1.2.2.2.1 5 (by omega), h5, gC14 s2 ic]
          refine T_ivL s2 ic (t_emit ic (q := (opk (K t), 0)) (by omega) (by decide) (by omega) (csc_sg (by omega)) (fun z => absurd z (by have := opk_in (K t); show ¬ opk (K t) = 0; omega)) g2) (fun _ h3 g3 => ?_)
          rw [w32_id (by omega) (by omega), show 401 - ((n + 1 : Nat) : Int) + 1 = 401 - (n : Int) by omega]
          exact ih N h3 q.1 (q.2 ++ [(opk (K t), 0)]) (by omega) (by omega) (EC_mono g3 (by omega))
    show T (Read_takeProduct_L7s F S' (Read_takeProduct_L7 F S' N) 3 d (401 - ((n + 1 : Nat) : Int)) h) (fun _ h' => match (if K t = 42 ∨ K t = 47 then rbd (pAcc K P (K t) t) (fun t1 => rbd (U t1 o) (fun q => pL K P 42 47 U n q.1 (q.2 ++ [(opk (K t), 0)]))) else Sum.inr (t, o)) with | Sum.inr q => EC c b hb h' q.1 q.2 | Sum.inl q => ED c hb h' q.1 q.2)
    unfold Read_takeProduct_L7s
    rw [if_neg (by omega), gR8 s, g8, if_pos rfl, gR1 s, gR7 s, g7, aR1 s (by omega) (by omega), k1]
    by_cases c1 : K t = 42
    · rw [if_pos c1, if_pos (Or.inl c1)]; exact B (Or.inl c1)
    · rw [if_neg c1, gR1 s, gR7 s, g7, aR1 s (by omega) (by omega), k1]
      by_cases c2 : K t = 47
      · rw [if_pos c2, if_pos (Or.inr c2)]; exact B (Or.inr c2)
      · rw [if_neg c2, if_neg (by omega)]; exact T_some g0
theorem sp_Product {F : Nat} {c : Int} {K V P : Nat → Int} {U : Pr} {d : Int} {S' : Int → Int → Hp → Option (Int × Hp)} (hF : 1000 ≤ F) (ic : isSc c) (sp : SpX c K V P U (fun h => Read_takeUnit F S' 3 d h)) : SpX c K V P (pQ K P 42 47 U) (fun h => Read_takeProduct F S' 3 d h) := by
  intro hb tk h5
  obtain ⟨u1, u2⟩ := sp hb tk h5
  refine ⟨fun b h t o hb20 g => ?_, fun h e p g => ?_⟩
  · show T (Read_takeProduct F S' 3 d h) _
    unfold Read_takeProduct
    refine T_iv g.1.2.1 (u1 b h t o hb20 g) (fun _ h1 g1 => ?_)
    show T _ (fun _ h' => match rbd (U t o) (fun q => pL K P 42 47 U 401 q.1 q.2) with | Sum.inr q => EC c b hb h' q.1 q.2 | Sum.inl q => ED c hb h' q.1 q.2)
    cases hu : U t o with
    | inl q =>
      rw [hu] at g1
      obtain ⟨n, hn⟩ : ∃ n, F = n + 1 := ⟨F - 1, by omega⟩
      have e0 : Read_takeProduct_L7 F S' F 3 d 0 h1 = Read_takeProduct_L7s F S' (Read_takeProduct_L7 F S' n) 3 d 0 h1 := by
        conv => lhs; arg 3; rw [hn]
        rfl
      rw [e0]
      unfold Read_takeProduct_L7s
      rw [if_neg (by decide), gR8 g1.1.2.1, if_neg (by rw [g1.2.2.1]; exact g1.2.1)]
      exact T_some g1
    | inr q =>
      rw [hu] at g1
      exact lp_Product ic sp tk h5 hb20 401 F h1 q.1 q.2 (Nat.le_refl _) (by omega) g1
  · show T (Read_takeProduct F S' 3 d h) _
    unfold Read_takeProduct
    refine T_iv g.1.2.1 (u2 h e p g) (fun _ h1 g1 => ?_)
    obtain ⟨n, hn⟩ : ∃ n, F = n + 1 := ⟨F - 1, by omega⟩
    have e0 : Read_takeProduct_L7 F S' F 3 d 0 h1 = Read_takeProduct_L7s F S' (Read_takeProduct_L7 F S' n) 3 d 0 h1 := by
      conv => lhs; arg 3; rw [hn]
      rfl
    rw [e0]
    unfold Read_takeProduct_L7s
    rw [if_neg (by decide), gR8 g1.1.2.1, if_neg (by rw [g1.2.2.1]; exact g1.2.1)]
    exact T_some g1
theorem lp_Sum {F : Nat} {c : Int} {K V P : Nat → Int} {U : Pr} {d : Int} {S' : Int → Int → Hp → Option (Int × Hp)} (ic : isSc c) (sp : SpX c K V P U (fun h => Read_takeProduct F S' 3 d h)) {hb : Hp} (tk : TkC hb K V P) (h5 : rd hb 3 5 = c) {b : Int} (hb20 : b ≤ 20) : ∀ (n N : Nat) (h : Hp) (t : Nat) (o : Cds), n ≤ 401 → n < N → EC c b hb h t o → T (Read_takeSum_L7 F S' N 3 d (401 - (n : Int)) h) (fun _ h' => match pL K P 43 45 U n t o with | Sum.inr q => EC c b hb h' q.1 q.2 | Sum.inl q => ED c hb h' q.1 q.2) := by
  have dead : ∀ (N : Nat) (l2 : Int) (h : Hp) (e p : Int), 0 < N → ED c hb h e p → T (Read_takeSum_L7 F S' N 3 d l2 h) (fun _ h' => ED c hb h' e p) := by
    intro N l2 h e p hN g
    obtain ⟨n, rfl⟩ : ∃ n, N = n + 1 := ⟨N - 1, by omega⟩
    show T (Read_takeSum_L7s F S' (Read_takeSum_L7 F S' n) 3 d l2 h) _
    unfold Read_takeSum_L7s
    by_cases c4 : 400 < l2
    · rw [if_pos c4]; exact T_some g
    · rw [if_neg c4, gR8 g.1.2.1, if_neg (by rw [g.2.2.1]; exact g.2.1)]; exact T_some g
  intro n
  induction n with
  | zero =>
    intro N h t o _ hN g
    obtain ⟨n, rfl⟩ : ∃ n, N = n + 1 := ⟨N - 1, by omega⟩
    show T (Read_takeSum_L7s F S' (Read_takeSum_L7 F S' n) 3 d (401 - ((0 : Nat) : Int)) h) _
    unfold Read_takeSum_L7s
    rw [if_pos (by decide)]
    exact T_some g
  | succ n ih =>
    intro N h t o hn hN g
    obtain ⟨N, rfl⟩ : ∃ n, N = n + 1 := ⟨N - 1, by omega⟩
    have g0 := g
    obtain ⟨f, ⟨g8, g7, gt⟩, g4, g9, gb⟩ := g
    have s := f.2.1
    obtain ⟨k1, k2, k3, k4⟩ := TkC_Fq ic f tk t gt
    have B : (K t = 43 ∨ K t = 45) → T (Read_takeSum_B49 F S' (Read_takeSum_L7 F S' N) 3 d (401 - ((n + 1 : Nat) : Int)) h) (fun _ h' => match rbd (pAcc K P (K t) t) (fun t1 => rbd (U t1 o) (fun q => pL K P 43 45 U n q.1 (q.2 ++ [(opk (K t), 0)]))) with | Sum.inr q => EC c b hb h' q.1 q.2 | Sum.inl q => ED c hb h' q.1 q.2) := by
      intro hk
      unfold Read_takeSum_B49
      rw [gR1 s, gR7 s, g7, aR1 s (by omega) (by omega), k1]
      refine T_iv s (t_acc ic tk g0) (fun r h1 g1 => ?_)
      obtain ⟨u1, u2⟩ := sp hb tk h5
      have step : ∀ h2 e p, ED c hb h2 e p → T (gf h2 3 103 5 fun v17 => gf h2 v17 106 14 fun v18 => iv h2 v18 100 (Laws_emit F v18 (K t) 0 h2) fun r19 h20 => Read_takeSum_L7 F S' N 3 d (w32 (401 - ((n + 1 : Nat) : Int) + 1)) h20) (fun _ h' => ED c hb h' e p) := by
        intro h2 e p g2
        have s2 := g2.1.2.1
        rw [gR5 s2, g2.1.2.2.2.1 5 (by omega), h5, gC14 s2 ic]
        refine T_ivL s2 ic (t_emit_d ic (by decide) (by omega) g2) (fun _ h3 g3 => ?_)
        exact dead N _ h3 e p (by omega) g3.1
      cases hp : pAcc K P (K t) t with
      | inl q =>
        rw [hp] at g1
        refine T_iv g1.2.1.2.1 (u2 h1 q.1 q.2 g1.2) (fun _ h2 g2 => ?_)
        exact step h2 q.1 q.2 g2
      | inr t1 =>
        rw [hp] at g1
        refine T_iv g1.2.1.2.1 (u1 (b - 1) h1 t1 o (by omega) g1.2) (fun _ h2 g2 => ?_)
        show T _ (fun _ h' => match rbd (U t1 o) (fun q => pL K P 43 45 U n q.1 (q.2 ++ [(opk (K t), 0)])) with | Sum.inr q => EC c b hb h' q.1 q.2 | Sum.inl q => ED c hb h' q.1 q.2)
        cases hu : U t1 o with
        | inl q => rw [hu] at g2; exact step h2 q.1 q.2 g2
        | inr q =>
          rw [hu] at g2
          have s2 := g2.1.2.1
          rw [gR5 s2, g2.1.2.2.2.1 5 (by omega), h5, gC14 s2 ic]
          refine T_ivL s2 ic (t_emit ic (q := (opk (K t), 0)) (by omega) (by decide) (by omega) (csc_sg (by omega)) (fun z => absurd z (by have := opk_in (K t); show ¬ opk (K t) = 0; omega)) g2) (fun _ h3 g3 => ?_)
          rw [w32_id (by omega) (by omega), show 401 - ((n + 1 : Nat) : Int) + 1 = 401 - (n : Int) by omega]
          exact ih N h3 q.1 (q.2 ++ [(opk (K t), 0)]) (by omega) (by omega) (EC_mono g3 (by omega))
    show T (Read_takeSum_L7s F S' (Read_takeSum_L7 F S' N) 3 d (401 - ((n + 1 : Nat) : Int)) h) (fun _ h' => match (if K t = 43 ∨ K t = 45 then rbd (pAcc K P (K t) t) (fun t1 => rbd (U t1 o) (fun q => pL K P 43 45 U n q.1 (q.2 ++ [(opk (K t), 0)]))) else Sum.inr (t, o)) with | Sum.inr q => EC c b hb h' q.1 q.2 | Sum.inl q => ED c hb h' q.1 q.2)
    unfold Read_takeSum_L7s
    rw [if_neg (by omega), gR8 s, g8, if_pos rfl, gR1 s, gR7 s, g7, aR1 s (by omega) (by omega), k1]
    by_cases c1 : K t = 43
    · rw [if_pos c1, if_pos (Or.inl c1)]; exact B (Or.inl c1)
    · rw [if_neg c1, gR1 s, gR7 s, g7, aR1 s (by omega) (by omega), k1]
      by_cases c2 : K t = 45
      · rw [if_pos c2, if_pos (Or.inr c2)]; exact B (Or.inr c2)
      · rw [if_neg c2, if_neg (by omega)]; exact T_some g0
theorem sp_Sum {F : Nat} {c : Int} {K V P : Nat → Int} {U : Pr} {d : Int} {S' : Int → Int → Hp → Option (Int × Hp)} (hF : 1000 ≤ F) (ic : isSc c) (sp : SpX c K V P U (fun h => Read_takeProduct F S' 3 d h)) : SpX c K V P (pQ K P 43 45 U) (fun h => Read_takeSum F S' 3 d h) := by
  intro hb tk h5
  obtain ⟨u1, u2⟩ := sp hb tk h5
  refine ⟨fun b h t o hb20 g => ?_, fun h e p g => ?_⟩
  · show T (Read_takeSum F S' 3 d h) _
    unfold Read_takeSum
    refine T_iv g.1.2.1 (u1 b h t o hb20 g) (fun _ h1 g1 => ?_)
    show T _ (fun _ h' => match rbd (U t o) (fun q => pL K P 43 45 U 401 q.1 q.2) with | Sum.inr q => EC c b hb h' q.1 q.2 | Sum.inl q => ED c hb h' q.1 q.2)
    cases hu : U t o with
    | inl q =>
      rw [hu] at g1
      obtain ⟨n, hn⟩ : ∃ n, F = n + 1 := ⟨F - 1, by omega⟩
      have e0 : Read_takeSum_L7 F S' F 3 d 0 h1 = Read_takeSum_L7s F S' (Read_takeSum_L7 F S' n) 3 d 0 h1 := by
        conv => lhs; arg 3; rw [hn]
        rfl
      rw [e0]
      unfold Read_takeSum_L7s
      rw [if_neg (by decide), gR8 g1.1.2.1, if_neg (by rw [g1.2.2.1]; exact g1.2.1)]
      exact T_some g1
    | inr q =>
      rw [hu] at g1
      exact lp_Sum ic sp tk h5 hb20 401 F h1 q.1 q.2 (Nat.le_refl _) (by omega) g1
  · show T (Read_takeSum F S' 3 d h) _
    unfold Read_takeSum
    refine T_iv g.1.2.1 (u2 h e p g) (fun _ h1 g1 => ?_)
    obtain ⟨n, hn⟩ : ∃ n, F = n + 1 := ⟨F - 1, by omega⟩
    have e0 : Read_takeSum_L7 F S' F 3 d 0 h1 = Read_takeSum_L7s F S' (Read_takeSum_L7 F S' n) 3 d 0 h1 := by
      conv => lhs; arg 3; rw [hn]
      rfl
    rw [e0]
    unfold Read_takeSum_L7s
    rw [if_neg (by decide), gR8 g1.1.2.1, if_neg (by rw [g1.2.2.1]; exact g1.2.1)]
    exact T_some g1
theorem sp_S {F : Nat} {c : Int} {K V P : Nat → Int} (hF : 1000 ≤ F) (ic : isSc c) : ∀ n : Nat, n ≤ 6 → SpX c K V P (pS K V P n) (fun h => Read_takeSumN F (n + 2) 3 (6 - (n : Int)) h) := by
  intro n
  induction n with
  | zero =>
    intro _
    exact sp_Sum hF ic (sp_Product hF ic (sp_unit ic (by decide) (Or.inl ⟨rfl, by decide⟩)))
  | succ n ih =>
    intro hn
    have i1 := ih (by omega)
    refine sp_Sum hF ic (sp_Product hF ic (sp_unit ic (by omega) (Or.inr ⟨pS K V P n, rfl, by omega, ?_⟩)))
    rw [show 6 - ((n + 1 : Nat) : Int) + 1 = 6 - (n : Int) by omega]
    exact i1
/-- a side of a law -/
theorem sp_E {F : Nat} {c : Int} {K V P : Nat → Int} (hF : 1000 ≤ F) (ic : isSc c) : SpX c K V P (pE K V P) (fun h => Read_takeSumN F 8 3 0 h) := sp_S hF ic 6 (Nat.le_refl _)
