/-! expression: by the grammar -/
theorem NP_pop {F : Nat} {hb : Hp} {K P : Nat → Int} {Q : Int → Hp → Prop} {t : Nat} {w : Int} {W : List Int} {o : Cds} (hw : w = 10 ∨ w = 15) (np : NPq F hb K P Q t W (o ++ [(opr w, 0)])) : NPq F hb K P Q t (w :: W) o := by
  have pp : ∀ b, popW b (w :: W) = ((popW b W).1, (opr w, 0) :: (popW b W).2) := fun b => by
    show (if w = 6 ∨ (b = true ∧ (w = 8 ∨ w = 9)) then (w :: W, []) else ((popW b W).1, (opr w, 0) :: (popW b W).2)) = _
    rw [if_neg (by rintro (h | ⟨-, h⟩) <;> omega)]
  unfold NPq at np ⊢
  rw [pp, pp, opn_n (by omega)]
  simp only [List.append_assoc, List.singleton_append] at np
  exact np
theorem NP_popP {F : Nat} {hb : Hp} {K P : Nat → Int} {Q : Int → Hp → Prop} {t : Nat} {w : Int} {W : List Int} {o : Cds} (hw : w = 8 ∨ w = 9) (hk : ¬ (K t = 42 ∨ K t = 47)) (np : NPq F hb K P Q t W (o ++ [(opr w, 0)])) : NPq F hb K P Q t (w :: W) o := by
  have pp : popW false (w :: W) = ((popW false W).1, (opr w, 0) :: (popW false W).2) := by
    show (if w = 6 ∨ (false = true ∧ (w = 8 ∨ w = 9)) then (w :: W, []) else ((popW false W).1, (opr w, 0) :: (popW false W).2)) = _
    rw [if_neg (fun q => q.elim (fun h => by omega) (fun h => absurd h.1 (by decide)))]
  unfold NPq at np ⊢
  rw [if_neg (c := K t = 42 ∨ K t = 47) hk] at np ⊢
  rw [pp, opn_n (by omega)]
  simp only [List.append_assoc, List.singleton_append] at np
  exact np
def UC (F : Nat) (hb : Hp) (K P : Nat → Int) (U : Pr) (n r : Nat) : Prop := ∀ Q t W o, t ≤ 400 → WOk W → rkW W ≤ r → opn W + n = 6 → Cn hb t W o → (∀ e, U t o = Sum.inl e → FqQ hb Q e.1 e.2) → (∀ t' o', U t o = Sum.inr (t', o') → NPq F hb K P Q t' W o') → OKU F hb Q t W o
theorem UC_Q {F : Nat} {hb : Hp} {K P : Nat → Int} {U : Pr} {n r r' H : Nat} {a b : Int} {Ke : Nat → Prop} (gd : Gd H U) (uc : UC F hb K P U n r') (hrr : r ≤ r')
    (hend : ∀ t o t' o', t ≤ 400 → U t o = Sum.inr (t', o') → Ke t')
    (hpop : ∀ (Q : Int → Hp → Prop) t W o k, k = a ∨ k = b → Ke t → NPq F hb K P Q t W (o ++ [(opk k, 0)]) → NPq F hb K P Q t (phi k :: W) o)
    (hstep : ∀ (Q : Int → Hp → Prop) t W o, K t = a ∨ K t = b → rkW W ≤ r → (t < 400 → OKU F hb Q (t + 1) (phi (K t) :: W) o) → (¬ t < 400 → FqQ hb Q 2 (P t)) → NPq F hb K P Q t W o)
    (hpush : ∀ k W, k = a ∨ k = b → WOk W → rkW W ≤ r → WOk (phi k :: W) ∧ rkW (phi k :: W) ≤ r' ∧ opn (phi k :: W) = opn W) : UC F hb K P (pQ K P a b U) n r := by
  intro Q t W o ht hw hr ho hc hbad hgood
  have loop : ∀ (k t : Nat) (o : Cds), t ≤ 400 → 401 ≤ k + t → Cn hb t W o → (∀ e, pL K P a b U k t o = Sum.inl e → FqQ hb Q e.1 e.2) → (∀ t' o', pL K P a b U k t o = Sum.inr (t', o') → NPq F hb K P Q t' W o') → NPq F hb K P Q t W o := by
    intro k
    induction k with
    | zero => intro t o ht hk; omega
    | succ k ih =>
      intro t o ht hk hc hbad hgood
      by_cases hk1 : K t = a ∨ K t = b
      · have e : pL K P a b U (k + 1) t o = rbd (pAcc K P (K t) t) (fun t1 => rbd (U t1 o) (fun q => pL K P a b U k q.1 (q.2 ++ [(opk (K t), 0)]))) := by
          show (if K t = a ∨ K t = b then _ else _) = _
          rw [if_pos hk1]
        rw [e] at hbad hgood
        refine hstep Q t W o hk1 hr (fun h4 => ?_) (fun h4 => ?_)
        · have ac : pAcc K P (K t) t = Sum.inr (t + 1) := by unfold pAcc; rw [if_pos rfl, if_pos h4]
          rw [ac] at hbad hgood
          obtain ⟨p1, p2, p3⟩ := hpush (K t) W hk1 hw hr
          refine uc Q (t + 1) (phi (K t) :: W) o (by omega) p1 p2 (by omega) (by unfold Cn at hc ⊢; simp only [List.length_cons]; omega) (fun e he => ?_) (fun t2 o2 he => ?_)
          · refine hbad e ?_
            show rbd (U (t + 1) o) _ = _
            rw [he]; rfl
          · obtain ⟨g1, g2, x, g3, -, g5⟩ := gd (t + 1) o t2 o2 (by omega) he
            refine hpop Q t2 W o2 (K t) hk1 (hend _ _ _ _ (by omega) he) (ih t2 _ g2 (by omega) ?_ (fun e h => ?_) (fun t' o' h => ?_))
            · unfold Cn at hc ⊢
              rw [g3]
              simp only [List.length_append, List.length_singleton]
              omega
            · refine hbad e ?_
              show rbd (U (t + 1) o) _ = _
              rw [he]; exact h
            · refine hgood t' o' ?_
              show rbd (U (t + 1) o) _ = _
              rw [he]; exact h
        · refine hbad (2, P t) ?_
          have ac : pAcc K P (K t) t = Sum.inl (2, P t) := by unfold pAcc; rw [if_pos rfl, if_neg h4]
          rw [ac]; rfl
      · have e : pL K P a b U (k + 1) t o = Sum.inr (t, o) := by
          show (if K t = a ∨ K t = b then _ else _) = _
          rw [if_neg hk1]
        exact hgood t o e
  refine uc Q t W o ht hw (by omega) ho hc (fun e he => hbad e ?_) (fun t1 o1 he => ?_)
  · unfold pQ; rw [he]; rfl
  · obtain ⟨g1, g2, x, g3, -, g5⟩ := gd t o t1 o1 ht he
    refine loop 401 t1 o1 g2 (by omega) ?_ (fun e h => hbad e ?_) (fun t' o' h => hgood t' o' ?_)
    · unfold Cn at hc ⊢
      rw [g3]
      simp only [List.length_append]
      omega
    · unfold pQ; rw [he]; exact h
    · unfold pQ; rw [he]; exact h
/-- where a sum ends -/
def nsg (K : Nat → Int) (t : Nat) : Prop := ¬ (K t = 43 ∨ K t = 45) ∧ ¬ (K t = 42 ∨ K t = 47)
theorem UC_U {F : Nat} {hb : Hp} {K V P M : Nat → Int} {S : Option Pr} {n : Nat} (cx : Cx F hb K V P M) (hS : (S = none ∧ n = 0) ∨ ∃ n' U H, n = n' + 1 ∧ S = some U ∧ Gd H U ∧ UC F hb K P U n' 0 ∧ ∀ t o t' o', t ≤ 400 → U t o = Sum.inr (t', o') → nsg K t') : UC F hb K P (pU K V P S) n 2 := by
  intro Q t W o ht hw _ ho hc hbad hgood
  -- a piece of one TOKEN
  have one : ∀ x : Int × Int, pU K V P S t o = rbd (pAcc K P (K t) t) (fun t' => Sum.inr (t', o ++ [x])) → (t < 400 → OKP F hb Q (t + 1) W (o ++ [x])) ∧ (¬ t < 400 → FqQ hb Q 2 (P t)) := by
    intro x e
    refine ⟨fun h4 => ?_, fun h4 => ?_⟩
    · have ac : pAcc K P (K t) t = Sum.inr (t + 1) := by unfold pAcc; rw [if_pos rfl, if_pos h4]
      rw [ac] at e
      refine OKP_of cx (by omega) hw (by omega) ?_ (hgood (t + 1) _ e)
      unfold Cn at hc ⊢
      simp only [List.length_append, List.length_singleton]
      omega
    · have ac : pAcc K P (K t) t = Sum.inl (2, P t) := by unfold pAcc; rw [if_pos rfl, if_neg h4]
      rw [ac] at e
      exact hbad (2, P t) e
  refine OKU_of cx ht hw (by omega) hc (fun k40 => ?_) (fun k19 => ?_) (fun kv => ?_) (fun n40 n19 nv => ?_)
  · have eU : pU K V P S t o = (match S with
      | none => Sum.inl (2, P t)
      | some S => rbd (pAcc K P 40 t) (fun t1 => rbd (S t1 o) (fun q => rbd (pAcc K P 41 q.1) (fun t3 => Sum.inr (t3, q.2))))) := by
      unfold pU
      rw [if_neg (by omega), if_neg (by omega), if_pos k40]
      cases S <;> rfl
    rcases hS with ⟨e, en⟩ | ⟨n', U, H, en, e, gd, uc, hn⟩
    · subst e
      refine ⟨fun _ => hbad (2, P t) eU, fun h => by omega⟩
    · subst e
      simp only at eU
      refine ⟨fun h => by omega, fun _ => ⟨fun h4 => ?_, fun h4 => ?_⟩⟩
      · have ac : pAcc K P 40 t = Sum.inr (t + 1) := by unfold pAcc; rw [if_pos k40, if_pos h4]
        rw [ac] at eU
        have eU' : pU K V P (some U) t o = rbd (U (t + 1) o) (fun q => rbd (pAcc K P 41 q.1) (fun t3 => Sum.inr (t3, q.2))) := eU
        refine uc Q (t + 1) (6 :: W) o (by omega) ⟨hw, Or.inl rfl⟩ (by rw [rk_cons, if_pos rfl]; exact Nat.le_refl 0) (by rw [opn_6]; omega) (by unfold Cn at hc ⊢; simp only [List.length_cons]; omega) (fun e he => hbad e ?_) (fun t1 o1 he => ?_)
        · rw [eU', he]; rfl
        · obtain ⟨g1, g2, x, g3, -, g5⟩ := gd (t + 1) o t1 o1 (by omega) he
          have hns := hn _ _ _ _ (by omega) he
          have eU2 : pU K V P (some U) t o = rbd (pAcc K P 41 t1) (fun t3 => Sum.inr (t3, o1)) := by rw [eU', he]; rfl
          have pid : popW false (6 :: W) = (6 :: W, []) := popW_id (Or.inl (by rw [rk_cons, if_pos rfl]))
          unfold NPq
          rw [pid]
          simp only [List.append_nil, List.tail_cons]
          by_cases k41 : K t1 = 41
          · rw [if_pos ⟨k41, by rw [opn_6]; omega⟩]
            by_cases h5 : t1 < 400
            · have a2 : pAcc K P 41 t1 = Sum.inr (t1 + 1) := by unfold pAcc; rw [if_pos k41, if_pos h5]
              rw [a2] at eU2
              rw [if_pos h5]
              refine OKP_of cx (by omega) hw (by omega) ?_ (hgood (t1 + 1) o1 eU2)
              unfold Cn at hc ⊢
              rw [g3]
              simp only [List.length_append]
              omega
            · have a2 : pAcc K P 41 t1 = Sum.inl (2, P t1) := by unfold pAcc; rw [if_pos k41, if_neg h5]
              rw [a2] at eU2
              rw [if_neg h5]
              exact hbad (2, P t1) eU2
          · rw [if_neg (fun q => k41 q.1), if_neg hns.1, if_neg hns.2, if_pos (by rw [opn_6]; omega)]
            have a2 : pAcc K P 41 t1 = Sum.inl (1, P t1) := by unfold pAcc; rw [if_neg k41]
            rw [a2] at eU2
            exact hbad (1, P t1) eU2
      · have ac : pAcc K P 40 t = Sum.inl (2, P t) := by unfold pAcc; rw [if_pos k40, if_neg h4]
        rw [ac] at eU
        exact hbad (2, P t) eU
  · refine one (0, V t) ?_
    unfold pU
    rw [if_pos k19, k19]
  · refine one (1, K t - 13) ?_
    unfold pU
    rw [if_neg (by omega), if_pos kv]
  · refine hbad (1, P t) ?_
    unfold pU
    rw [if_neg n19, if_neg nv, if_neg n40]
theorem UC_T {F : Nat} {hb : Hp} {K V P M : Nat → Int} {S : Option Pr} {n H : Nat} (cx : Cx F hb K V P M) (gu : Gd H (pU K V P S)) (uc : UC F hb K P (pU K V P S) n 2) : UC F hb K P (pT K V P S) n 0 ∧ ∀ t o t' o', t ≤ 400 → pT K V P S t o = Sum.inr (t', o') → nsg K t' := by
  have ph : ∀ k, k = 42 ∨ k = 47 → phi k = 10 ∨ phi k = 15 := fun k h => by rcases h with h | h <;> subst h <;> decide
  have ph2 : ∀ k, k = 43 ∨ k = 45 → phi k = 8 ∨ phi k = 9 := fun k h => by rcases h with h | h <;> subst h <;> decide
  have po : ∀ k, k = 42 ∨ k = 47 ∨ k = 43 ∨ k = 45 → opr (phi k) = opk k := fun k h => by rcases h with h | h | h | h <;> subst h <;> decide
  -- the end of a product, of a sum
  have endQ : ∀ t o t' o', t ≤ 400 → pQ K P 42 47 (pU K V P S) t o = Sum.inr (t', o') → ¬ (K t' = 42 ∨ K t' = 47) := by
    intro t o t' o' ht h
    unfold pQ at h
    obtain ⟨q, h1, h2⟩ := rbd_inr h
    obtain ⟨g1, g2, -⟩ := gu t o q.1 q.2 ht h1
    exact pL_end gu 401 q.1 q.2 t' o' g2 (by omega) h2
  have gq := Gd_Q (K := K) (P := P) (a := 42) (b := 47) gu
  have uq : UC F hb K P (pQ K P 42 47 (pU K V P S)) n 1 := by
    refine UC_Q (Ke := fun _ => True) gu uc (by decide) (fun _ _ _ _ _ _ => trivial) (fun Q t W o k hk _ np => ?_) (fun Q t W o hk hr h1 h2 => ?_) (fun k W hk hw hr => ?_)
    · rw [← po k (by omega)] at np
      exact NP_pop (ph k hk) np
    · have pid : popW true W = (W, []) := popW_id (Or.inr ⟨rfl, hr⟩)
      unfold NPq
      rw [if_neg (by omega), if_neg (by omega), if_pos hk, pid]
      simp only [List.append_nil]
      by_cases h4 : t < 400
      · rw [if_pos h4]; exact h1 h4
      · rw [if_neg h4]; exact h2 h4
    · have := ph k hk
      exact ⟨⟨hw, Or.inr (Or.inr ⟨this, hr⟩)⟩, rkW_2 _, opn_n (by omega)⟩
  refine ⟨?_, fun t o t' o' ht h => ?_⟩
  · refine UC_Q (Ke := fun t => ¬ (K t = 42 ∨ K t = 47)) gq uq (by decide) endQ (fun Q t W o k hk hke np => ?_) (fun Q t W o hk hr h1 h2 => ?_) (fun k W hk hw hr => ?_)
    · rw [← po k (by omega)] at np
      exact NP_popP (ph2 k hk) hke np
    · have pid : popW false W = (W, []) := popW_id (Or.inl (by omega))
      unfold NPq
      rw [if_neg (by omega), if_pos hk, pid]
      simp only [List.append_nil]
      by_cases h4 : t < 400
      · rw [if_pos h4]; exact h1 h4
      · rw [if_neg h4]; exact h2 h4
    · have := ph2 k hk
      refine ⟨⟨hw, Or.inr (Or.inl ⟨this, by omega⟩)⟩, ?_, opn_n (by omega)⟩
      rw [rk_cons, if_neg (by omega), if_pos this]
      exact Nat.le_refl 1
  · unfold pT pQ at h
    obtain ⟨q, h1, h2⟩ := rbd_inr h
    obtain ⟨g1, g2, -⟩ := gq t o q.1 q.2 ht h1
    refine ⟨pL_end gq 401 q.1 q.2 t' o' g2 (by omega) h2, ?_⟩
    -- behind the loop of sums stands the end of a product
    have key : ∀ (k t : Nat) (o : Cds), t ≤ 400 → ¬ (K t = 42 ∨ K t = 47) → pL K P 43 45 (pQ K P 42 47 (pU K V P S)) k t o = Sum.inr (t', o') → ¬ (K t' = 42 ∨ K t' = 47) := by
      intro k
      induction k with
      | zero => intro t o ht hk h; cases h; exact hk
      | succ k ih =>
        intro t o ht hk h
        unfold pL at h
        split at h
        · obtain ⟨c, h3, h4⟩ := rbd_inr h
          obtain ⟨-, h5, rfl⟩ := pAcc_inr h3
          obtain ⟨r, h6, h7⟩ := rbd_inr h4
          obtain ⟨k1, k2, -⟩ := gq (t + 1) o r.1 r.2 (by omega) h6
          exact ih r.1 _ k2 (endQ _ _ _ _ (by omega) h6) h7
        · cases h; exact hk
    exact key 401 q.1 q.2 g2 (endQ _ _ _ _ ht h1) h2
theorem UC_S {F : Nat} {hb : Hp} {K V P M : Nat → Int} (cx : Cx F hb K V P M) : ∀ n, UC F hb K P (pS K V P n) n 0 ∧ ∀ t o t' o', t ≤ 400 → pS K V P n t o = Sum.inr (t', o') → nsg K t'
  | 0 => UC_T cx (Gd_U (Nat.le_refl 1) (fun U h => by cases h)) (UC_U cx (Or.inl ⟨rfl, rfl⟩))
  | n + 1 => by
    obtain ⟨a, b⟩ := UC_S cx n
    have g := Gd_S K V P n
    exact UC_T (H := 2 * n + 3) cx (Gd_U (by omega) (fun U h => by cases h; exact g)) (UC_U cx (Or.inr ⟨n, pS K V P n, 2 * n + 3, rfl, rfl, g, a, b⟩))
theorem m_expression {F : Nat} {h : Hp} {K V P M : Nat → Int} {t : Nat} (cx : Cx F h K V P M) (ht : t ≤ 400) (h11 : rd h 194 11 = t) (h12 : rd h 194 12 = 0) (h13 : rd h 194 13 = 0) (hc : rd h 194 44 ≤ 420 * rd h 194 19 + t) : T (Mod_expression F 194 h) (fun _ h' => match pE K V P t [] with | Sum.inl e => EF h h' e.1 e.2 | Sum.inr q => ES h h' q.1 [] q.2) := by
  obtain ⟨hF, s, tk0, c0, hs⟩ := cx
  have cx : Cx F h K V P M := ⟨hF, s, tk0, c0, hs⟩
  have s1 := sh48 s 0
  obtain ⟨n, rfl⟩ : ∃ n, F = n + 1 := ⟨F - 1, by omega⟩
  have e1 : ES h (wr h 194 48 0) t [] [] := ⟨Fe_f (Fe_refl s) s1 (by decide), by rw [rd_i (by decide)]; exact h11, ⟨by rw [rd_i (by decide)]; exact h13, fun q => absurd rfl q⟩, by rw [rd_i (by decide)]; exact h12, by rw [rd_i (by decide)]; simp, rd_same _ _ _ _, trivial, trivial⟩
  unfold Mod_expression
  rw [pM48 s, gM12 s1, rd_i (by decide), h12]
  show T (Mod_expression_L12s (n + 1) (Mod_expression_L12 (n + 1) n) 194 0 1 _) _
  unfold Mod_expression_L12s
  rw [if_neg (by decide), gM13 s1, rd_i (by decide), h13, if_pos rfl]
  obtain ⟨uc, hn⟩ := UC_S cx 6
  refine uc _ t [] [] ht trivial (Nat.zero_le _) rfl (by unfold Cn; simp only [List.length_nil]; omega) (fun e he h' q => ?_) (fun t' o' he => ?_) n (n + 1) _ (by omega) (by omega) e1
  · show match pS K V P 6 t [] with | Sum.inl e => EF h h' e.1 e.2 | Sum.inr q => ES h h' q.1 [] q.2
    rw [he]; exact q
  · have hns := hn _ _ _ _ ht he
    unfold NPq
    rw [if_neg (by simp [opn]), if_neg hns.1, if_neg hns.2, if_neg (by simp [opn])]
    intro h' q
    show match pS K V P 6 t [] with | Sum.inl e => EF h h' e.1 e.2 | Sum.inr q => ES h h' q.1 [] q.2
    rw [he]
    have pid : (popW false []).2 = ([] : Cds) := rfl
    rw [pid, List.append_nil] at q
    exact q
