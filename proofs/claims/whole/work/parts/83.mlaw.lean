/-! the reference reads a law -/
def Gp (P : Nat → Int) (U : Pr) : Prop := ∀ t o t' o', t ≤ 400 → U t o = Sum.inr (t', o') → P t < P t'
theorem Gp_U {K V P : Nat → Int} {S : Option Pr} (mn : Mn K P) (hS : ∀ U, S = some U → Gp P U ∧ ∃ H, Gd H U) : Gp P (pU K V P S) := by
  intro t o t' o' ht h
  unfold pU at h
  split at h
  · obtain ⟨a, h1, h2⟩ := rbd_inr h
    obtain ⟨k, h3, rfl⟩ := pAcc_inr h1
    cases h2
    exact mn t h3 (by omega)
  · split at h
    · obtain ⟨a, h1, h2⟩ := rbd_inr h
      obtain ⟨-, h3, rfl⟩ := pAcc_inr h1
      cases h2
      exact mn t h3 (by omega)
    · split at h
      · cases S with
        | none => cases h
        | some U =>
          simp only at h
          obtain ⟨a, h1, h2⟩ := rbd_inr h
          obtain ⟨k1, h3, rfl⟩ := pAcc_inr h1
          obtain ⟨q, h4, h5⟩ := rbd_inr h2
          obtain ⟨b, h6, h7⟩ := rbd_inr h5
          obtain ⟨k2, h8, rfl⟩ := pAcc_inr h6
          cases h7
          obtain ⟨gp, H, gd⟩ := hS U rfl
          have a1 := mn t h3 (by omega)
          have a2 := gp (t + 1) o q.1 q.2 (by omega) h4
          have a3 := mn q.1 h8 (by omega)
          omega
      · cases h
theorem Gp_L {K P : Nat → Int} {a b : Int} {U : Pr} {H : Nat} (mn : Mn K P) (ha : a ≠ 20 ∧ b ≠ 20) (gd : Gd H U) (gp : Gp P U) : ∀ n t o t' o', t ≤ 400 → pL K P a b U n t o = Sum.inr (t', o') → P t ≤ P t' := by
  intro n
  induction n with
  | zero => intro t o t' o' ht h; cases h; exact Int.le_refl _
  | succ n ih =>
    intro t o t' o' ht h
    unfold pL at h
    split at h
    · rename_i hk
      obtain ⟨c, h1, h2⟩ := rbd_inr h
      obtain ⟨-, h3, rfl⟩ := pAcc_inr h1
      obtain ⟨q, h4, h5⟩ := rbd_inr h2
      obtain ⟨g1, g2, -⟩ := gd (t + 1) o q.1 q.2 (by omega) h4
      have a1 := mn t h3 (hk.elim (fun e => by rw [e]; exact ha.1) (fun e => by rw [e]; exact ha.2))
      have a2 := gp (t + 1) o q.1 q.2 (by omega) h4
      have a3 := ih q.1 _ t' o' g2 h5
      omega
    · cases h; exact Int.le_refl _
theorem Gp_Q {K P : Nat → Int} {a b : Int} {U : Pr} {H : Nat} (mn : Mn K P) (ha : a ≠ 20 ∧ b ≠ 20) (gd : Gd H U) (gp : Gp P U) : Gp P (pQ K P a b U) := by
  intro t o t' o' ht h
  unfold pQ at h
  obtain ⟨q, h1, h2⟩ := rbd_inr h
  obtain ⟨g1, g2, -⟩ := gd t o q.1 q.2 ht h1
  have a1 := gp t o q.1 q.2 ht h1
  have a2 := Gp_L mn ha gd gp 401 q.1 q.2 t' o' g2 h2
  omega
theorem Gp_S {K V P : Nat → Int} (mn : Mn K P) : ∀ n, Gp P (pS K V P n)
  | 0 => Gp_Q mn (by decide) (Gd_Q (Gd_U (Nat.le_refl 1) (fun U h => by cases h))) (Gp_Q mn (by decide) (Gd_U (Nat.le_refl 1) (fun U h => by cases h)) (Gp_U mn (fun U h => by cases h)))
  | n + 1 => by
    have ih := Gp_S (V := V) mn n
    have g := Gd_S K V P n
    have gu : Gd (2 * n + 3) (pU K V P (some (pS K V P n))) := Gd_U (by omega) (fun U h => by cases h; exact g)
    exact Gp_Q mn (by decide) (Gd_Q gu) (Gp_Q mn (by decide) gu (Gp_U mn (fun U h => by cases h; exact ⟨ih, _, g⟩)))
/-- a FAULT stands: where the branches are -/
def RFb (hb h : Hp) (c p b : Int) : Prop := RF hb h c p ∧ rd h 194 38 = b
theorem RF_pos {hb h : Hp} {c p : Int} (g : RF hb h c p) : 0 < rd h 194 13 := by rw [g.2.2.1]; exact g.2.1
theorem RFb_wr {hb h : Hp} {c p b a v : Int} (g : RFb hb h c p b) (ha : 219 ≤ a ∧ a ≤ 223) (hb0 : 130 * rd hb 194 19 ≤ b ∧ b < 130 * rd hb 194 19 + 130) : RFb hb (wr h a b v) c p b := by
  have w : wdt a = 130 := by unfold wdt; rw [if_neg (by omega), if_neg (by omega), if_neg (by omega), if_neg (by omega), if_pos (by omega)]
  exact ⟨⟨Fp_wr g.1.1 (by omega) (by rw [w]; omega), g.1.2.1, by rw [rd_wr_ne (by omega)]; exact g.1.2.2.1, by rw [rd_wr_ne (by omega)]; exact g.1.2.2.2⟩, by rw [rd_wr_ne (by omega)]; exact g.2⟩
theorem RFb_f {hb h : Hp} {c p b k v : Int} (g : RFb hb h c p b) (hs : Sh (wr h 194 k v)) (hk : k = 44 ∨ k = 48 ∨ k = 11 ∨ k = 12) : RFb hb (wr h 194 k v) c p b := ⟨⟨Fp_f g.1.1 hs (by omega), g.1.2.1, by rw [rd_i (by omega)]; exact g.1.2.2.1, by rw [rd_i (by omega)]; exact g.1.2.2.2⟩, by rw [rd_i (by omega)]; exact g.2⟩
theorem rf_expression {F : Nat} {hb h : Hp} {c p b : Int} (hF : 1000 ≤ F) (g : RFb hb h c p b) : T (Mod_expression F 194 h) (fun _ h' => RFb hb h' c p b) := by
  have s := g.1.1.2.1
  have s1 := sh48 s 0
  obtain ⟨n, rfl⟩ : ∃ n, F = n + 1 := ⟨F - 1, by omega⟩
  have h13 := RF_pos g.1
  unfold Mod_expression
  rw [pM48 s, gM12 s1]
  show T (Mod_expression_L12s (n + 1) (Mod_expression_L12 (n + 1) n) 194 _ 1 _) _
  unfold Mod_expression_L12s
  rw [if_neg (by decide), gM13 s1, rd_i (by decide), if_neg (by omega)]
  exact T_some (RFb_f g s1 (by decide))
theorem rf_term {F : Nat} {hb h : Hp} {c p b : Int} (hs : rd hb 194 19 = 0 ∨ rd hb 194 19 = 1) (g : RFb hb h c p b) (hb0 : 130 * rd hb 194 19 ≤ b ∧ b < 130 * rd hb 194 19 + 130) : T (Mod_term F 194 h) (fun _ h' => RFb hb h' c p (b + 1)) := by
  have s := g.1.1.2.1
  unfold Mod_term Mod_term_B24
  have g1 := RFb_wr (a := 222) (v := rd h 194 44) g (by decide) hb0
  have s1 := g1.1.1.2.1
  have h13 := RF_pos g1.1
  have g2 := RFb_wr (a := 223) (v := rd (wr h 222 b (rd h 194 44)) 194 44) g1 (by decide) hb0
  have s2 := g2.1.1.2.1
  rw [gM42 s, gM38 s, g.2, gM44 s, sM42 s (by omega) (by omega), gM13 s1, if_neg (by omega), gM43 s1, gM38 s1, g1.2, gM44 s1, sM43 s1 (by omega) (by omega), gM38 s2, g2.2, w32_id (x := b + 1) (by omega) (by omega), pM38 s2]
  refine T_some ⟨⟨Fp_f g2.1.1 (sh38 s2 _) (by decide), g2.1.2.1, by rw [rd_i (by decide)]; exact g2.1.2.2.1, by rw [rd_i (by decide)]; exact g2.1.2.2.2⟩, rd_same _ _ _ _⟩
theorem rf_129 {F : Nat} {hb h : Hp} {c p b k b0 : Int} (hs : rd hb 194 19 = 0 ∨ rd hb 194 19 = 1) (g : RFb hb h c p b) (hb0 : 130 * rd hb 194 19 ≤ b ∧ b < 130 * rd hb 194 19 + 130) : T (Mod_tellLaw_B129 F 194 k b0 h) (fun _ h' => RF hb h' c p) := by
  have s := g.1.1.2.1
  have g1 := RFb_wr (a := 219) (v := 0) g (by decide) hb0
  unfold Mod_tellLaw_B129
  rw [gM39 s, gM38 s, g.2, sM39 s (by omega) (by omega) (Or.inl rfl), ivM g1.1.1.2.1]
  refine T_cl (rf_term hs g1 hb0) (fun _ h2 g2 => ?_)
  rw [ivM g2.1.1.2.1, rf_must g2.1, cl_some, gM13 g2.1.1.2.1, if_pos (RF_pos g2.1)]
  exact T_some g2.1
theorem rf_110 {F n : Nat} {hb h : Hp} {c p b k b0 i : Int} (hs : rd hb 194 19 = 0 ∨ rd hb 194 19 = 1) (g : RFb hb h c p b) (hb0 : 130 * rd hb 194 19 ≤ b ∧ b + 1 < 130 * rd hb 194 19 + 130) : T (Mod_tellLaw_B110 F (Mod_tellLaw_L12 F (n + 1)) 194 k b0 i h) (fun _ h' => RF hb h' c p) := by
  have s := g.1.1.2.1
  unfold Mod_tellLaw_B110
  rw [ivM s, rf_must g.1, cl_some, ivM s]
  refine T_cl (rf_term hs g (by omega)) (fun _ h2 g2 => ?_)
  rw [ivM g2.1.1.2.1, rf_must g2.1, cl_some]
  show T (Mod_tellLaw_L12s F (Mod_tellLaw_L12 F n) 194 k b0 i h2) _
  unfold Mod_tellLaw_L12s
  have := RF_pos g2.1
  rw [gM13 g2.1.1.2.1, if_neg (by omega)]
  exact rf_129 hs g2 (by omega)
/-- an expression, in a text that is right so far -/
theorem t_expr {F : Nat} {hb h : Hp} {K V P M : Nat → Int} {t : Nat} {X : Nat → Int → Int} {Λ : Nat → Lw} {w : Int × Int} {bb cb : Int} (hF : 1000 ≤ F) (tk : RTk hb K V P M) (mn : Mn K P) (hs : rd hb 194 19 = 0 ∨ rd hb 194 19 = 1) (g : RP hb h K P (t, X, Λ, w) bb cb) (hc : cb ≤ 420 * rd hb 194 19 + t) :
    T (Mod_expression F 194 h) (fun _ h' => match pE K V P t [] with
      | Sum.inl e => RFb hb h' e.1 e.2 bb
      | Sum.inr q => RP hb h' K P (q.1, X, Λ, w) bb (cb + q.2.length) ∧ cb + q.2.length ≤ 420 * rd hb 194 19 + q.1 ∧ t < q.1 ∧ Ex 15 q.2 ∧ cdA (rd h' 224) (rd h' 225) cb q.2 ∧ (∀ a, 219 ≤ a → a ≤ 223 → rd h' a = rd h a) ∧ Eqc h h' cb bb) := by
  obtain ⟨f, ⟨h11, ht, h13, h12⟩, ⟨w1, w2, w3⟩, x, l⟩ := g
  simp only at h11 ht w1 w2 w3
  have e19 := Fp_19 f
  obtain ⟨l1, l2, l3, l4, l5⟩ := l
  have cx : Cx F h K V P M := ⟨hF, f.2.1, Fp_tk f tk, by rw [l2]; omega, by rw [e19]; exact hs⟩
  refine T_mono (m_expression cx ht h11 h12 h13 (by rw [l2, e19]; exact hc)) (fun _ h' q => ?_)
  cases hq : pE K V P t [] with
  | inl e =>
    rw [hq] at q
    obtain ⟨fe, e13, e14⟩ := q
    refine ⟨⟨Fp_Fe f fe (by rw [l2]; omega), ?_, e13, e14⟩, by rw [fe.2.2.2.2 38 (by decide)]; exact l1⟩
    -- what faults there are
    have key : ∀ n U, (∀ t o e, U t o = Sum.inl e → 0 < e.1) → ∀ a b t o e, pL K P a b U n t o = Sum.inl e → 0 < e.1 := by
      intro n U hU a b
      induction n with
      | zero => intro t o e h; cases h
      | succ n ih =>
        intro t o e h
        unfold pL at h
        split at h
        · cases ha : pAcc K P (K t) t with
          | inl z =>
            rw [ha] at h; cases h
            unfold pAcc at ha
            split at ha
            · split at ha
              · cases ha
              · cases ha; show (0 : Int) < 2; decide
            · cases ha; show (0 : Int) < 1; decide
          | inr t1 =>
            rw [ha] at h
            have h' : rbd (U t1 o) _ = Sum.inl e := h
            cases hu : U t1 o with
            | inl z => rw [hu] at h'; cases h'; exact hU _ _ _ hu
            | inr z => rw [hu] at h'; exact ih _ _ _ h'
        · cases h
    have keyQ : ∀ U, (∀ t o e, U t o = Sum.inl e → 0 < e.1) → ∀ a b t o e, pQ K P a b U t o = Sum.inl e → 0 < e.1 := by
      intro U hU a b t o e h
      unfold pQ at h
      cases hu : U t o with
      | inl z => rw [hu] at h; cases h; exact hU _ _ _ hu
      | inr z => rw [hu] at h; exact key 401 U hU a b _ _ _ h
    have acc : ∀ k t e, pAcc K P k t = Sum.inl e → 0 < e.1 := by
      intro k t e ha
      unfold pAcc at ha
      split at ha
      · split at ha
        · cases ha
        · cases ha; show (0 : Int) < 2; decide
      · cases ha; show (0 : Int) < 1; decide
    have keyU : ∀ S, (∀ U, S = some U → ∀ t o e, U t o = Sum.inl e → 0 < e.1) → ∀ t o e, pU K V P S t o = Sum.inl e → 0 < e.1 := by
      intro S hS t o e h
      unfold pU at h
      split at h
      · cases ha : pAcc K P 19 t with
        | inl z => rw [ha] at h; cases h; exact acc _ _ _ ha
        | inr z => rw [ha] at h; cases h
      · split at h
        · cases ha : pAcc K P (K t) t with
          | inl z => rw [ha] at h; cases h; exact acc _ _ _ ha
          | inr z => rw [ha] at h; cases h
        · split at h
          · cases S with
            | none => cases h; show (0 : Int) < 2; decide
            | some U =>
              simp only at h
              cases ha : pAcc K P 40 t with
              | inl z => rw [ha] at h; cases h; exact acc _ _ _ ha
              | inr t1 =>
                rw [ha] at h
                have h' : rbd (U t1 o) _ = Sum.inl e := h
                cases hu : U t1 o with
                | inl z => rw [hu] at h'; cases h'; exact hS U rfl _ _ _ hu
                | inr z =>
                  rw [hu] at h'
                  have h'' : rbd (pAcc K P 41 z.1) _ = Sum.inl e := h'
                  cases hb' : pAcc K P 41 z.1 with
                  | inl y => rw [hb'] at h''; cases h''; exact acc _ _ _ hb'
                  | inr y => rw [hb'] at h''; cases h''
          · cases h; show (0 : Int) < 1; decide
    have keyS : ∀ n t o e, pS K V P n t o = Sum.inl e → 0 < e.1 := by
      intro n
      induction n with
      | zero => exact keyQ _ (keyQ _ (keyU none (fun U h => by cases h)) 42 47) 43 45
      | succ n ih => exact keyQ _ (keyQ _ (keyU _ (fun U h => by cases h; exact ih)) 42 47) 43 45
    exact keyS 6 t [] e hq
  | inr r =>
    rw [hq] at q
    obtain ⟨fe, e11, e13, e12, e44, e48, ew, ec⟩ := q
    obtain ⟨g1, g2, x0, g3, g4, g5⟩ := Gd_S K V P 6 t [] r.1 r.2 ht hq
    have gp := Gp_S (V := V) mn 6 t [] r.1 r.2 ht hq
    rw [List.nil_append] at g3
    subst g3
    rw [l2] at e44 ec
    have eq : ∀ a, 219 ≤ a → a ≤ 223 → rd h' a = rd h a := fun a h1 h2 => fe.2.2.1 a (by omega) (by omega)
    have eqc : Eqc h h' cb bb := ⟨fun a j h1 h2 _ => by rw [eq a h1 h2], fun a j h1 h2 h3 h4 => fe.2.2.2.1 a j h1 h2 (Or.inl (by rw [l2]; exact h4))⟩
    refine ⟨⟨Fp_Fe f fe (by rw [l2]; omega), ⟨e11, g2, e13.1, by rw [e12]; rfl⟩, ⟨by rw [fe.2.2.2.2 15 (by decide)]; exact w1, w2, fun q => ?_⟩, Rx_eq (fun a h1 h2 => fe.2.2.1 a (by omega) (by omega)) (fe.2.2.2.2 20 (by decide)) x, ⟨by rw [fe.2.2.2.2 38 (by decide)]; exact l1, e44, l3, by omega, fun k hk => LB_eq eqc (by omega) (Int.le_refl _) (by rw [fe.2.2.1 217 (by decide) (by decide)]) (by rw [fe.2.2.1 218 (by decide) (by decide)]) (l5 k hk)⟩⟩, by omega, g1, g4, ec, eq, eqc⟩
    obtain ⟨q1, q2⟩ := w3 q
    exact ⟨by rw [fe.2.2.2.2 16 (by decide)]; exact q1, by show w.2 < P r.1; omega⟩
