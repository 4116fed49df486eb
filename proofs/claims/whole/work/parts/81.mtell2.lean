/-! the reference reads a tell -/
def On (h h' : Hp) : Prop := ∀ a, a ≠ 194 → rd h' a = rd h a
def CH (hb h : Hp) (K P : Nat → Int) (X : Nat → Int → Int) (Λ : Nat → Lw) (bb cb : Int) (r : Ch) : Prop := match r with
  | Sum.inr q => RP hb h K P (q.1, X, Λ, q.2.1) bb cb
  | Sum.inl e => RF hb h e.1 e.2
theorem Rx_pt {h h' : Hp} {s : Int} {K : Nat → Int} {X : Nat → Int → Int} (g : Rx h s K X) (e20 : rd h' 194 20 = rd h 194 20) (e200 : rd h' 200 = rd h 200) (e202 : ∀ i, 0 ≤ i → i < X 25 0 → rd h' 202 i = rd h 202 i) (e203 : rd h' 203 s = rd h 203 s) (e4 : ∀ a p, 204 ≤ a → a ≤ 207 → 0 ≤ p → p < X 0 0 → rd h' a (8 * s + p) = rd h a (8 * s + p)) (e208 : rd h' 208 s = rd h 208 s) (e9 : ∀ a p, 209 ≤ a → a ≤ 211 → 0 ≤ p → p < X 1 0 → rd h' a (3 * s + p) = rd h a (3 * s + p)) (e12 : ∀ a, 212 ≤ a → a ≤ 216 → rd h' a s = rd h a s) : Rx h' s K X := by
  obtain ⟨⟨n1, n2, n3⟩, ⟨p1, p2, p3, p4⟩, ⟨w1, w2, w3, w4⟩, q1, q2, q3, q4, q5⟩ := g
  refine ⟨⟨by rw [e20]; exact n1, n2, fun i h1 h2 => ?_⟩, ⟨by rw [e203]; exact p1, p2, p3, fun p h1 h2 => ?_⟩, ⟨by rw [e208]; exact w1, w2, w3, fun p h1 h2 => ?_⟩, by rw [e12 212 (by decide) (by decide)]; exact q1, by rw [e12 213 (by decide) (by decide)]; exact q2, by rw [e12 214 (by decide) (by decide)]; exact q3, by rw [e12 215 (by decide) (by decide)]; exact q4, by rw [e12 216 (by decide) (by decide)]; exact q5⟩
  · rw [e202 i h1 h2, e200]; exact n3 i h1 h2
  · rw [e4 204 p (by decide) (by decide) h1 h2, e4 205 p (by decide) (by decide) h1 h2, e4 206 p (by decide) (by decide) h1 h2, e4 207 p (by decide) (by decide) h1 h2]; exact p4 p h1 h2
  · rw [e9 209 p (by decide) (by decide) h1 h2, e9 210 p (by decide) (by decide) h1 h2, e9 211 p (by decide) (by decide) h1 h2]; exact w4 p h1 h2
theorem c_must {F : Nat} {hb h : Hp} {K V P M : Nat → Int} {X : Nat → Int → Int} {Λ : Nat → Lw} {bb cb c d : Int} {r : Ch} (tk : RTk hb K V P M) (mn : Mn K P) (g : CH hb h K P X Λ bb cb r) (hd : KdOk d) (hd2 : d ≠ 20) (e : phi d = c) : T (Mod_must F 194 c h) (fun _ h' => On h h' ∧ CH hb h' K P X Λ bb cb (cAcc K P d r)) := by
  cases r with
  | inl q => rw [rf_must g]; exact T_some ⟨fun _ _ => rfl, g⟩
  | inr q =>
    have t1 := t_must (F := F) tk mn g hd hd2 e
    have m1 := m_must (F := F) g.1.2.1 (Fp_tk g.1 tk) g.2.1 hd e
    obtain ⟨v, h', e1, e2⟩ := t1
    rw [m1] at e1
    refine ⟨v, h', by rw [m1]; exact e1, ?_, ?_⟩
    · cases e1
      intro a ha
      simp only
      cases pAcc K P d q.1 with
      | inl e => exact flH_ne ha
      | inr t => exact rd_wr_ne ha
    · show CH hb h' K P X Λ bb cb (rbd (pAcc K P d q.1) (fun t => Sum.inr (t, q.2)))
      cases hq : pAcc K P d q.1 with
      | inl e => rw [hq] at e2; exact e2
      | inr t => rw [hq] at e2; exact e2
/-- a milder FAULT is noted: once -/
def wrgH (h : Hp) (w : Int × Int) (k p : Int) : Hp := if w.1 = 0 then wr (wr h 194 15 k) 194 16 p else h
theorem m_wrong {F : Nat} {h : Hp} {K V P M : Nat → Int} {t : Nat} {w : Int × Int} {k : Int} (s : Sh h) (tk : RTk h K V P M) (ht : t ≤ 400) (h13 : rd h 194 13 = 0) (h15 : rd h 194 15 = w.1) (h16 : w.1 ≠ 0 → rd h 194 16 = w.2 ∧ (w.2 < P t ∨ (w.2 = P t ∧ w.1 ≤ k))) : Mod_wrong F 194 k t h = some (0, wrgH h w k (P t)) := by
  have k2 := (tk.1 t ht).2.1
  unfold Mod_wrong wrgH
  rw [gM6 s, aM6 s (by omega) (by omega), k2, gM13 s, h13, if_neg (by decide), gM15 s, h15]
  by_cases h0 : w.1 = 0
  · rw [if_pos h0, if_pos h0, pM15 s, pM16 (sh15 s k)]
  · rw [if_neg h0, if_neg h0, gM16 s, (h16 h0).1]
    by_cases hl : w.2 < P t
    · rw [if_pos hl]
    · have hr : w.2 = P t ∧ w.1 ≤ k := (h16 h0).2.resolve_left hl
      rw [if_neg hl, gM16 s, (h16 h0).1, if_pos hr.1.symm, gM15 s, h15, if_neg (by omega)]
theorem RP_w {hb h : Hp} {K P : Nat → Int} {t t' : Nat} {X : Nat → Int → Int} {Λ : Nat → Lw} {w : Int × Int} {bb cb k : Int} (g : RP hb h K P (t, X, Λ, w) bb cb) (h4 : t' ≤ 400) (hp : P t < P t') (hk : 0 ≤ k) : RP hb (wr (wrgH h w k (P t)) 194 11 (t' : Int)) K P (t', X, Λ, if w.1 = 0 then (k, P t) else w) bb cb := by
  unfold wrgH
  by_cases h0 : w.1 = 0
  · rw [if_pos h0, if_pos h0]
    obtain ⟨f, ⟨c1, c2, c3, c4⟩, -, x, l⟩ := g
    have s1 := sh15 f.2.1 k
    have s2 := sh16 s1 (P t)
    refine ⟨Fp_f (Fp_f (Fp_f f s1 (by decide)) s2 (by decide)) (sh11 s2 _) (by decide), ⟨rd_same _ _ _ _, h4, by rw [rd_i (by decide), rd_i (by decide), rd_i (by decide)]; exact c3, by rw [rd_i (by decide), rd_i (by decide), rd_i (by decide)]; exact c4⟩, ⟨by rw [rd_i (by decide), rd_i (by decide), rd_same], hk, fun _ => ⟨by rw [rd_i (by decide), rd_same], hp⟩⟩, Rx_eq (fun a h1 h2 => by rw [rd_wr_ne (by omega), rd_wr_ne (by omega), rd_wr_ne (by omega)]) (by rw [rd_i (by decide), rd_i (by decide), rd_i (by decide)]) x, Rl_eq (fun a h1 h2 => by rw [rd_wr_ne (by omega), rd_wr_ne (by omega), rd_wr_ne (by omega)]) (by rw [rd_i (by decide), rd_i (by decide), rd_i (by decide)]) (by rw [rd_i (by decide), rd_i (by decide), rd_i (by decide)]) l⟩
  · rw [if_neg h0, if_neg h0]
    exact RP_t g h4 hp
theorem wrgH_ne {h : Hp} {w : Int × Int} {k p a : Int} (ha : a ≠ 194) : rd (wrgH h w k p) a = rd h a := by
  unfold wrgH
  split
  · rw [rd_wr_ne ha, rd_wr_ne ha]
  · rfl
theorem wrgH_f {h : Hp} {w : Int × Int} {k p j : Int} (hj : j ≠ 15 ∧ j ≠ 16) : rd (wrgH h w k p) 194 j = rd h 194 j := by
  unfold wrgH
  split
  · rw [rd_i hj.2, rd_i hj.1]
  · rfl
theorem wrgH_Fp {hb h : Hp} (f : Fp hb h) (w : Int × Int) (k p : Int) : Fp hb (wrgH h w k p) := by
  unfold wrgH
  split
  · exact Fp_f (Fp_f f (sh15 f.2.1 _) (by decide)) (sh16 (sh15 f.2.1 _) _) (by decide)
  · exact f
theorem c_num {F : Nat} {hb h : Hp} {K V P M : Nat → Int} {X : Nat → Int → Int} {Λ : Nat → Lw} {bb cb lo hi : Int} {r : Ch} (tk : RTk hb K V P M) (mn : Mn K P) (g : CH hb h K P X Λ bb cb r) : T (Mod_bounded F 194 lo hi h) (fun v h' => On h h' ∧ CH hb h' K P X Λ bb cb (cNum K V P lo hi r) ∧ ∀ q, cNum K V P lo hi r = Sum.inr q → q.2.2.head? = some v) := by
  cases r with
  | inl q =>
    have s := g.1.2.1
    have h0 : 0 < rd h 194 13 := by rw [g.2.2.1]; exact g.2.1
    unfold Mod_bounded Mod_bounded_B15
    rw [gM13 s, if_pos h0, ivM s, m_fail' s h0, cl_some]
    exact T_some ⟨fun _ _ => rfl, g, fun q h => by cases h⟩
  | inr q =>
    obtain ⟨t, w, ls⟩ := q
    have f := g.1
    have s := f.2.1
    have tk' := Fp_tk f tk
    obtain ⟨h11, ht, h13, h12⟩ := g.2.1
    simp only at h11 ht
    obtain ⟨w1, w2, w3⟩ := g.2.2.1
    simp only at w1 w2 w3
    have ec : cNum K V P lo hi (Sum.inr (t, w, ls)) = rbd (pAcc K P 19 t) (fun t' => Sum.inr (t', (if (V t < lo ∨ hi < V t) ∧ w.1 = 0 then (5, P t) else w), V t :: ls)) := rfl
    rw [ec]
    unfold Mod_bounded
    by_cases k19 : K t = 19
    · have kv := (tk'.1 t ht).2.2.1 k19
      rw [gM13 s, h13, if_neg (by decide), ivM s, m_isY 2 19 s tk' ht h11 (by unfold KdOk; decide) rfl h13 k19, cl_some, if_neg (by decide), gM7 s, gM11 s, h11, aM7 s (by omega) (by omega), kv]
      have ac : pAcc K P 19 t = if t < 400 then Sum.inr (t + 1) else Sum.inl (2, P t) := by unfold pAcc; rw [if_pos k19]
      rw [ac]
      -- out of range
      have out : (V t < lo ∨ hi < V t) → T (Mod_bounded_B42 F 194 (V t) h) (fun v h' => On h h' ∧ CH hb h' K P X Λ bb cb (rbd (if t < 400 then Sum.inr (t + 1) else Sum.inl (2, P t)) (fun t' => Sum.inr (t', (if (V t < lo ∨ hi < V t) ∧ w.1 = 0 then (5, P t) else w), V t :: ls))) ∧ ∀ q, rbd (if t < 400 then Sum.inr (t + 1) else Sum.inl (2, P t)) (fun t' => Sum.inr (t', (if (V t < lo ∨ hi < V t) ∧ w.1 = 0 then (5, P t) else w), V t :: ls)) = (Sum.inr q : Ch) → q.2.2.head? = some v) := by
        intro hv
        have fw := wrgH_Fp f w 5 (P t)
        unfold Mod_bounded_B42 Mod_bounded_B51
        rw [gM11 s, h11, ivM s, m_wrong (F := F) (w := w) s tk' ht h13 w1 (fun q => ⟨(w3 q).1, Or.inl (w3 q).2⟩), cl_some, ivM fw.2.1, m_goesOn (F := F) fw.2.1 (Fp_tk fw tk) ht (by rw [wrgH_f (by decide)]; exact h11) (by rw [wrgH_f (by decide)]; exact h13), cl_some]
        by_cases h4 : t < 400
        · rw [if_pos h4, if_pos h4]
          refine T_some ⟨fun a ha => by rw [rd_wr_ne ha, wrgH_ne ha], ?_, fun q h => by cases h; rfl⟩
          have := RP_w (t' := t + 1) (k := 5) g (by omega) (mn t h4 (by omega)) (by decide)
          show RP hb _ K P (t + 1, X, Λ, if (V t < lo ∨ hi < V t) ∧ w.1 = 0 then (5, P t) else w) bb cb
          by_cases h0 : w.1 = 0
          · rw [if_pos h0] at this
            rw [if_pos ⟨hv, h0⟩]; exact this
          · rw [if_neg h0] at this
            rw [if_neg (fun q => h0 q.2)]; exact this
        · rw [if_neg h4, if_neg h4]
          refine T_some ⟨fun a ha => by rw [flH_ne ha, wrgH_ne ha], ?_, fun q h => by cases h⟩
          exact ⟨Fp_fl fw _ _, by show (0 : Int) < 2; decide, flH_13 _ _ _, flH_14 _ _ _⟩
      by_cases hlo : V t < lo
      · rw [if_pos hlo]; exact out (Or.inl hlo)
      · rw [if_neg hlo]
        by_cases hhi : hi < V t
        · rw [if_pos hhi]; exact out (Or.inr hhi)
        · rw [if_neg hhi]
          unfold Mod_bounded_B51
          rw [ivM s, m_goesOn (F := F) s tk' ht h11 h13, cl_some]
          by_cases h4 : t < 400
          · rw [if_pos h4, if_pos h4]
            refine T_some ⟨fun a ha => by rw [rd_wr_ne ha], ?_, fun q h => by cases h; rfl⟩
            show RP hb _ K P (t + 1, X, Λ, if (V t < lo ∨ hi < V t) ∧ w.1 = 0 then (5, P t) else w) bb cb
            rw [if_neg (by omega)]
            exact RP_t g (by omega) (mn t h4 (by omega))
          · rw [if_neg h4, if_neg h4]
            exact T_some ⟨fun a ha => flH_ne ha, ⟨Fp_fl f _ _, by show (0 : Int) < 2; decide, flH_13 _ _ _, flH_14 _ _ _⟩, fun q h => by cases h⟩
    · have ac : pAcc K P 19 t = Sum.inl (1, P t) := by unfold pAcc; rw [if_neg k19]
      rw [ac]
      unfold Mod_bounded_B15
      rw [gM13 s, h13, if_neg (by decide), ivM s, m_isN 2 19 s tk' ht h11 (by unfold KdOk; decide) rfl (fun q => k19 q.2), cl_some, if_pos rfl, ivM s, m_fail (F := F) s tk' ht h11 h13, cl_some]
      exact T_some ⟨fun a ha => flH_ne ha, ⟨Fp_fl f _ _, by show (0 : Int) < 1; decide, flH_13 _ _ _, flH_14 _ _ _⟩, fun q h => by cases h⟩
theorem c_name_L {F : Nat} {hb h0 : Hp} {K V P M : Nat → Int} {t : Nat} {X : Nat → Int → Int} {Λ : Nat → Lw} {bb cb : Int} (tk : RTk hb K V P M) (ht : t < 400) (k18 : K t = 18) (hp : P t < P (t + 1)) :
    ∀ (j n : Nat) (i : Int) (h : Hp) (w : Int × Int), 0 ≤ i → i + j = X 25 0 → j < n → On h0 h → RP hb h K P (t + 1, X, Λ, w) bb cb → (w.1 ≠ 0 → w.2 < P t ∨ (w.2 = P t ∧ w.1 ≤ 3)) → T (Mod_named_L12 F n 194 t i h) (fun v h' => v = t ∧ On h0 h' ∧ RP hb h' K P (t + 1, X, Λ, if exN (fun i => decide (M (X 24 i).toNat = M t)) i j = true ∧ w.1 = 0 then (3, P t) else w) bb cb) := by
  intro j
  induction j with
  | zero =>
    intro n i h w hi hj hn on g _
    obtain ⟨n, rfl⟩ : ∃ j, n = j + 1 := ⟨n - 1, by omega⟩
    have s := g.1.2.1
    show T (Mod_named_L12s F _ 194 t i h) _
    unfold Mod_named_L12s
    rw [gM20 s, g.2.2.2.1.1.1, if_neg (by show ¬ i < X 25 0; omega)]
    refine T_some ⟨rfl, on, ?_⟩
    rw [if_neg (fun q => by rw [exN] at q; exact absurd q.1 (by decide))]
    exact g
  | succ j ih =>
    intro n i h w hi hj hn on g hw
    obtain ⟨n, rfl⟩ : ∃ j, n = j + 1 := ⟨n - 1, by omega⟩
    have s := g.1.2.1
    have tk' := Fp_tk g.1 tk
    obtain ⟨⟨n1, n2, n3⟩, ⟨-, p2, p3, -⟩, ⟨-, w2, w3, -⟩, -⟩ := g.2.2.2.1
    obtain ⟨h11, -, h13, -⟩ := g.2.1
    obtain ⟨x1, x2, x3⟩ := n3 i hi (by show i < X 25 0; omega)
    simp only at x1 x2 x3
    have nm := tk'.2 (X 24 i).toNat t (by omega) (by omega) x2 k18
    rw [show (((X 24 i).toNat : Nat) : Int) = X 24 i by omega] at nm
    show T (Mod_named_L12s F (Mod_named_L12 F n) 194 t i h) _
    unfold Mod_named_L12s
    simp only at n1 n2 p2 p3 w2 w3
    rw [gM20 s, n1, if_pos (by omega), gM13 s, h13, if_pos rfl, gM21 s, aM21 s hi (by omega), gM8 s, aM8 s (by omega) (by omega), x3]
    have lc : (lcmp (rd h 200 (X 24 i)) (rd h 200 t) = 0) ↔ M (X 24 i).toNat = M t := by
      rw [← nm]
      unfold lcmp
      constructor
      · intro q
        split at q
        · omega
        · split at q <;> omega
      · intro q
        rw [if_neg (by omega)]
        split <;> omega
    have nx := fun h' w' a1 a2 a3 => ih n (i + 1) h' w' (by omega) (by omega) (by omega) a1 a2 a3
    by_cases hm : M (X 24 i).toNat = M t
    · rw [if_pos (lc.mpr hm)]
      rw [ivM s, m_wrong (F := F) (w := w) (k := 3) s tk' (by omega) h13 g.2.2.1.1 (fun q => ⟨(g.2.2.1.2.2 q).1, hw q⟩), cl_some, w32_id (x := i + 1) (by omega) (by omega)]
      have e1 : exN (fun i => decide (M (X 24 i).toNat = M t)) i (j + 1) = true := by
        show (decide (M (X 24 i).toNat = M t) || _) = true
        rw [decide_eq_true hm]; rfl
      rw [e1]
      by_cases h0 : w.1 = 0
      · rw [if_pos ⟨rfl, h0⟩]
        have gg : RP hb (wrgH h w 3 (P t)) K P (t + 1, X, Λ, (3, P t)) bb cb := by
          unfold wrgH
          rw [if_pos h0]
          obtain ⟨f, ⟨c1, c2, c3, c4⟩, -, x, l⟩ := g
          have s1 := sh15 f.2.1 3
          have s2 := sh16 s1 (P t)
          exact ⟨Fp_f (Fp_f f s1 (by decide)) s2 (by decide), ⟨by rw [rd_i (by decide), rd_i (by decide)]; exact c1, c2, by rw [rd_i (by decide), rd_i (by decide)]; exact c3, by rw [rd_i (by decide), rd_i (by decide)]; exact c4⟩, ⟨by rw [rd_i (by decide), rd_same], by show (0 : Int) ≤ 3; decide, fun _ => ⟨by rw [rd_same], hp⟩⟩, Rx_eq (fun a h1 h2 => by rw [rd_wr_ne (by omega), rd_wr_ne (by omega)]) (by rw [rd_i (by decide), rd_i (by decide)]) x, Rl_eq (fun a h1 h2 => by rw [rd_wr_ne (by omega), rd_wr_ne (by omega)]) (by rw [rd_i (by decide), rd_i (by decide)]) (by rw [rd_i (by decide), rd_i (by decide)]) l⟩
        refine T_mono (nx _ (3, P t) (fun a ha => by rw [wrgH_ne ha]; exact on a ha) gg (fun _ => Or.inr ⟨rfl, by show (3 : Int) ≤ 3; decide⟩)) (fun v h' q => ⟨q.1, q.2.1, ?_⟩)
        have q3 := q.2.2
        rw [if_neg (fun z => absurd z.2 (by show ¬ (3 : Int) = 0; decide))] at q3
        exact q3
      · rw [if_neg (fun q => h0 q.2)]
        have ew : wrgH h w 3 (P t) = h := by unfold wrgH; rw [if_neg h0]
        rw [ew]
        refine T_mono (nx h w on g hw) (fun v h' q => ⟨q.1, q.2.1, ?_⟩)
        have q3 := q.2.2
        rw [if_neg (fun q => h0 q.2)] at q3
        exact q3
    · rw [if_neg (fun q => hm (lc.mp q)), w32_id (x := i + 1) (by omega) (by omega)]
      have e1 : exN (fun i => decide (M (X 24 i).toNat = M t)) i (j + 1) = exN (fun i => decide (M (X 24 i).toNat = M t)) (i + 1) j := by
        show (decide (M (X 24 i).toNat = M t) || _) = _
        rw [decide_eq_false hm]; rfl
      rw [e1]
      exact nx h w on g hw
theorem c_name {F : Nat} {hb h : Hp} {K V P M : Nat → Int} {X : Nat → Int → Int} {Λ : Nat → Lw} {bb cb : Int} {r : Ch} (hF : 1000 ≤ F) (tk : RTk hb K V P M) (mn : Mn K P) (g : CH hb h K P X Λ bb cb r) : T (Mod_named F 194 h) (fun v h' => On h h' ∧ CH hb h' K P X Λ bb cb (cName K P M X r) ∧ ∀ q, cName K P M X r = Sum.inr q → q.2.2.head? = some v) := by
  obtain ⟨F', rfl⟩ : ∃ j, F = j + 1 := ⟨F - 1, by omega⟩
  have bad : ∀ (h1 : Hp) (v c p : Int), RF hb h1 c p → Mod_named_L12 (F' + 1) (F' + 1) 194 v 0 h1 = some (v, h1) := by
    intro h1 v c p rf
    have s1 := rf.1.2.1
    show Mod_named_L12s (F' + 1) (Mod_named_L12 (F' + 1) F') 194 v 0 h1 = _
    unfold Mod_named_L12s
    rw [gM20 s1]
    split
    · rw [gM13 s1, rf.2.2.1, if_neg (by have := rf.2.1; omega)]
    · rfl
  cases r with
  | inl q =>
    have s := g.1.2.1
    unfold Mod_named
    rw [gM11 s, ivM s, rf_must g, cl_some, bad h _ _ _ g]
    exact T_some ⟨fun _ _ => rfl, g, fun q h => by cases h⟩
  | inr q =>
    obtain ⟨t, w, ls⟩ := q
    have f := g.1
    have s := f.2.1
    have tk' := Fp_tk f tk
    have ec : cName K P M X (Sum.inr (t, w, ls)) = rbd (pAcc K P 18 t) (fun t' => Sum.inr (t', (if exN (fun i => decide (M (X 24 i).toNat = M t)) 0 (X 25 0).toNat = true ∧ w.1 = 0 then (3, P t) else w), (t : Int) :: ls)) := rfl
    rw [ec]
    unfold Mod_named
    rw [gM11 s, g.2.1.1, ivM s, m_must (F := F' + 1) (c := 1) (d := 18) s tk' g.2.1 (by unfold KdOk; decide) rfl, cl_some]
    simp only
    cases hq : pAcc K P 18 t with
    | inl e =>
      simp only
      have ep : 0 < e.1 := by
        unfold pAcc at hq
        split at hq
        · split at hq
          · cases hq
          · cases hq; show (0 : Int) < 2; decide
        · cases hq; show (0 : Int) < 1; decide
      have rf : RF hb (flH h e.1 e.2) e.1 e.2 := ⟨Fp_fl f _ _, ep, flH_13 _ _ _, flH_14 _ _ _⟩
      rw [bad _ _ _ _ rf]
      exact T_some ⟨fun a ha => flH_ne ha, rf, fun q h => by cases h⟩
    | inr t' =>
      simp only
      obtain ⟨k1, k2, k3⟩ := pAcc_inr hq
      subst k3
      have hp := mn t k2 (by omega)
      have g1 := RP_t (t' := t + 1) g (by omega) hp
      obtain ⟨⟨n1, n2, n3⟩, ⟨-, p2, p3, -⟩, ⟨-, w2, w3, -⟩, -⟩ := g1.2.2.2.1
      simp only at n1 n2 p2 p3 w2 w3
      have w3' := g.2.2.1.2.2
      simp only at w3'
      refine T_mono (c_name_L (F := F' + 1) (h0 := h) (t := t) tk k2 k1 hp (X 25 0).toNat (F' + 1) 0 _ w (by decide) (by omega) (by omega) (fun a ha => rd_wr_ne ha) g1 (fun q => Or.inl (w3' q).2)) (fun v h' q => ⟨q.2.1, q.2.2, fun z hz => ?_⟩)
      cases hz
      rw [q.1]
      rfl
