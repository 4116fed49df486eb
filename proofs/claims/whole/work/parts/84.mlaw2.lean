/-! the reference reads a law, whole -/
theorem wdt_130 {a : Int} (h : 219 ≤ a ∧ a ≤ 223) : wdt a = 130 := by unfold wdt; rw [if_neg (by omega), if_neg (by omega), if_neg (by omega), if_neg (by omega), if_pos (by omega)]
/-- a row of the branch that is being told is written -/
theorem RP_br {hb h : Hp} {K P : Nat → Int} {t : Nat} {X : Nat → Int → Int} {Λ : Nat → Lw} {w : Int × Int} {bb cb a v : Int} (g : RP hb h K P (t, X, Λ, w) bb cb) (ha : 219 ≤ a ∧ a ≤ 223) : RP hb (wr h a bb v) K P (t, X, Λ, w) bb cb := by
  obtain ⟨f, ⟨h11, ht, h13, h12⟩, ⟨w1, w2, w3⟩, x, ⟨l1, l2, l3, l4, l5⟩⟩ := g
  refine ⟨Fp_wr f (by omega) (by rw [wdt_130 ha]; omega), ⟨by rw [rd_wr_ne (by omega)]; exact h11, ht, by rw [rd_wr_ne (by omega)]; exact h13, by rw [rd_wr_ne (by omega)]; exact h12⟩, ⟨by rw [rd_wr_ne (by omega)]; exact w1, w2, fun q => by rw [rd_wr_ne (by omega)]; exact w3 q⟩, Rx_eq (fun b h1 h2 => rd_wr_ne (by omega)) (by rw [rd_wr_ne (by omega)]) x, ⟨by rw [rd_wr_ne (by omega)]; exact l1, by rw [rd_wr_ne (by omega)]; exact l2, l3, l4, fun k hk => LB_eq ⟨fun b j h1 h2 h3 => ?_, fun b j h1 h2 _ _ => by rw [rd_wr_ne (by omega)]⟩ (Int.le_refl _) (Int.le_refl _) (by rw [rd_wr_ne (by omega)]) (by rw [rd_wr_ne (by omega)]) (l5 k hk)⟩⟩
  rw [rd_wr, if_neg (by omega)]
theorem RBl_br {h : Hp} {lo cb bb b0 a v : Int} {L : Lw} (g : RBl h lo cb b0 L) (hl : b0 + L.length ≤ bb) (ha : 219 ≤ a ∧ a ≤ 223) : RBl (wr h a bb v) lo cb b0 L := by
  refine RBl_eq (bb := bb) ⟨fun b j h1 h2 h3 => ?_, fun b j h1 h2 _ _ => by rw [rd_wr_ne (by omega)]⟩ (Int.le_refl _) L b0 hl g
  rw [rd_wr, if_neg (by omega)]
theorem t_term {F : Nat} {hb h : Hp} {K V P M : Nat → Int} {t : Nat} {X : Nat → Int → Int} {Λ : Nat → Lw} {w : Int × Int} {bb cb : Int} (hF : 1000 ≤ F) (tk : RTk hb K V P M) (mn : Mn K P) (hs : rd hb 194 19 = 0 ∨ rd hb 194 19 = 1) (g : RP hb h K P (t, X, Λ, w) bb cb) (hc : cb ≤ 420 * rd hb 194 19 + t) (hbb : bb < 130 * rd hb 194 19 + 110) :
    T (Mod_term F 194 h) (fun _ h' => match pE K V P t [] with
      | Sum.inl e => RFb hb h' e.1 e.2 (bb + 1)
      | Sum.inr q => RP hb h' K P (q.1, X, Λ, w) (bb + 1) (cb + q.2.length) ∧ cb + q.2.length ≤ 420 * rd hb 194 19 + q.1 ∧ t < q.1 ∧ segB h' (420 * rd hb 194 19) (cb + q.2.length) (rd h' 222 bb) (rd h' 223 bb) q.2 ∧ rd h' 222 bb = cb ∧ (∀ a j, 219 ≤ a → a ≤ 221 → rd h' a j = rd h a j) ∧ Eqc h h' cb bb) := by
  have f := g.1
  have s := f.2.1
  have e19 := Fp_19 f
  have l := g.2.2.2.2
  obtain ⟨l1, l2, l3, l4, -⟩ := l
  have g1 := RP_br (a := 222) (v := cb) g (by decide)
  have s1 := g1.1.2.1
  unfold Mod_term
  rw [gM42 s, gM38 s, l1, gM44 s, l2, sM42 s (by omega) (by omega), gM13 s1, g1.2.1.2.2.1, if_pos rfl, ivM s1]
  refine T_cl (t_expr hF tk mn hs g1 hc) (fun _ h2 q => ?_)
  unfold Mod_term_B24
  cases hq : pE K V P t [] with
  | inl e =>
    rw [hq] at q
    have q' : RFb hb h2 e.1 e.2 bb := q
    have s2 := q'.1.1.2.1
    have g2 := RFb_wr (a := 223) (v := rd h2 194 44) q' (by decide) (by omega)
    have s3 := g2.1.1.2.1
    rw [gM43 s2, gM38 s2, q'.2, gM44 s2, sM43 s2 (by omega) (by omega), gM38 s3, g2.2, w32_id (x := bb + 1) (by omega) (by omega), pM38 s3]
    exact T_some ⟨⟨Fp_f g2.1.1 (sh38 s3 _) (by decide), g2.1.2.1, by rw [rd_i (by decide)]; exact g2.1.2.2.1, by rw [rd_i (by decide)]; exact g2.1.2.2.2⟩, rd_same _ _ _ _⟩
  | inr r =>
    rw [hq] at q
    obtain ⟨rp, cc, tt, ex, ec, eq, eqc⟩ := q
    have s2 := rp.1.2.1
    obtain ⟨m1, m2, m3, m4, -⟩ := rp.2.2.2.2
    have g3 := RP_br (a := 223) (v := cb + r.2.length) rp (by decide)
    have s3 := g3.1.2.1
    have n1 := g3.2.2.2.2.1
    rw [gM43 s2, gM38 s2, m1, gM44 s2, m2, sM43 s2 (by omega) (by omega), gM38 s3, n1, w32_id (x := bb + 1) (by omega) (by omega), pM38 s3]
    have r22 : rd (wr (wr h2 223 bb (cb + r.2.length)) 194 38 (bb + 1)) 222 bb = cb := by rw [rd_wr_ne (by decide), rd_wr_ne (by decide), eq 222 (by decide) (by decide), rd_same]
    have r23 : rd (wr (wr h2 223 bb (cb + r.2.length)) 194 38 (bb + 1)) 223 bb = cb + r.2.length := by rw [rd_wr_ne (by decide), rd_same]
    have r2x : ∀ a, a ≠ 223 → a ≠ 194 → rd (wr (wr h2 223 bb (cb + r.2.length)) 194 38 (bb + 1)) a = rd h2 a := fun a h1 h2' => by rw [rd_wr_ne h2', rd_wr_ne h1]
    refine T_some ⟨?_, cc, tt, ?_, r22, fun a j h1 h2' => ?_, ?_⟩
    · obtain ⟨f3, ⟨h11, ht, h13, h12⟩, ⟨w1, w2, w3⟩, x, ⟨o1, o2, o3, o4, o5⟩⟩ := g3
      exact ⟨Fp_f f3 (sh38 s3 _) (by decide), ⟨by rw [rd_i (by decide)]; exact h11, ht, by rw [rd_i (by decide)]; exact h13, by rw [rd_i (by decide)]; exact h12⟩, ⟨by rw [rd_i (by decide)]; exact w1, w2, fun q => by rw [rd_i (by decide)]; exact w3 q⟩, Rx_eq (fun b h1 h2 => rd_wr_ne (by omega)) (rd_i (by decide)) x, ⟨rd_same _ _ _ _, by rw [rd_i (by decide)]; exact o2, by omega, o4, fun k hk => LB_eq ⟨fun b j h1 h2 _ => by rw [rd_wr_ne (by omega)], fun b j h1 h2 _ _ => by rw [rd_wr_ne (by omega)]⟩ (Int.le_refl _) (by omega) (by rw [rd_wr_ne (by decide)]) (by rw [rd_wr_ne (by decide)]) (o5 k hk)⟩⟩
    · rw [r22, r23]
      exact ⟨by omega, rfl, Int.le_refl _, by rw [r2x 224 (by decide) (by decide), r2x 225 (by decide) (by decide)]; exact ec, ex⟩
    · rw [r2x a (by omega) (by omega), eq a h1 (by omega), rd_wr_ne (by omega)]
    · refine ⟨fun a j h1 h2' h3 => ?_, fun a j h1 h2' h3 h4 => ?_⟩
      · by_cases e3 : a = 223
        · subst e3
          rw [rd_wr_ne (by decide), rd_i (by omega), eq 223 (by decide) (by decide), rd_wr_ne (by decide)]
        · rw [r2x a e3 (by omega), eq a h1 h2', rd_wr, if_neg (by omega)]
      · rw [r2x a (by omega) (by omega), eqc.2 a j h1 h2' h3 h4, rd_wr_ne (by omega)]
theorem Eqc_br {h : Hp} {cb bb a v : Int} (ha : 219 ≤ a ∧ a ≤ 223) : Eqc h (wr h a bb v) cb bb := ⟨fun b j h1 h2 h3 => by rw [rd_wr, if_neg (by omega)], fun b j h1 h2 _ _ => by rw [rd_wr_ne (by omega)]⟩
theorem Eqc_on {h h' : Hp} {cb bb : Int} (o : On h h') : Eqc h h' cb bb := ⟨fun b j h1 h2 h3 => by rw [o b (by omega)], fun b j h1 h2 _ _ => by rw [o b (by omega)]⟩
theorem Eqc_trans {h h' h'' : Hp} {cb cb' bb bb' : Int} (a : Eqc h h' cb bb) (b : Eqc h' h'' cb' bb') (hc : cb ≤ cb') (hb : bb ≤ bb') : Eqc h h'' cb bb := ⟨fun x j h1 h2 h3 => (b.1 x j h1 h2 (by omega)).trans (a.1 x j h1 h2 h3), fun x j h1 h2 h3 h4 => (b.2 x j h1 h2 h3 (by omega)).trans (a.2 x j h1 h2 h3 h4)⟩
/-- between two tells -/
def RT (hb h : Hp) (K P : Nat → Int) (s : Sg) : Prop := ∃ bb cb, RP hb h K P s bb cb ∧ 4 * (bb - 130 * rd hb 194 19) ≤ s.1 ∧ cb ≤ 420 * rd hb 194 19 + s.1
def RS (hb h : Hp) (K P : Nat → Int) (r : (Int × Int) ⊕ Sg) : Prop := match r with
  | Sum.inr s => RT hb h K P s
  | Sum.inl e => RF hb h e.1 e.2
/-- a TOKEN is asked for: both ways -/
theorem t_must2 {F : Nat} {hb h : Hp} {K V P M : Nat → Int} {t : Nat} {X : Nat → Int → Int} {Λ : Nat → Lw} {w : Int × Int} {bb cb c d : Int} (tk : RTk hb K V P M) (mn : Mn K P) (g : RP hb h K P (t, X, Λ, w) bb cb) (hd : KdOk d) (hd2 : d ≠ 20) (e : phi d = c) : T (Mod_must F 194 c h) (fun _ h' => On h h' ∧ match pAcc K P d t with | Sum.inr t' => RP hb h' K P (t', X, Λ, w) bb cb | Sum.inl q => RFb hb h' q.1 q.2 bb) := by
  have g0 : CH hb h K P X Λ bb cb (Sum.inr (t, w, [])) := g
  have m1 := m_must (F := F) g.1.2.1 (Fp_tk g.1 tk) g.2.1 hd e
  obtain ⟨v, h', e1, o, c1⟩ := c_must (F := F) (d := d) tk mn g0 hd hd2 e
  refine ⟨v, h', e1, o, ?_⟩
  have c2 : CH hb h' K P X Λ bb cb (rbd (pAcc K P d t) (fun t' => Sum.inr (t', w, []))) := c1
  cases hq : pAcc K P d t with
  | inr t' => rw [hq] at c2; exact c2
  | inl q =>
    rw [hq] at c2
    rw [m1] at e1
    simp only at e1
    rw [hq] at e1
    cases e1
    refine ⟨c2, ?_⟩
    show rd (flH h q.1 q.2) 194 38 = bb
    rw [flH_f (by decide)]
    exact g.2.2.2.2.1
theorem t_law_L {F : Nat} {hb : Hp} {K V P M : Nat → Int} {X : Nat → Int → Int} {Λ : Nat → Lw} {w : Int × Int} {b0 k : Int} (hF : 1000 ≤ F) (tk : RTk hb K V P M) (mn : Mn K P) (hs : rd hb 194 19 = 0 ∨ rd hb 194 19 = 1) (hk : 0 ≤ k ∧ k < 5) (hb0 : 130 * rd hb 194 19 ≤ b0) :
    ∀ (n N t : Nat) (L : Lw) (h : Hp) (cb : Int), L.length + n = 4 → n + 2 ≤ N → RP hb h K P (t, X, Λ, w) (b0 + L.length) cb → RBl h (420 * rd hb 194 19) cb b0 L → cb ≤ 420 * rd hb 194 19 + t → 4 * (b0 + L.length - 130 * rd hb 194 19) + 2 ≤ t →
    T (Mod_tellLaw_L12 F N 194 k b0 L.length h) (fun _ h' => RS hb h' K P (rbd (pIf K V P n t L) (fun q => rbd (pAcc K P 59 q.1) (fun t' => Sum.inr (t', X, (fun j => if (j : Int) = k then q.2 else Λ j), w))))) := by
  -- the last branch
  have last : ∀ (t : Nat) (L : Lw) (h : Hp) (cb : Int), L.length ≤ 4 → RP hb h K P (t, X, Λ, w) (b0 + L.length) cb → RBl h (420 * rd hb 194 19) cb b0 L → cb ≤ 420 * rd hb 194 19 + t → 4 * (b0 + L.length - 130 * rd hb 194 19) + 2 ≤ t → T (Mod_tellLaw_B129 F 194 k b0 h) (fun _ h' => RS hb h' K P (rbd (rbd (pE K V P t []) (fun q => Sum.inr (q.1, L ++ [(none, q.2)]))) (fun q => rbd (pAcc K P 59 q.1) (fun t' => Sum.inr (t', X, (fun j => if (j : Int) = k then q.2 else Λ j), w))))) := by
    intro t L h cb hL g bl hc ht4
    have ht := g.2.1.2.1
    simp only at ht
    have s := g.1.2.1
    obtain ⟨l1, l2, l3, l4, -⟩ := g.2.2.2.2
    have g1 := RP_br (a := 219) (v := 0) g (by decide)
    have s1 := g1.1.2.1
    have bl1 := RBl_br (a := 219) (bb := b0 + L.length) (v := 0) bl (Int.le_refl _) (by decide)
    unfold Mod_tellLaw_B129
    rw [gM39 s, gM38 s, l1, sM39 s (by omega) (by omega) (Or.inl rfl), ivM s1]
    refine T_cl (t_term hF tk mn hs g1 hc (by omega)) (fun _ h2 q => ?_)
    cases hq : pE K V P t [] with
    | inl e =>
      rw [hq] at q
      have q' : RFb hb h2 e.1 e.2 (b0 + L.length + 1) := q
      rw [ivM q'.1.1.2.1, rf_must q'.1, cl_some, gM13 q'.1.1.2.1, if_pos (RF_pos q'.1)]
      exact T_some q'.1
    | inr r =>
      rw [hq] at q
      obtain ⟨rp, cc, tt, sg, r22, eq, eqc⟩ := q
      rw [ivM rp.1.2.1]
      refine T_cl (t_must2 (d := 59) tk mn rp (by unfold KdOk; decide) (by decide) rfl) (fun _ h3 q3 => ?_)
      obtain ⟨on, q3⟩ := q3
      show T _ (fun _ h' => RS hb h' K P (rbd (pAcc K P 59 r.1) (fun t' => Sum.inr (t', X, (fun j => if (j : Int) = k then L ++ [(none, r.2)] else Λ j), w))))
      cases ha : pAcc K P 59 r.1 with
      | inl e =>
        rw [ha] at q3
        have q' : RFb hb h3 e.1 e.2 (b0 + L.length + 1) := q3
        rw [gM13 q'.1.1.2.1, if_pos (RF_pos q'.1)]
        exact T_some q'.1
      | inr t' =>
        rw [ha] at q3
        have q' : RP hb h3 K P (t', X, Λ, w) (b0 + L.length + 1) (cb + r.2.length) := q3
        obtain ⟨-, k2, k3⟩ := pAcc_inr ha
        have s3 := q'.1.2.1
        have e193 := Fp_19 q'.1
        obtain ⟨f3, ⟨h11, ht', h13, h12⟩, ⟨w1, w2, w3⟩, x, ⟨o1, o2, o3, o4, o5⟩⟩ := q'
        simp only at h11 ht' w1 w2 w3 x o1 o2 o3 o4 o5
        -- the branches all together
        have eq13 : Eqc (wr h 219 (b0 + L.length) 0) h3 cb (b0 + L.length) := Eqc_trans eqc (Eqc_on on) (Int.le_refl _) (Int.le_refl _)
        have blA := RBl_eq (cb' := cb + r.2.length) eq13 (by omega) L b0 (Int.le_refl _) bl1
        have rb : RBc h3 (420 * rd hb 194 19) (cb + r.2.length) (b0 + L.length) (none, r.2) := by
          refine ⟨?_, ?_⟩
          · rw [on 222 (by decide), on 223 (by decide)]
            exact segB_eq (Eqc_on on (bb := 0)) (Int.le_refl _) sg
          · show rd h3 219 (b0 + L.length) = 0
            rw [on 219 (by decide), eq 219 _ (by decide) (by decide), rd_same]
        have blB : RBl h3 (420 * rd hb 194 19) (cb + r.2.length) b0 (L ++ [(none, r.2)]) := RBl_app L [(none, r.2)] b0 blA ⟨rb, trivial⟩
        have hll : ((L ++ [(none, r.2)] : Lw).length : Int) = L.length + 1 := by simp
        have w5 : wdt 217 = 5 ∧ wdt 218 = 5 := by decide
        have f4 : Fp hb (wr h3 217 (5 * rd hb 194 19 + k) b0) := Fp_wr f3 (by decide) (by rw [w5.1]; omega)
        have f5 : Fp hb (wr (wr h3 217 (5 * rd hb 194 19 + k) b0) 218 (5 * rd hb 194 19 + k) (b0 + L.length + 1)) := Fp_wr f4 (by decide) (by rw [w5.2]; omega)
        have b19 : rd (wr h3 217 (5 * rd hb 194 19 + k) b0) 194 19 = rd hb 194 19 := Fp_19 f4
        have b38 : rd (wr h3 217 (5 * rd hb 194 19 + k) b0) 194 38 = b0 + L.length + 1 := by rw [rd_wr_ne (by decide)]; exact o1
        rw [gM13 s3, h13, if_neg (by decide), gM36 s3, gM19 s3, e193, w32_id (x := 5 * rd hb 194 19) (by omega) (by omega), w32_id (x := 5 * rd hb 194 19 + k) (by omega) (by omega), sM36 s3 (by omega) (by omega), gM37 f4.2.1, gM19 f4.2.1, b19, gM38 f4.2.1, b38, w32_id (x := 5 * rd hb 194 19) (by omega) (by omega), w32_id (x := 5 * rd hb 194 19 + k) (by omega) (by omega), sM37 f4.2.1 (by omega) (by omega)]
        have R : ∀ a, a ≠ 217 → a ≠ 218 → rd (wr (wr h3 217 (5 * rd hb 194 19 + k) b0) 218 (5 * rd hb 194 19 + k) (b0 + L.length + 1)) a = rd h3 a := fun a h1 h2 => by rw [rd_wr_ne h2, rd_wr_ne h1]
        refine T_some ⟨b0 + L.length + 1, cb + r.2.length, ⟨f5, ⟨by rw [R _ (by decide) (by decide)]; exact h11, ht', by rw [R _ (by decide) (by decide)]; exact h13, by rw [R _ (by decide) (by decide)]; exact h12⟩, ⟨by rw [R _ (by decide) (by decide)]; exact w1, w2, fun q => by rw [R _ (by decide) (by decide)]; exact w3 q⟩, Rx_eq (fun a h1 h2 => R a (by omega) (by omega)) (by rw [R _ (by decide) (by decide)]) x, ⟨by rw [R _ (by decide) (by decide)]; exact o1, by rw [R _ (by decide) (by decide)]; exact o2, o3, o4, fun j hj => ?_⟩⟩, by show 4 * (b0 + L.length + 1 - 130 * rd hb 194 19) ≤ t'; omega, by show cb + r.2.length ≤ 420 * rd hb 194 19 + t'; omega⟩
        have ee : Eqc h3 (wr (wr h3 217 (5 * rd hb 194 19 + k) b0) 218 (5 * rd hb 194 19 + k) (b0 + L.length + 1)) (cb + r.2.length) (b0 + L.length + 1) := ⟨fun a j h1 h2 _ => by rw [R a (by omega) (by omega)], fun a j h1 h2 _ _ => by rw [R a (by omega) (by omega)]⟩
        by_cases hj' : (j : Int) = k
        · simp only
          rw [if_pos hj', hj']
          have v7 : rd (wr (wr h3 217 (5 * rd hb 194 19 + k) b0) 218 (5 * rd hb 194 19 + k) (b0 + L.length + 1)) 217 (5 * rd hb 194 19 + k) = b0 := by rw [rd_wr_ne (by decide), rd_same]
          have v8 : rd (wr (wr h3 217 (5 * rd hb 194 19 + k) b0) 218 (5 * rd hb 194 19 + k) (b0 + L.length + 1)) 218 (5 * rd hb 194 19 + k) = b0 + L.length + 1 := rd_same _ _ _ _
          unfold LB
          rw [v7, v8]
          exact ⟨by omega, by rw [hll]; omega, Or.inr ⟨hb0, Int.le_refl _⟩, by omega, RBl_eq ee (Int.le_refl _) _ b0 (by rw [hll]; omega) blB⟩
        · simp only
          rw [if_neg hj']
          exact LB_eq ee (Int.le_refl _) (Int.le_refl _) (by rw [rd_wr_ne (by decide), rd_i (by omega)]) (by rw [rd_i (by omega), rd_wr_ne (by decide)]) (o5 j hj)
  intro n
  induction n with
  | zero =>
    intro N t L h cb hL hN g bl hc ht4
    obtain ⟨N, rfl⟩ : ∃ j, N = j + 1 := ⟨N - 1, by omega⟩
    have s := g.1.2.1
    have tk' := Fp_tk g.1 tk
    obtain ⟨h11, ht, h13, h12⟩ := g.2.1
    simp only at h11 ht
    show T (Mod_tellLaw_L12s F (Mod_tellLaw_L12 F N) 194 k b0 L.length h) _
    unfold Mod_tellLaw_L12s pIf
    rw [gM13 s, h13, if_pos rfl]
    by_cases k10 : K t = 10
    · rw [ivM s, m_isY 30 10 s tk' ht h11 (by unfold KdOk; decide) rfl h13 k10, cl_some, if_neg (by decide), if_pos (by omega), ivM s, m_fail (F := F) s tk' ht h11 h13, cl_some, if_pos k10]
      unfold Mod_tellLaw_B38
      rw [gM13 (flH_sh s _ _), flH_13, if_pos (by decide)]
      exact T_some (RF_of g (by decide))
    · rw [ivM s, m_isN 30 10 s tk' ht h11 (by unfold KdOk; decide) rfl (fun q => k10 q.2), cl_some, if_pos rfl, if_neg k10]
      exact last t L h cb (by omega) g bl hc ht4
  | succ n ih =>
    intro N t L h cb hL hN g bl hc ht4
    obtain ⟨N, rfl⟩ : ∃ j, N = j + 1 := ⟨N - 1, by omega⟩
    have s := g.1.2.1
    have tk' := Fp_tk g.1 tk
    obtain ⟨h11, ht, h13, h12⟩ := g.2.1
    simp only at h11 ht
    have l := g.2.2.2.2
    obtain ⟨l1, l2, l3, l4, -⟩ := l
    show T (Mod_tellLaw_L12s F (Mod_tellLaw_L12 F N) 194 k b0 L.length h) _
    unfold Mod_tellLaw_L12s
    rw [gM13 s, h13, if_pos rfl]
    by_cases k10 : K t = 10
    · have ep : pIf K V P (n + 1) t L = rbd (pAcc K P 10 t) (fun t1 => rbd (pE K V P t1 []) (fun a => rbd (pAcc K P 60 a.1) (fun t2 => rbd (pE K V P t2 []) (fun b => rbd (pAcc K P 11 b.1) (fun t3 => rbd (pE K V P t3 []) (fun c => rbd (pAcc K P 12 c.1) (fun t4 => pIf K V P n t4 (L ++ [(some (a.2, b.2), c.2)])))))))) := by
        show (if K t = 10 then _ else _) = _
        rw [if_pos k10]
      rw [ivM s, m_isY 30 10 s tk' ht h11 (by unfold KdOk; decide) rfl h13 k10, cl_some, if_neg (by decide), if_neg (by omega), ep]
      unfold Mod_tellLaw_B38
      rw [gM13 s, h13, if_neg (by decide), ivM s, m_goesOn (F := F) s tk' ht h11 h13, cl_some]
      have ac : pAcc K P 10 t = if t < 400 then Sum.inr (t + 1) else Sum.inl (2, P t) := by unfold pAcc; rw [if_pos k10]
      rw [ac]
      obtain ⟨N, rfl⟩ : ∃ j, N = j + 1 := ⟨N - 1, by omega⟩
      have lw : w32 ((L.length : Int) + 1) = (L.length : Int) + 1 := w32_id (by omega) (by omega)
      by_cases h4 : t < 400
      · rw [if_pos h4, if_pos h4]
        have g1 := RP_t (t' := t + 1) g (by omega) (mn t h4 (by omega))
        have bl1 : RBl (wr h 194 11 ((t + 1 : Nat) : Int)) (420 * rd hb 194 19) cb b0 L := RBl_eq (bb := b0 + L.length) (Eqc_on (fun a ha => rd_wr_ne ha)) (Int.le_refl _) L b0 (Int.le_refl _) bl
        generalize wr h 194 11 ((t + 1 : Nat) : Int) = h1 at g1 bl1
        have s1 := g1.1.2.1
        have g2 := RP_br (a := 219) (v := 1) g1 (by decide)
        have s2 := g2.1.2.1
        have bl2 := RBl_br (a := 219) (bb := b0 + L.length) (v := 1) bl1 (Int.le_refl _) (by decide)
        have g3 := RP_br (a := 220) (v := cb) g2 (by decide)
        have s3 := g3.1.2.1
        have bl3 := RBl_br (a := 220) (bb := b0 + L.length) (v := cb) bl2 (Int.le_refl _) (by decide)
        rw [gM39 s1, gM38 s1, g1.2.2.2.2.1, sM39 s1 (by omega) (by omega) (Or.inr rfl), gM40 s2, gM38 s2, g2.2.2.2.2.1, gM44 s2, g2.2.2.2.2.2.1, sM40 s2 (by omega) (by omega), ivM s3]
        have v9 : rd (wr (wr h1 219 (b0 + L.length) 1) 220 (b0 + L.length) cb) 219 (b0 + L.length) = 1 := by rw [rd_wr_ne (by decide), rd_same]
        have v20 : rd (wr (wr h1 219 (b0 + L.length) 1) 220 (b0 + L.length) cb) 220 (b0 + L.length) = cb := rd_same _ _ _ _
        generalize wr (wr h1 219 (b0 + L.length) 1) 220 (b0 + L.length) cb = hx at g3 s3 bl3 v9 v20
        refine T_cl (t_expr hF tk mn hs g3 (by omega)) (fun _ h4' q => ?_)
        show T _ (fun _ h' => RS hb h' K P (rbd (rbd (pE K V P (t + 1) []) (fun a => rbd (pAcc K P 60 a.1) (fun t2 => rbd (pE K V P t2 []) (fun b => rbd (pAcc K P 11 b.1) (fun t3 => rbd (pE K V P t3 []) (fun c => rbd (pAcc K P 12 c.1) (fun t4 => pIf K V P n t4 (L ++ [(some (a.2, b.2), c.2)])))))))) (fun q => rbd (pAcc K P 59 q.1) (fun t' => Sum.inr (t', X, (fun j => if (j : Int) = k then q.2 else Λ j), w)))))
        -- from a FAULT on, behind the first side
        have f1 : ∀ (hq : Hp) (c p : Int), RFb hb hq c p (b0 + L.length) → T (gf hq 194 112 41 fun v38 => gf hq 194 112 38 fun v39 => gf hq 194 112 44 fun v40 => as hq v38 0 v39 v40 fun h41 => gf h41 194 112 13 fun v42 => if v42 = 0 then iv h41 194 112 (Mod_expression F 194 h41) fun r43 h44 => Mod_tellLaw_B110 F (Mod_tellLaw_L12 F (N + 1)) 194 k b0 (w32 ((L.length : Int) + 1)) h44 else Mod_tellLaw_B110 F (Mod_tellLaw_L12 F (N + 1)) 194 k b0 (w32 ((L.length : Int) + 1)) h41) (fun _ h' => RF hb h' c p) := by
          intro hq c p rf
          have sq := rf.1.1.2.1
          have r1 := RFb_wr (a := 221) (v := rd hq 194 44) rf (by decide) (by omega)
          have := RF_pos r1.1
          rw [gM41 sq, gM38 sq, rf.2, gM44 sq, sM41 sq (by omega) (by omega), gM13 r1.1.1.2.1, if_neg (by omega)]
          exact rf_110 hs r1 (by omega)
        cases hq1 : pE K V P (t + 1) [] with
        | inl e =>
          rw [hq1] at q
          have q' : RFb hb h4' e.1 e.2 (b0 + L.length) := q
          rw [ivM q'.1.1.2.1, rf_must q'.1, cl_some]
          exact f1 h4' e.1 e.2 q'
        | inr A =>
          rw [hq1] at q
          obtain ⟨ra, ca, ta, exa, eca, eqa, eqca⟩ := q
          rw [ivM ra.1.2.1]
          refine T_cl (t_must2 (d := 60) tk mn ra (by unfold KdOk; decide) (by decide) rfl) (fun _ h5 q => ?_)
          obtain ⟨on5, q⟩ := q
          show T _ (fun _ h' => RS hb h' K P (rbd (rbd (pAcc K P 60 A.1) (fun t2 => rbd (pE K V P t2 []) (fun b => rbd (pAcc K P 11 b.1) (fun t3 => rbd (pE K V P t3 []) (fun c => rbd (pAcc K P 12 c.1) (fun t4 => pIf K V P n t4 (L ++ [(some (A.2, b.2), c.2)]))))))) (fun q => rbd (pAcc K P 59 q.1) (fun t' => Sum.inr (t', X, (fun j => if (j : Int) = k then q.2 else Λ j), w)))))
          cases hq2 : pAcc K P 60 A.1 with
          | inl e =>
            rw [hq2] at q
            exact f1 h5 e.1 e.2 q
          | inr t2 =>
            rw [hq2] at q
            have g5 : RP hb h5 K P (t2, X, Λ, w) (b0 + L.length) (cb + A.2.length) := q
            obtain ⟨-, k21, k22⟩ := pAcc_inr hq2
            have s5 := g5.1.2.1
            have g6 := RP_br (a := 221) (v := cb + A.2.length) g5 (by decide)
            have s6 := g6.1.2.1
            rw [gM41 s5, gM38 s5, g5.2.2.2.2.1, gM44 s5, g5.2.2.2.2.2.1, sM41 s5 (by omega) (by omega), gM13 s6, g6.2.1.2.2.1, if_pos rfl, ivM s6]
            refine T_cl (t_expr hF tk mn hs g6 (by omega)) (fun _ h7 q => ?_)
            show T _ (fun _ h' => RS hb h' K P (rbd (rbd (pE K V P t2 []) (fun b => rbd (pAcc K P 11 b.1) (fun t3 => rbd (pE K V P t3 []) (fun c => rbd (pAcc K P 12 c.1) (fun t4 => pIf K V P n t4 (L ++ [(some (A.2, b.2), c.2)])))))) (fun q => rbd (pAcc K P 59 q.1) (fun t' => Sum.inr (t', X, (fun j => if (j : Int) = k then q.2 else Λ j), w)))))
            cases hq3 : pE K V P t2 [] with
            | inl e =>
              rw [hq3] at q
              exact rf_110 hs q (by omega)
            | inr B =>
              rw [hq3] at q
              obtain ⟨rbb, cbb, tbb, exb, ecb, eqb, eqcb⟩ := q
              unfold Mod_tellLaw_B110
              rw [ivM rbb.1.2.1]
              refine T_cl (t_must2 (d := 11) tk mn rbb (by unfold KdOk; decide) (by decide) rfl) (fun _ h8 q => ?_)
              obtain ⟨on8, q⟩ := q
              show T _ (fun _ h' => RS hb h' K P (rbd (rbd (pAcc K P 11 B.1) (fun t3 => rbd (pE K V P t3 []) (fun c => rbd (pAcc K P 12 c.1) (fun t4 => pIf K V P n t4 (L ++ [(some (A.2, B.2), c.2)]))))) (fun q => rbd (pAcc K P 59 q.1) (fun t' => Sum.inr (t', X, (fun j => if (j : Int) = k then q.2 else Λ j), w)))))
              -- from a FAULT on, behind 'then'
              have f3 : ∀ (hq : Hp) (c p b : Int), RFb hb hq c p b → 130 * rd hb 194 19 ≤ b → b < 130 * rd hb 194 19 + 120 → T (iv hq 194 112 (Mod_must F 194 32 hq) fun r49 h50 => Mod_tellLaw_L12 F (N + 1) 194 k b0 (w32 ((L.length : Int) + 1)) h50) (fun _ h' => RF hb h' c p) := by
                intro hq c p b rf hb1 hb2
                have sq := rf.1.1.2.1
                have := RF_pos rf.1
                rw [ivM sq, rf_must rf.1, cl_some]
                show T (Mod_tellLaw_L12s F (Mod_tellLaw_L12 F N) 194 k b0 _ hq) _
                unfold Mod_tellLaw_L12s
                rw [gM13 sq, if_neg (by omega)]
                exact rf_129 hs rf (by omega)
              cases hq4 : pAcc K P 11 B.1 with
              | inl e =>
                rw [hq4] at q
                have q' : RFb hb h8 e.1 e.2 (b0 + L.length) := q
                rw [ivM q'.1.1.2.1]
                exact T_cl (rf_term hs q' (by omega)) (fun _ h9 q9 => f3 h9 e.1 e.2 _ q9 (by omega) (by omega))
              | inr t3 =>
                rw [hq4] at q
                have g8 : RP hb h8 K P (t3, X, Λ, w) (b0 + L.length) (cb + A.2.length + B.2.length) := q
                obtain ⟨-, k41, k42⟩ := pAcc_inr hq4
                have s8 := g8.1.2.1
                rw [ivM s8]
                refine T_cl (t_term hF tk mn hs g8 (by omega) (by omega)) (fun _ h9 q => ?_)
                show T _ (fun _ h' => RS hb h' K P (rbd (rbd (pE K V P t3 []) (fun c => rbd (pAcc K P 12 c.1) (fun t4 => pIf K V P n t4 (L ++ [(some (A.2, B.2), c.2)])))) (fun q => rbd (pAcc K P 59 q.1) (fun t' => Sum.inr (t', X, (fun j => if (j : Int) = k then q.2 else Λ j), w)))))
                cases hq5 : pE K V P t3 [] with
                | inl e =>
                  rw [hq5] at q
                  exact f3 h9 e.1 e.2 _ q (by omega) (by omega)
                | inr C =>
                  rw [hq5] at q
                  obtain ⟨rc, cc, tc, sgc, r22, eq9, eqc9⟩ := q
                  rw [ivM rc.1.2.1]
                  refine T_cl (t_must2 (d := 12) tk mn rc (by unfold KdOk; decide) (by decide) rfl) (fun _ h10 q => ?_)
                  obtain ⟨on10, q⟩ := q
                  show T _ (fun _ h' => RS hb h' K P (rbd (rbd (pAcc K P 12 C.1) (fun t4 => pIf K V P n t4 (L ++ [(some (A.2, B.2), C.2)]))) (fun q => rbd (pAcc K P 59 q.1) (fun t' => Sum.inr (t', X, (fun j => if (j : Int) = k then q.2 else Λ j), w)))))
                  cases hq6 : pAcc K P 12 C.1 with
                  | inl e =>
                    rw [hq6] at q
                    have q' : RFb hb h10 e.1 e.2 (b0 + L.length + 1) := q
                    have := RF_pos q'.1
                    show T (Mod_tellLaw_L12s F (Mod_tellLaw_L12 F N) 194 k b0 _ h10) _
                    unfold Mod_tellLaw_L12s
                    rw [gM13 q'.1.1.2.1, if_neg (by omega)]
                    exact rf_129 hs q' (by omega)
                  | inr t4 =>
                    rw [hq6] at q
                    obtain ⟨-, k61, k62⟩ := pAcc_inr hq6
                    have g10 : RP hb h10 K P (t4, X, Λ, w) (b0 + L.length + 1) (cb + A.2.length + B.2.length + C.2.length) := q
                    have hll : ((L ++ [(some (A.2, B.2), C.2)] : Lw).length : Int) = L.length + 1 := by simp
                    have hll' : (L ++ [(some (A.2, B.2), C.2)] : Lw).length = L.length + 1 := by simp
                    -- the new branch
                    have w0 : Eqc hx h4' cb (b0 + L.length) := eqca
                    have w1 : Eqc h4' h5 (cb + A.2.length) (b0 + L.length) := Eqc_on on5
                    have w2 : Eqc h5 (wr h5 221 (b0 + L.length) (cb + A.2.length)) (cb + A.2.length) (b0 + L.length) := Eqc_br (by decide)
                    have w3 : Eqc (wr h5 221 (b0 + L.length) (cb + A.2.length)) h7 (cb + A.2.length) (b0 + L.length) := eqcb
                    have w4 : Eqc h7 h8 (cb + A.2.length + B.2.length) (b0 + L.length) := Eqc_on on8
                    have w5 : Eqc h8 h9 (cb + A.2.length + B.2.length) (b0 + L.length) := eqc9
                    have w6 : Eqc h9 h10 (cb + A.2.length + B.2.length + C.2.length) (b0 + L.length) := Eqc_on on10
                    have z4 := Eqc_trans w5 w6 (by omega) (Int.le_refl _)
                    have z3 := Eqc_trans w4 z4 (Int.le_refl _) (Int.le_refl _)
                    have z2 := Eqc_trans w3 z3 (by omega) (Int.le_refl _)
                    have z1 := Eqc_trans w1 (Eqc_trans w2 z2 (Int.le_refl _) (Int.le_refl _)) (Int.le_refl _) (Int.le_refl _)
                    have z0 := Eqc_trans w0 z1 (by omega) (Int.le_refl _)
                    have blA : RBl h10 (420 * rd hb 194 19) (cb + A.2.length + B.2.length + C.2.length) b0 L := RBl_eq z0 (by omega) L b0 (Int.le_refl _) bl3
                    have i22 : rd h10 222 (b0 + L.length) = cb + A.2.length + B.2.length := by rw [on10 222 (by decide)]; exact r22
                    have i21 : rd h10 221 (b0 + L.length) = cb + A.2.length := by rw [on10 221 (by decide), eq9 221 _ (by decide) (by decide), on8 221 (by decide), eqb 221 (by decide) (by decide), rd_same]
                    have i20 : rd h10 220 (b0 + L.length) = cb := by rw [on10 220 (by decide), eq9 220 _ (by decide) (by decide), on8 220 (by decide), eqb 220 (by decide) (by decide), rd_wr_ne (by decide), on5 220 (by decide), eqa 220 (by decide) (by decide)]; exact v20
                    have i19 : rd h10 219 (b0 + L.length) = 1 := by rw [on10 219 (by decide), eq9 219 _ (by decide) (by decide), on8 219 (by decide), eqb 219 (by decide) (by decide), rd_wr_ne (by decide), on5 219 (by decide), eqa 219 (by decide) (by decide)]; exact v9
                    have sA : segB h4' (420 * rd hb 194 19) (cb + A.2.length) cb (cb + A.2.length) A.2 := ⟨by omega, rfl, Int.le_refl _, eca, exa⟩
                    have sB : segB h7 (420 * rd hb 194 19) (cb + A.2.length + B.2.length) (cb + A.2.length) (cb + A.2.length + B.2.length) B.2 := ⟨by omega, rfl, Int.le_refl _, ecb, exb⟩
                    have nb : RBc h10 (420 * rd hb 194 19) (cb + A.2.length + B.2.length + C.2.length) (b0 + L.length) (some (A.2, B.2), C.2) := by
                      refine ⟨?_, ?_⟩
                      · rw [on10 222 (by decide), on10 223 (by decide)]
                        exact segB_eq w6 (Int.le_refl _) sgc
                      · show rd h10 219 (b0 + L.length) = 1 ∧ segB h10 _ _ (rd h10 220 (b0 + L.length)) (rd h10 221 (b0 + L.length)) A.2 ∧ segB h10 _ _ (rd h10 221 (b0 + L.length)) (rd h10 222 (b0 + L.length)) B.2
                        rw [i19, i20, i21, i22]
                        exact ⟨rfl, segB_eq z1 (by omega) sA, segB_eq z3 (by omega) sB⟩
                    have blB : RBl h10 (420 * rd hb 194 19) (cb + A.2.length + B.2.length + C.2.length) b0 (L ++ [(some (A.2, B.2), C.2)]) := RBl_app L _ b0 blA ⟨nb, trivial⟩
                    rw [lw, show (L.length : Int) + 1 = ((L ++ [(some (A.2, B.2), C.2)] : Lw).length : Int) by rw [hll]]
                    clear lw f1 f3
                    exact ih (N + 1) t4 _ h10 _ (by rw [hll']; omega) (by omega) (by rw [hll, ← Int.add_assoc]; exact g10) blB (by omega) (by rw [hll]; omega)
      · rw [if_neg h4, if_neg h4]
        have rf0 : RFb hb (flH h 2 (P t)) 2 (P t) (b0 + L.length) := ⟨RF_of g (by decide), by rw [flH_f (by decide)]; exact l1⟩
        have s0 := rf0.1.1.2.1
        have rf1 := RFb_wr (a := 219) (v := 1) rf0 (by decide) (by omega)
        have s1 := rf1.1.1.2.1
        have rf2 := RFb_wr (a := 220) (v := rd (wr (flH h 2 (P t)) 219 (b0 + L.length) 1) 194 44) rf1 (by decide) (by omega)
        have s2 := rf2.1.1.2.1
        rw [gM39 s0, gM38 s0, rf0.2, sM39 s0 (by omega) (by omega) (Or.inr rfl), gM40 s1, gM38 s1, rf1.2, gM44 s1, sM40 s1 (by omega) (by omega), ivM s2]
        refine T_cl (rf_expression hF rf2) (fun _ h4' q => ?_)
        rw [ivM q.1.1.2.1, rf_must q.1, cl_some]
        have sq := q.1.1.2.1
        have r1 := RFb_wr (a := 221) (v := rd h4' 194 44) q (by decide) (by omega)
        have := RF_pos r1.1
        rw [gM41 sq, gM38 sq, q.2, gM44 sq, sM41 sq (by omega) (by omega), gM13 r1.1.1.2.1, if_neg (by omega)]
        exact rf_110 hs r1 (by omega)
    · have ep : pIf K V P (n + 1) t L = rbd (pE K V P t []) (fun q => Sum.inr (q.1, L ++ [(none, q.2)])) := by
        show (if K t = 10 then _ else _) = _
        rw [if_neg k10]
      rw [ivM s, m_isN 30 10 s tk' ht h11 (by unfold KdOk; decide) rfl (fun q => k10 q.2), cl_some, if_pos rfl, ep]
      exact last t L h cb (by omega) g bl hc ht4
