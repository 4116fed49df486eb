/-! the reference reads a text -/
theorem pPart_t {K V P M : Nat → Int} {s s' : Sg} (h : pPart K V P M s = Sum.inr s') : s.1 < s'.1 ∧ s'.1 ≤ 400 := by
  unfold pPart at h
  split at h
  · cases h
  · obtain ⟨q, h1, h2⟩ := rbd_inr h
    obtain ⟨q5, r5, -, a5, e6⟩ := cAcc_inr h1
    obtain ⟨q4, r4, -, -, e5⟩ := cNum_inr r5
    obtain ⟨q3, r3, -, -, e4⟩ := cNum_inr r4
    obtain ⟨q2, r2, -, -, e3⟩ := cNum_inr r3
    obtain ⟨q1, r1, -, -, e2⟩ := cNum_inr r2
    obtain ⟨qn, r0, -, -, e1⟩ := cName_inr r1
    obtain ⟨qa, ra, -, -, e0⟩ := cAcc_inr r0
    cases ra
    have : q.1 = q5.1 + 1 := by rw [e6]
    have : q5.1 = q4.1 + 1 := by rw [e5]
    have : q4.1 = q3.1 + 1 := by rw [e4]
    have : q3.1 = q2.1 + 1 := by rw [e3]
    have : q2.1 = q1.1 + 1 := by rw [e2]
    have : q1.1 = qn.1 + 1 := by rw [e1]
    have : qn.1 = s.1 + 1 := by rw [e0]
    split at h2
    · cases h2
      show s.1 < q.1 ∧ q.1 ≤ 400
      omega
    · cases h2
theorem pWork_t {K V P M : Nat → Int} {s s' : Sg} (h : pWork K V P M s = Sum.inr s') : s.1 < s'.1 ∧ s'.1 ≤ 400 := by
  unfold pWork at h
  split at h
  · cases h
  · obtain ⟨q, h1, h2⟩ := rbd_inr h
    obtain ⟨q5, r5, -, a5, e6⟩ := cAcc_inr h1
    obtain ⟨q4, r4, -, -, e5⟩ := cNum_inr r5
    obtain ⟨q3, r3, -, -, e4⟩ := cNum_inr r4
    obtain ⟨q2, r2, -, -, e3⟩ := cNum_inr r3
    obtain ⟨qn, r0, -, -, e1⟩ := cName_inr r2
    obtain ⟨qa, ra, -, -, e0⟩ := cAcc_inr r0
    cases ra
    have : q.1 = q5.1 + 1 := by rw [e6]
    have : q5.1 = q4.1 + 1 := by rw [e5]
    have : q4.1 = q3.1 + 1 := by rw [e4]
    have : q3.1 = q2.1 + 1 := by rw [e3]
    have : q2.1 = qn.1 + 1 := by rw [e1]
    have : qn.1 = s.1 + 1 := by rw [e0]
    split at h2
    · cases h2
      show s.1 < q.1 ∧ q.1 ≤ 400
      omega
    · cases h2
theorem pTwo_t {K V P : Nat → Int} {s s' : Sg} {k lo hi : Int} {a b : Nat} (h : pTwo K V P s k a b lo hi = Sum.inr s') : s.1 < s'.1 ∧ s'.1 ≤ 400 := by
  unfold pTwo at h
  obtain ⟨q, h1, h2⟩ := rbd_inr h
  obtain ⟨q5, r5, -, a5, e6⟩ := cAcc_inr h1
  obtain ⟨q4, r4, -, -, e5⟩ := cNum_inr r5
  obtain ⟨q3, r3, -, -, e4⟩ := cNum_inr r4
  obtain ⟨qa, ra, -, -, e0⟩ := cAcc_inr r3
  cases ra
  have : q.1 = q5.1 + 1 := by rw [e6]
  have : q5.1 = q4.1 + 1 := by rw [e5]
  have : q4.1 = q3.1 + 1 := by rw [e4]
  have : q3.1 = s.1 + 1 := by rw [e0]
  split at h2
  · cases h2
    show s.1 < q.1 ∧ q.1 ≤ 400
    omega
  · cases h2
theorem pOne_t {K V P : Nat → Int} {s s' : Sg} {k lo hi : Int} {a : Nat} (h : pOne K V P s k a lo hi = Sum.inr s') : s.1 < s'.1 ∧ s'.1 ≤ 400 := by
  unfold pOne at h
  obtain ⟨q, h1, h2⟩ := rbd_inr h
  obtain ⟨q5, r5, -, a5, e6⟩ := cAcc_inr h1
  obtain ⟨q4, r4, -, -, e5⟩ := cNum_inr r5
  obtain ⟨qa, ra, -, -, e0⟩ := cAcc_inr r4
  cases ra
  have : q.1 = q5.1 + 1 := by rw [e6]
  have : q5.1 = q4.1 + 1 := by rw [e5]
  have : q4.1 = s.1 + 1 := by rw [e0]
  split at h2
  · cases h2
    show s.1 < q.1 ∧ q.1 ≤ 400
    omega
  · cases h2
theorem pIf_t {K V P : Nat → Int} : ∀ (n t : Nat) (L : Lw) (q : Nat × Lw), t ≤ 400 → pIf K V P n t L = Sum.inr q → t < q.1 ∧ q.1 ≤ 400 := by
  have last : ∀ (t : Nat) (L : Lw) (q : Nat × Lw), t ≤ 400 → rbd (pE K V P t []) (fun q => Sum.inr (q.1, L ++ [(none, q.2)])) = Sum.inr q → t < q.1 ∧ q.1 ≤ 400 := by
    intro t L q ht h
    obtain ⟨r, h1, h2⟩ := rbd_inr h
    obtain ⟨g1, g2, -⟩ := Gd_S K V P 6 t [] r.1 r.2 ht h1
    cases h2
    exact ⟨g1, g2⟩
  intro n
  induction n with
  | zero =>
    intro t L q ht h
    unfold pIf at h
    split at h
    · cases h
    · exact last t L q ht h
  | succ n ih =>
    intro t L q ht h
    unfold pIf at h
    split at h
    · obtain ⟨t1, h1, h⟩ := rbd_inr h
      obtain ⟨-, k1, rfl⟩ := pAcc_inr h1
      obtain ⟨a, h2, h⟩ := rbd_inr h
      obtain ⟨g1, g2, -⟩ := Gd_S K V P 6 _ [] a.1 a.2 (by omega) h2
      obtain ⟨t2, h3, h⟩ := rbd_inr h
      obtain ⟨-, k3, rfl⟩ := pAcc_inr h3
      obtain ⟨b, h4, h⟩ := rbd_inr h
      obtain ⟨g3, g4, -⟩ := Gd_S K V P 6 _ [] b.1 b.2 (by omega) h4
      obtain ⟨t3, h5, h⟩ := rbd_inr h
      obtain ⟨-, k5, rfl⟩ := pAcc_inr h5
      obtain ⟨c, h6, h⟩ := rbd_inr h
      obtain ⟨g5, g6, -⟩ := Gd_S K V P 6 _ [] c.1 c.2 (by omega) h6
      obtain ⟨t4, h7, h⟩ := rbd_inr h
      obtain ⟨-, k7, rfl⟩ := pAcc_inr h7
      have := ih _ _ q (by omega) h
      omega
    · exact last t L q ht h
theorem pLaw_t {K V P : Nat → Int} {s s' : Sg} (h : pLaw K V P s = Sum.inr s') : s.1 < s'.1 ∧ s'.1 ≤ 400 := by
  unfold pLaw at h
  obtain ⟨t1, h1, h⟩ := rbd_inr h
  obtain ⟨-, k1, rfl⟩ := pAcc_inr h1
  obtain ⟨t2, h2, h⟩ := rbd_inr h
  obtain ⟨-, k2, rfl⟩ := pAcc_inr h2
  obtain ⟨q, h3, h⟩ := rbd_inr h
  obtain ⟨g1, g2⟩ := pIf_t 4 _ [] q (by omega) h3
  obtain ⟨t3, h4, h⟩ := rbd_inr h
  obtain ⟨-, k3, rfl⟩ := pAcc_inr h4
  cases h
  show s.1 < q.1 + 1 ∧ q.1 + 1 ≤ 400
  omega
theorem pTell_t {K V P M : Nat → Int} {s s' : Sg} (h : pTell K V P M s = Sum.inr s') : s.1 < s'.1 ∧ s'.1 ≤ 400 := by
  unfold pTell at h
  split at h
  · exact pPart_t h
  · split at h
    · exact pWork_t h
    · split at h
      · exact pLaw_t h
      · split at h
        · exact pTwo_t h
        · split at h
          · exact pTwo_t h
          · split at h
            · exact pOne_t h
            · cases h
theorem RS_of {hb h : Hp} {K P : Nat → Int} {bb cb : Int} {t : Nat} {r : (Int × Int) ⊕ Sg} (g : RR hb h K P bb cb r) (ht : ∀ s', r = Sum.inr s' → t < s'.1) (h4 : 4 * (bb - 130 * rd hb 194 19) ≤ t) (hc : cb ≤ 420 * rd hb 194 19 + t) : RS hb h K P r := by
  cases r with
  | inl e => exact g
  | inr s' =>
    have := ht s' rfl
    exact ⟨bb, cb, g, by omega, by omega⟩
theorem t_tellOne {F : Nat} {hb h : Hp} {K V P M : Nat → Int} {s : Sg} (hF : 1000 ≤ F) (tk : RTk hb K V P M) (mn : Mn K P) (hs : rd hb 194 19 = 0 ∨ rd hb 194 19 = 1) (g : RT hb h K P s) : T (Mod_tellOne F 194 h) (fun _ h' => RS hb h' K P (pTell K V P M s)) := by
  obtain ⟨bb, cb, g, h4, hc⟩ := g
  have fin : ∀ (o : Option (Int × Hp)) (r : (Int × Int) ⊕ Sg), pTell K V P M s = r → T o (fun _ h' => RR hb h' K P bb cb r) → T o (fun _ h' => RS hb h' K P (pTell K V P M s)) := by
    intro o r e t
    rw [e]
    exact T_mono t (fun _ h' q => RS_of q (fun s' e' => (pTell_t (e.trans e')).1) h4 hc)
  have s0 := g.1.2.1
  have tk' := Fp_tk g.1 tk
  obtain ⟨h11, ht, h13, h12⟩ := g.2.1
  obtain ⟨kk, kp, kv, ko⟩ := tk'.1 s.1 ht
  have e19 := Fp_19 g.1
  obtain ⟨-, ⟨p1, p2, p3, -⟩, ⟨w1, w2, w3, -⟩, -⟩ := g.2.2.2.1
  unfold Mod_tellOne
  rw [gM5 s0, gM11 s0, h11, aM5 s0 (by omega) (by omega), kk]
  -- the law's road
  have law : T (gf h 194 112 5 fun v92 => gf h 194 112 11 fun v93 => al h v92 0 v93 fun v94 => lt (w32 (v94 - 22)) fun x95 => if x95 < 0 then Mod_tellOne_B271 F 194 x95 h else gf h 194 112 5 fun v96 => gf h 194 112 11 fun v97 => al h v96 0 v97 fun v98 => if 26 < v98 then Mod_tellOne_B271 F 194 x95 h else Mod_tellOne_B276 F 194 x95 h) (fun _ h' => RS hb h' K P (if 2 ≤ K s.1 ∧ K s.1 ≤ 6 then pLaw K V P s else Sum.inl (1, P s.1))) := by
    rw [gM5 s0, gM11 s0, h11, aM5 s0 (by omega) (by omega), kk]
    have pr : 0 ≤ phi (K s.1) ∧ phi (K s.1) ≤ 37 := by
      unfold phi
      (repeat' split) <;> omega
    rw [w32_id (x := phi (K s.1) - 22) (by omega) (by omega), lt_eq]
    by_cases hk : 2 ≤ K s.1 ∧ K s.1 ≤ 6
    · have ph : phi (K s.1) = 20 + K s.1 := by unfold phi; rw [if_pos (by omega)]
      rw [if_neg (by omega), gM5 s0, gM11 s0, h11, aM5 s0 (by omega) (by omega), kk, if_neg (by omega), if_pos hk, ph, show 20 + K s.1 - 22 = K s.1 - 2 by omega]
      unfold Mod_tellOne_B276 pLaw
      rw [gM13 s0, h13, if_neg (by decide), ivM s0, m_goesOn (F := F) s0 tk' ht h11 h13, cl_some]
      obtain ⟨t, X, Λ, w⟩ := s
      simp only at h11 ht kk ph hk h4 hc kp ⊢
      have ac : pAcc K P (K t) t = if t < 400 then Sum.inr (t + 1) else Sum.inl (2, P t) := by unfold pAcc; rw [if_pos rfl]
      rw [ac]
      by_cases t4 : t < 400
      · rw [if_pos t4, if_pos t4]
        have g1 := RP_t (t' := t + 1) g (by omega) (mn t t4 (by omega))
        rw [ivM g1.1.2.1]
        unfold Mod_tellLaw
        rw [ivM g1.1.2.1]
        have key : T (cl (Mod_must F 194 5 (wr h 194 11 ((t + 1 : Nat) : Int))) fun r1 h2 => gf h2 194 112 38 fun v3 => Mod_tellLaw_L12 F F 194 (K t - 2) v3 0 h2) (fun _ h' => RS hb h' K P (rbd (pAcc K P 61 (t + 1)) (fun t2 => rbd (pIf K V P 4 t2 []) (fun q => rbd (pAcc K P 59 q.1) (fun t' => Sum.inr (t', X, (fun k => if (k : Int) = K t - 2 then q.2 else Λ k), w)))))) := by
          refine T_cl (t_must2 (d := 61) tk mn g1 (by unfold KdOk; decide) (by decide) rfl) (fun _ h2 q => ?_)
          obtain ⟨on, q⟩ := q
          cases ha : pAcc K P 61 (t + 1) with
          | inl e =>
            rw [ha] at q
            have q' : RFb hb h2 e.1 e.2 bb := q
            have := RF_pos q'.1
            obtain ⟨F', rfl⟩ : ∃ j, F = j + 1 := ⟨F - 1, by omega⟩
            rw [gM38 q'.1.1.2.1, q'.2]
            show T (Mod_tellLaw_L12s (F' + 1) (Mod_tellLaw_L12 (F' + 1) F') 194 _ _ 0 h2) _
            unfold Mod_tellLaw_L12s
            rw [gM13 q'.1.1.2.1, if_neg (by omega)]
            have b1 := g.2.2.2.2.2.2.1
            exact rf_129 hs q' (by omega)
          | inr t2 =>
            rw [ha] at q
            obtain ⟨-, k2, k3⟩ := pAcc_inr ha
            have q' : RP hb h2 K P (t2, X, Λ, w) bb cb := q
            have b1 := g.2.2.2.2.2.2.1
            rw [gM38 q'.1.2.1, q'.2.2.2.2.1]
            exact t_law_L hF tk mn hs (by omega) (by omega) 4 F t2 [] h2 cb rfl (by omega) (by rw [show bb + (([] : Lw).length : Int) = bb by simp]; exact q') trivial (by omega) (by rw [show bb + (([] : Lw).length : Int) = bb by simp]; omega)
        refine T_cl key (fun _ h3 q => T_some q)
      · rw [if_neg t4, if_neg t4]
        have rf0 : RFb hb (flH h 2 (P t)) 2 (P t) bb := ⟨RF_of g (by decide), by rw [flH_f (by decide)]; exact g.2.2.2.2.1⟩
        have sf := rf0.1.1.2.1
        rw [ivM sf]
        have key : T (Mod_tellLaw F 194 (K t - 2) (flH h 2 (P t))) (fun _ h' => RF hb h' 2 (P t)) := by
          have := RF_pos rf0.1
          obtain ⟨F', rfl⟩ : ∃ j, F = j + 1 := ⟨F - 1, by omega⟩
          unfold Mod_tellLaw
          rw [ivM sf, rf_must rf0.1, cl_some, gM38 sf, rf0.2]
          show T (Mod_tellLaw_L12s (F' + 1) (Mod_tellLaw_L12 (F' + 1) F') 194 _ _ 0 _) _
          unfold Mod_tellLaw_L12s
          rw [gM13 sf, if_neg (by omega)]
          have b1 := g.2.2.2.2.2.2.1
          exact rf_129 hs rf0 (by omega)
        exact T_cl key (fun _ h3 q => T_some q)
    · rw [if_neg hk]
      have bad : ∀ x, T (Mod_tellOne_B271 F 194 x h) (fun _ h' => RS hb h' K P (Sum.inl (1, P s.1))) := by
        intro x
        unfold Mod_tellOne_B271 Mod_tellOne_B276
        rw [ivM s0, m_fail (F := F) s0 tk' ht h11 h13, cl_some, gM13 (flH_sh s0 _ _), flH_13, if_pos (by decide)]
        exact T_some (RF_of g (by decide))
      by_cases lt : phi (K s.1) - 22 < 0
      · rw [if_pos lt]; exact bad _
      · rw [if_neg lt, gM5 s0, gM11 s0, h11, aM5 s0 (by omega) (by omega), kk]
        have : 26 < phi (K s.1) := by
          have := psi_phi ko
          unfold psi at this
          rw [if_pos (by omega)] at this
          omega
        rw [if_pos this]; exact bad _
  -- which one
  have ph10 : ∀ j : Nat, j < 10 → (phi (K s.1) = 20 + j ↔ K s.1 = j) := fun j hj => phi_iff ko (by unfold KdOk; omega) (by unfold phi; rw [if_pos (by omega)])
  by_cases k0 : K s.1 = 0
  · rw [tsw_at 0 ((ph10 0 (by decide)).mpr k0) (by decide)]
    simp only
    refine fin _ (pPart K V P M s) (by unfold pTell; rw [if_pos k0]) ?_
    obtain ⟨t, X, Λ, w⟩ := s
    simp only at h11 ht kk k0 kp p1 p2 p3 ⊢
    unfold pPart
    rw [gM22 s0, gM19 s0, e19, aM22 s0 (by omega) (by omega), p1, ivM s0]
    unfold Mod_roomFor Mod_roomFor_B10
    by_cases h8 : X 0 0 = 8
    · rw [if_pos h8, ivM s0, m_fail (F := F) s0 tk' ht h11 h13, cl_some, gM13 (flH_sh s0 _ _), flH_13, if_neg (by decide), cl_some, gM13 (flH_sh s0 _ _), flH_13, if_neg (by decide), if_pos (by show 8 ≤ X 0 0; omega)]
      exact T_some (RF_of g (by decide))
    · rw [if_neg h8, gM13 s0, h13, if_pos rfl, ivM s0, if_neg (by show ¬ 8 ≤ X 0 0; omega)]
      obtain ⟨v, h1, e1, g1⟩ := c_goesOn (F := F) (d := 0) tk mn g k0 (by decide)
      rw [e1, cl_some, cl_some]
      cases hr : cAcc K P 0 (cBeg (t, X, Λ, w)) with
      | inl e =>
        rw [hr] at g1
        have rf : RF hb h1 e.1 e.2 := g1
        have := RF_pos rf
        rw [gM13 rf.1.2.1, if_neg (by omega)]
        exact T_some rf
      | inr q =>
        rw [hr] at g1
        obtain ⟨q0, r0, -, -, e0⟩ := cAcc_inr hr
        cases r0
        subst e0
        have rp : RP hb h1 K P (t + 1, X, Λ, w) bb cb := g1
        rw [gM13 rp.1.2.1, rp.2.1.2.2.1, if_pos rfl, ivM rp.1.2.1]
        refine T_cl (t_tellPart hF tk mn hs rp (by omega)) (fun _ h2 q2 => T_some q2)
  · by_cases k1 : K s.1 = 1
    · rw [tsw_at 1 ((ph10 1 (by decide)).mpr k1) (by decide)]
      simp only
      refine fin _ (pWork K V P M s) (by unfold pTell; rw [if_neg k0, if_pos k1]) ?_
      obtain ⟨t, X, Λ, w⟩ := s
      simp only at h11 ht kk k1 kp w1 w2 w3 ⊢
      unfold pWork
      rw [gM27 s0, gM19 s0, e19, aM27 s0 (by omega) (by omega), w1, ivM s0]
      unfold Mod_roomFor Mod_roomFor_B10
      by_cases h8 : X 1 0 = 3
      · rw [if_pos h8, ivM s0, m_fail (F := F) s0 tk' ht h11 h13, cl_some, gM13 (flH_sh s0 _ _), flH_13, if_neg (by decide), cl_some, gM13 (flH_sh s0 _ _), flH_13, if_neg (by decide), if_pos (by show 3 ≤ X 1 0; omega)]
        exact T_some (RF_of g (by decide))
      · rw [if_neg h8, gM13 s0, h13, if_pos rfl, ivM s0, if_neg (by show ¬ 3 ≤ X 1 0; omega)]
        obtain ⟨v, h1, e1, g1⟩ := c_goesOn (F := F) (d := 1) tk mn g k1 (by decide)
        rw [e1, cl_some, cl_some]
        cases hr : cAcc K P 1 (cBeg (t, X, Λ, w)) with
        | inl e =>
          rw [hr] at g1
          have rf : RF hb h1 e.1 e.2 := g1
          have := RF_pos rf
          rw [gM13 rf.1.2.1, if_neg (by omega)]
          exact T_some rf
        | inr q =>
          rw [hr] at g1
          obtain ⟨q0, r0, -, -, e0⟩ := cAcc_inr hr
          cases r0
          subst e0
          have rp : RP hb h1 K P (t + 1, X, Λ, w) bb cb := g1
          rw [gM13 rp.1.2.1, rp.2.1.2.2.1, if_pos rfl, ivM rp.1.2.1]
          refine T_cl (t_tellWorker hF tk mn hs rp (by omega)) (fun _ h2 q2 => T_some q2)
    · by_cases k7 : K s.1 = 7
      · rw [tsw_at 7 ((ph10 7 (by decide)).mpr k7) (by decide)]
        exact fin _ (pTwo K V P s 7 17 18 1 600) (by unfold pTell; rw [if_neg k0, if_neg k1, if_neg (by omega), if_pos k7]) (t_two_holds tk mn hs g k7)
      · by_cases k8 : K s.1 = 8
        · rw [tsw_at 8 ((ph10 8 (by decide)).mpr k8) (by decide)]
          exact fin _ (pTwo K V P s 8 20 21 0 99) (by unfold pTell; rw [if_neg k0, if_neg k1, if_neg (by omega), if_neg k7, if_pos k8]) (t_two_peg tk mn hs g k8)
        · by_cases k9 : K s.1 = 9
          · rw [tsw_at 9 ((ph10 9 (by decide)).mpr k9) (by decide)]
            exact fin _ (pOne K V P s 9 19 0 9999) (by unfold pTell; rw [if_neg k0, if_neg k1, if_neg (by omega), if_neg k7, if_neg k8, if_pos k9]) (t_seed tk mn hs g k9)
          · have et : pTell K V P M s = if 2 ≤ K s.1 ∧ K s.1 ≤ 6 then pLaw K V P s else Sum.inl (1, P s.1) := by unfold pTell; rw [if_neg k0, if_neg k1, if_neg k7, if_neg k8, if_neg k9]
            rw [et]
            by_cases hk : 2 ≤ K s.1 ∧ K s.1 ≤ 6
            · have pk : ∀ j : Nat, (j : Int) = K s.1 → j < 10 → phi (K s.1) = 20 + j := fun j h hj => (ph10 j hj).mpr h.symm
              obtain e | e | e | e | e : K s.1 = 2 ∨ K s.1 = 3 ∨ K s.1 = 4 ∨ K s.1 = 5 ∨ K s.1 = 6 := by omega
              · rw [tsw_at 2 (pk 2 (by omega) (by decide)) (by decide)]; exact law
              · rw [tsw_at 3 (pk 3 (by omega) (by decide)) (by decide)]; exact law
              · rw [tsw_at 4 (pk 4 (by omega) (by decide)) (by decide)]; exact law
              · rw [tsw_at 5 (pk 5 (by omega) (by decide)) (by decide)]; exact law
              · rw [tsw_at 6 (pk 6 (by omega) (by decide)) (by decide)]; exact law
            · have nb : phi (K s.1) < 20 ∨ 30 ≤ phi (K s.1) := by
                by_cases hr : 20 ≤ phi (K s.1) ∧ phi (K s.1) < 30
                · have := (ph10 (phi (K s.1) - 20).toNat (by omega)).mp (by omega)
                  omega
                · omega
              rw [tsw_no (by omega)]
              exact law
theorem t_text {F : Nat} {hb : Hp} {K V P M : Nat → Int} (hF : 1000 ≤ F) (tk : RTk hb K V P M) (mn : Mn K P) (hs : rd hb 194 19 = 0 ∨ rd hb 194 19 = 1) :
    ∀ (n N : Nat) (s : Sg) (h : Hp), RT hb h K P s → 401 ≤ n + s.1 → 402 ≤ N + s.1 → ∃ h', Mod_read_L112 F N 194 h = Mod_read_B134 F 194 h' ∧ RS hb h' K P (pTxt K V P M n s) ∧ ∀ s', pTxt K V P M n s = Sum.inr s' → K s'.1 = 20 := by
  intro n
  induction n with
  | zero =>
    intro N s h g hn
    obtain ⟨bb, cb, g, -, -⟩ := g
    have := g.2.1.2.1
    omega
  | succ n ih =>
    intro N s h g hn hN
    have g0 := g
    obtain ⟨bb, cb, g1, -, -⟩ := g
    obtain ⟨h11, ht, h13, h12⟩ := g1.2.1
    have s0 := g1.1.2.1
    obtain ⟨N, rfl⟩ : ∃ j, N = j + 1 := ⟨N - 1, by omega⟩
    have e0 : Mod_read_L112 F (N + 1) 194 h = Mod_read_L112s F (Mod_read_L112 F N) 194 h := rfl
    unfold Mod_read_L112s at e0
    rw [gM13 s0, h13, if_pos rfl] at e0
    by_cases k20 : K s.1 = 20
    · rw [ivM s0, m_isY 0 20 s0 (Fp_tk g1.1 tk) ht h11 (by unfold KdOk; decide) rfl h13 k20, cl_some, if_neg (by decide)] at e0
      have ep : pTxt K V P M (n + 1) s = Sum.inr s := by
        show (if K s.1 = 20 then _ else _) = _
        rw [if_pos k20]
      refine ⟨h, e0, ?_, fun s' e => ?_⟩
      · rw [ep]; exact g0
      · rw [ep] at e; cases e; exact k20
    · rw [ivM s0, m_isN 0 20 s0 (Fp_tk g1.1 tk) ht h11 (by unfold KdOk; decide) rfl (fun q => k20 q.2), cl_some, if_pos rfl, ivM s0] at e0
      have ep : pTxt K V P M (n + 1) s = rbd (pTell K V P M s) (pTxt K V P M n) := by
        show (if K s.1 = 20 then _ else _) = _
        rw [if_neg k20]
      obtain ⟨v, h1, e1, g2⟩ := t_tellOne (F := F) hF tk mn hs g0
      rw [e1, cl_some] at e0
      rw [e0, ep]
      cases hr : pTell K V P M s with
      | inl e =>
        rw [hr] at g2
        have rf : RF hb h1 e.1 e.2 := g2
        have := RF_pos rf
        obtain ⟨N, rfl⟩ : ∃ j, N = j + 1 := ⟨N - 1, by omega⟩
        refine ⟨h1, ?_, rf, fun s' q => by cases q⟩
        show Mod_read_L112s F (Mod_read_L112 F N) 194 h1 = _
        unfold Mod_read_L112s
        rw [gM13 rf.1.2.1, if_neg (by omega)]
      | inr s' =>
        rw [hr] at g2
        have := pTell_t hr
        exact ih N s' h1 g2 (by omega) (by omega)
