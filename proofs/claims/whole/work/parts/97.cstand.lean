/-! the class's stand: what is seen, what is done -/
theorem vo_eq {h h' : Hp} {a : Int} {κ : Nat} (e1 : hsz h' = hsz h) (e2 : hkd h' = hkd h) (v : vo h a κ) : vo h' a κ := by
  unfold vo at v ⊢
  rw [e1, e2]; exact v
theorem vA_eq {h h' : Hp} {a n : Int} (e1 : hsz h' = hsz h) (e2 : hkd h' = hkd h) (e3 : hln h' = hln h) (v : vA h a n) : vA h' a n := ⟨⟨v.1.1, vo_eq e1 e2 v.1.2⟩, by rw [e3]; exact v.2⟩
theorem SdE_eq {h h' : Hp} {a q : Int} {D : Nat → Int → Int} (e1 : hsz h' = hsz h) (e2 : hkd h' = hkd h) (e3 : hln h' = hln h) (ea : rd h' a = rd h a) (ed : ∀ x, 254 ≤ x → rd h' x = rd h x) (g : SdE h a D q) : SdE h' a D q := by
  obtain ⟨g1, g2, g3, g4, g5, g6⟩ := g
  unfold SdE
  rw [ea]
  exact ⟨g1, g2, g3, g4, vA_eq e1 e2 e3 g5, fun m m0 m1 => by rw [ed _ g5.1.1]; exact g6 m m0 m1⟩
theorem SdF_eq {h h' : Hp} {a q : Int} {D : Nat → Int → Int} (e1 : hsz h' = hsz h) (e2 : hkd h' = hkd h) (e3 : hln h' = hln h) (ea : rd h' a = rd h a) (ed : ∀ x, 254 ≤ x → rd h' x = rd h x) (g : SdF h a D q) : SdF h' a D q := by
  obtain ⟨g1, g2, g3⟩ := g
  unfold SdF
  rw [ea]
  exact ⟨g1, vA_eq e1 e2 e3 g2, fun m m0 m1 => by rw [ed _ g2.1.1]; exact g3 m m0 m1⟩
theorem CxE_eq {h h' : Hp} {c : Int} {D : Nat → Int → Int} (e : ∀ x, c ≤ x → x ≤ c + 7 → rd h' x = rd h x) (g : CxE h c D) : CxE h' c D := by
  unfold CxE at g ⊢
  rw [e c (by omega) (by omega), e (c + 1) (by omega) (by omega), e (c + 2) (by omega) (by omega), e (c + 3) (by omega) (by omega), e (c + 4) (by omega) (by omega), e (c + 5) (by omega) (by omega), e (c + 6) (by omega) (by omega), e (c + 7) (by omega) (by omega)]
  exact g
/-- the text and the day stand as long as their cells do -/
theorem CD_eq {h h' : Hp} {D : Nat → Int → Int} (h8 : D 0 0 ≤ 8) (e1 : hsz h' = hsz h) (e2 : hkd h' = hkd h) (e3 : hln h' = hln h) (e : ∀ x, x < 66 ∨ 254 ≤ x → rd h' x = rd h x) (g : CD h D) : CD h' D := by
  obtain ⟨g1, g2, g3, g4⟩ := g
  have hc := g1.1
  unfold isSc at hc
  refine ⟨by rw [e 22 (by omega)]; exact CxE_eq (fun x h1 h2 => e x (by omega)) g1, fun m m0 m1 => by rw [e 36 (by omega), e 37 (by omega)]; exact g2 m m0 m1, fun p p0 p1 => ?_, fun s hs => by rw [e 39 (by omega)]; exact g4 s hs⟩
  obtain ⟨a, b, c⟩ := g3 p p0 p1
  exact ⟨SdE_eq e1 e2 e3 (e _ (by omega)) (fun x hx => e x (by omega)) a, SdF_eq e1 e2 e3 (e _ (by omega)) (fun x hx => e x (by omega)) b, c⟩
theorem c_isVisible {F : Nat} {h : Hp} {b p t : Int} {D : Nat → Int → Int} {N : Int → Int} (s : Sh h) (dk : Dok D) (cd : CD h D) (st : StE h b D N) (rg : Rgd D N) (hp : 0 ≤ p ∧ p < D 0 0) (ht : 0 ≤ t ∧ t < 600) : Stan_isVisible F b 22 p t h = some (if seenD D N p t then 1 else 0, h) := by
  obtain ⟨hb, -, sp, -⟩ := st
  have hp8 := dk.1
  obtain ⟨x1, x2, x3, x4⟩ := sp p hp.1 (by omega)
  have rp := rg.1.2 p hp.1 (by omega)
  obtain ⟨m1, m2⟩ := rg.2 p hp.1 (by omega)
  obtain ⟨se, sf, fr⟩ := cd.2.2.1 p hp.1 hp.2
  have isd : isSd (42 + 3 * p) := ⟨p, hp.1, by omega, Or.inl rfl⟩
  unfold Stan_isVisible Stan_visibleFrom seenD
  rw [gS1 s hb, aS1 s hb hp.1 (by omega), x1]
  by_cases dn : N p = -2
  · rw [if_pos (by omega)]; simp [dn, rz_0]
  · rw [if_neg (by omega), gS4 s hb, aS4 s hb hp.1 (by omega), x4]
    by_cases cr : N (8 + p) = 0
    · rw [if_pos cr, ivS s hb, gS1 s hb, aS1 s hb hp.1 (by omega), x1, gS2 s hb, aS2 s hb hp.1 (by omega), x2, lt_eq, cl_some]
      have mx : (t < imax (N p) (if N (16 + p) = -2 then 0 else N (16 + p))) ↔ ¬ (N p ≤ t ∧ N (16 + p) ≤ t) := by
        unfold imax
        (repeat' split) <;> omega
      by_cases c : N p ≤ t ∧ N (16 + p) ≤ t
      · rw [if_neg (fun q => mx.mp q c), gH3 s, aH3 s hp.1 (by omega), gS1 s hb, aS1 s hb hp.1 (by omega), x1, ivA s isd, c_washed s isd sf ht (by omega) fr, cl_some]
        cases hc : covD D p (N p) t
        · simp [dn, cr, c.1, c.2, rz_1]
        · simp [rz_0]
      · rw [if_pos (mx.mpr c)]
        rcases Classical.em (N p ≤ t) with h1 | h1
        · have h2 : ¬ N (16 + p) ≤ t := fun q => c ⟨h1, q⟩
          simp [h2, rz_0]
        · simp [h1, rz_0]
    · rw [if_neg cr]; simp [cr, rz_0]
theorem c_visible {F : Nat} {h : Hp} {b t : Int} {D : Nat → Int → Int} {N : Int → Int} (hF : 1000 ≤ F) (s : Sh h) (dk : Dok D) (cd : CD h D) (st : StE h b D N) (rg : Rgd D N) (ht : 0 ≤ t ∧ t < 600) : Stan_visible F b 22 t h = some (((setN (fun p => seenD D N p t) (D 0 0).toNat : Nat) : Int), h) := by
  have hp8 := dk.1
  have hb := st.1
  have hc := cd.1.1
  have e4 := cd.1.2.1
  unfold Stan_visible
  refine loop0 (fun n i => Stan_visible_L5 F n b 22 t ((setN (fun p => seenD D N p t) i : Nat) : Int) (i : Nat) h) (D 0 0).toNat F _ (by omega) (fun n i hi => ?_) (fun n => ?_)
  · show Stan_visible_L5s F (Stan_visible_L5 F n) b 22 t _ _ h = _
    have s8 := setN_8 (fun p => seenD D N p t) i (by omega)
    have st' : setN (fun p => seenD D N p t) (i + 1) = if seenD D N i t then setN (fun p => seenD D N p t) i ||| 2 ^ i else setN (fun p => seenD D N p t) i := rfl
    unfold Stan_visible_L5s
    rw [gH0 s, gC4 s hc, e4, if_pos (by omega), ivS s hb, c_isVisible (p := i) s dk cd st rg (by omega) ht, cl_some, w32_nat (by omega), st']
    by_cases c : seenD D N i t = true
    · rw [if_pos c, if_neg (by decide), ior_p s8 (by omega), lt_eq, if_pos c]
    · rw [if_neg c, if_pos rfl, if_neg c]
  · show Stan_visible_L5s F (Stan_visible_L5 F n) b 22 t _ _ h = _
    unfold Stan_visible_L5s
    rw [gH0 s, gC4 s hc, e4, if_neg (by omega)]
