/-! a text with a FAULT leaves the data alike -/
def Ak (D D' : Nat → Int → Int) : Prop := (∀ k : Nat, k = 0 ∨ k = 1 ∨ (17 ≤ k ∧ k ≤ 21) → D' k = D k) ∧ (∀ k : Nat, k = 2 ∨ k = 16 ∨ k = 22 ∨ k = 23 → ∀ p, 0 ≤ p → p < 8 → D' k p = D k p) ∧ (∀ k : Nat, 3 ≤ k → k ≤ 5 → ∀ w, 0 ≤ w → w < 3 → D' k w = D k w) ∧ ∀ k : Nat, 6 ≤ k → k ≤ 15 → D' k = D k
theorem Ak_rd {h h' : Hp} (hl : rd h 194 18 = 0 ∨ rd h 194 18 = 1) (f : RdX h h') : Ak (dt h) (dt h') := by
  obtain ⟨-, -, f3, f4, f5, -, -, -, -⟩ := f
  have e18 : rd h' 194 18 = rd h 194 18 := f5 18 (by decide)
  have w1 : ∀ a : Int, a = 203 ∨ a = 208 ∨ (212 ≤ a ∧ a ≤ 216) → rd h' a (rd h 194 18) = rd h a (rd h 194 18) := fun a ha => f4 a _ (by omega) (by omega) (by
    have : wdt a = 1 := by unfold wdt; rw [if_pos ha]
    rw [this]; omega)
  have w8 : ∀ a : Int, 204 ≤ a ∧ a ≤ 207 → ∀ p, 0 ≤ p → p < 8 → rd h' a (8 * rd h 194 18 + p) = rd h a (8 * rd h 194 18 + p) := fun a ha p p0 p1 => f4 a _ (by omega) (by omega) (by
    have : wdt a = 8 := by unfold wdt; rw [if_neg (by omega), if_pos (by omega)]
    rw [this]; omega)
  have w3 : ∀ a : Int, 209 ≤ a ∧ a ≤ 211 → ∀ p, 0 ≤ p → p < 3 → rd h' a (3 * rd h 194 18 + p) = rd h a (3 * rd h 194 18 + p) := fun a ha p p0 p1 => f4 a _ (by omega) (by omega) (by
    have : wdt a = 3 := by unfold wdt; rw [if_neg (by omega), if_neg (by omega), if_pos (by omega)]
    rw [this]; omega)
  have ar : ∀ a : Int, 229 ≤ a → a ≤ 238 → rd h' a = rd h a := fun a a1 a2 => f3 a (by omega) (by omega) (by omega)
  refine ⟨fun k hk => ?_, fun k hk p p0 p1 => ?_, fun k k0 k1 w w0 w1 => ?_, fun k k0 k1 => ?_⟩
  · funext i
    rcases hk with e | e | e
    · subst e; show rd h' 203 (rd h' 194 18) = rd h 203 (rd h 194 18); rw [e18]; exact w1 _ (by decide)
    · subst e; show rd h' 208 (rd h' 194 18) = rd h 208 (rd h 194 18); rw [e18]; exact w1 _ (by decide)
    · have : k = 17 ∨ k = 18 ∨ k = 19 ∨ k = 20 ∨ k = 21 := by omega
      rcases this with e | e | e | e | e <;> subst e
      · show rd h' 212 (rd h' 194 18) = rd h 212 (rd h 194 18); rw [e18]; exact w1 _ (by decide)
      · show rd h' 213 (rd h' 194 18) = rd h 213 (rd h 194 18); rw [e18]; exact w1 _ (by decide)
      · show rd h' 216 (rd h' 194 18) = rd h 216 (rd h 194 18); rw [e18]; exact w1 _ (by decide)
      · show rd h' 214 (rd h' 194 18) = rd h 214 (rd h 194 18); rw [e18]; exact w1 _ (by decide)
      · show rd h' 215 (rd h' 194 18) = rd h 215 (rd h 194 18); rw [e18]; exact w1 _ (by decide)
  · rcases hk with e | e | e | e <;> subst e
    · show rd h' 206 (8 * rd h' 194 18 + p) = rd h 206 (8 * rd h 194 18 + p); rw [e18]; exact w8 _ (by decide) p p0 p1
    · show rd h' 207 (8 * rd h' 194 18 + p) = rd h 207 (8 * rd h 194 18 + p); rw [e18]; exact w8 _ (by decide) p p0 p1
    · show rd h' 204 (8 * rd h' 194 18 + p) = rd h 204 (8 * rd h 194 18 + p); rw [e18]; exact w8 _ (by decide) p p0 p1
    · show rd h' 205 (8 * rd h' 194 18 + p) = rd h 205 (8 * rd h 194 18 + p); rw [e18]; exact w8 _ (by decide) p p0 p1
  · have : k = 3 ∨ k = 4 ∨ k = 5 := by omega
    rcases this with e | e | e <;> subst e
    · show rd h' 211 (3 * rd h' 194 18 + w) = rd h 211 (3 * rd h 194 18 + w); rw [e18]; exact w3 _ (by decide) w w0 w1
    · show rd h' 209 (3 * rd h' 194 18 + w) = rd h 209 (3 * rd h 194 18 + w); rw [e18]; exact w3 _ (by decide) w w0 w1
    · show rd h' 210 (3 * rd h' 194 18 + w) = rd h 210 (3 * rd h 194 18 + w); rw [e18]; exact w3 _ (by decide) w w0 w1
  · funext i
    have : k = 6 ∨ k = 7 ∨ k = 8 ∨ k = 9 ∨ k = 10 ∨ k = 11 ∨ k = 12 ∨ k = 13 ∨ k = 14 ∨ k = 15 := by omega
    rcases this with e | e | e | e | e | e | e | e | e | e <;> subst e
    · show rd h' 232 i = rd h 232 i; rw [ar 232 (by decide) (by decide)]
    · show rd h' 233 i = rd h 233 i; rw [ar 233 (by decide) (by decide)]
    · show rd h' 234 i = rd h 234 i; rw [ar 234 (by decide) (by decide)]
    · show rd h' 235 i = rd h 235 i; rw [ar 235 (by decide) (by decide)]
    · show rd h' 236 i = rd h 236 i; rw [ar 236 (by decide) (by decide)]
    · show rd h' 237 i = rd h 237 i; rw [ar 237 (by decide) (by decide)]
    · show rd h' 238 i = rd h 238 i; rw [ar 238 (by decide) (by decide)]
    · show rd h' 229 i = rd h 229 i; rw [ar 229 (by decide) (by decide)]
    · show rd h' 230 i = rd h 230 i; rw [ar 230 (by decide) (by decide)]
    · show rd h' 231 i = rd h 231 i; rw [ar 231 (by decide) (by decide)]
theorem Tex_r {D D' : Nat → Int → Int} (a : Ak D D') (t : Tex D) : Tex D' := by
  obtain ⟨a1, a2, a3, a4⟩ := a
  obtain ⟨t1, t2, t3, t4, t5⟩ := t
  have t12 := t1.2
  have t22 := t2.2
  unfold Tex
  rw [a1 0 (by decide), a1 1 (by decide), a1 17 (by decide), a1 18 (by decide), a1 20 (by decide), a1 21 (by decide), a1 19 (by decide)]
  refine ⟨t1, t2, fun p p0 p1 => ?_, fun w w0 w1 => ?_, t5⟩
  · rw [a2 22 (by decide) p p0 (by omega), a2 23 (by decide) p p0 (by omega), a2 2 (by decide) p p0 (by omega), a2 16 (by decide) p p0 (by omega)]; exact t3 p p0 p1
  · rw [a3 4 (by decide) (by decide) w w0 (by omega), a3 5 (by decide) (by decide) w w0 (by omega), a3 3 (by decide) (by decide) w w0 (by omega)]; exact t4 w w0 w1
theorem Day_r {D D' : Nat → Int → Int} {Λ : Nat → Lw} (a : Ak D D') (h8 : D 0 0 ≤ 8) (d : Day D Λ) : Day D' Λ := by
  obtain ⟨a1, a2, a3, a4⟩ := a
  refine ⟨by rw [a4 13 (by decide) (by decide), a4 14 (by decide) (by decide)]; exact d.1, fun p p0 p1 => ?_⟩
  rw [a1 0 (by decide)] at p1
  have := d.2 p p0 p1
  unfold DayP at this ⊢
  rw [a4 6 (by decide) (by decide), a4 7 (by decide) (by decide), a4 8 (by decide) (by decide), a4 9 (by decide) (by decide), a4 10 (by decide) (by decide), a4 11 (by decide) (by decide), a4 12 (by decide) (by decide), a4 13 (by decide) (by decide), a4 15 (by decide) (by decide), a1 17 (by decide), a1 18 (by decide), a2 22 (by decide) p p0 (by omega), a2 23 (by decide) p p0 (by omega), a2 16 (by decide) p p0 (by omega)]
  exact this
theorem RwN_r {n : Int} {D D' : Nat → Int → Int} {N : Int → Int} (a : Ak D D') (r : RwN n D N) : RwN n D' N := by
  unfold RwN Rgd Rok Aok at r ⊢
  rw [a.1 0 (by decide), a.1 1 (by decide)]
  exact r
theorem StE_r {D D' : Nat → Int → Int} {h : Hp} {b : Int} {N : Int → Int} (a : Ak D D') (h3 : D 1 0 ≤ 3) (r : StE h b D N) : StE h b D' N := by
  obtain ⟨r1, r2, r3⟩ := r
  refine ⟨r1, fun w w0 w1 => ?_, r3⟩
  rw [a.1 1 (by decide)] at w1
  rw [a.2.2.1 3 (by decide) (by decide) w w0 (by omega)]
  exact r2 w w0 w1
theorem wbV_r {D D' : Nat → Int → Int} (a : Ak D D') : wbV D' = wbV D := by
  funext s
  unfold wbV wbS
  refine sm_ext 8 (fun p hp => ?_)
  rw [a.2.1 2 (by decide) p (by omega) (by omega)]
theorem SdE_r {D D' : Nat → Int → Int} {h : Hp} {b q : Int} (a : Ak D D') (e : SdE h b D q) : SdE h b D' q := by
  unfold SdE at e ⊢
  rw [a.2.2.2 6 (by decide) (by decide), a.2.2.2 7 (by decide) (by decide), a.2.2.2 8 (by decide) (by decide), a.2.2.2 12 (by decide) (by decide)]
  exact e
theorem CD_r {D D' : Nat → Int → Int} {h : Hp} (a : Ak D D') (h8 : D 0 0 ≤ 8) (h3 : D 1 0 ≤ 3) (c : CD h D) : CD h D' := by
  obtain ⟨a1, a2, a3, a4⟩ := a
  obtain ⟨⟨x1, x2, x3, x4, x5, x6⟩, c2, c3, c4⟩ := c
  refine ⟨⟨x1, by rw [a1 0 (by decide)]; exact x2, by rw [a1 1 (by decide)]; exact x3, fun p p0 p1 => ?_, fun w w0 w1 => ?_, ?_⟩, ?_, fun p p0 p1 => ?_, fun s hs => ?_⟩
  · rw [a1 0 (by decide)] at p1
    rw [a2 22 (by decide) p p0 (by omega), a2 23 (by decide) p p0 (by omega), a2 2 (by decide) p p0 (by omega), a2 16 (by decide) p p0 (by omega)]; exact x4 p p0 p1
  · rw [a1 1 (by decide)] at w1
    rw [a3 4 (by decide) (by decide) w w0 (by omega), a3 5 (by decide) (by decide) w w0 (by omega), a3 3 (by decide) (by decide) w w0 (by omega)]; exact x5 w w0 w1
  · rw [a1 17 (by decide), a1 18 (by decide), a1 20 (by decide), a1 21 (by decide), a1 19 (by decide)]; exact x6
  · rw [a4 13 (by decide) (by decide), a4 14 (by decide) (by decide)]; exact c2
  · rw [a1 0 (by decide)] at p1
    obtain ⟨d1, d2, d3⟩ := c3 p p0 p1
    refine ⟨SdE_r ⟨a1, a2, a3, a4⟩ d1, ?_, ?_⟩
    · unfold SdF at d2 ⊢
      rw [a4 9 (by decide) (by decide), a4 10 (by decide) (by decide)]; exact d2
    · rw [a4 9 (by decide) (by decide), a4 10 (by decide) (by decide), a4 13 (by decide) (by decide)]; exact d3
  · rw [a1 0 (by decide)] at hs
    rw [wbV_r ⟨a1, a2, a3, a4⟩]; exact c4 s hs
theorem erF_r {D D' : Nat → Int → Int} {L : Lw} (a : Ak D D') : erF D' L = erF D L := by
  have : erV D' L = erV D L := by
    funext E p o
    unfold erV
    rw [a.1 20 (by decide), a.1 21 (by decide), a.2.2.2 6 (by decide) (by decide), a.2.2.2 7 (by decide) (by decide)]
  unfold erF
  rw [this, a.1 0 (by decide)]
theorem step_r {D D' : Nat → Int → Int} {w : Int} (a : Ak D D') (hw : 0 ≤ w ∧ w < 3) {M x y r q : Int} : stepV D' M w x y r q = stepV D M w x y r q := by
  unfold stepV nxD
  rw [a.2.2.1 3 (by decide) (by decide) w hw.1 hw.2, a.2.2.2 6 (by decide) (by decide), a.2.2.2 7 (by decide) (by decide), a.2.2.2 8 (by decide) (by decide), a.2.2.2 12 (by decide) (by decide)]
theorem bst_r {D D' : Nat → Int → Int} {w : Int} {G : Nat → Int} {T : Int → Int} (a : Ak D D') (hw : 0 ≤ w ∧ w < 3) {s p : Nat} : bst D' G w T s p = bst D G w T s p := by
  unfold bst rb0 rb1
  rw [step_r a hw]
  congr 1
  funext o
  rw [step_r a hw, a.2.2.2 6 (by decide) (by decide), a.2.2.2 7 (by decide) (by decide)]
theorem tabP_r {D D' : Nat → Int → Int} {w : Int} {G : Nat → Int} {T : Int → Int} (a : Ak D D') (hw : 0 ≤ w ∧ w < 3) {s : Nat} : ∀ n, tabP D' G w T s n = tabP D G w T s n := by
  intro n
  induction n with
  | zero => rfl
  | succ n ih => unfold tabP; rw [ih, bst_r a hw]
theorem tabS_r {D D' : Nat → Int → Int} {w : Int} {G : Nat → Int} {T : Int → Int} {al : Nat} (a : Ak D D') (hw : 0 ≤ w ∧ w < 3) : ∀ n, tabS D' G w T al n = tabS D G w T al n := by
  intro n
  induction n with
  | zero => rfl
  | succ n ih => unfold tabS; rw [ih, tabP_r a hw]
theorem CT_r {D D' : Nat → Int → Int} {w : Int} {G : Nat → Int} {al : Nat} (a : Ak D D') (hw : 0 ≤ w ∧ w < 3) : CT D' G w al = CT D G w al := by
  unfold CT tabF
  rw [a.1 0 (by decide), tabS_r a hw]
theorem nev_r {D D' : Nat → Int → Int} {N : Int → Int} (a : Ak D D') : nevN D' N = nevN D N := by unfold nevN; rw [a.1 0 (by decide)]
theorem RwE_r {D D' : Nat → Int → Int} {h : Hp} {r w x : Int} {G : Nat → Int} {al : Nat} (a : Ak D D') (hw : 0 ≤ w ∧ w < 3) (e : RwE h r D G w x al) : RwE h r D' G w x al := by
  obtain ⟨⟨c1, c2, c3, c4, c5⟩, e2, e3, e4⟩ := e
  refine ⟨⟨c1, c2, by rw [a.1 0 (by decide)]; exact c3, c4, fun p p0 p1 => ?_⟩, e2, fun o p o0 o1 p0 p1 => ?_, fun s hs => ?_⟩
  · rw [a.1 0 (by decide)] at p1
    exact SdE_r a (c5 p p0 p1)
  · rw [a.1 0 (by decide)] at o1 p1
    rw [e3 o p o0 o1 p0 p1]
    unfold wyC
    rw [a.2.2.1 3 (by decide) (by decide) w hw.1 hw.2, a.2.2.2 6 (by decide) (by decide), a.2.2.2 7 (by decide) (by decide)]
  · rw [a.1 0 (by decide)] at hs
    have := e4 s hs
    unfold snC at this ⊢
    rw [CT_r a hw]
    exact this
theorem wcan_r {D D' : Nat → Int → Int} {N : Int → Int} {w b : Int} (a : Ak D D') (hw : 0 ≤ w ∧ w < 3) : wcan D' N w b = wcan D N w b := by
  funext s
  unfold wcan wcV
  rw [nev_r a, CT_r a hw]
theorem shW_cg {C C' : Nat → Nat → Bool} : ∀ n : Nat, (∀ w, w < n → C' w = C w) → shW C' n = shW C n := by
  intro n
  induction n with
  | zero => intro _; rfl
  | succ n ih =>
    intro h
    unfold shW
    rw [ih (fun w hw => h w (by omega)), h n (by omega)]
