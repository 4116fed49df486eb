/-! the class begins a day; reads -/
theorem ok96 : ∀ i, okW 96 i = true := fun i => okW_arr (by decide) (fun _ => by decide)
theorem ok81 : ∀ i, okW 81 i = true := fun i => okW_arr (by decide) (fun _ => by decide)
theorem ok139 : okW 139 4 = true := by decide +kernel
/-- an array of the class filled with one number -/
theorem c_fillArr {F : Nat} {h : Hp} {x v n : Int} (hF : 1000 ≤ F) (s : Sh h) (hv : ∀ q : Hp, Sh q → vo q x 0 ∧ hln q x = n) (hn : 0 ≤ n ∧ n ≤ 600) (ok : ∀ i, okW x i = true) : ∃ h', Arr_fill F x v h = some (0, h') ∧ FrA x h h' ∧ ∀ i, 0 ≤ i → i < n → rd h' x i = v := by
  unfold Arr_fill
  rw [aln_ok (hv h s).1 (hv h s).2]
  have key := loopE (fun N i h1 => Arr_fill_L5 F N x v (i : Nat) n h1) n.toNat (fun i h1 => FrA x h h1 ∧ ∀ j, 0 ≤ j → j < (i : Int) → rd h1 x j = v) (fun z => ∃ h', z = some (0, h') ∧ FrA x h h' ∧ ∀ i, 0 ≤ i → i < n → rd h' x i = v) (fun N i h1 hi P => Or.inl ?_) (fun N h1 P => ?_) n.toNat F 0 h (by omega) (by omega) ⟨FrA_refl s, fun j j0 j1 => absurd j1 (by omega)⟩
  · exact key
  · obtain ⟨fr, p1⟩ := P
    refine ⟨_, ⟨FrA_wr (i := (i : Int)) (v := v) fr (ok _), fun j j0 j1 => ?_⟩, ?_⟩
    · by_cases c : j = i
      · subst c; rw [rd_same]
      · rw [rd_i c]; exact p1 j j0 (by omega)
    · show Arr_fill_L5s F (Arr_fill_L5 F N) x v (i : Nat) n h1 = _
      unfold Arr_fill_L5s
      rw [if_pos (by omega), as_ok (hv h1 fr.2.1).1 (hv h1 fr.2.1).2 (by omega) (by omega), w32_nat (by omega)]
  · obtain ⟨fr, p1⟩ := P
    refine ⟨h1, ?_, fr, fun i i0 i1 => p1 i i0 (by omega)⟩
    show Arr_fill_L5s F (Arr_fill_L5 F N) x v (n.toNat : Nat) n h1 = _
    unfold Arr_fill_L5s
    rw [if_neg (by omega)]
theorem FrX_FrA {x : Int} {h h' : Hp} (hx : x < 254) (f : FrA x h h') : FrX (fun b => b = x) h h' := FrX_of f.2.1 f.1 (fun b hb => f.2.2 b hb) (fun b hb => by omega)
theorem FrX_FrS {b0 : Int} (ib : isSt b0) {h h' : Hp} (f : FrS b0 h h') : FrX (fun b => b0 ≤ b ∧ b ≤ b0 + 11) h h' := FrX_of f.2.1 f.1 (fun b hb => f.2.2 b hb) (fun b hb => by unfold isSt at ib; omega)
theorem Dy_fr {X : Int → Prop} {h h' : Hp} (e : hsz h' = hsz h ∧ hus h' = hus h ∧ hkd h' = hkd h ∧ hln h' = hln h) (hr : ∀ b, ¬ X b → rd h' b = rd h b) (hX : ∀ a k, Own a k → ¬ X a) (d : Dy h) : Dy h' := Dy_eq e (fun a k o => by rw [hr a (hX a k o)]) d
theorem own_in {a k : Int} (o : Own a k) : (42 ≤ a ∧ a ≤ 63) ∨ (115 ≤ a ∧ a ≤ 136) ∨ a = 85 ∨ a = 97 ∨ a = 103 ∨ a = 109 := by
  rcases o with ⟨h, -⟩ | ⟨h, -⟩
  · obtain ⟨p, p0, p1, e⟩ := h; omega
  · unfold isRw at h; omega
def Xb (c b : Int) : Prop := Xs c b ∨ b = 40 ∨ b = 41 ∨ (66 ≤ b ∧ b ≤ 77) ∨ b = 78 ∨ b = 139 ∨ b = 81 ∨ b = 84 ∨ b = 82 ∨ b = 96
theorem CD_X {X : Int → Prop} {h h' : Hp} {D : Nat → Int → Int} (h8 : D 0 0 ≤ 8) (f : FrX X h h') (hx : ∀ b, X b → 66 ≤ b) (g : CD h D) : CD h' D := by
  obtain ⟨g1, g2, g3, g4⟩ := g
  have e22 := f.2.2.2.1 22 (by decide) (fun q => by have := hx _ q; omega)
  have ic : rd h 22 0 = 9 ∨ rd h 22 0 = 23 := g1.1
  refine ⟨?_, fun m m0 m1 => ?_, fun p p0 p1 => ?_, fun t ht => ?_⟩
  · rw [e22]; exact CxE_X f (fun b b1 b2 q => by have := hx _ q; omega) g1
  · rw [f.2.2.2.1 36 (by decide) (fun q => by have := hx _ q; omega), f.2.2.2.1 37 (by decide) (fun q => by have := hx _ q; omega)]; exact g2 m m0 m1
  · obtain ⟨z1, z2, z3⟩ := g3 p p0 p1
    exact ⟨SdE_X f (fun q => by have := hx _ q; omega) z1, SdF_X f z1.1 (fun q => by have := hx _ q; omega) z2, z3⟩
  · rw [f.2.2.2.1 39 (by decide) (fun q => by have := hx _ q; omega)]; exact g4 t ht
theorem StE_X {X : Int → Prop} {h h' : Hp} {b : Int} {D : Nat → Int → Int} {N : Int → Int} (hw3 : D 1 0 ≤ 3) (f : FrX X h h') (hx : ∀ a, b ≤ a → a ≤ b + 11 → ¬ X a) (g : StE h b D N) : StE h' b D N := by
  obtain ⟨ib, g1, g2, g3, g4⟩ := g
  have hb : b + 11 < 254 := by unfold isSt at ib; omega
  have e : ∀ a, b ≤ a → a ≤ b + 11 → rd h' a = rd h a := fun a h1 h2 => f.2.2.2.1 a (by omega) (hx a h1 h2)
  refine ⟨ib, fun w w0 w1 => ?_, fun p p0 p1 => ?_, ?_, fun i i0 i1 i2 => ?_⟩
  · obtain ⟨y1, y2⟩ := g1 w w0 w1
    exact ⟨y1, by rw [e _ (by omega) (by omega)]; exact y2⟩
  · rw [e (b + 2) (by omega) (by omega), e (b + 3) (by omega) (by omega), e (b + 4) (by omega) (by omega), e (b + 5) (by omega) (by omega)]; exact g2 p p0 p1
  · rw [e b (by omega) (by omega)]; exact g3
  · rw [e (b + 6) (by omega) (by omega), e (b + 7) (by omega) (by omega), e (b + 8) (by omega) (by omega)]; exact g4 i i0 i1 i2
theorem c_beginDay {F : Nat} {h : Hp} {c : Int} {D : Nat → Int → Int} {Λ : Nat → Lw} (hF : 1000 ≤ F) (s : Sh h) (dy : Dy h) (dk : Dok D) (pk : pegOk D) (hc : rd h 22 0 = c) (cx : CxE h c D) (g : CLz h c Λ) (day : Day D Λ) (w0 : rd h 39 0 = 0) : ∃ h', Tide_beginDay F 1 h = some (0, h') ∧ FrX (Xb c) h h' ∧ Dy h' ∧ CD h' D ∧ (∀ p : Nat, p < (D 0 0).toNat → rd h' 40 p = (erF D (Λ 3)).1 p ∧ rd h' 41 p = (erF D (Λ 3)).2 p) ∧ StE h' 66 D (bgR D) ∧ (rd h' 78 2 = 0 ∧ rd h' 78 1 = rd h 78 1) ∧ rd h' 139 4 = 0 ∧ (rd h' 81 0 = 0 ∧ rd h' 81 1 = 0 ∧ rd h' 81 2 = 0) ∧ (rd h' 84 0 = 0 ∧ rd h' 84 1 = 0 ∧ rd h' 84 2 = 0) ∧ rd h' 82 6 = 0 ∧ ∀ k, 0 ≤ k → k < 17 → rd h' 96 k = -1 := by
  have hcc : c = 9 ∨ c = 23 := cx.1
  obtain ⟨h1, e1, f1, d1, cd1, er1⟩ := c_settleS (F := F) hF s dy dk pk hc cx g day w0
  have s1 := f1.1
  have h22 : rd h1 22 0 = c := by rw [f1.2.2.2.1 22 (by decide) (by unfold Xs; omega)]; exact hc
  have cx1 : CxE h1 c D := h22 ▸ cd1.1
  obtain ⟨h2, e2, f2, st2⟩ := c_begin (F := F) (b := 66) (c := c) hF s1 (Or.inl rfl) dk.2.1.2 cx1
  have s2 := f2.2.1
  have s3 : Sh (wr h2 78 2 0) := shOk s2 (ok78 (by decide))
  have s4 : Sh (wr (wr h2 78 2 0) 139 4 0) := shOk s3 ok139
  have s5 : Sh (wr (wr (wr h2 78 2 0) 139 4 0) 81 0 0) := shOk s4 (ok81 _)
  have s6 : Sh (wr (wr (wr (wr h2 78 2 0) 139 4 0) 81 0 0) 81 1 0) := shOk s5 (ok81 _)
  have s7 : Sh (wr (wr (wr (wr (wr h2 78 2 0) 139 4 0) 81 0 0) 81 1 0) 81 2 0) := shOk s6 (ok81 _)
  have eR := c_forgetRows (F := F) hF s7
  have sR : Sh (wr (wr (wr (wr (wr (wr (wr (wr (wr h2 78 2 0) 139 4 0) 81 0 0) 81 1 0) 81 2 0) 84 0 0) 84 1 0) 84 2 0) 82 6 0) := shOk (shOk (shOk (shOk s7 (ok84 _)) (ok84 _)) (ok84 _)) (ok82 rfl)
  have eq : Tide_beginDay F 1 h = (gf (wr (wr (wr (wr (wr (wr (wr (wr (wr h2 78 2 0) 139 4 0) 81 0 0) 81 1 0) 81 2 0) 84 0 0) 84 1 0) 84 2 0) 82 6 0) 1 111 9 fun v18 => iv (wr (wr (wr (wr (wr (wr (wr (wr (wr h2 78 2 0) 139 4 0) 81 0 0) 81 1 0) 81 2 0) 84 0 0) 84 1 0) 84 2 0) 82 6 0) v18 102 (Plan_forgetSizes F v18 (wr (wr (wr (wr (wr (wr (wr (wr (wr h2 78 2 0) 139 4 0) 81 0 0) 81 1 0) 81 2 0) 84 0 0) 84 1 0) 84 2 0) 82 6 0)) fun r19 h20 => some (0, h20)) := by
    obtain ⟨n, hn⟩ : ∃ n, F = n + 4 := ⟨F - 4, by omega⟩
    have L0 : ∀ (l : Int) (q : Hp), Tide_beginDay_L39 F F 1 l q = Tide_beginDay_L39s F (Tide_beginDay_L39 F (n + 3)) 1 l q := fun l q => by
      conv => lhs; arg 2; rw [hn]
      rfl
    unfold Tide_beginDay
    rw [gT4 s, ivH s, e1, cl_some, gT5 s1, gT4 s1, gH0 s1, h22, ivS s1 (Or.inl rfl), e2, cl_some, gT6 s2, pP2 s2, gT10 s3, pD4 s3, L0]
    unfold Tide_beginDay_L39s
    rw [if_pos (by decide), gT8 s4, sT8 s4 (by decide) (by decide) (Or.inl rfl), show w32 (0 + 1) = 1 by decide]
    show Tide_beginDay_L39s F (Tide_beginDay_L39 F (n + 2)) 1 1 _ = _
    unfold Tide_beginDay_L39s
    rw [if_pos (by decide), gT8 s5, sT8 s5 (by decide) (by decide) (Or.inl rfl), show w32 (1 + 1) = 2 by decide]
    show Tide_beginDay_L39s F (Tide_beginDay_L39 F (n + 1)) 1 2 _ = _
    unfold Tide_beginDay_L39s
    rw [if_pos (by decide), gT8 s6, sT8 s6 (by decide) (by decide) (Or.inl rfl), show w32 (2 + 1) = 3 by decide]
    show Tide_beginDay_L39s F (Tide_beginDay_L39 F n) 1 3 _ = _
    unfold Tide_beginDay_L39s
    rw [if_neg (by decide)]
    unfold Tide_beginDay_B57
    rw [gT9 s7, ivN s7, eR, cl_some]
  have nR : ∀ b, b ≠ 78 → b ≠ 139 → b ≠ 81 → b ≠ 84 → b ≠ 82 → rd (wr (wr (wr (wr (wr (wr (wr (wr (wr h2 78 2 0) 139 4 0) 81 0 0) 81 1 0) 81 2 0) 84 0 0) 84 1 0) 84 2 0) 82 6 0) b = rd h2 b := fun b q1 q2 q3 q4 q5 => by rw [rd_wr_ne q5, rd_wr_ne q4, rd_wr_ne q4, rd_wr_ne q4, rd_wr_ne q3, rd_wr_ne q3, rd_wr_ne q3, rd_wr_ne q2, rd_wr_ne q1]
  have r78 : rd (wr (wr (wr (wr (wr (wr (wr (wr (wr h2 78 2 0) 139 4 0) 81 0 0) 81 1 0) 81 2 0) 84 0 0) 84 1 0) 84 2 0) 82 6 0) 78 = rd (wr h2 78 2 0) 78 := by rw [rd_wr_ne (by decide), rd_wr_ne (by decide), rd_wr_ne (by decide), rd_wr_ne (by decide), rd_wr_ne (by decide), rd_wr_ne (by decide), rd_wr_ne (by decide), rd_wr_ne (by decide)]
  have r139 : rd (wr (wr (wr (wr (wr (wr (wr (wr (wr h2 78 2 0) 139 4 0) 81 0 0) 81 1 0) 81 2 0) 84 0 0) 84 1 0) 84 2 0) 82 6 0) 139 4 = 0 := by rw [rd_a (by decide), rd_a (by decide), rd_a (by decide), rd_a (by decide), rd_a (by decide), rd_a (by decide), rd_a (by decide), rd_same]
  have r81 : ∀ i, i = 0 ∨ i = 1 ∨ i = 2 → rd (wr (wr (wr (wr (wr (wr (wr (wr (wr h2 78 2 0) 139 4 0) 81 0 0) 81 1 0) 81 2 0) 84 0 0) 84 1 0) 84 2 0) 82 6 0) 81 i = 0 := fun i hi => by
    rw [rd_a (by decide), rd_a (by decide), rd_a (by decide), rd_a (by decide)]
    rcases hi with e | e | e <;> subst e
    · rw [rd_i (by decide), rd_i (by decide), rd_same]
    · rw [rd_i (by decide), rd_same]
    · rw [rd_same]
  have r84 : ∀ i, i = 0 ∨ i = 1 ∨ i = 2 → rd (wr (wr (wr (wr (wr (wr (wr (wr (wr h2 78 2 0) 139 4 0) 81 0 0) 81 1 0) 81 2 0) 84 0 0) 84 1 0) 84 2 0) 82 6 0) 84 i = 0 := fun i hi => by
    rw [rd_a (by decide)]
    rcases hi with e | e | e <;> subst e
    · rw [rd_i (by decide), rd_i (by decide), rd_same]
    · rw [rd_i (by decide), rd_same]
    · rw [rd_same]
  have r82 : rd (wr (wr (wr (wr (wr (wr (wr (wr (wr h2 78 2 0) 139 4 0) 81 0 0) 81 1 0) 81 2 0) 84 0 0) 84 1 0) 84 2 0) 82 6 0) 82 6 = 0 := rd_same _ _ _ _
  generalize hH : wr (wr (wr (wr (wr (wr (wr (wr (wr h2 78 2 0) 139 4 0) 81 0 0) 81 1 0) 81 2 0) 84 0 0) 84 1 0) 84 2 0) 82 6 0 = H at *
  have zH : hsz H = hsz h2 ∧ hus H = hus h2 ∧ hkd H = hkd h2 ∧ hln H = hln h2 := by rw [← hH]; exact ⟨rfl, rfl, rfl, rfl⟩
  obtain ⟨h3, e3, f3, p3⟩ := c_fillArr (F := F) (h := H) (x := 96) (v := -1) (n := 17) hF sR (fun q sq => ⟨sq.vo 96 0 (by decide) (by decide) rfl, sq.ln 96 17 (by decide) (by decide) rfl⟩) (by decide) ok96
  have F2 : FrX (fun b => 66 ≤ b ∧ b ≤ 66 + 11) h1 h2 := FrX_FrS (Or.inl rfl) f2
  have F3 : FrX (fun b => b = 78 ∨ b = 139 ∨ b = 81 ∨ b = 84 ∨ b = 82) h2 H := FrX_of sR zH (fun b hb => nR b (by omega) (by omega) (by omega) (by omega) (by omega)) (fun b hb => by omega)
  have F4 : FrX (fun b => b = 96) H h3 := FrX_FrA (by decide) f3
  have D2 : Dy h2 := Dy_fr (X := fun b => 66 ≤ b ∧ b ≤ 66 + 11) f2.1 (fun b hb => f2.2.2 b hb) (fun a k o => by have := own_in o; omega) d1
  have D3 : Dy H := Dy_fr (X := fun b => b = 78 ∨ b = 139 ∨ b = 81 ∨ b = 84 ∨ b = 82) zH (fun b hb => nR b (by omega) (by omega) (by omega) (by omega) (by omega)) (fun a k o => by have := own_in o; omega) D2
  have D4 : Dy h3 := Dy_fr (X := fun b => b = 96) f3.1 (fun b hb => f3.2.2 b hb) (fun a k o => by have := own_in o; omega) D3
  have h8 : D 0 0 ≤ 8 := dk.1.2
  have h3' : D 1 0 ≤ 3 := dk.2.1.2
  refine ⟨h3, ?_, ?_, D4, CD_X h8 F4 (fun b hb => by omega) (CD_X h8 F3 (fun b hb => by omega) (CD_X h8 F2 (fun b hb => by omega) cd1)), fun p hp => ?_, StE_X h3' F4 (fun a q1 q2 q3 => by omega) (StE_X h3' F3 (fun a q1 q2 q3 => by omega) st2), ⟨?_, ?_⟩, ?_, ⟨?_, ?_, ?_⟩, ⟨?_, ?_, ?_⟩, ?_, p3⟩
  · rw [eq, gT9 sR, ivN sR]
    unfold Plan_forgetSizes
    rw [gN9 sR, e3, cl_some, cl_some]
  · refine FrX_trans (FrX_mono (fun b hb => ?_) f1) (FrX_trans (FrX_mono (fun b hb => ?_) F2) (FrX_trans (FrX_mono (fun b hb => ?_) F3) (FrX_mono (fun b hb => ?_) F4)))
    · unfold Xb; rcases hb with q | q | q
      · exact Or.inl q
      · exact Or.inr (Or.inl q)
      · exact Or.inr (Or.inr (Or.inl q))
    · unfold Xb; omega
    · unfold Xb; omega
    · unfold Xb; omega
  · rw [f3.2.2 40 (by decide), f3.2.2 41 (by decide), nR 40 (by decide) (by decide) (by decide) (by decide) (by decide), nR 41 (by decide) (by decide) (by decide) (by decide) (by decide), f2.2.2 40 (by decide), f2.2.2 41 (by decide)]
    exact er1 p hp
  · rw [f3.2.2 78 (by decide), r78, rd_same]
  · rw [f3.2.2 78 (by decide), r78, rd_i (by decide), f2.2.2 78 (by decide), f1.2.2.2.1 78 (by decide) (by unfold Xs; omega)]
  · rw [f3.2.2 139 (by decide)]; exact r139
  · rw [f3.2.2 81 (by decide)]; exact r81 0 (by omega)
  · rw [f3.2.2 81 (by decide)]; exact r81 1 (by omega)
  · rw [f3.2.2 81 (by decide)]; exact r81 2 (by omega)
  · rw [f3.2.2 84 (by decide)]; exact r84 0 (by omega)
  · rw [f3.2.2 84 (by decide)]; exact r84 1 (by omega)
  · rw [f3.2.2 84 (by decide)]; exact r84 2 (by omega)
  · rw [f3.2.2 82 (by decide)]; exact r82
