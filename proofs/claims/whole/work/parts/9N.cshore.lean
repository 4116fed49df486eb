/-! the class's shore: a day laid out -/
theorem SdE_X {X : Int → Prop} {h h' : Hp} {a q : Int} {D : Nat → Int → Int} (f : FrX X h h') (hx : ¬ X a) (g : SdE h a D q) : SdE h' a D q := by
  obtain ⟨h1, h2, h3, h4, h5, h6⟩ := g
  have o5 : Own a 5 := Or.inl ⟨h1, Or.inr rfl⟩
  have ea := f.2.2.2.1 a (own_lt o5).2 hx
  have ed := f.2.2.2.2 a 5 o5 hx h5.1.1
  exact ⟨h1, by rw [ea]; exact h2, by rw [ea]; exact h3, by rw [ea]; exact h4, by rw [ea]; exact vA_gr f.2.1 f.2.2.1 h5, fun m m0 m1 => by rw [ea, ed]; exact h6 m m0 m1⟩
theorem SdF_X {X : Int → Prop} {h h' : Hp} {a q : Int} {D : Nat → Int → Int} (f : FrX X h h') (ha : isSd a) (hx : ¬ X a) (g : SdF h a D q) : SdF h' a D q := by
  obtain ⟨h2, h5, h6⟩ := g
  have o4 : Own a 4 := Or.inl ⟨ha, Or.inl rfl⟩
  have ea := f.2.2.2.1 a (own_lt o4).2 hx
  have ed := f.2.2.2.2 a 4 o4 hx h5.1.1
  exact ⟨by rw [ea]; exact h2, by rw [ea]; exact vA_gr f.2.1 f.2.2.1 h5, fun m m0 m1 => by rw [ea, ed]; exact h6 m m0 m1⟩
theorem FrX_Lc {c : Int} (ic : isSc c) {h h' : Hp} (l : Lc c h h') : FrX (fun b => b = c + 11 ∨ b = c + 12) h h' := FrX_of l.2.1 l.1 (fun b hb => l.2.2 b (fun q => hb (Or.inl q)) (fun q => hb (Or.inr q))) (fun b hb => by unfold isSc at ic; omega)
theorem Dy_Lc {c : Int} (ic : isSc c) {h h' : Hp} (l : Lc c h h') (d : Dy h) : Dy h' := Dy_eq l.1 (fun a k o => by have := own_lt o; unfold isSc at ic; rw [l.2.2 a (by omega) (by omega)]) d
theorem Dy_wr {h : Hp} {a i v : Int} (hn : ¬ Own a i) (d : Dy h) : Dy (wr h a i v) := Dy_eq (h := h) ⟨rfl, rfl, rfl, rfl⟩ (fun b k o => by
  by_cases c : b = a ∧ k = i
  · obtain ⟨c1, c2⟩ := c; subst c1; subst c2; exact absurd o hn
  · rw [rd_wr, if_neg c]) d
theorem FrX_wr {X : Int → Prop} {h : Hp} {a i v : Int} (s : Sh h) (ok : okW a i = true) (ha : a < 254) (hX : X a) : FrX X h (wr h a i v) := ⟨shOk s ok, Int.le_refl _, fun b _ => ⟨rfl, rfl⟩, fun b _ hb => rd_wr_ne (fun q => hb (q ▸ hX)), fun b k _ _ hr => rd_wr_ne (by omega)⟩
theorem frN_cg {T T' : Int → Int} {g : Int} : ∀ n : Nat, (∀ m : Nat, m ≤ n → T m = T' m) → frN T g n = frN T' g n := by
  intro n
  induction n with
  | zero =>
    intro h
    unfold frN
    rw [show T 0 = T' 0 from h 0 (by omega)]
  | succ n ih =>
    intro h
    unfold frN
    rw [h (n + 1) (by omega), ih (fun m hm => h m (by omega))]
theorem frI_cg {T T' : Int → Int} {g m : Int} (h : ∀ m, 0 ≤ m → m < 600 → T m = T' m) (hm : 0 ≤ m ∧ m < 600) : frI T g m = frI T' g m := frN_cg _ (fun k hk => h k (by omega) (by omega))
theorem hoK_cg {f f' : Int → Int} {a b : Int} (h : ∀ m, 0 ≤ m → m < 600 → f m = f' m) : ∀ k : Nat, k ≤ 599 → hoK f a b k = hoK f' a b k := by
  intro k
  induction k with
  | zero => intro _; unfold hoK; rw [h 599 (by omega) (by omega)]
  | succ k ih =>
    intro hk
    unfold hoK
    rw [h (598 - (k : Int)) (by omega) (by omega), ih (by omega)]
theorem nxK_cg {f f' : Int → Int} {a b t : Int} (h : ∀ m, 0 ≤ m → m < 600 → f m = f' m) : ∀ k : Nat, k ≤ 599 → nxK f a b t k = nxK f' a b t k := by
  intro k
  induction k with
  | zero => intro _; unfold nxK; rw [hoK_cg h 0 (by omega)]
  | succ k ih =>
    intro hk
    unfold nxK
    rw [hoK_cg h (k + 1) hk, ih (by omega)]
theorem nxI_cg {f f' : Int → Int} {a b t m : Int} (h : ∀ m, 0 ≤ m → m < 600 → f m = f' m) (hm : 0 ≤ m ∧ m < 600) : nxI f a b t m = nxI f' a b t m := by
  unfold nxI
  rw [nxK_cg h _ (by omega)]
theorem c_layOut {F : Nat} {h : Hp} {a c : Int} {Λ : Nat → Lw} (hF : 1000 ≤ F) (s : Sh h) (d : Dy h) (ic : isSc c) (hc : rd h 22 0 = c) (g : CLz h c Λ) (ha : isSd a) : ∃ h', Shor_layOut F 22 a h = some (0, h') ∧ FrX (fun b => b = a ∨ b = c + 11 ∨ b = c + 12) h h' ∧ Dy h' ∧ (rd h' a 0 = rd h a 0 ∧ rd h' a 1 = rd h a 1 ∧ rd h' a 3 = rd h a 3 ∧ rd h' a 2 = hgV (Λ 0) (rd h a 0) (rd h a 1)) ∧ (vA h' (rd h' a 4) 600 ∧ vA h' (rd h' a 5) 600) ∧ ∀ m, 0 ≤ m → m < 600 → rd h' (rd h' a 4) m = frI (rd h 36) (hgV (Λ 0) (rd h a 0) (rd h a 1)) m ∧ rd h' (rd h' a 5) m = nxI (frI (rd h 36) (hgV (Λ 0) (rd h a 0) (rd h a 1))) (rd h c 9) (rd h c 10) (rd h a 3) m := by
  have o4 : Own a 4 := Or.inl ⟨ha, Or.inl rfl⟩
  have hal := own_lt o4
  have hcc : c = 9 ∨ c = 23 := ic
  obtain ⟨h1, e1, l1⟩ := c_high (F := F) (x := rd h a 0) (y := rd h a 1) hF s ic g
  have s1 := l1.2.1
  have n1 : ∀ b, b ≠ c + 11 → b ≠ c + 12 → rd h1 b = rd h b := l1.2.2
  have s2 : Sh (wr h1 a 2 (hgV (Λ 0) (rd h a 0) (rd h a 1))) := shOk s1 (sd_ok ha)
  have d2 : Dy (wr h1 a 2 (hgV (Λ 0) (rd h a 0) (rd h a 1))) := Dy_wr (fun o => by
    rcases o with ⟨-, q⟩ | ⟨q, -⟩
    · omega
    · exact absurd rfl (sr_ne ha q)) (Dy_Lc ic l1 d)
  obtain ⟨h2, e2, f2, d3, k2, v2, c2⟩ := c_settleSd (F := F) (lo := rd h c 9) (hi := rd h c 10) hF s2 d2 ha
  have w2 : ∀ b, b ≠ a → rd (wr h1 a 2 (hgV (Λ 0) (rd h a 0) (rd h a 1))) b = rd h1 b := fun b hb => rd_wr_ne hb
  have ra : rd h1 a = rd h a := n1 a (by omega) (by omega)
  have wa2 : rd (wr h1 a 2 (hgV (Λ 0) (rd h a 0) (rd h a 1))) a 2 = hgV (Λ 0) (rd h a 0) (rd h a 1) := rd_same _ _ _ _
  have wa3 : rd (wr h1 a 2 (hgV (Λ 0) (rd h a 0) (rd h a 1))) a 3 = rd h a 3 := by rw [rd_i (by decide), ra]
  have w36 : rd (wr h1 a 2 (hgV (Λ 0) (rd h a 0) (rd h a 1))) 36 = rd h 36 := by rw [w2 36 (by omega), n1 36 (by omega) (by omega)]
  rw [wa2, wa3, w36] at c2
  refine ⟨h2, ?_, ?_, d3, ⟨?_, ?_, ?_, ?_⟩, v2, c2⟩
  · unfold Shor_layOut
    rw [gH0 s, hc, gC14 s ic, gA s ha, gA s ha, ivL s ic, e1, cl_some, pA s1 ha, gH1 s2, gH0 s2, w2 22 (by omega), n1 22 (by omega) (by omega), hc, gC9 s2 ic, w2 c (by omega), n1 c (by omega) (by omega), gH0 s2, w2 22 (by omega), n1 22 (by omega) (by omega), hc, gC10 s2 ic, w2 c (by omega), n1 c (by omega) (by omega), ivA s2 ha, e2, cl_some]
  · refine FrX_trans (FrX_mono (fun b hb => Or.inr hb) (FrX_Lc ic l1)) (FrX_trans (h' := wr h1 a 2 (hgV (Λ 0) (rd h a 0) (rd h a 1))) (FrX_wr s1 (sd_ok ha) hal.2 (Or.inl rfl)) (FrX_mono (fun b hb => Or.inl hb) f2))
  · rw [k2 0 (by decide) (by decide), rd_i (by decide), ra]
  · rw [k2 1 (by decide) (by decide), rd_i (by decide), ra]
  · rw [k2 3 (by decide) (by decide), wa3]
  · rw [k2 2 (by decide) (by decide), wa2]
theorem ishl_2 : ∀ p : Nat, p < 8 → ishl 2 p = ((2 ^ (p + 1) : Nat) : Int) := by decide +kernel
theorem drp_all : ∀ s : Nat, s < 256 → ∀ p : Nat, p < 8 → s.testBit p = true → ∀ i : Nat, i < 8 → (s - 2 ^ p).testBit i = (s.testBit i && i != p) := by decide +kernel
theorem wbS_drop {D : Nat → Int → Int} {s p : Nat} (hs : s < 256) (hp : p < 8) (hb : s.testBit p = true) : ∀ n : Nat, n ≤ 8 → wbS D s n = wbS D (s - 2 ^ p) n + (if p < n then D 2 p else 0) := by
  intro n
  induction n with
  | zero => intro _; rw [if_neg (by omega)]; rfl
  | succ n ih =>
    intro hn
    have i1 := ih (by omega)
    have e := drp_all s hs p hp hb n (by omega)
    show wbS D s n + (if s.testBit ((n : Int)).toNat = true then D 2 n else 0) = wbS D (s - 2 ^ p) n + (if (s - 2 ^ p).testBit ((n : Int)).toNat = true then D 2 n else 0) + _
    rw [i1, Int.toNat_natCast, e]
    by_cases c : n = p
    · subst c
      rw [hb, if_pos rfl, if_neg (show ¬ n < n by omega), if_neg (by simp), if_pos (show n < n + 1 by omega)]
    · have hne : (n != p) = true := by simp [c]
      rw [hne, Bool.and_true]
      by_cases c2 : p < n
      · rw [if_pos c2, if_pos (show p < n + 1 by omega)]; omega
      · rw [if_neg c2, if_neg (show ¬ p < n + 1 by omega)]; omega
theorem wbV_drop {D : Nat → Int → Int} {s p : Nat} (hs : s < 256) (hp : p < 8) (hb : s.testBit p = true) : wbV D s = wbV D (s - 2 ^ p) + D 2 p := by
  have := wbS_drop (D := D) hs hp hb 8 (by omega)
  rw [if_pos hp] at this
  exact this
theorem top_bit : ∀ p : Nat, p < 8 → ∀ s : Nat, s < 256 → 2 ^ p ≤ s → s < 2 ^ (p + 1) → s.testBit p = true := by decide +kernel
theorem wbV_0 (D : Nat → Int → Int) : wbV D 0 = 0 := by
  have : ∀ n : Nat, wbS D 0 n = 0 := by
    intro n
    induction n with
    | zero => rfl
    | succ n ih =>
      show wbS D 0 n + (if (0 : Nat).testBit ((n : Int)).toNat = true then D 2 n else 0) = 0
      rw [ih, Nat.zero_testBit, if_neg (by decide)]
      rfl
  exact this 8
/-- the worth of the sets with a part more -/
theorem c_worth {F : Nat} {h : Hp} {c : Int} {p : Nat} {D : Nat → Int → Int} (hF : 1000 ≤ F) (s : Sh h) (dk : Dok D) (hc : rd h 22 0 = c) (cx : CxE h c D) (hp : (p : Int) < D 0 0) (w0 : ∀ t : Nat, t < 2 ^ p → rd h 39 t = wbV D t) (R51 : Int → Int → Hp → Option (Int × Hp)) : ∃ h', Shor_settle_L117 F R51 F 22 p ((2 ^ p : Nat) : Int) h = R51 22 ((p + 1 : Nat) : Int) h' ∧ FrA 39 h h' ∧ ∀ t : Nat, t < 2 ^ (p + 1) → rd h' 39 t = wbV D t := by
  have h8 : D 0 0 ≤ 8 := dk.1.2
  have hp8 : p < 8 := by omega
  have e2 : 2 ^ (p + 1) = 2 ^ p + 2 ^ p := by rw [Nat.pow_succ]; omega
  have t8 : 2 ^ (p + 1) ≤ 256 := two8 (by omega)
  have ic := cx.1
  have hcc : c = 9 ∨ c = 23 := ic
  have ok39 : ∀ i, okW 39 i = true := fun i => okW_arr (by decide) (fun _ => by decide)
  have key := loopE (fun n i h1 => Shor_settle_L117 F R51 n 22 p ((2 ^ p + i : Nat) : Int) h1) (2 ^ p) (fun i h1 => FrA 39 h h1 ∧ ∀ t : Nat, t < 2 ^ p + i → rd h1 39 t = wbV D t) (fun z => ∃ h', z = R51 22 ((p + 1 : Nat) : Int) h' ∧ FrA 39 h h' ∧ ∀ t : Nat, t < 2 ^ (p + 1) → rd h' 39 t = wbV D t) (fun n i h1 hi P => Or.inl ?_) (fun n h1 P => ?_) (2 ^ p) F 0 h (by omega) (by omega) ⟨FrA_refl s, w0⟩
  · exact key
  · obtain ⟨fr, p1⟩ := P
    have s1 := fr.2.1
    have hb := top_bit p hp8 (2 ^ p + i) (by omega) (by omega) (by omega)
    have hw := wbV_drop (D := D) (s := 2 ^ p + i) (by omega) hp8 hb
    have hr := p1 i (by omega)
    have hw2 := cx.2.2.2.1 p (by omega) hp
    have hwi := wbS_in dk (s := i) (by have := Nat.pow_le_pow_right (n := 2) (by decide) (show p ≤ (D 0 0).toNat by omega); omega) 8
    have hd2 := dk.2.2.1 p (by omega) hp
    rw [show 2 ^ p + i - 2 ^ p = i by omega] at hw
    have hwv : wbV D i = wbS D i 8 := rfl
    have fw := FrA_wr (i := ((2 ^ p + i : Nat) : Int)) (v := wbV D (2 ^ p + i)) fr (ok39 _)
    refine ⟨_, ⟨fw, fun t ht => ?_⟩, ?_⟩
    · by_cases q : t = 2 ^ p + i
      · subst q; rw [rd_same]
      · rw [rd_i (by omega)]; exact p1 t (by omega)
    · show Shor_settle_L117s F R51 (Shor_settle_L117 F R51 n) 22 p ((2 ^ p + i : Nat) : Int) h1 = Shor_settle_L117 F R51 n 22 p ((2 ^ p + (i + 1) : Nat) : Int) _
      unfold Shor_settle_L117s
      rw [ishl_2 p hp8, if_pos (by omega), gH4 s1, gH4 s1, ishl_1 p (by omega), w32_id (x := ((2 ^ p + i : Nat) : Int) - ((2 ^ p : Nat) : Int)) (by omega) (by omega), show ((2 ^ p + i : Nat) : Int) - ((2 ^ p : Nat) : Int) = (i : Int) by omega, aH4 s1 (by omega) (by omega), hr, gH0 s1, fr.2.2 22 (by decide), hc, gC2 s1 ic, aC2 s1 ic (by omega) (by omega), fr.2.2 (c + 3) (by omega), hw2.2.2.1, w32_id (x := wbV D i + D 2 p) (by omega) (by omega), ← hw, sH4 s1 (by omega) (by omega), w32_id (by omega) (by omega), show ((2 ^ p + i : Nat) : Int) + 1 = ((2 ^ p + (i + 1) : Nat) : Int) by omega]
  · obtain ⟨fr, p1⟩ := P
    refine ⟨h1, ?_, fr, fun t ht => p1 t (by omega)⟩
    show Shor_settle_L117s F R51 (Shor_settle_L117 F R51 n) 22 p ((2 ^ p + 2 ^ p : Nat) : Int) h1 = _
    unfold Shor_settle_L117s
    rw [ishl_2 p hp8, if_neg (by omega), w32_nat (by omega)]
