/-! the class's sand, settled -/
def FrD (x y : Int) (h h' : Hp) : Prop := (hsz h' = hsz h ∧ hus h' = hus h ∧ hkd h' = hkd h ∧ hln h' = hln h) ∧ Sh h' ∧ ∀ a, a ≠ x → a ≠ y → rd h' a = rd h a
theorem ok_dyn {x i : Int} (hx : 254 ≤ x) : okW x i = true := okW_arr (by omega) (fun q => by omega)
theorem FrD_x {x y : Int} {h h' : Hp} (f : FrD x y h h') {i v : Int} (hx : 254 ≤ x) : FrD x y h (wr h' x i v) := ⟨f.1, shOk f.2.1 (ok_dyn hx), fun a ha hb => by rw [rd_wr_ne ha]; exact f.2.2 a ha hb⟩
theorem FrD_y {x y : Int} {h h' : Hp} (f : FrD x y h h') {i v : Int} (hy : 254 ≤ y) : FrD x y h (wr h' y i v) := ⟨f.1, shOk f.2.1 (ok_dyn hy), fun a ha hb => by rw [rd_wr_ne hb]; exact f.2.2 a ha hb⟩
theorem FrD_vA {x y : Int} {h h' : Hp} (f : FrD x y h h') {z n : Int} (v : vA h z n) : vA h' z n := by
  obtain ⟨⟨h1, h2, h3, h4⟩, h5⟩ := v
  obtain ⟨⟨e1, e2, e3, e4⟩, -, -⟩ := f
  exact ⟨⟨h1, h2, by rw [e1]; exact h3, by rw [e3]; exact h4⟩, by rw [e4]; exact h5⟩
def rnI (T : Int → Int) (g : Int) : Nat → Int
  | 0 => 0
  | i + 1 => frI T g (i : Int)
theorem rnI_st (T : Int → Int) (g : Int) (i : Nat) : frI T g (i : Int) = if T (i : Int) < g then rnI T g i + 1 else 0 := by
  cases i with
  | zero => rfl
  | succ i => rfl
theorem rnI_in (T : Int → Int) (g : Int) (i : Nat) : 0 ≤ rnI T g i ∧ rnI T g i ≤ (i : Int) := by
  cases i with
  | zero => exact ⟨Int.le_refl _, Int.le_refl _⟩
  | succ i =>
    have := frN_in T g i
    show 0 ≤ frN T g i ∧ frN T g i ≤ ((i + 1 : Nat) : Int)
    omega
def hkI (f : Int → Int) (a b : Int) : Nat → Int
  | 0 => 0
  | k + 1 => hoK f a b k
theorem hkI_st (f : Int → Int) (a b : Int) (k : Nat) (hk : k < 600) : hoI f a b (599 - (k : Int)) = if a ≤ f (599 - (k : Int)) ∧ f (599 - (k : Int)) ≤ b then hkI f a b k + 1 else 0 := by
  unfold hoI
  rw [show (599 - (599 - (k : Int))).toNat = k by omega]
  cases k with
  | zero => rfl
  | succ k =>
    rw [show (599 - ((k + 1 : Nat) : Int)) = 598 - (k : Int) by omega]
    rfl
theorem hkI_in (f : Int → Int) (a b : Int) (k : Nat) : 0 ≤ hkI f a b k ∧ hkI f a b k ≤ (k : Int) := by
  cases k with
  | zero => exact ⟨Int.le_refl _, Int.le_refl _⟩
  | succ k =>
    have := hoK_in f a b k
    show 0 ≤ hoK f a b k ∧ hoK f a b k ≤ ((k + 1 : Nat) : Int)
    omega
theorem hkI_su (f : Int → Int) (a b : Int) (k : Nat) (hk : k < 600) : hkI f a b (k + 1) = hoI f a b (599 - (k : Int)) := by
  unfold hoI
  rw [show (599 - (599 - (k : Int))).toNat = k by omega]
  rfl
theorem c_settle2 {F : Nat} {h : Hp} {a x y lo hi t : Int} {f : Int → Int} (hF : 1000 ≤ F) (s : Sh h) (ha : isSd a) (e4 : rd h a 4 = x) (e5 : rd h a 5 = y) (e3 : rd h a 3 = t) (vx : vA h x 600) (vy : vA h y 600) (hxy : x ≠ y) (fr : ∀ m, 0 ≤ m → m < 600 → rd h x m = f m) : ∃ h', Sand_settle_L91 F F a lo hi 0 (-2) 599 h = some (0, h') ∧ FrD y y h h' ∧ ∀ m, 0 ≤ m → m < 600 → rd h' y m = nxI f lo hi t m := by
  have hax : a ≠ x := by have := sd_cases ha; have := vx.1.1; omega
  have hay : a ≠ y := by have := sd_cases ha; have := vy.1.1; omega
  have key := loopE (fun n k g => Sand_settle_L91 F n a lo hi (hkI f lo hi k) (nxI f lo hi t (600 - (k : Nat))) (599 - (k : Nat)) g) 600 (fun k g => FrD y y h g ∧ ∀ m, 600 - (k : Int) ≤ m → m < 600 → rd g y m = nxI f lo hi t m) (fun o => ∃ h', o = some (0, h') ∧ FrD y y h h' ∧ ∀ m, 0 ≤ m → m < 600 → rd h' y m = nxI f lo hi t m) (fun n k g hk P => Or.inl ?_) (fun n g P => ?_) 600 F 0 h rfl (by omega) ⟨⟨⟨rfl, rfl, rfl, rfl⟩, s, fun _ _ _ => rfl⟩, fun m m0 m1 => absurd m1 (by omega)⟩
  · exact key
  · obtain ⟨fr1, ps⟩ := P
    have g4 : rd g a 4 = x := by rw [fr1.2.2 a hay hay]; exact e4
    have g5 : rd g a 5 = y := by rw [fr1.2.2 a hay hay]; exact e5
    have g3 : rd g a 3 = t := by rw [fr1.2.2 a hay hay]; exact e3
    have gx : rd g x (599 - (k : Int)) = f (599 - (k : Int)) := by rw [fr1.2.2 x hxy hxy]; exact fr _ (by omega) (by omega)
    have vx' := FrD_vA fr1 vx
    have vy' := FrD_vA fr1 vy
    have hh := hkI_st f lo hi k hk
    have hi' := hkI_in f lo hi k
    have hn := nxI_st f lo hi t k hk
    have fw := FrD_y (i := 599 - (k : Int)) (v := nxI f lo hi t (599 - (k : Int))) fr1 vy.1.1
    refine ⟨_, ⟨fw, fun m m0 m1 => ?_⟩, ?_⟩
    · by_cases c : m = 599 - (k : Int)
      · subst c; rw [rd_same]
      · rw [rd_i c]; exact ps m (by omega) m1
    · have B138 : ∀ s0, s0 = hoI f lo hi (599 - (k : Int)) → Sand_settle_B138 F (Sand_settle_L91 F n) a lo hi (nxI f lo hi t (600 - (k : Nat))) (599 - (k : Nat)) s0 g = Sand_settle_L91 F n a lo hi (hkI f lo hi (k + 1)) (nxI f lo hi t (600 - ((k + 1 : Nat) : Int))) (599 - ((k + 1 : Nat) : Int)) (wr g y (599 - (k : Int)) (nxI f lo hi t (599 - (k : Int)))) := by
        intro s0 es
        unfold Sand_settle_B138
        rw [hkI_su f lo hi k hk, show (600 - ((k + 1 : Nat) : Int)) = 599 - (k : Int) by omega, show (599 - ((k + 1 : Nat) : Int)) = 599 - (k : Int) + (-1) by omega, gA fr1.2.1 ha, g3, es]
        by_cases c : hoI f lo hi (599 - (k : Int)) < t
        · rw [if_pos c, gA fr1.2.1 ha, g5, as_ok vy'.1.2 vy'.2 (by omega) (by omega), w32_id (by omega) (by omega), hn, if_pos c]
        · rw [if_neg c, gA fr1.2.1 ha, g5, as_ok vy'.1.2 vy'.2 (by omega) (by omega), w32_id (by omega) (by omega), hn, if_neg c]
      show Sand_settle_L91s F (Sand_settle_L91 F n) a lo hi _ _ _ g = _
      unfold Sand_settle_L91s
      rw [if_neg (by omega), gA fr1.2.1 ha, g4, al_ok vx'.1.2 vx'.2 (by omega) (by omega), gx]
      by_cases c1 : f (599 - (k : Int)) < lo
      · rw [if_pos c1]
        unfold Sand_settle_B123
        rw [if_pos rfl]
        exact B138 0 (by rw [hh, if_neg (by omega)])
      · rw [if_neg c1, gA fr1.2.1 ha, g4, al_ok vx'.1.2 vx'.2 (by omega) (by omega), gx]
        by_cases c2 : hi < f (599 - (k : Int))
        · rw [if_pos c2]
          unfold Sand_settle_B123
          rw [if_pos rfl]
          exact B138 0 (by rw [hh, if_neg (by omega)])
        · rw [if_neg c2]
          unfold Sand_settle_B123
          rw [if_neg (by decide), w32_id (by omega) (by omega)]
          exact B138 _ (by rw [hh, if_pos (by omega)])
  · obtain ⟨fr1, ps⟩ := P
    refine ⟨g, ?_, fr1, fun m m0 m1 => ps m (by omega) m1⟩
    show Sand_settle_L91s F (Sand_settle_L91 F n) a lo hi _ _ _ g = _
    unfold Sand_settle_L91s
    rw [if_pos (by omega)]
theorem c_settle1 {F : Nat} {h : Hp} {a x y lo hi t g0 : Int} (hF : 1000 ≤ F) (s : Sh h) (ha : isSd a) (e4 : rd h a 4 = x) (e5 : rd h a 5 = y) (e3 : rd h a 3 = t) (e2 : rd h a 2 = g0) (vx : vA h x 600) (vy : vA h y 600) (hxy : x ≠ y) : ∃ h', Sand_settle_L35 F F a 36 lo hi 0 0 h = some (0, h') ∧ FrD x y h h' ∧ ∀ m, 0 ≤ m → m < 600 → rd h' x m = frI (rd h 36) g0 m ∧ rd h' y m = nxI (frI (rd h 36) g0) lo hi t m := by
  have hax : a ≠ x := by have := sd_cases ha; have := vx.1.1; omega
  have hay : a ≠ y := by have := sd_cases ha; have := vy.1.1; omega
  have h36x : (36:Int) ≠ x := by have := vx.1.1; omega
  have key := loopE (fun n i g => Sand_settle_L35 F n a 36 lo hi (rnI (rd h 36) g0 i) (i : Nat) g) 600 (fun i g => FrD x x h g ∧ ∀ m, 0 ≤ m → m < (i : Int) → rd g x m = frI (rd h 36) g0 m) (fun o => ∃ h', o = some (0, h') ∧ FrD x y h h' ∧ ∀ m, 0 ≤ m → m < 600 → rd h' x m = frI (rd h 36) g0 m ∧ rd h' y m = nxI (frI (rd h 36) g0) lo hi t m) (fun n i g hi' P => Or.inl ?_) (fun n g P => ?_) 600 F 0 h rfl (by omega) ⟨⟨⟨rfl, rfl, rfl, rfl⟩, s, fun _ _ _ => rfl⟩, fun m m0 m1 => absurd m1 (by omega)⟩
  · exact key
  · obtain ⟨fr1, ps⟩ := P
    have g4 : rd g a 4 = x := by rw [fr1.2.2 a hax hax]; exact e4
    have g2 : rd g a 2 = g0 := by rw [fr1.2.2 a hax hax]; exact e2
    have g36 : rd g 36 = rd h 36 := fr1.2.2 36 h36x h36x
    have vx' := FrD_vA fr1 vx
    have hst := rnI_st (rd h 36) g0 i
    have hin := rnI_in (rd h 36) g0 i
    have fw := FrD_x (i := (i : Int)) (v := frI (rd h 36) g0 (i : Int)) fr1 vx.1.1
    refine ⟨_, ⟨fw, fun m m0 m1 => ?_⟩, ?_⟩
    · by_cases c : m = (i : Int)
      · subst c; rw [rd_same]
      · rw [rd_i c]; exact ps m m0 (by omega)
    · show Sand_settle_L35s F (Sand_settle_L35 F n) a 36 lo hi _ _ g = Sand_settle_L35 F n a 36 lo hi (frI (rd h 36) g0 (i : Int)) _ _
      unfold Sand_settle_L35s
      rw [if_pos (by omega), aH1 fr1.2.1 (by omega) (by omega), g36, gA fr1.2.1 ha, g2]
      by_cases c : rd h 36 (i : Int) < g0
      · rw [if_pos c] at hst
        rw [if_pos c, w32_id (x := rnI (rd h 36) g0 i + 1) (by omega) (by omega), lt_eq, gA fr1.2.1 ha, g4, as_ok vx'.1.2 vx'.2 (by omega) (by omega), w32_nat (by omega), hst]
      · rw [if_neg c] at hst
        rw [if_neg c, gA fr1.2.1 ha, g4, as_ok vx'.1.2 vx'.2 (by omega) (by omega), w32_nat (by omega), hst]
  · obtain ⟨fr1, ps⟩ := P
    have g4 : rd g a 4 = x := by rw [fr1.2.2 a hax hax]; exact e4
    have g5 : rd g a 5 = y := by rw [fr1.2.2 a hax hax]; exact e5
    have g3 : rd g a 3 = t := by rw [fr1.2.2 a hax hax]; exact e3
    obtain ⟨h', k1, k2, k3⟩ := c_settle2 (F := F) (lo := lo) (hi := hi) (t := t) (f := frI (rd h 36) g0) hF fr1.2.1 ha g4 g5 g3 (FrD_vA fr1 vx) (FrD_vA fr1 vy) hxy (fun m m0 m1 => ps m m0 (by omega))
    refine ⟨h', ?_, ⟨⟨k2.1.1.trans fr1.1.1, k2.1.2.1.trans fr1.1.2.1, k2.1.2.2.1.trans fr1.1.2.2.1, k2.1.2.2.2.trans fr1.1.2.2.2⟩, k2.2.1, fun z zx zy => (k2.2.2 z zy zy).trans (fr1.2.2 z zx zx)⟩, fun m m0 m1 => ⟨?_, k3 m m0 m1⟩⟩
    · show Sand_settle_L35s F (Sand_settle_L35 F n) a 36 lo hi _ _ g = _
      unfold Sand_settle_L35s
      rw [if_neg (by omega)]
      exact k1
    · rw [k2.2.2 x hxy hxy]; exact ps m m0 (by omega)
theorem c_settle_old {F : Nat} {h : Hp} {a x lo hi : Int} (s : Sh h) (ha : isSd a) (e4 : rd h a 4 = x) (vx : vA h x 600) : Sand_settle F a 36 lo hi h = Sand_settle_L35 F F a 36 lo hi 0 0 h := by
  unfold Sand_settle
  rw [gA s ha, e4, aln_ok vx.1.2 vx.2, if_neg (by decide)]
/-- what is there already stays as it is, but for the cells of one object -/
def Grw (a : Int) (h h' : Hp) : Prop := (∀ b, b < hsz h → hkd h' b = hkd h b ∧ hln h' b = hln h b) ∧ ∀ b j, b < hsz h → ¬ (b = a ∧ (j = 4 ∨ j = 5)) → rd h' b j = rd h b j
theorem c_settle_new {F : Nat} {h : Hp} {a x lo hi : Int} (s : Sh h) (ha : isSd a) (e4 : rd h a 4 = x) (vx : vo h x 0) (lx0 : hln h x = 0) : ∃ h', Sand_settle F a 36 lo hi h = Sand_settle_L35 F F a 36 lo hi 0 0 h' ∧ Sh h' ∧ (hsz h' = hsz h + 2 ∧ hus h' = hus h + 1200) ∧ (rd h' a 4 = hsz h ∧ rd h' a 5 = hsz h + 1) ∧ (vA h' (hsz h) 600 ∧ vA h' (hsz h + 1) 600) ∧ Grw a h h' := by
  have hz := s.1
  have hal : a < 254 := by have := sd_cases ha; omega
  have s1 : Sh (nw h 0 600 600) := Sh_nw s
  have s2 : Sh (wr (nw h 0 600 600) a 4 (hsz h)) := shOk s1 (sd_ok ha)
  have s3 : Sh (nw (wr (nw h 0 600 600) a 4 (hsz h)) 0 600 600) := Sh_nw s2
  have s4 : Sh (wr (nw (wr (nw h 0 600 600) a 4 (hsz h)) 0 600 600) a 5 (hsz h + 1)) := shOk s3 (sd_ok ha)
  have hR : ∀ b j, rd (wr (nw (wr (nw h 0 600 600) a 4 (hsz h)) 0 600 600) a 5 (hsz h + 1)) b j = if b = a ∧ j = 5 then hsz h + 1 else if b = hsz h + 1 then 0 else if b = a ∧ j = 4 then hsz h else if b = hsz h then 0 else rd h b j := fun b j => rfl
  have hK : ∀ b, hkd (wr (nw (wr (nw h 0 600 600) a 4 (hsz h)) 0 600 600) a 5 (hsz h + 1)) b = if b = hsz h + 1 then 0 else if b = hsz h then 0 else hkd h b := fun b => rfl
  have hL : ∀ b, hln (wr (nw (wr (nw h 0 600 600) a 4 (hsz h)) 0 600 600) a 5 (hsz h + 1)) b = if b = hsz h + 1 then 600 else if b = hsz h then 600 else hln h b := fun b => rfl
  have hS : hsz (wr (nw (wr (nw h 0 600 600) a 4 (hsz h)) 0 600 600) a 5 (hsz h + 1)) = hsz h + 1 + 1 := rfl
  have hU : hus (wr (nw (wr (nw h 0 600 600) a 4 (hsz h)) 0 600 600) a 5 (hsz h + 1)) = hus h + 600 + 600 := rfl
  refine ⟨_, ?_, s4, ⟨by rw [hS]; omega, by rw [hU]; omega⟩, ⟨?_, ?_⟩, ⟨⟨⟨hz, ?_, ?_, ?_⟩, ?_⟩, ⟨⟨?_, ?_, ?_, ?_⟩, ?_⟩⟩, fun b hb => ⟨?_, ?_⟩, fun b j hb hj => ?_⟩
  · unfold Sand_settle
    rw [gA s ha, e4, aln_ok vx lx0, if_pos (by decide)]
    have na_k : ∀ (g : Hp) (f : Int → Hp → Option (Int × Hp)), na g 0 600 f = f (hsz g) (nw g 0 600 600) := fun g f => if_pos (by decide)
    rw [na_k]
    show pf (nw h 0 600 600) a 105 4 (hsz h) _ = _
    rw [pA s1 ha, na_k]
    show pf (nw (wr (nw h 0 600 600) a 4 (hsz h)) 0 600 600) a 105 5 (hsz h + 1) _ = _
    rw [pA s3 ha]
  · rw [hR, if_neg (by omega), if_neg (by omega), if_pos ⟨rfl, rfl⟩]
  · rw [hR, if_pos ⟨rfl, rfl⟩]
  · omega
  · rw [hS]; omega
  · rw [hK, if_neg (by omega), if_pos rfl]
  · rw [hL, if_neg (by omega), if_pos rfl]
  · omega
  · omega
  · rw [hS]; omega
  · rw [hK, if_pos rfl]
  · rw [hL, if_pos rfl]
  · rw [hK, if_neg (by omega), if_neg (by omega)]
  · rw [hL, if_neg (by omega), if_neg (by omega)]
  · rw [hR, if_neg (fun q => hj ⟨q.1, Or.inr q.2⟩), if_neg (by omega), if_neg (fun q => hj ⟨q.1, Or.inl q.2⟩), if_neg (by omega)]
