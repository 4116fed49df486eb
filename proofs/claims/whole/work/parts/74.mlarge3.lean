/-! large, whole -/
theorem MT_rows {h h' : Hp} {L : Lw} {k i : Int} (m : MT h) (f : Fy h h') (z : Sz h h' L k i) : MT h' := by
  obtain ⟨⟨m1, m2, m3, m4, m5, m6, m7⟩, v⟩ := m
  have e : ∀ a : Int, 239 ≤ a → rd h' a = rd h a := fun a ha => f.2.2.1 a (by omega) (by omega)
  have e4 : ∀ j, j ≠ 51 → rd h' 194 j = rd h 194 j := f.2.2.2
  have t1 := Fy_txt f 1 (by decide)
  have d14 : dt h' 14 = dt h 14 := by funext j; show rd h' 230 j = rd h 230 j; rw [z.1 230 (by decide) (by decide)]
  refine ⟨⟨⟨f.2.1, by rw [e4 18 (by decide)]; exact m1.2.1, Dok_rows m1.2.2 (fun k hk => ?_) (fun p hp => ⟨z.2.1 232 p (by decide) (by decide) hp, z.2.1 233 p (by decide) (by decide) hp, z.2.1 234 p (by decide) (by decide) hp⟩) (fun j hj => z.2.2.1 236 j (by decide) (by decide) hj) (fun j hj => z.2.2.2.1 j hj)⟩, by rw [e 239 (by decide)]; exact m2, by rw [e 240 (by decide)]; exact m3, ?_, by rw [e 239 (by decide)]; exact m5, by rw [e4 64 (by decide)]; exact m6, by rw [e4 80 (by decide)]; exact m7⟩, by rw [e 242 (by decide)]; exact v⟩
  · rcases hk with hk | hk
    · exact Fy_txt f k (Or.inl hk)
    · rw [hk]; exact d14
  · unfold Rok
    rw [e 239 (by decide), t1]; exact m4
def lgT (D : Nat → Int → Int) : Nat := 2 ^ (D 0 0).toNat - 1
def lgC (h : Hp) (L : Lw) (k b : Int) (w s : Nat) : Bool := decide (canV (CT (dt (zH h L k)) (lgG (dt h) w) w (lgT (dt h))) 0 b (lgT (dt h)) s = 1)
def lgB (h : Hp) (L : Lw) (k b : Int) : Bool := shW (lgC h L k b) (dt h 1 0).toNat (lgT (dt h))
theorem lgT_sub {D : Nat → Int → Int} {s : Nat} (h : s &&& lgT D = s) : s < 2 ^ (D 0 0).toNat := by
  have : s ≤ lgT D := by rw [← h]; exact Nat.and_le_right
  have := Nat.two_pow_pos (D 0 0).toNat
  unfold lgT at this
  unfold lgT at *
  omega
theorem lg_step {F : Nat} {h h1 g : Hp} {L : Lw} {k b : Int} {w : Nat} (hF : 1000 ≤ F) (m : MT h) (tx : Tex (dt h)) (hk : 1 ≤ k ∧ k ≤ 16) (f : Fy h h1) (z : Sz h h1 L k (dt h 0 0)) (fg : Fr h1 g) (hw : (w : Int) < dt h 1 0) :
    ∃ g', Mod_fillsCan F 194 w ((lgT (dt h) : Nat) : Int) b (wr (wr (wr (wr (wr g 194 67 (dt h 4 w)) 194 68 (dt h 5 w)) 194 69 0) 194 70 8) 194 71 0) = some (0, g') ∧ Fr h1 g' ∧ (∀ n : Nat, n < 256 → rd g' 244 (256 * (w : Int) + n) = if lgC h L k b w n then 1 else 0) ∧ ∀ j : Int, j < 256 * (w : Int) ∨ 256 * (w : Int) + 256 ≤ j → rd g' 244 j = rd g 244 j := by
  have m1 := MT_rows m f z
  have mo := m.1.1
  have sg := fg.2.1
  have fs : Fr h1 (wr (wr (wr (wr (wr g 194 67 (dt h 4 w)) 194 68 (dt h 5 w)) 194 69 0) 194 70 8) 194 71 0) := Fr_f (Fr_f (Fr_f (Fr_f (Fr_f fg (sh67 sg _) (by decide)) (sh68 (sh67 sg _) _) (by decide)) (sh69 (sh68 (sh67 sg _) _) _) (by decide)) (sh70 (sh69 (sh68 (sh67 sg _) _) _) _) (by decide)) (sh71 (sh70 (sh69 (sh68 (sh67 sg _) _) _) _) _) (by decide)
  have e244 : rd (wr (wr (wr (wr (wr g 194 67 (dt h 4 w)) 194 68 (dt h 5 w)) 194 69 0) 194 70 8) 194 71 0) 244 = rd g 244 := by
    rw [rd_wr_ne (by decide), rd_wr_ne (by decide), rd_wr_ne (by decide), rd_wr_ne (by decide), rd_wr_ne (by decide)]
  have eP : Pg (wr (wr (wr (wr (wr g 194 67 (dt h 4 w)) 194 68 (dt h 5 w)) 194 69 0) 194 70 8) 194 71 0) = lgG (dt h) w := by
    funext i
    rcases i with _ | _ | _ | _ | i
    · show rd _ 194 67 = dt h 4 w
      simp (disch := decide) only [rd_i, rd_same]
    · show rd _ 194 68 = dt h 5 w
      simp (disch := decide) only [rd_i, rd_same]
    · show rd _ 194 69 = 0
      simp (disch := decide) only [rd_i, rd_same]
    · show rd _ 194 70 = 8
      simp (disch := decide) only [rd_i, rd_same]
    · show rd _ 194 71 = 0
      simp (disch := decide) only [rd_same]
  have e69 : rd (wr (wr (wr (wr (wr g 194 67 (dt h 4 w)) 194 68 (dt h 5 w)) 194 69 0) 194 70 8) 194 71 0) 194 69 = 0 := congrFun eP 2
  generalize wr (wr (wr (wr (wr g 194 67 (dt h 4 w)) 194 68 (dt h 5 w)) 194 69 0) 194 70 8) 194 71 0 = q at fs e244 eP e69 ⊢
  have mq := Fr_MT m1 fs
  have dq : dt q = dt h1 := Fr_dt fs
  have t := fun k hk => Fy_txt f k hk
  have t0 := congrFun (t 0 (by decide)) 0
  have t1 := congrFun (t 1 (by decide)) 0
  have t3 := congrFun (t 3 (by decide)) (w : Int)
  have hp2 := Nat.two_pow_pos (dt h 0 0).toNat
  have h256 := two8 (D8 mo)
  have wk := tx.2.2.2.1 w (by omega) hw
  have zz : ∀ p, 0 ≤ p → p < dt h 0 0 → dt h1 6 (8 + p) = szX (dt h) k p ∧ dt h1 7 (8 + p) = szY (dt h) k p ∧ dt h1 8 (8 + p) = szT (dt h) k p ∧ ∀ m, 0 ≤ m → m < 600 → dt h1 12 (601 * (8 + p) + m) = szN (dt h) L k p m := z.2.2.2.2
  have q8 : Qok (dt h1) 8 := Qok_sz tx hk t0 zz
  have gk1 : Gok (dt h1) (lgG (dt h) w) := ⟨q8, by show -1000 ≤ dt h 4 w ∧ dt h 4 w ≤ 1000; omega, by show -1000 ≤ dt h 5 w ∧ dt h 5 w ≤ 1000; omega, by show (0 : Int) ≤ 0 ∧ (0 : Int) ≤ 3000; decide⟩
  have hz1 : dt (zH h L k) 1 = dt h 1 := zH_dt 1 (by decide)
  have hz0 : dt (zH h L k) 0 = dt h 0 := zH_dt 0 (by decide)
  have qz : Qok (dt (zH h L k)) 8 := Qok_sz tx hk (by rw [hz0]) (fun p p0 p1 => ⟨by rw [zH_6, if_pos (by omega), show 8 + p - 8 = p by omega], by rw [zH_7, if_pos (by omega), show 8 + p - 8 = p by omega], by rw [zH_8, if_pos (by omega), show 8 + p - 8 = p by omega], fun m m0 m1 => zH_12p p0 ⟨m0, m1⟩⟩)
  have gkz : Gok (dt (zH h L k)) (lgG (dt h) w) := ⟨qz, by show -1000 ≤ dt h 4 w ∧ dt h 4 w ≤ 1000; omega, by show -1000 ≤ dt h 5 w ∧ dt h 5 w ≤ 1000; omega, by show (0 : Int) ≤ 0 ∧ (0 : Int) ≤ 3000; decide⟩
  have fc := m_fillsCan (F := F) (h := q) (w := w) (b := b) (al := lgT (dt h)) hF mq.1.1 (by rw [dq, eP]; exact gk1) mq.2 (by rw [dq, t1]; omega) (by rw [dq, t0]; unfold lgT; omega)
  rw [dq, eP, e69, e244] at fc
  have tok := tabF_ok m1.1.1 gk1 mq.2 (al := lgT (dt h)) (w := w) (by rw [t1]; omega)
  refine ⟨_, fc, Fr_sr (Fr_242 fs tok) (by decide), fun n hn => ?_, fun j hj => ?_⟩
  · rw [rd_sr, putA_in (by omega), Int.toNat_natCast]
    have ce : canV (CT (dt h1) (lgG (dt h) w) w (lgT (dt h))) 0 b (lgT (dt h)) n = canV (CT (dt (zH h L k)) (lgG (dt h) w) w (lgT (dt h))) 0 b (lgT (dt h)) n := by
      refine canV_eq (fun p hp hb ha h1' => ?_)
      refine CT_alk (h := zH h L k) (h' := h1) (zH_Mo mo L k) m1.1.1 gk1 (by rw [hz1]; omega) (by rw [t1]; omega) (by unfold lgT; omega) (by show (0 : Int) ≤ 0; decide) ⟨by rw [t0, hz0], by rw [t3, zH_dt 3 (by decide)], fun p p0 p1 => ?_⟩ h1' (by rw [hz0]; exact lgT_sub ha) ha hp hb
      rw [hz0] at p1
      obtain ⟨z1, z2, z3, z4⟩ := zz p p0 p1
      show dt h1 6 (8 + p) = dt (zH h L k) 6 (8 + p) ∧ dt h1 7 (8 + p) = dt (zH h L k) 7 (8 + p) ∧ dt h1 8 (8 + p) = dt (zH h L k) 8 (8 + p) ∧ ∀ m, 0 ≤ m → m < 600 → dt h1 12 (601 * (8 + p) + m) = dt (zH h L k) 12 (601 * (8 + p) + m)
      rw [z1, z2, z3, zH_6, zH_7, zH_8, if_pos (by omega), if_pos (by omega), if_pos (by omega), show 8 + p - 8 = p by omega]
      exact ⟨rfl, rfl, rfl, fun m m0 m1 => by rw [z4 m m0 m1, zH_12p p0 ⟨m0, m1⟩]⟩
    rw [ce]
    unfold lgC
    rcases canV_01 (CT (dt (zH h L k)) (lgG (dt h) w) w (lgT (dt h))) 0 b (lgT (dt h)) n with e | e <;> rw [e] <;> rfl
  · rw [rd_sr, putA_out hj]
theorem m_lg_L178 {F : Nat} {h h1 : Hp} {L : Lw} {k b : Int} (hF : 1000 ≤ F) (m : MT h) (tx : Tex (dt h)) (hk : 1 ≤ k ∧ k ≤ 16) (f : Fy h h1) (z : Sz h h1 L k (dt h 0 0)) :
    ∀ (j n w : Nat) (g : Hp), w + j = (dt h 1 0).toNat → j < n → Fr h1 g → (∀ v : Nat, v < w → ∀ n : Nat, n < 256 → rd g 244 (256 * (v : Int) + n) = if lgC h L k b v n then 1 else 0) →
    ∃ g', Fr h1 g' ∧ Mod_isLarge_L178 F n 194 b ((lgT (dt h) : Nat) : Int) w g = some (if lgB h L k b then 1 else 0, g') := by
  have hw3 := tx.2.1
  have hd := tx.1
  have m1 := MT_rows m f z
  have t0 := congrFun (Fy_txt f 0 (by decide)) 0
  have t1 := congrFun (Fy_txt f 1 (by decide)) 0
  have h256 := two8 (D8 m.1.1)
  intro j
  induction j with
  | zero =>
    intro n w g hw hn fg hc
    obtain ⟨n, rfl⟩ : ∃ j, n = j + 1 := ⟨n - 1, by omega⟩
    have mg := Fr_MT m1 fg
    have s := mg.1.1.1
    have hl := mg.1.1.2.1
    have e1 : rd g 208 (rd g 194 18) = dt h 1 0 := by rw [← t1, ← Fr_dt fg]; rfl
    obtain ⟨g', q, fg', -, r⟩ := m_sharesAll (F := F) (h0 := h1) (h := g) (C := lgC h L k b) hF m1 fg (fun v hv n hn => hc v (by rw [t1] at hv; omega) n hn)
    refine ⟨g', fg', ?_⟩
    show Mod_isLarge_L178s F _ 194 b _ _ g = _
    unfold Mod_isLarge_L178s Mod_isLarge_B258
    have rr := r (lgT (dt h)) (by unfold lgT; omega)
    rw [t1] at rr
    rw [gM27 s, gM18 s, aM27 s (by omega) (by omega), e1, if_neg (by omega), ivM s, q, cl_some, gM75 fg'.2.1, aM75 fg'.2.1 (by omega) (by unfold lgT; omega), rr]
    unfold lgB
    split <;> rfl
  | succ j ih =>
    intro n w g hw hn fg hc
    obtain ⟨n, rfl⟩ : ∃ j, n = j + 1 := ⟨n - 1, by omega⟩
    have mg := Fr_MT m1 fg
    have s := mg.1.1.1
    have hl := mg.1.1.2.1
    have dg := Fr_dt fg
    have e1 : rd g 208 (rd g 194 18) = dt h 1 0 := by rw [← t1, ← dg]; rfl
    have e4 : rd g 209 (3 * rd g 194 18 + w) = dt h 4 w := by rw [← congrFun (Fy_txt f 4 (by decide)) (w : Int), ← dg]; rfl
    have e5 : rd g 210 (3 * rd g 194 18 + w) = dt h 5 w := by rw [← congrFun (Fy_txt f 5 (by decide)) (w : Int), ← dg]; rfl
    obtain ⟨g', q, fg', r1, r2⟩ := lg_step (F := F) (b := b) (w := w) hF m tx hk f z fg (by omega)
    show ∃ g', _ ∧ Mod_isLarge_L178s F (Mod_isLarge_L178 F n) 194 b _ _ g = _
    unfold Mod_isLarge_L178s
    have s67 := sh67 s (dt h 4 w)
    have s68 := sh68 s67 (dt h 5 w)
    have s69 := sh69 s68 0
    have s70 := sh70 s69 8
    have s71 := sh71 s70 0
    have e5' : rd (wr g 194 67 (dt h 4 w)) 210 (3 * rd (wr g 194 67 (dt h 4 w)) 194 18 + w) = dt h 5 w := by rw [rd_wr_ne (by decide), rd_i (by decide)]; exact e5
    have l18 : rd (wr g 194 67 (dt h 4 w)) 194 18 = rd g 194 18 := rd_i (by decide)
    rw [gM27 s, gM18 s, aM27 s (by omega) (by omega), e1, if_pos (by omega), gM28 s, gM18 s, w32_id (x := 3 * rd g 194 18) (by omega) (by omega), w32_id (x := 3 * rd g 194 18 + (w : Int)) (by omega) (by omega), aM28 s (by omega) (by omega), e4, pM67 s, gM29 s67, gM18 s67, w32_id (x := 3 * rd (wr g 194 67 (dt h 4 w)) 194 18) (by rw [l18]; omega) (by rw [l18]; omega), w32_id (x := 3 * rd (wr g 194 67 (dt h 4 w)) 194 18 + (w : Int)) (by rw [l18]; omega) (by rw [l18]; omega), aM29 s67 (by rw [l18]; omega) (by rw [l18]; omega), e5', pM68 s67, pM69 s68, pM70 s69, pM71 s70 (Or.inl rfl), ivM s71, q, cl_some, w32_nat (by omega)]
    refine ih n (w + 1) g' (by omega) (by omega) fg' (fun v hv n hn => ?_)
    by_cases e : v = w
    · subst e; exact r1 n hn
    · rw [r2 _ (by omega)]; exact hc v (by omega) n hn
/-- what large leaves -/
def Fl (h h' : Hp) : Prop := (hsz h' = hsz h ∧ hus h' = hus h ∧ hkd h' = hkd h ∧ hln h' = hln h) ∧ Sh h' ∧ (∀ a : Int, a ≠ 194 → ¬ ((227 ≤ a ∧ a ≤ 228) ∨ (232 ≤ a ∧ a ≤ 238) ∨ a = 240 ∨ (242 ≤ a ∧ a ≤ 248)) → rd h' a = rd h a) ∧ (∀ k : Int, ¬ (k = 51 ∨ (67 ≤ k ∧ k ≤ 71) ∨ k = 73 ∨ k = 79) → rd h' 194 k = rd h 194 k) ∧ Zo 140 (rd h' 240) ∧ (∀ i, Vok (rd h' 242 i)) ∧ (∀ a j, 232 ≤ a → a ≤ 235 → j < 8 → rd h' a j = rd h a j) ∧ (∀ a j, 236 ≤ a → a ≤ 237 → j < 4800 → rd h' a j = rd h a j) ∧ (∀ j, j < 4808 → rd h' 238 j = rd h 238 j)
theorem Fl_of {h h1 h2 : Hp} {L : Lw} {k i : Int} (f : Fy h h1) (z : Sz h h1 L k i) (g : Fr h1 h2) : Fl h h2 := by
  obtain ⟨⟨a1, a2, a3, a4⟩, a5, a6, a7⟩ := f
  obtain ⟨⟨b1, b2, b3, b4⟩, b5, b6, b7, b8, b9⟩ := g
  refine ⟨⟨b1.trans a1, b2.trans a2, b3.trans a3, b4.trans a4⟩, b5, fun a h1 h2 => ?_, fun k hk => ?_, b8, b9, fun a j h1 h2 h3 => ?_, fun a j h1 h2 h3 => ?_, fun j h3 => ?_⟩
  · rw [b6 a h1 (by omega)]
    by_cases c : 229 ≤ a ∧ a ≤ 231
    · exact z.1 a c.1 c.2
    · exact a6 a h1 (by omega)
  · rw [b7 k hk]; exact a7 k (by omega)
  · rw [b6 a (by omega) (by omega)]; exact z.2.1 a j h1 h2 h3
  · rw [b6 a (by omega) (by omega)]; exact z.2.2.1 a j h1 h2 h3
  · rw [b6 238 (by decide) (by decide)]; exact z.2.2.2.1 j h3
theorem Fl_refl {h : Hp} (m : MT h) : Fl h h := ⟨⟨rfl, rfl, rfl, rfl⟩, m.1.1.1, fun _ _ _ => rfl, fun _ _ => rfl, m.1.2.2.1, m.2, fun _ _ _ _ _ => rfl, fun _ _ _ _ _ => rfl, fun _ _ => rfl⟩
theorem Fl_trans {h h' h'' : Hp} (a : Fl h h') (b : Fl h' h'') : Fl h h'' := by
  obtain ⟨⟨a1, a2, a3, a4⟩, a5, a6, a7, a8, a9, a10, a11, a12⟩ := a
  obtain ⟨⟨b1, b2, b3, b4⟩, b5, b6, b7, b8, b9, b10, b11, b12⟩ := b
  exact ⟨⟨b1.trans a1, b2.trans a2, b3.trans a3, b4.trans a4⟩, b5, fun a h1 h2 => (b6 a h1 h2).trans (a6 a h1 h2), fun k hk => (b7 k hk).trans (a7 k hk), b8, b9, fun a j h1 h2 h3 => (b10 a j h1 h2 h3).trans (a10 a j h1 h2 h3), fun a j h1 h2 h3 => (b11 a j h1 h2 h3).trans (a11 a j h1 h2 h3), fun j h3 => (b12 j h3).trans (a12 j h3)⟩
theorem Fl_txt {h h' : Hp} (f : Fl h h') : ∀ k : Nat, (k < 6 ∨ 13 ≤ k) → dt h' k = dt h k := by
  intro k hk
  have e18 := f.2.2.2.1 18 (by decide)
  have e : ∀ a : Int, 203 ≤ a → a ≤ 216 → rd h' a = rd h a := fun a h1 h2 => f.2.2.1 a (by omega) (by omega)
  have e' : ∀ a : Int, 229 ≤ a → a ≤ 231 → rd h' a = rd h a := fun a h1 h2 => f.2.2.1 a (by omega) (by omega)
  funext i
  unfold dt
  split <;> first | rw [e _ (by decide) (by decide), e18] | rw [e' _ (by decide) (by decide)] | omega
theorem Fl_rows {h h' : Hp} (f : Fl h h') : (∀ k : Nat, 6 ≤ k → k ≤ 9 → ∀ j, j < 8 → dt h' k j = dt h k j) ∧ (∀ k : Nat, 10 ≤ k → k ≤ 11 → ∀ j, j < 4800 → dt h' k j = dt h k j) ∧ ∀ j, j < 4808 → dt h' 12 j = dt h 12 j := by
  obtain ⟨-, -, -, -, -, -, a10, a11, a12⟩ := f
  refine ⟨fun k k0 k1 j hj => ?_, fun k k0 k1 j hj => ?_, fun j hj => a12 j hj⟩
  · obtain rfl | rfl | rfl | rfl : k = 6 ∨ k = 7 ∨ k = 8 ∨ k = 9 := by omega
    · exact a10 232 j (by decide) (by decide) hj
    · exact a10 233 j (by decide) (by decide) hj
    · exact a10 234 j (by decide) (by decide) hj
    · exact a10 235 j (by decide) (by decide) hj
  · obtain rfl | rfl : k = 10 ∨ k = 11 := by omega
    · exact a11 236 j (by decide) (by decide) hj
    · exact a11 237 j (by decide) (by decide) hj
theorem Fl_MT {h h' : Hp} (m : MT h) (f : Fl h h') : MT h' := by
  obtain ⟨⟨m1, m2, m3, m4, m5, m6, m7⟩, v⟩ := m
  have t := fun k hk => Fl_txt f k hk
  obtain ⟨r1, r2, r3⟩ := Fl_rows f
  have e9 : rd h' 239 = rd h 239 := f.2.2.1 239 (by decide) (by decide)
  have e4 : ∀ j, ¬ (j = 51 ∨ (67 ≤ j ∧ j ≤ 71) ∨ j = 73 ∨ j = 79) → rd h' 194 j = rd h 194 j := f.2.2.2.1
  refine ⟨⟨⟨f.2.1, by rw [e4 18 (by decide)]; exact m1.2.1, Dok_rows m1.2.2 (fun k hk => t k (by omega)) (fun p hp => ⟨r1 6 (by decide) (by decide) p hp, r1 7 (by decide) (by decide) p hp, r1 8 (by decide) (by decide) p hp⟩) (fun j hj => r2 10 (by decide) (by decide) j hj) (fun j hj => r3 j hj)⟩, by rw [e9]; exact m2, f.2.2.2.2.1, ?_, by rw [e9]; exact m5, by rw [e4 64 (by decide)]; exact m6, by rw [e4 80 (by decide)]; exact m7⟩, f.2.2.2.2.2.1⟩
  unfold Rok
  rw [e9, t 1 (by decide)]; exact m4
theorem Fl_RL {h h' : Hp} (f : Fl h h') {k : Int} {L : Lw} (g : RLw h k L) : RLw h' k L := RL_eq (f.2.2.2.1 18 (by decide)) (fun b h1 h2 => f.2.2.1 b (by omega) (by omega)) g
theorem Fl_Tex {h h' : Hp} (f : Fl h h') (t : Tex (dt h)) : Tex (dt h') := by
  have e := fun k hk => Fl_txt f k hk
  unfold Tex
  rw [e 0 (by decide), e 1 (by decide), e 2 (by decide), e 3 (by decide), e 4 (by decide), e 5 (by decide), e 16 (by decide), e 17 (by decide), e 18 (by decide), e 19 (by decide), e 20 (by decide), e 21 (by decide), e 22 (by decide), e 23 (by decide)]
  exact t
theorem m_isLarge {F : Nat} {h : Hp} {L : Lw} {k b : Int} (hF : 1000 ≤ F) (m : MT h) (tx : Tex (dt h)) (g0 : RLw h 0 L) (hk : 1 ≤ k ∧ k ≤ 16) : ∃ h', Mod_isLarge F 194 k b h = some (if lgB h L k b then 1 else 0, h') ∧ Fl h h' := by
  have mo := m.1.1
  have s := mo.1
  have hl := mo.2.1
  have hd := tx.1
  have h256 := two8 (D8 mo)
  have hp2 := Nat.two_pow_pos (dt h 0 0).toNat
  obtain ⟨h1, f1, z1, q1⟩ := m_lg_L17 (F := F) (h0 := h) (L := L) (k := k) (b := b) (al := ((lgT (dt h) : Nat) : Int)) hF s hl tx g0 hk (dt h 0 0).toNat F 0 h (by omega) (by omega) (Fy_refl s) ⟨fun _ _ _ => rfl, fun _ _ _ _ _ => rfl, fun _ _ _ _ _ => rfl, fun _ _ => rfl, fun p p0 p1 => by omega⟩
  obtain ⟨g', fg, q2⟩ := m_lg_L178 (F := F) (b := b) hF m tx hk f1 z1 (dt h 1 0).toNat F 0 h1 (by omega) (by have := tx.2.1; omega) (Fr_refl (MT_rows m f1 z1)) (fun v hv => by omega)
  refine ⟨g', ?_, Fl_of f1 z1 fg⟩
  have e0 : rd h 203 (rd h 194 18) = dt h 0 0 := rfl
  have sl := ishl_1 (dt h 0 0).toNat (by omega)
  rw [show (((dt h 0 0).toNat : Nat) : Int) = dt h 0 0 by omega] at sl
  unfold Mod_isLarge
  rw [gM22 s, gM18 s, aM22 s (by omega) (by omega), e0, sl, w32_id (x := ((2 ^ (dt h 0 0).toNat : Nat) : Int) - 1) (by omega) (by omega), lt_eq, show ((2 ^ (dt h 0 0).toNat : Nat) : Int) - 1 = ((lgT (dt h) : Nat) : Int) by unfold lgT; omega]
  exact q1.trans q2
/-- the sized rows do not depend on what stood there before -/
theorem lgB_Fl {h h' : Hp} {L : Lw} {k b : Int} (m : MT h) (tx : Tex (dt h)) (hk : 1 ≤ k ∧ k ≤ 16) (f : Fl h h') : lgB h' L k b = lgB h L k b := by
  have t := fun k hk => Fl_txt f k hk
  have mo := m.1.1
  have mo' := (Fl_MT m f).1.1
  have tx' := Fl_Tex f tx
  have eT : lgT (dt h') = lgT (dt h) := by unfold lgT; rw [t 0 (by decide)]
  have hp2 := Nat.two_pow_pos (dt h 0 0).toNat
  have h256 := two8 (D8 mo)
  have eX : ∀ p, szX (dt h') k p = szX (dt h) k p := fun p => by unfold szX; rw [t 20 (by decide), t 22 (by decide)]
  have eY : ∀ p, szY (dt h') k p = szY (dt h) k p := fun p => by unfold szY; rw [t 21 (by decide), t 23 (by decide)]
  have eZ : ∀ p, szT (dt h') k p = szT (dt h) k p := fun p => by unfold szT; rw [t 16 (by decide)]
  have eN : ∀ p m, szN (dt h') L k p m = szN (dt h) L k p m := fun p m => by unfold szN; rw [t 13 (by decide), t 17 (by decide), t 18 (by decide), eX, eY, eZ]
  have eC : ∀ w : Nat, (w : Int) < dt h 1 0 → ∀ s, lgC h' L k b w s = lgC h L k b w s := by
    intro w hw s
    have wk := tx.2.2.2.1 w (by omega) hw
    have eG : lgG (dt h') w = lgG (dt h) w := by
      funext i
      rcases i with _ | _ | _ | _ | i
      · show dt h' 4 w = dt h 4 w
        rw [t 4 (by decide)]
      · show dt h' 5 w = dt h 5 w
        rw [t 5 (by decide)]
      · rfl
      · rfl
      · rfl
    unfold lgC
    rw [eT, eG]
    have hz0 : dt (zH h L k) 0 = dt h 0 := zH_dt 0 (by decide)
    have hz0' : dt (zH h' L k) 0 = dt h' 0 := zH_dt 0 (by decide)
    have qz : Qok (dt (zH h' L k)) 8 := Qok_sz tx' hk (by rw [hz0']) (fun p p0 p1 => ⟨by rw [zH_6, if_pos (by omega), show 8 + p - 8 = p by omega], by rw [zH_7, if_pos (by omega), show 8 + p - 8 = p by omega], by rw [zH_8, if_pos (by omega), show 8 + p - 8 = p by omega], fun m m0 m1 => zH_12p p0 ⟨m0, m1⟩⟩)
    have gkz : Gok (dt (zH h' L k)) (lgG (dt h) w) := ⟨qz, by show -1000 ≤ dt h 4 w ∧ dt h 4 w ≤ 1000; omega, by show -1000 ≤ dt h 5 w ∧ dt h 5 w ≤ 1000; omega, by show (0 : Int) ≤ 0 ∧ (0 : Int) ≤ 3000; decide⟩
    have ce : canV (CT (dt (zH h' L k)) (lgG (dt h) w) w (lgT (dt h))) 0 b (lgT (dt h)) s = canV (CT (dt (zH h L k)) (lgG (dt h) w) w (lgT (dt h))) 0 b (lgT (dt h)) s := by
      refine canV_eq (fun p hp hb ha h1' => ?_)
      refine CT_alk (h := zH h L k) (h' := zH h' L k) (zH_Mo mo L k) (zH_Mo mo' L k) gkz (by rw [zH_dt 1 (by decide)]; omega) (by rw [zH_dt 1 (by decide), t 1 (by decide)]; omega) (by unfold lgT; omega) (by show (0 : Int) ≤ 0; decide) ⟨by rw [hz0, hz0', t 0 (by decide)], by rw [zH_dt 3 (by decide), zH_dt 3 (by decide), t 3 (by decide)], fun p p0 p1 => ?_⟩ h1' (by rw [hz0]; exact lgT_sub ha) ha hp hb
      show dt (zH h' L k) 6 (8 + p) = dt (zH h L k) 6 (8 + p) ∧ dt (zH h' L k) 7 (8 + p) = dt (zH h L k) 7 (8 + p) ∧ dt (zH h' L k) 8 (8 + p) = dt (zH h L k) 8 (8 + p) ∧ ∀ m, 0 ≤ m → m < 600 → dt (zH h' L k) 12 (601 * (8 + p) + m) = dt (zH h L k) 12 (601 * (8 + p) + m)
      rw [zH_6, zH_6, zH_7, zH_7, zH_8, zH_8, if_pos (by omega), if_pos (by omega), if_pos (by omega), if_pos (by omega), if_pos (by omega), if_pos (by omega), eX, eY, eZ]
      exact ⟨rfl, rfl, rfl, fun m m0 m1 => by rw [zH_12p p0 ⟨m0, m1⟩, zH_12p p0 ⟨m0, m1⟩, eN]⟩
    rw [ce]
  unfold lgB
  rw [eT, t 1 (by decide)]
  have hw3 := tx.2.1
  have key : ∀ w : Nat, (w : Int) ≤ dt h 1 0 → shW (lgC h' L k b) w = shW (lgC h L k b) w := by
    intro w
    induction w with
    | zero => intro _; rfl
    | succ w ih =>
      intro hw
      have e : lgC h' L k b w = lgC h L k b w := funext (eC w (by omega))
      show shO (shW (lgC h' L k b) w) (lgC h' L k b w) (fun _ => false) 256 = shO (shW (lgC h L k b) w) (lgC h L k b w) (fun _ => false) 256
      rw [ih (by omega), e]
  rw [key _ (by omega)]
def lgD (f : Int → Bool) : Nat → Int
  | 0 => 0
  | k + 1 => if f ((k + 1 : Nat) : Int) then ((k + 1 : Nat) : Int) else lgD f k
def lrgA (h : Hp) (L : Lw) (b : Int) : Int := if 0 ≤ b ∧ b ≤ 600 then lgD (fun k => lgB h L k b) 16 else -1
theorem m_large {F : Nat} {h : Hp} {L : Lw} {b : Int} (hF : 1000 ≤ F) (m : MT h) (tx : Tex (dt h)) (g0 : RLw h 0 L) : ∃ h', Mod_large F 194 b h = some (lrgA h L b, h') ∧ Fl h h' := by
  have key : ∀ (k n : Nat) (g : Hp), k ≤ 16 → k < n → Fl h g → ∃ h', Mod_large_L12 F n 194 b k g = some (lgD (fun k => lgB h L k b) k, h') ∧ Fl h h' := by
    intro k
    induction k with
    | zero =>
      intro n g _ hn f
      obtain ⟨n, rfl⟩ : ∃ j, n = j + 1 := ⟨n - 1, by omega⟩
      refine ⟨g, ?_, f⟩
      show Mod_large_L12s F _ 194 b _ g = _
      unfold Mod_large_L12s
      rw [if_neg (by decide)]
      rfl
    | succ k ih =>
      intro n g hk hn f
      obtain ⟨n, rfl⟩ : ∃ j, n = j + 1 := ⟨n - 1, by omega⟩
      have mg := Fl_MT m f
      obtain ⟨g', q, f'⟩ := m_isLarge (F := F) (h := g) (L := L) (k := ((k + 1 : Nat) : Int)) (b := b) hF mg (Fl_Tex f tx) (Fl_RL f g0) (by omega)
      rw [lgB_Fl m tx (by omega) f] at q
      show ∃ h', Mod_large_L12s F (Mod_large_L12 F n) 194 b _ g = _ ∧ _
      unfold Mod_large_L12s
      rw [if_pos (by omega), ivM mg.1.1.1, q, cl_some]
      have e : lgD (fun k => lgB h L k b) (k + 1) = if lgB h L ((k + 1 : Nat) : Int) b then ((k + 1 : Nat) : Int) else lgD (fun k => lgB h L k b) k := rfl
      rw [e]
      by_cases hb : lgB h L ((k + 1 : Nat) : Int) b = true
      · rw [if_pos hb, if_neg (by decide), if_pos hb]
        exact ⟨g', rfl, Fl_trans f f'⟩
      · rw [if_neg hb, if_pos rfl, if_neg hb, w32_id (x := ((k + 1 : Nat) : Int) + -1) (by omega) (by omega), show ((k + 1 : Nat) : Int) + -1 = (k : Int) by omega]
        exact ih n g' (by omega) (by omega) (Fl_trans f f')
  unfold Mod_large lrgA
  rw [m_isBy, cl_some]
  by_cases hb : 0 ≤ b ∧ b ≤ 600
  · rw [if_pos hb, if_neg (by decide), if_pos hb]
    exact key 16 F h (by decide) (by omega) (Fl_refl m)
  · rw [if_neg hb, if_pos rfl, if_neg hb]
    exact ⟨h, rfl, Fl_refl m⟩
