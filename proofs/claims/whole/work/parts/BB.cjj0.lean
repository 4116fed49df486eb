/-! how both stand when they are made -/
abbrev lw0 : Nat → Lw := fun _ => []
theorem jW (L : Nat) (xs : Nat → Int32) (b j : Int) (hb : b ≠ -1) {v : Int} (e : lrd b j mw = v) : rd (lh (hini L xs) mw) b j = v := (rd_lh L xs hb j mw).trans e
theorem jN (L : Nat) (xs : Nat → Int32) (b j : Int) (hb : b ≠ -1) (e : lno b mw = true) : rd (lh (hini L xs) mw) b j = 0 := (rd_lh L xs hb j mw).trans (lrd_no j mw e)
theorem w_laws : ∀ k : Nat, k < 5 → lrd 217 k mw = 0 ∧ lrd 218 k mw = 0 := by decide +kernel
theorem w_keys : ∀ k : Nat, k < 18 → lrd 201 k mw = enc 27 (wds.getD k []) := by decide +kernel
theorem w_words : ∀ k : Nat, k < 18 → lrd 4 k mw = enc 32 (wds.getD k []) := by decide +kernel
theorem w_stand : ∀ p : Nat, p < 8 → lrd 68 p mw = -2 ∧ lrd 69 p mw = 0 ∧ lrd 70 p mw = -2 ∧ lrd 71 p mw = 0 := by decide +kernel
theorem w_sizes : ∀ k : Nat, k < 17 → lrd 96 k mw = -1 := by decide +kernel
theorem w_sand : ∀ a ∈ sdL, (lrd a 4 mw < 254 ∧ lrd a 5 mw < 254 ∧ (1 ≤ lrd a 4 mw ∧ lkd (lrd a 4 mw) mw = 0) ∧ lln (lrd a 4 mw) mw = 0) ∧ a ≠ -1 := by decide +kernel
theorem w_rows : ∀ a ∈ rwL, (lrd a 5 mw < 254 ∧ lrd a 6 mw < 254 ∧ (1 ≤ lrd a 5 mw ∧ lkd (lrd a 5 mw) mw = 0) ∧ lln (lrd a 5 mw) mw = 0) ∧ a ≠ -1 := by decide +kernel
theorem w_fld : (lrd 194 2 mw = 0 ∧ lrd 194 17 mw = -1 ∧ lrd 194 18 mw = 0 ∧ lrd 194 64 mw = 0 ∧ lrd 194 80 mw = 0) ∧ (lrd 203 0 mw = 0 ∧ lrd 208 0 mw = 0 ∧ lrd 212 0 mw = 1 ∧ lrd 213 0 mw = 600 ∧ lrd 214 0 mw = 0 ∧ lrd 215 0 mw = 0 ∧ lrd 216 0 mw = 0) ∧ (lrd 1 1 mw = 0 ∧ lrd 1 2 mw = -1 ∧ lrd 3 5 mw = 9 ∧ lrd 22 0 mw = 23) ∧ (lrd 23 4 mw = 0 ∧ lrd 23 8 mw = 0 ∧ lrd 23 9 mw = 1 ∧ lrd 23 10 mw = 600 ∧ lrd 23 11 mw = 0 ∧ lrd 23 12 mw = 0 ∧ lrd 23 13 mw = 0) ∧ (lrd 31 4 mw = 10 ∧ lrd 39 0 mw = 0 ∧ lrd 66 8 mw = 0 ∧ lrd 78 1 mw = 0 ∧ lrd 78 2 mw = 0 ∧ lrd 139 4 mw = 0 ∧ lrd 82 6 mw = 0) ∧ (lrd 81 0 mw = 0 ∧ lrd 81 1 mw = 0 ∧ lrd 81 2 mw = 0 ∧ lrd 84 0 mw = 0 ∧ lrd 84 1 mw = 0 ∧ lrd 84 2 mw = 0) ∧ (lrd 33 0 mw = 0 ∧ lrd 33 1 mw = 2 ∧ lrd 33 2 mw = 4 ∧ lrd 33 3 mw = 6 ∧ lrd 33 4 mw = 8) ∧ (lrd 32 0 mw = 258 ∧ lrd 32 1 mw = 4 ∧ lrd 32 2 mw = 1 ∧ lrd 32 3 mw = 4 ∧ lrd 32 4 mw = 25601 ∧ lrd 32 5 mw = 4 ∧ lrd 32 6 mw = 770 ∧ lrd 32 7 mw = 4 ∧ lrd 32 8 mw = 1 ∧ lrd 32 9 mw = 4) := by decide +kernel
theorem w_no : (lno 2 mw && lno 5 mw && lno 195 mw && lno 196 mw && lno 197 mw && lno 239 mw && lno 240 mw && lno 242 mw && lno 252 mw) = true := by decide +kernel
/-- the newest row that speaks of a cell is a filling -/
def lq (b n v : Int) : List Lgr → Bool
  | [] => false
  | (0, a, _) :: c => decide (¬ b = a) && lq b n v c
  | (1, a, _) :: c => decide (¬ b = a) && lq b n v c
  | (_ + 2, a, x, y, _) :: c => if b = a then decide (x = n) && decide (y = v) else lq b n v c
theorem lrd_q {b n v j : Int} (h0 : 0 ≤ j) (h1 : j < n) : ∀ c, lq b n v c = true → lrd b j c = v
  | [], g => by cases g
  | (0, a, _, _, _) :: c, g => by
    have g' : (decide (¬ b = a) && lq b n v c) = true := g
    rw [Bool.and_eq_true, decide_eq_true_eq] at g'
    show (if b = a then 0 else lrd b j c) = v
    rw [if_neg g'.1, lrd_q h0 h1 c g'.2]
  | (1, a, x, y, _) :: c, g => by
    have g' : (decide (¬ b = a) && lq b n v c) = true := g
    rw [Bool.and_eq_true, decide_eq_true_eq] at g'
    show (if b = a ∧ j = x then y else lrd b j c) = v
    rw [if_neg (fun q => g'.1 q.1), lrd_q h0 h1 c g'.2]
  | (_ + 2, a, x, y, _) :: c, g => by
    have g' : (if b = a then decide (x = n) && decide (y = v) else lq b n v c) = true := g
    show (if b = a ∧ 0 ≤ j ∧ j < x then y else lrd b j c) = v
    by_cases e : b = a
    · rw [if_pos e, Bool.and_eq_true, decide_eq_true_eq, decide_eq_true_eq] at g'
      rw [if_pos ⟨e, h0, by rw [g'.1]; exact h1⟩, g'.2]
    · rw [if_neg e] at g'
      rw [if_neg (fun q => e q.1), lrd_q h0 h1 c g']
theorem w_36 : (lno 36 mw && lq 37 600 100 mw) = true := by decide +kernel
theorem jj0 {F L : Nat} {xs : Nat → Int32} (hF : 3000 ≤ F) : ∃ h, Mod_init F 194 (lh (hini L xs) m0) = some (0, h) ∧ JJ 0 h lw0 ∧ hln h (-1) = L := by
  obtain ⟨⟨f2, f17, f18, f64, f80⟩, ⟨x203, x208, x212, x213, x214, x215, x216⟩, ⟨a11, a12, a35, a220⟩, ⟨c4, c8, c9, c10, c11, c12, c13⟩, ⟨l4, v39, v66, v781, v782, v139, v82⟩, ⟨y0, y1, y2, y3, y4, y5⟩, ⟨b0, b1, b2, b3, b4⟩, ⟨p0, p1, p2, p3, p4, p5, p6, p7, p8, p9⟩⟩ := w_fld
  have wn := w_no
  simp only [Bool.and_eq_true] at wn
  obtain ⟨⟨⟨⟨⟨⟨⟨⟨n2, n5⟩, n195⟩, n196⟩, n197⟩, n239⟩, n240⟩, n242⟩, n252⟩ := wn
  have s : Sh (lh (hini L xs) mw) := s_mw
  have W := fun b j hb v (e : lrd b j mw = v) => jW L xs b j hb e
  have N := fun b j hb (e : lno b mw = true) => jN L xs b j hb e
  have sz : hsz (lh (hini L xs) mw) = 254 := by rw [hsz_lh]; exact z_mw.1
  have us : hus (lh (hini L xs) mw) ≤ 100000 := by rw [hus_lh]; exact z_mw.2.1
  have hsc : hln (lh (hini L xs) mw) (-1) = L := hln_sc L xs mw z_mw.2.2
  have vK : ∀ b, hkd (lh (hini L xs) mw) b = lkd b mw := fun b => hkd_lh L xs b mw
  have vL : ∀ b, b ≠ -1 → hln (lh (hini L xs) mw) b = lln b mw := fun b hb => hln_lh L xs hb mw
  rw [d_mod (by omega)]
  generalize lh (hini L xs) mw = h at s W N sz us hsc vK vL
  have e18 : rd h 194 18 = 0 := W 194 18 (by decide) 0 f18
  have lw : ∀ k : Nat, k < 5 → rd h 217 k = 0 ∧ rd h 218 k = 0 := fun k hk => ⟨W 217 k (by decide) 0 (w_laws k hk).1, W 218 k (by decide) 0 (w_laws k hk).2⟩
  have d0 : dt h 0 0 = 0 := by show rd h 203 (rd h 194 18) = 0; rw [e18]; exact W 203 0 (by decide) 0 x203
  obtain ⟨h1, e1, fy, dy⟩ := m_layOut (F := F) (h := h) (Λ := lw0) (by omega) s (Or.inl e18) (by rw [d0]; decide) (fun k hk => by
    unfold RLw
    rw [e18, show 5 * (0 : Int) + (k : Int) = k by omega, (lw k hk).1, (lw k hk).2]
    exact ⟨by decide, rfl, by decide, trivial⟩)
  have g18 : rd h1 194 18 = 0 := (fy.2.2.2 18 (by decide)).trans e18
  have c1 : ∀ a : Int, a ≠ 194 → ¬ (227 ≤ a ∧ a ≤ 238) → rd h1 a = rd h a := fy.2.2.1
  have tx : dt h1 0 0 = 0 ∧ dt h1 1 0 = 0 ∧ dt h1 17 0 = 1 ∧ dt h1 18 0 = 600 ∧ dt h1 20 0 = 0 ∧ dt h1 21 0 = 0 ∧ dt h1 19 0 = 0 := by
    show rd h1 203 (rd h1 194 18) = 0 ∧ rd h1 208 (rd h1 194 18) = 0 ∧ rd h1 212 (rd h1 194 18) = 1 ∧ rd h1 213 (rd h1 194 18) = 600 ∧ rd h1 214 (rd h1 194 18) = 0 ∧ rd h1 215 (rd h1 194 18) = 0 ∧ rd h1 216 (rd h1 194 18) = 0
    rw [g18, c1 203 (by decide) (by decide), c1 208 (by decide) (by decide), c1 212 (by decide) (by decide), c1 213 (by decide) (by decide), c1 214 (by decide) (by decide), c1 215 (by decide) (by decide), c1 216 (by decide) (by decide)]
    exact ⟨W 203 0 (by decide) 0 x203, W 208 0 (by decide) 0 x208, W 212 0 (by decide) 1 x212, W 213 0 (by decide) 600 x213, W 214 0 (by decide) 0 x214, W 215 0 (by decide) 0 x215, W 216 0 (by decide) 0 x216⟩
  obtain ⟨t0, t1, t17, t18, t20, t21, t19⟩ := tx
  have te : Tex (dt h1) := by
    refine ⟨by rw [t0]; decide, by rw [t1]; decide, fun p q0 q1 => ?_, fun p q0 q1 => ?_, by rw [t17]; decide, by rw [t18]; decide, by rw [t20]; decide, by rw [t21]; decide, by rw [t19]; decide⟩
    · rw [t0] at q1; omega
    · rw [t1] at q1; omega
  have mo1 : Mo h1 := ⟨fy.2.1, Or.inl g18, Dok_of te dy⟩
  have r240 : rd h1 240 = fun _ => 0 := by rw [c1 240 (by decide) (by decide)]; funext j; exact N 240 j (by decide) n240
  have r239 : rd h1 239 = fun _ => 0 := by rw [c1 239 (by decide) (by decide)]; funext j; exact N 239 j (by decide) n239
  have e2 := m_begins (F := F) (by omega) mo1 (by rw [r240]; exact fun _ _ => rfl)
  have zb : Zo 140 (bgR (dt h1)) := Zo_bg mo1
  have s2 : Sh (sr h1 240 (bgR (dt h1))) := Sh_sr fy.2.1 (by decide) (by decide)
  have e3 := m_keepsRow (F := F) (h := sr h1 240 (bgR (dt h1))) (by omega) s2 (by rw [rd_sr_ne (by decide), r239]; exact fun _ _ => rfl) (by rw [rd_sr]; exact zb)
  rw [rd_sr] at e3
  have s3 : Sh (sr (sr h1 240 (bgR (dt h1))) 239 (bgR (dt h1))) := Sh_sr s2 (by decide) (by decide)
  refine ⟨sr (sr h1 240 (bgR (dt h1))) 239 (bgR (dt h1)), ?_, ?_, ?_⟩
  · rw [ivM s, e1, cl_s, ivM fy.2.1, e2, cl_s, ivM s2, e3, cl_s]
  rotate_left
  · show hln h1 (-1) = L
    rw [fy.1.2.2.2]; exact hsc
  have k239 : rd (sr (sr h1 240 (bgR (dt h1))) 239 (bgR (dt h1))) 239 = bgR (dt h1) := rd_sr _ _ _
  have k240 : rd (sr (sr h1 240 (bgR (dt h1))) 239 (bgR (dt h1))) 240 = bgR (dt h1) := by rw [rd_sr_ne (by decide), rd_sr]
  have kk : ∀ b, b ≠ 239 → b ≠ 240 → rd (sr (sr h1 240 (bgR (dt h1))) 239 (bgR (dt h1))) b = rd h1 b := fun b q1 q2 => by rw [rd_sr_ne q1, rd_sr_ne q2]
  have ed : dt (sr (sr h1 240 (bgR (dt h1))) 239 (bgR (dt h1))) = dt h1 := dt_eq ⟨by rw [kk 194 (by decide) (by decide)], fun a q1 q2 => kk a (by omega) (by omega), fun a q1 q2 => kk a (by omega) (by omega)⟩
  have z3 : hsz (sr (sr h1 240 (bgR (dt h1))) 239 (bgR (dt h1))) = 254 ∧ hus (sr (sr h1 240 (bgR (dt h1))) 239 (bgR (dt h1))) ≤ 100000 ∧ hkd (sr (sr h1 240 (bgR (dt h1))) 239 (bgR (dt h1))) = hkd h ∧ hln (sr (sr h1 240 (bgR (dt h1))) 239 (bgR (dt h1))) = hln h := ⟨by show hsz h1 = 254; rw [fy.1.1]; exact sz, by show hus h1 ≤ 100000; rw [fy.1.2.1]; exact us, fy.1.2.2.1, fy.1.2.2.2⟩
  generalize sr (sr h1 240 (bgR (dt h1))) 239 (bgR (dt h1)) = g at s3 k239 k240 kk ed z3
  -- cells
  have C : ∀ b, b ≠ 194 → ¬ (227 ≤ b ∧ b ≤ 240) → rd g b = rd h b := fun b q1 q2 => (kk b (by omega) (by omega)).trans (c1 b q1 (by omega))
  have M : ∀ k, k ≠ 51 → rd g 194 k = rd h 194 k := fun k q => by rw [kk 194 (by decide) (by decide)]; exact fy.2.2.2 k q
  have V : ∀ b j v, b ≠ 194 → ¬ (227 ≤ b ∧ b ≤ 240) → b ≠ -1 → lrd b j mw = v → rd g b j = v := fun b j v q1 q2 q3 q4 => by rw [C b q1 q2]; exact W b j q3 v q4
  have m2 : rd g 194 2 = 0 := (M 2 (by decide)).trans (W 194 2 (by decide) 0 f2)
  have m17 : rd g 194 17 = -1 := (M 17 (by decide)).trans (W 194 17 (by decide) (-1) f17)
  have m18 : rd g 194 18 = 0 := (M 18 (by decide)).trans e18
  have m64 : rd g 194 64 = 0 := (M 64 (by decide)).trans (W 194 64 (by decide) 0 f64)
  have m80 : rd g 194 80 = 0 := (M 80 (by decide)).trans (W 194 80 (by decide) 0 f80)
  have mo3 : Mo g := ⟨s3, Or.inl m18, by rw [ed]; exact mo1.2.2⟩
  have rw3 : RwN 0 (dt g) (rd g 239) := by rw [k239, ← ed]; exact RwN_bg mo3
  have bt := bg_at (D := dt h1) (by rw [t1]; decide)
  have v22 : rd g 22 0 = 23 := V 22 0 23 (by decide) (by decide) (by decide) a220
  refine ⟨⟨⟨⟨mo3, by rw [k239]; exact zb, by rw [k240]; exact zb, rw3.1.1, ⟨rw3.2.2.2.1.1, by have := rw3.2.2.2.1.2; omega⟩, by rw [m64]; decide, by rw [m80]; decide⟩, fun i => ?_⟩, by rw [ed]; exact te, by rw [ed]; exact dy, fun k hk => ?_, fun k hk => ?_, fun t ht => ?_, ⟨by rw [m2]; decide, fun i i0 i1 => ?_⟩, fun i i0 i1 => ?_, rw3⟩, ?_, ?_, ?_⟩
  · rw [C 242 (by decide) (by decide), N 242 i (by decide) n242]; exact Or.inr (by decide)
  · refine ⟨0, 0, by rw [m18]; decide, by rw [m18]; decide, ?_⟩
    rw [m18]
    unfold LB
    rw [show 5 * (0 : Int) + (k : Int) = k by omega, C 217 (by decide) (by decide), C 218 (by decide) (by decide), (lw k hk).1, (lw k hk).2]
    exact ⟨by decide, rfl, Or.inl rfl, by decide, trivial⟩
  · exact V 201 k _ (by decide) (by decide) (by decide) (w_keys k hk)
  · rw [C 197 (by decide) (by decide), N 197 t (by decide) n197]
    exact ⟨⟨20, by unfold KdOk; omega, by decide⟩, fun _ q => absurd rfl q⟩
  · rw [C 195 (by decide) (by decide), C 196 (by decide) (by decide), N 195 i (by decide) n195, N 196 i (by decide) n196]; decide
  · rw [m80] at i1; omega
  · unfold JK
    rw [ed, m2, m17, m64, m80, k239]
    refine ⟨⟨⟨V 1 1 0 (by decide) (by decide) (by decide) a11, by decide⟩, fun i i0 i1 => by omega, V 1 2 (-1) (by decide) (by decide) (by decide) a12, fun i i0 i1 => ?_⟩, ⟨fun k hk => V 4 k _ (by decide) (by decide) (by decide) (w_words k hk), fun t ht q => ?_, Or.inl ⟨V 3 5 9 (by decide) (by decide) (by decide) a35, v22⟩⟩, ⟨⟨?_, fun m q0 q1 => ?_, fun p q0 q1 => ?_, fun t ht => ?_⟩, ?_, fun p hp => ?_, V 39 0 0 (by decide) (by decide) (by decide) v39⟩, ⟨Or.inl rfl, fun w q0 q1 => ?_, fun p q0 q1 => ?_, ?_, fun i q0 q1 => ?_⟩, ⟨V 78 2 0 (by decide) (by decide) (by decide) v782, by decide, by rw [V 78 1 0 (by decide) (by decide) (by decide) v781]; decide, fun k q0 q1 => by omega⟩, fun i q0 q1 => ?_, ⟨V 139 4 0 (by decide) (by decide) (by decide) v139, by decide⟩, fun i q0 q1 => by omega⟩
    · rw [C 2 (by decide) (by decide), N 2 i (by decide) n2]; decide
    · rw [C 5 (by decide) (by decide), N 5 t (by decide) n5] at q; exact absurd q (by decide)
    · rw [v22]
      refine ⟨Or.inr rfl, by rw [t0]; exact V 23 4 0 (by decide) (by decide) (by decide) c4, by rw [t1]; exact V 23 8 0 (by decide) (by decide) (by decide) c8, fun p q0 q1 => ?_, fun p q0 q1 => ?_, by rw [t17]; exact V 23 9 1 (by decide) (by decide) (by decide) c9, by rw [t18]; exact V 23 10 600 (by decide) (by decide) (by decide) c10, by rw [t20]; exact V 23 11 0 (by decide) (by decide) (by decide) c11, by rw [t21]; exact V 23 12 0 (by decide) (by decide) (by decide) c12, by rw [t19]; exact V 23 13 0 (by decide) (by decide) (by decide) c13⟩
      · rw [t0] at q1; omega
      · rw [t1] at q1; omega
    · have w6 := w_36
      rw [Bool.and_eq_true] at w6
      have u1 : lrd 36 m mw = 0 := lrd_no m mw w6.1
      have u2 : lrd 37 m mw = 100 := lrd_q q0 q1 mw w6.2
      rw [(dy.1 m q0 q1).1, (dy.1 m q0 q1).2]
      exact ⟨V 36 m 0 (by decide) (by decide) (by decide) u1, V 37 m 100 (by decide) (by decide) (by decide) u2⟩
    · rw [t0] at q1; omega
    · rw [t0] at ht
      have : t = 0 := by
        have : t < 1 := ht
        omega
      subst this
      rw [wbV_0]
      exact V 39 0 0 (by decide) (by decide) (by decide) v39
    · rw [v22]
      have q33 : ∀ k : Nat, k < 5 → rd g 33 k = 2 * k := fun k hk => by
        have : k = 0 ∨ k = 1 ∨ k = 2 ∨ k = 3 ∨ k = 4 := by omega
        rcases this with z | z | z | z | z <;> subst z
        · exact V 33 0 0 (by decide) (by decide) (by decide) b0
        · exact V 33 1 2 (by decide) (by decide) (by decide) b1
        · exact V 33 2 4 (by decide) (by decide) (by decide) b2
        · exact V 33 3 6 (by decide) (by decide) (by decide) b3
        · exact V 33 4 8 (by decide) (by decide) (by decide) b4
      have x0 := V 32 0 258 (by decide) (by decide) (by decide) p0
      have x1 := V 32 1 4 (by decide) (by decide) (by decide) p1
      have x2 := V 32 2 1 (by decide) (by decide) (by decide) p2
      have x3 := V 32 3 4 (by decide) (by decide) (by decide) p3
      have x4 := V 32 4 25601 (by decide) (by decide) (by decide) p4
      have x5 := V 32 5 4 (by decide) (by decide) (by decide) p5
      have x6 := V 32 6 770 (by decide) (by decide) (by decide) p6
      have x7 := V 32 7 4 (by decide) (by decide) (by decide) p7
      have x8 := V 32 8 1 (by decide) (by decide) (by decide) p8
      have x9 := V 32 9 4 (by decide) (by decide) (by decide) p9
      have xl := V 31 4 10 (by decide) (by decide) (by decide) l4
      show (0 ≤ rd g 31 4 ∧ rd g 31 4 ≤ 450) ∧ ∀ k : Nat, k < 5 → 0 ≤ rd g 33 k ∧ CLw (rd g 32) (rd g 31 4) (rd g 33 k) (dfl k) ∧ LwOk []
      rw [xl]
      refine ⟨by decide, fun k hk => ?_⟩
      rw [q33 k hk]
      refine ⟨by omega, ?_, fun q hq => by cases hq⟩
      have : k = 0 ∨ k = 1 ∨ k = 2 ∨ k = 3 ∨ k = 4 := by omega
      rcases this with z | z | z | z | z <;> subst z
      · exact ⟨⟨x0, fun z => absurd z (by decide), trivial⟩, x1, by decide, rfl⟩
      · exact ⟨⟨x2, fun z => by decide, trivial⟩, x3, by decide, rfl⟩
      · exact ⟨⟨x4, fun z => by decide, trivial⟩, x5, by decide, rfl⟩
      · exact ⟨⟨x6, fun z => absurd z (by decide), trivial⟩, x7, by decide, rfl⟩
      · exact ⟨⟨x8, fun z => by decide, trivial⟩, x9, by decide, rfl⟩
    · rw [t0] at hp; exact absurd hp (by omega)
    · rw [t1] at q1; omega
    · obtain ⟨u1, u2, u3, u4⟩ := w_stand p.toNat (by omega)
      rw [show ((p.toNat : Nat) : Int) = p by omega] at u1 u2 u3 u4
      obtain ⟨y1', y2', y3'⟩ := bt.1 p q0 q1
      have y4' : bgR (dt h1) (24 + p) = -2 := by unfold bgR; rw [if_neg (by omega), if_pos (by omega)]
      rw [y1', y2', y3', y4', if_pos rfl]
      exact ⟨V 68 p (-2) (by decide) (by decide) (by decide) u1, V 69 p 0 (by decide) (by decide) (by decide) u2, V 70 p (-2) (by decide) (by decide) (by decide) u3, V 71 p 0 (by decide) (by decide) (by decide) u4⟩
    · rw [bt.2]; exact V 66 8 0 (by decide) (by decide) (by decide) v66
    · rw [bt.2] at q1; omega
    · have z252 : rd g 252 i = 0 := by rw [C 252 (by decide) (by decide)]; exact N 252 i (by decide) n252
      have : i = 0 ∨ i = 1 ∨ i = 2 := by omega
      rw [z252]
      refine ⟨?_, Or.inl rfl, fun y => absurd y (by decide)⟩
      rcases this with z | z | z <;> subst z
      · exact V 81 0 0 (by decide) (by decide) (by decide) y0
      · exact V 81 1 0 (by decide) (by decide) (by decide) y1
      · exact V 81 2 0 (by decide) (by decide) (by decide) y2
  · refine ⟨fun w q0 q1 => Or.inl ?_, Or.inl (V 82 6 0 (by decide) (by decide) (by decide) v82), fun k q0 q1 => Or.inl ?_⟩
    · have : w = 0 ∨ w = 1 ∨ w = 2 := by omega
      rcases this with z | z | z <;> subst z
      · exact V 84 0 0 (by decide) (by decide) (by decide) y3
      · exact V 84 1 0 (by decide) (by decide) (by decide) y4
      · exact V 84 2 0 (by decide) (by decide) (by decide) y5
    · have u := w_sizes k.toNat (by omega)
      rw [show ((k.toNat : Nat) : Int) = k by omega] at u
      exact V 96 k (-1) (by decide) (by decide) (by decide) u
  · have sd : ∀ a, isSd a → a ∈ sdL := fun a ha => by
      obtain ⟨p, q0, q1, e⟩ := ha
      have : a = 42 ∨ a = 45 ∨ a = 48 ∨ a = 51 ∨ a = 54 ∨ a = 57 ∨ a = 60 ∨ a = 63 ∨ a = 115 ∨ a = 118 ∨ a = 121 ∨ a = 124 ∨ a = 127 ∨ a = 130 ∨ a = 133 ∨ a = 136 := by omega
      simpa [sdL] using this
    have rws : ∀ a, isRw a → a ∈ rwL := fun a ha => by
      unfold isRw at ha
      simpa [rwL] using ha
    have vd : ∀ b, 1 ≤ b → b < 254 → lkd b mw = 0 → vo g b 0 := fun b q1 q2 q3 => ⟨q1, by rw [z3.1]; exact q2, by rw [z3.2.2.1, vK]; exact q3⟩
    have vn : ∀ b, 1 ≤ b → lln b mw = 0 → hln g b = 0 := fun b q1 q2 => by rw [z3.2.2.2, vL b (by omega)]; exact q2
    have rS : ∀ a, a ∈ sdL → ∀ j, rd g a j = lrd a j mw := fun a ha j => by
      have lo : ∀ a ∈ sdL, a < 194 := by decide
      have := lo a ha
      exact V a j _ (by omega) (by omega) (w_sand a ha).2 rfl
    have rR : ∀ a, a ∈ rwL → ∀ j, rd g a j = lrd a j mw := fun a ha j => by
      have lo : ∀ a ∈ rwL, a < 194 := by decide
      have := lo a ha
      exact V a j _ (by omega) (by omega) (w_rows a ha).2 rfl
    refine ⟨fun a ha => Or.inl ?_, fun a ha => Or.inl ?_, fun a k b j oa ob ne hi => ?_, ?_⟩
    · obtain ⟨⟨u1, u2, ⟨u3, u4⟩, u5⟩, -⟩ := w_sand a (sd a ha)
      rw [rS a (sd a ha), rS a (sd a ha)]
      exact ⟨u1, u2, vd _ u3 u1 u4, vn _ u3 u5⟩
    · obtain ⟨⟨u1, u2, ⟨u3, u4⟩, u5⟩, -⟩ := w_rows a (rws a ha)
      rw [rR a (rws a ha), rR a (rws a ha)]
      exact ⟨u1, u2, vd _ u3 u1 u4, vn _ u3 u5⟩
    · exfalso
      rcases oa with ⟨ha, hk⟩ | ⟨ha, hk⟩
      · obtain ⟨⟨u1, u2, -⟩, -⟩ := w_sand a (sd a ha)
        rw [rS a (sd a ha)] at hi
        rcases hk with e | e <;> subst e <;> omega
      · obtain ⟨⟨u1, u2, -⟩, -⟩ := w_rows a (rws a ha)
        rw [rR a (rws a ha)] at hi
        rcases hk with e | e <;> subst e <;> omega
    · have ub : ∀ x, 0 ≤ ua x ∧ ua x ≤ 1 := fun x => by unfold ua; split <;> decide
      have U1 : Us g ≤ 16 := by
        unfold Us sdL
        simp only [List.map_cons, List.map_nil, List.sum_cons, List.sum_nil]
        have := fun b => ub (rd g b 5)
        have u1 := this 42; have u2 := this 45; have u3 := this 48; have u4 := this 51; have u5 := this 54; have u6 := this 57; have u7 := this 60; have u8 := this 63
        have v1 := this 115; have v2 := this 118; have v3 := this 121; have v4 := this 124; have v5 := this 127; have v6 := this 130; have v7 := this 133; have v8 := this 136
        omega
      have U2 : Ur g ≤ 4 := by
        unfold Ur rwL
        simp only [List.map_cons, List.map_nil, List.sum_cons, List.sum_nil]
        have := fun b => ub (rd g b 5)
        have u1 := this 85; have u2 := this 97; have u3 := this 103; have u4 := this 109
        omega
      unfold Rm
      rw [z3.1]
      have := z3.2.1
      omega
