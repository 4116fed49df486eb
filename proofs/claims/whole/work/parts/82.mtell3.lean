/-! the reference reads a part, a worker, numbers -/
theorem CH_sh {hb h : Hp} {K P : Nat → Int} {X : Nat → Int → Int} {Λ : Nat → Lw} {bb cb : Int} {r : Ch} (g : CH hb h K P X Λ bb cb r) : Fp hb h := by
  cases r with
  | inl e => exact g.1
  | inr q => exact g.1
theorem c_wr {hb h : Hp} {K P : Nat → Int} {X X' : Nat → Int → Int} {Λ : Nat → Lw} {bb cb a i v : Int} {r : Ch} (g : CH hb h K P X Λ bb cb r) (ha : 203 ≤ a ∧ a ≤ 216) (hi : wdt a * rd hb 194 19 ≤ i ∧ i < wdt a * rd hb 194 19 + wdt a) (hx : Rx h (rd hb 194 19) K X → Rx (wr h a i v) (rd hb 194 19) K X') : CH hb (wr h a i v) K P X' Λ bb cb r := by
  cases r with
  | inl e => exact ⟨Fp_wr g.1 (by omega) hi, g.2.1, by rw [rd_wr_ne (by omega)]; exact g.2.2.1, by rw [rd_wr_ne (by omega)]; exact g.2.2.2⟩
  | inr q =>
    obtain ⟨f, ⟨c1, c2, c3, c4⟩, ⟨w1, w2, w3⟩, x, l⟩ := g
    exact ⟨Fp_wr f (by omega) hi, ⟨by rw [rd_wr_ne (by omega)]; exact c1, c2, by rw [rd_wr_ne (by omega)]; exact c3, by rw [rd_wr_ne (by omega)]; exact c4⟩, ⟨by rw [rd_wr_ne (by omega)]; exact w1, w2, fun q => by rw [rd_wr_ne (by omega)]; exact w3 q⟩, hx x, Rl_eq (fun b h1 h2 => rd_wr_ne (by omega)) (by rw [rd_wr_ne (by omega)]) (by rw [rd_wr_ne (by omega)]) l⟩
theorem wdt_8 {a : Int} (h : 204 ≤ a ∧ a ≤ 207) : wdt a = 8 := by unfold wdt; rw [if_neg (by omega), if_pos (by omega)]
theorem wdt_3 {a : Int} (h : 209 ≤ a ∧ a ≤ 211) : wdt a = 3 := by unfold wdt; rw [if_neg (by omega), if_neg (by omega), if_pos (by omega)]
theorem wdt_1 {a : Int} (h : a = 203 ∨ a = 208 ∨ (212 ≤ a ∧ a ≤ 216)) : wdt a = 1 := by unfold wdt; rw [if_pos h]
theorem c_wrP {hb h : Hp} {K P : Nat → Int} {X : Nat → Int → Int} {Λ : Nat → Lw} {bb cb a v : Int} {r : Ch} (g : CH hb h K P X Λ bb cb r) (ha : 204 ≤ a ∧ a ≤ 207) (h8 : 0 ≤ X 0 0 ∧ X 0 0 < 8) : CH hb (wr h a (8 * rd hb 194 19 + X 0 0) v) K P X Λ bb cb r := by
  refine c_wr g (by omega) (by rw [wdt_8 ha]; omega) (fun x => Rx_pt x (by rw [rd_wr_ne (by omega)]) (rd_wr_ne (by omega)) (fun i _ _ => by rw [rd_wr_ne (by omega)]) (by rw [rd_wr_ne (by omega)]) (fun b p h1 h2 h3 h4 => ?_) (by rw [rd_wr_ne (by omega)]) (fun b p h1 h2 _ _ => by rw [rd_wr_ne (by omega)]) (fun b h1 h2 => by rw [rd_wr_ne (by omega)]))
  rw [rd_wr, if_neg (by omega)]
theorem c_wrW {hb h : Hp} {K P : Nat → Int} {X : Nat → Int → Int} {Λ : Nat → Lw} {bb cb a v : Int} {r : Ch} (g : CH hb h K P X Λ bb cb r) (ha : 209 ≤ a ∧ a ≤ 211) (h8 : 0 ≤ X 1 0 ∧ X 1 0 < 3) : CH hb (wr h a (3 * rd hb 194 19 + X 1 0) v) K P X Λ bb cb r := by
  refine c_wr g (by omega) (by rw [wdt_3 ha]; omega) (fun x => Rx_pt x (by rw [rd_wr_ne (by omega)]) (rd_wr_ne (by omega)) (fun i _ _ => by rw [rd_wr_ne (by omega)]) (by rw [rd_wr_ne (by omega)]) (fun b p h1 h2 _ _ => by rw [rd_wr_ne (by omega)]) (by rw [rd_wr_ne (by omega)]) (fun b p h1 h2 h3 h4 => ?_) (fun b h1 h2 => by rw [rd_wr_ne (by omega)]))
  rw [rd_wr, if_neg (by omega)]
def RR (hb h : Hp) (K P : Nat → Int) (bb cb : Int) (r : (Int × Int) ⊕ Sg) : Prop := match r with
  | Sum.inr s => RP hb h K P s bb cb
  | Sum.inl e => RF hb h e.1 e.2
def prtX (X : Nat → Int → Int) (x y w m n : Int) : Nat → Int → Int := up2 (up2 (up2 (up2 (up2 (up2 (up2 X 22 (X 0 0) x) 23 (X 0 0) y) 2 (X 0 0) w) 16 (X 0 0) m) 0 0 (X 0 0 + 1)) 24 (X 25 0) n) 25 0 (X 25 0 + 1)
def wrkX (X : Nat → Int → Int) (x y m n : Int) : Nat → Int → Int := up2 (up2 (up2 (up2 (up2 (up2 X 4 (X 1 0) x) 5 (X 1 0) y) 3 (X 1 0) m) 1 0 (X 1 0 + 1)) 24 (X 25 0) n) 25 0 (X 25 0 + 1)
theorem t_tellPart {F : Nat} {hb h : Hp} {K V P M : Nat → Int} {X : Nat → Int → Int} {Λ : Nat → Lw} {bb cb : Int} {t : Nat} {w : Int × Int} (hF : 1000 ≤ F) (tk : RTk hb K V P M) (mn : Mn K P) (hs : rd hb 194 19 = 0 ∨ rd hb 194 19 = 1) (g : RP hb h K P (t, X, Λ, w) bb cb) (h8 : X 0 0 < 8) :
    T (Mod_tellPart F 194 h) (fun _ h' => RR hb h' K P bb cb (rbd (cAcc K P 59 (cNum K V P 1 60 (cNum K V P 0 99 (cNum K V P 0 99 (cNum K V P 0 99 (cName K P M X (Sum.inr (t, w, []))))))) ) (fun q => match q.2.2 with
    | [m, w, y, x, n] => Sum.inr (q.1, prtX X x y w m n, Λ, q.2.1)
    | _ => Sum.inl (0, 0)))) := by
  have f := g.1
  have s := f.2.1
  have e19 := Fp_19 f
  have x0 := g.2.2.2.1.2.1
  simp only at x0
  have hx0 : 0 ≤ X 0 0 ∧ X 0 0 < 8 := ⟨x0.2.1, h8⟩
  unfold Mod_tellPart
  rw [gM19 s, gM22 s, gM19 s, e19, aM22 s (by omega) (by omega), x0.1, w32_id (x := 8 * rd hb 194 19) (by omega) (by omega), w32_id (x := 8 * rd hb 194 19 + X 0 0) (by omega) (by omega), lt_eq, ivM s]
  have g0 : CH hb h K P X Λ bb cb (Sum.inr (t, w, [])) := g
  refine T_cl (c_name hF tk mn g0) (fun n h1 hq => ?_)
  obtain ⟨-, g1, hn⟩ := hq
  have s1 := (CH_sh g1).2.1
  rw [gM23 s1, ivM s1]
  refine T_cl (c_num tk mn g1) (fun vx h2 hq => ?_)
  obtain ⟨-, g2, hvx⟩ := hq
  have s2 := (CH_sh g2).2.1
  have g2' := c_wrP (a := 204) (v := vx) g2 (by decide) hx0
  have s2' := (CH_sh g2').2.1
  rw [sM23 s2 (by omega) (by omega), gM24 s2', ivM s2']
  refine T_cl (c_num tk mn g2') (fun vy h3 hq => ?_)
  obtain ⟨o3, g3, hvy⟩ := hq
  have s3 := (CH_sh g3).2.1
  have g3' := c_wrP (a := 205) (v := vy) g3 (by decide) hx0
  have s3' := (CH_sh g3').2.1
  rw [sM24 s3 (by omega) (by omega), gM25 s3', ivM s3']
  refine T_cl (c_num tk mn g3') (fun vw h4 hq => ?_)
  obtain ⟨o4, g4, hvw⟩ := hq
  have s4 := (CH_sh g4).2.1
  have g4' := c_wrP (a := 206) (v := vw) g4 (by decide) hx0
  have s4' := (CH_sh g4').2.1
  rw [sM25 s4 (by omega) (by omega), gM26 s4', ivM s4']
  refine T_cl (c_num tk mn g4') (fun vm h5 hq => ?_)
  obtain ⟨o5, g5, hvm⟩ := hq
  have s5 := (CH_sh g5).2.1
  have g5' := c_wrP (a := 207) (v := vm) g5 (by decide) hx0
  have s5' := (CH_sh g5').2.1
  rw [sM26 s5 (by omega) (by omega), ivM s5']
  refine T_cl (c_must (d := 59) tk mn g5' (by unfold KdOk; decide) (by decide) rfl) (fun _ h6 hq => ?_)
  obtain ⟨o6, g6⟩ := hq
  -- what was written
  have y4 : rd h6 204 (8 * rd hb 194 19 + X 0 0) = vx := by rw [o6 204 (by decide), rd_wr_ne (by decide), o5 204 (by decide), rd_wr_ne (by decide), o4 204 (by decide), rd_wr_ne (by decide), o3 204 (by decide), rd_same]
  have y5 : rd h6 205 (8 * rd hb 194 19 + X 0 0) = vy := by rw [o6 205 (by decide), rd_wr_ne (by decide), o5 205 (by decide), rd_wr_ne (by decide), o4 205 (by decide), rd_same]
  have y6 : rd h6 206 (8 * rd hb 194 19 + X 0 0) = vw := by rw [o6 206 (by decide), rd_wr_ne (by decide), o5 206 (by decide), rd_same]
  have y7 : rd h6 207 (8 * rd hb 194 19 + X 0 0) = vm := by rw [o6 207 (by decide), rd_same]
  have s6 := (CH_sh g6).2.1
  cases hr : cAcc K P 59 (cNum K V P 1 60 (cNum K V P 0 99 (cNum K V P 0 99 (cNum K V P 0 99 (cName K P M X (Sum.inr (t, w, []))))))) with
  | inl e =>
    rw [hr] at g6
    have rf : RF hb h6 e.1 e.2 := g6
    rw [gM13 s6, rf.2.2.1, if_pos rf.2.1]
    exact T_some rf
  | inr q =>
    rw [hr] at g6
    obtain ⟨q5, r5, -, -, e6⟩ := cAcc_inr hr
    obtain ⟨q4, r4, -, -, e5⟩ := cNum_inr r5
    obtain ⟨q3, r3, -, -, e4⟩ := cNum_inr r4
    obtain ⟨q2, r2, -, -, e3⟩ := cNum_inr r3
    obtain ⟨q1, r1, -, -, e2⟩ := cNum_inr r2
    obtain ⟨qn, r0, k18, lt4, e1⟩ := cName_inr r1
    cases r0
    have z1 := hn q1 r1
    have z2 := hvx q2 r2
    have z3 := hvy q3 r3
    have z4 := hvw q4 r4
    have z5 := hvm q5 r5
    rw [e1] at z1
    rw [e2] at z2
    rw [e3] at z3
    rw [e4] at z4
    rw [e5] at z5
    simp only [List.head?_cons, Option.some.injEq] at z1 z2 z3 z4 z5
    have l1 : q1.2.2 = [(t : Int)] := by rw [e1]
    have l2 : q2.2.2 = [vx, (t : Int)] := by rw [e2]; show V q1.1 :: q1.2.2 = _; rw [l1, z2]
    have l3 : q3.2.2 = [vy, vx, (t : Int)] := by rw [e3]; show V q2.1 :: q2.2.2 = _; rw [l2, z3]
    have l4 : q4.2.2 = [vw, vy, vx, (t : Int)] := by rw [e4]; show V q3.1 :: q3.2.2 = _; rw [l3, z4]
    have hls : q.2.2 = [vm, vw, vy, vx, (t : Int)] := by
      rw [e6]; show q5.2.2 = _
      rw [e5]; show V q4.1 :: q4.2.2 = _
      rw [l4, z5]
    have rp : RP hb h6 K P (q.1, X, Λ, q.2.1) bb cb := g6
    show T _ (fun _ h' => RR hb h' K P bb cb (match q.2.2 with | [m, w, y, x, n] => Sum.inr (q.1, prtX X x y w m n, Λ, q.2.1) | _ => Sum.inl (0, 0)))
    rw [hls]
    simp only
    obtain ⟨f6, ⟨c1, c2, c3, c4⟩, ⟨w1, w2, w3⟩, x, l⟩ := rp
    obtain ⟨⟨n1, n2, n3⟩, ⟨p1, p2, p3, p4⟩, ⟨k1, k2, k3, k4⟩, q1', q2', q3', q4', q5'⟩ := x
    simp only at n1 n2 n3 p1 p2 p3 p4 k1 k2 k3 k4 q1' q2' q3' q4' q5'
    have e196 := Fp_19 f6
    have a1 : Fp hb (wr h6 202 (X 25 0) (rd h6 200 n)) := Fp_202 f6
    have a2 : Fp hb (wr (wr h6 202 (X 25 0) (rd h6 200 n)) 194 20 (X 25 0 + 1)) := Fp_f a1 (sh20 a1.2.1 _) (by decide)
    have a3 : Fp hb (wr (wr (wr h6 202 (X 25 0) (rd h6 200 n)) 194 20 (X 25 0 + 1)) 203 (rd hb 194 19) (X 0 0 + 1)) := Fp_wr a2 (by decide) (by rw [wdt_1 (by decide)]; omega)
    have b19 : rd (wr (wr h6 202 (X 25 0) (rd h6 200 n)) 194 20 (X 25 0 + 1)) 194 19 = rd hb 194 19 := Fp_19 a2
    have b20 : rd (wr h6 202 (X 25 0) (rd h6 200 n)) 194 20 = X 25 0 := by rw [rd_wr_ne (by decide)]; exact n1
    have b03 : rd (wr (wr h6 202 (X 25 0) (rd h6 200 n)) 194 20 (X 25 0 + 1)) 203 (rd hb 194 19) = X 0 0 := by rw [rd_wr_ne (by decide), rd_wr_ne (by decide)]; exact p1
    rw [gM13 s6, c3, if_neg (by decide), gM21 s6, gM20 s6, n1, gM8 s6, aM8 s6 (by omega) (by omega), sM21 s6 (by omega) (by omega), gM20 a1.2.1, b20, w32_id (x := X 25 0 + 1) (by omega) (by omega), pM20 a1.2.1, gM22 a2.2.1, gM19 a2.2.1, b19, aM22 a2.2.1 (by omega) (by omega), b03, w32_id (x := X 0 0 + 1) (by omega) (by omega), sM22 a2.2.1 (by omega) (by omega)]
    refine T_some ⟨a3, ⟨by rw [rd_wr_ne (by decide), rd_i (by decide), rd_wr_ne (by decide)]; exact c1, c2, by rw [rd_wr_ne (by decide), rd_i (by decide), rd_wr_ne (by decide)]; exact c3, by rw [rd_wr_ne (by decide), rd_i (by decide), rd_wr_ne (by decide)]; exact c4⟩, ⟨by rw [rd_wr_ne (by decide), rd_i (by decide), rd_wr_ne (by decide)]; exact w1, w2, fun q => by rw [rd_wr_ne (by decide), rd_i (by decide), rd_wr_ne (by decide)]; exact w3 q⟩, ?_, Rl_eq (fun b h1 h2 => by rw [rd_wr_ne (by omega), rd_wr_ne (by omega), rd_wr_ne (by omega)]) (by rw [rd_wr_ne (by decide), rd_i (by decide), rd_wr_ne (by decide)]) (by rw [rd_wr_ne (by decide), rd_i (by decide), rd_wr_ne (by decide)]) l⟩
    -- the data with the part
    have R : ∀ a j, a ≠ 194 → a ≠ 202 → a ≠ 203 → rd (wr (wr (wr h6 202 (X 25 0) (rd h6 200 n)) 194 20 (X 25 0 + 1)) 203 (rd hb 194 19) (X 0 0 + 1)) a j = rd h6 a j := fun a j h1 h2 h3 => by rw [rd_wr_ne h3, rd_wr_ne h1, rd_wr_ne h2]
    have X0 : prtX X vx vy vw vm t 0 0 = X 0 0 + 1 := by simp [prtX, up2]
    have X1 : ∀ i, prtX X vx vy vw vm t 1 i = X 1 i := fun i => by simp [prtX, up2]
    have X25 : prtX X vx vy vw vm t 25 0 = X 25 0 + 1 := by simp [prtX, up2]
    have X24 : ∀ i, prtX X vx vy vw vm t 24 i = if i = X 25 0 then (t : Int) else X 24 i := fun i => by simp [prtX, up2]
    have X22 : ∀ i, prtX X vx vy vw vm t 22 i = if i = X 0 0 then vx else X 22 i := fun i => by simp [prtX, up2]
    have X23 : ∀ i, prtX X vx vy vw vm t 23 i = if i = X 0 0 then vy else X 23 i := fun i => by simp [prtX, up2]
    have X2 : ∀ i, prtX X vx vy vw vm t 2 i = if i = X 0 0 then vw else X 2 i := fun i => by simp [prtX, up2]
    have X16 : ∀ i, prtX X vx vy vw vm t 16 i = if i = X 0 0 then vm else X 16 i := fun i => by simp [prtX, up2]
    have Xo : ∀ k i, k = 3 ∨ k = 4 ∨ k = 5 ∨ k = 17 ∨ k = 18 ∨ k = 19 ∨ k = 20 ∨ k = 21 → prtX X vx vy vw vm t k i = X k i := fun k i hk => by
      rcases hk with e | e | e | e | e | e | e | e <;> subst e <;> simp [prtX, up2]
    unfold Rx
    simp only
    rw [X0, X1, X25, Xo 17 0 (by decide), Xo 18 0 (by decide), Xo 19 0 (by decide), Xo 20 0 (by decide), Xo 21 0 (by decide), R 208 _ (by decide) (by decide) (by decide), R 212 _ (by decide) (by decide) (by decide), R 213 _ (by decide) (by decide) (by decide), R 214 _ (by decide) (by decide) (by decide), R 215 _ (by decide) (by decide) (by decide), R 216 _ (by decide) (by decide) (by decide)]
    refine ⟨⟨by rw [rd_wr_ne (by decide), rd_same], by omega, fun i i0 i1 => ?_⟩, ⟨by rw [rd_same], by omega, by omega, fun p i0 i1 => ?_⟩, ⟨k1, k2, k3, fun p i0 i1 => ?_⟩, q1', q2', q3', q4', q5'⟩
    · rw [X24, R 200 _ (by decide) (by decide) (by decide), rd_wr_ne (by decide), rd_wr_ne (by decide)]
      by_cases hi : i = X 25 0
      · rw [if_pos hi, hi, rd_same, ← z1]
        exact ⟨by omega, by rw [Int.toNat_natCast]; exact k18, rfl⟩
      · rw [if_neg hi, rd_i hi]
        exact n3 i i0 (by omega)
    · rw [X22, X23, X2, X16, R 204 _ (by decide) (by decide) (by decide), R 205 _ (by decide) (by decide) (by decide), R 206 _ (by decide) (by decide) (by decide), R 207 _ (by decide) (by decide) (by decide)]
      by_cases hi : p = X 0 0
      · rw [if_pos hi, if_pos hi, if_pos hi, if_pos hi, hi]
        exact ⟨y4, y5, y6, y7⟩
      · rw [if_neg hi, if_neg hi, if_neg hi, if_neg hi]
        exact p4 p i0 (by omega)
    · rw [Xo 4 p (by decide), Xo 5 p (by decide), Xo 3 p (by decide), R 209 _ (by decide) (by decide) (by decide), R 210 _ (by decide) (by decide) (by decide), R 211 _ (by decide) (by decide) (by decide)]
      exact k4 p i0 i1
theorem t_tellWorker {F : Nat} {hb h : Hp} {K V P M : Nat → Int} {X : Nat → Int → Int} {Λ : Nat → Lw} {bb cb : Int} {t : Nat} {w : Int × Int} (hF : 1000 ≤ F) (tk : RTk hb K V P M) (mn : Mn K P) (hs : rd hb 194 19 = 0 ∨ rd hb 194 19 = 1) (g : RP hb h K P (t, X, Λ, w) bb cb) (h8 : X 1 0 < 3) :
    T (Mod_tellWorker F 194 h) (fun _ h' => RR hb h' K P bb cb (rbd (cAcc K P 59 (cNum K V P 1 20 (cNum K V P 0 99 (cNum K V P 0 99 (cName K P M X (Sum.inr (t, w, [])))))) ) (fun q => match q.2.2 with
    | [m, y, x, n] => Sum.inr (q.1, wrkX X x y m n, Λ, q.2.1)
    | _ => Sum.inl (0, 0)))) := by
  have f := g.1
  have s := f.2.1
  have e19 := Fp_19 f
  have x0 := g.2.2.2.1.2.2.1
  simp only at x0
  have hx0 : 0 ≤ X 1 0 ∧ X 1 0 < 3 := ⟨x0.2.1, h8⟩
  unfold Mod_tellWorker
  rw [gM19 s, gM27 s, gM19 s, e19, aM27 s (by omega) (by omega), x0.1, w32_id (x := 3 * rd hb 194 19) (by omega) (by omega), w32_id (x := 3 * rd hb 194 19 + X 1 0) (by omega) (by omega), lt_eq, ivM s]
  have g0 : CH hb h K P X Λ bb cb (Sum.inr (t, w, [])) := g
  refine T_cl (c_name hF tk mn g0) (fun n h1 hq => ?_)
  obtain ⟨-, g1, hn⟩ := hq
  have s1 := (CH_sh g1).2.1
  rw [gM28 s1, ivM s1]
  refine T_cl (c_num tk mn g1) (fun vx h2 hq => ?_)
  obtain ⟨-, g2, hvx⟩ := hq
  have s2 := (CH_sh g2).2.1
  have g2' := c_wrW (a := 209) (v := vx) g2 (by decide) hx0
  have s2' := (CH_sh g2').2.1
  rw [sM28 s2 (by omega) (by omega), gM29 s2', ivM s2']
  refine T_cl (c_num tk mn g2') (fun vy h3 hq => ?_)
  obtain ⟨o3, g3, hvy⟩ := hq
  have s3 := (CH_sh g3).2.1
  have g3' := c_wrW (a := 210) (v := vy) g3 (by decide) hx0
  have s3' := (CH_sh g3').2.1
  rw [sM29 s3 (by omega) (by omega), gM30 s3', ivM s3']
  refine T_cl (c_num tk mn g3') (fun vm h5 hq => ?_)
  obtain ⟨o5, g5, hvm⟩ := hq
  have s5 := (CH_sh g5).2.1
  have g5' := c_wrW (a := 211) (v := vm) g5 (by decide) hx0
  have s5' := (CH_sh g5').2.1
  rw [sM30 s5 (by omega) (by omega), ivM s5']
  refine T_cl (c_must (d := 59) tk mn g5' (by unfold KdOk; decide) (by decide) rfl) (fun _ h6 hq => ?_)
  obtain ⟨o6, g6⟩ := hq
  have y4 : rd h6 209 (3 * rd hb 194 19 + X 1 0) = vx := by rw [o6 209 (by decide), rd_wr_ne (by decide), o5 209 (by decide), rd_wr_ne (by decide), o3 209 (by decide), rd_same]
  have y5 : rd h6 210 (3 * rd hb 194 19 + X 1 0) = vy := by rw [o6 210 (by decide), rd_wr_ne (by decide), o5 210 (by decide), rd_same]
  have y6 : rd h6 211 (3 * rd hb 194 19 + X 1 0) = vm := by rw [o6 211 (by decide), rd_same]
  have s6 := (CH_sh g6).2.1
  cases hr : cAcc K P 59 (cNum K V P 1 20 (cNum K V P 0 99 (cNum K V P 0 99 (cName K P M X (Sum.inr (t, w, [])))))) with
  | inl e =>
    rw [hr] at g6
    have rf : RF hb h6 e.1 e.2 := g6
    rw [gM13 s6, rf.2.2.1, if_pos rf.2.1]
    exact T_some rf
  | inr q =>
    rw [hr] at g6
    obtain ⟨q5, r5, -, -, e6⟩ := cAcc_inr hr
    obtain ⟨q4, r4, -, -, e5⟩ := cNum_inr r5
    obtain ⟨q2, r2, -, -, e3⟩ := cNum_inr r4
    obtain ⟨q1, r1, -, -, e2⟩ := cNum_inr r2
    obtain ⟨qn, r0, k18, lt4, e1⟩ := cName_inr r1
    cases r0
    have z1 := hn q1 r1
    have z2 := hvx q2 r2
    have z3 := hvy q4 r4
    have z5 := hvm q5 r5
    rw [e1] at z1
    rw [e2] at z2
    rw [e3] at z3
    rw [e5] at z5
    simp only [List.head?_cons, Option.some.injEq] at z1 z2 z3 z5
    have l1 : q1.2.2 = [(t : Int)] := by rw [e1]
    have l2 : q2.2.2 = [vx, (t : Int)] := by rw [e2]; show V q1.1 :: q1.2.2 = _; rw [l1, z2]
    have l4 : q4.2.2 = [vy, vx, (t : Int)] := by rw [e3]; show V q2.1 :: q2.2.2 = _; rw [l2, z3]
    have hls : q.2.2 = [vm, vy, vx, (t : Int)] := by
      rw [e6]; show q5.2.2 = _
      rw [e5]; show V q4.1 :: q4.2.2 = _
      rw [l4, z5]
    have rp : RP hb h6 K P (q.1, X, Λ, q.2.1) bb cb := g6
    show T _ (fun _ h' => RR hb h' K P bb cb (match q.2.2 with | [m, y, x, n] => Sum.inr (q.1, wrkX X x y m n, Λ, q.2.1) | _ => Sum.inl (0, 0)))
    rw [hls]
    simp only
    obtain ⟨f6, ⟨c1, c2, c3, c4⟩, ⟨w1, w2, w3⟩, x, l⟩ := rp
    obtain ⟨⟨n1, n2, n3⟩, ⟨p1, p2, p3, p4⟩, ⟨k1, k2, k3, k4⟩, q1', q2', q3', q4', q5'⟩ := x
    simp only at n1 n2 n3 p1 p2 p3 p4 k1 k2 k3 k4 q1' q2' q3' q4' q5'
    have e196 := Fp_19 f6
    have a1 : Fp hb (wr h6 202 (X 25 0) (rd h6 200 n)) := Fp_202 f6
    have a2 : Fp hb (wr (wr h6 202 (X 25 0) (rd h6 200 n)) 194 20 (X 25 0 + 1)) := Fp_f a1 (sh20 a1.2.1 _) (by decide)
    have a3 : Fp hb (wr (wr (wr h6 202 (X 25 0) (rd h6 200 n)) 194 20 (X 25 0 + 1)) 208 (rd hb 194 19) (X 1 0 + 1)) := Fp_wr a2 (by decide) (by rw [wdt_1 (by decide)]; omega)
    have b19 : rd (wr (wr h6 202 (X 25 0) (rd h6 200 n)) 194 20 (X 25 0 + 1)) 194 19 = rd hb 194 19 := Fp_19 a2
    have b20 : rd (wr h6 202 (X 25 0) (rd h6 200 n)) 194 20 = X 25 0 := by rw [rd_wr_ne (by decide)]; exact n1
    have b03 : rd (wr (wr h6 202 (X 25 0) (rd h6 200 n)) 194 20 (X 25 0 + 1)) 208 (rd hb 194 19) = X 1 0 := by rw [rd_wr_ne (by decide), rd_wr_ne (by decide)]; exact k1
    rw [gM13 s6, c3, if_neg (by decide), gM21 s6, gM20 s6, n1, gM8 s6, aM8 s6 (by omega) (by omega), sM21 s6 (by omega) (by omega), gM20 a1.2.1, b20, w32_id (x := X 25 0 + 1) (by omega) (by omega), pM20 a1.2.1, gM27 a2.2.1, gM19 a2.2.1, b19, aM27 a2.2.1 (by omega) (by omega), b03, w32_id (x := X 1 0 + 1) (by omega) (by omega), sM27 a2.2.1 (by omega) (by omega)]
    refine T_some ⟨a3, ⟨by rw [rd_wr_ne (by decide), rd_i (by decide), rd_wr_ne (by decide)]; exact c1, c2, by rw [rd_wr_ne (by decide), rd_i (by decide), rd_wr_ne (by decide)]; exact c3, by rw [rd_wr_ne (by decide), rd_i (by decide), rd_wr_ne (by decide)]; exact c4⟩, ⟨by rw [rd_wr_ne (by decide), rd_i (by decide), rd_wr_ne (by decide)]; exact w1, w2, fun q => by rw [rd_wr_ne (by decide), rd_i (by decide), rd_wr_ne (by decide)]; exact w3 q⟩, ?_, Rl_eq (fun b h1 h2 => by rw [rd_wr_ne (by omega), rd_wr_ne (by omega), rd_wr_ne (by omega)]) (by rw [rd_wr_ne (by decide), rd_i (by decide), rd_wr_ne (by decide)]) (by rw [rd_wr_ne (by decide), rd_i (by decide), rd_wr_ne (by decide)]) l⟩
    have R : ∀ a j, a ≠ 194 → a ≠ 202 → a ≠ 208 → rd (wr (wr (wr h6 202 (X 25 0) (rd h6 200 n)) 194 20 (X 25 0 + 1)) 208 (rd hb 194 19) (X 1 0 + 1)) a j = rd h6 a j := fun a j h1 h2 h3 => by rw [rd_wr_ne h3, rd_wr_ne h1, rd_wr_ne h2]
    have X0 : ∀ i, wrkX X vx vy vm t 0 i = X 0 i := fun i => by simp [wrkX, up2]
    have X1 : wrkX X vx vy vm t 1 0 = X 1 0 + 1 := by simp [wrkX, up2]
    have X25 : wrkX X vx vy vm t 25 0 = X 25 0 + 1 := by simp [wrkX, up2]
    have X24 : ∀ i, wrkX X vx vy vm t 24 i = if i = X 25 0 then (t : Int) else X 24 i := fun i => by simp [wrkX, up2]
    have X4 : ∀ i, wrkX X vx vy vm t 4 i = if i = X 1 0 then vx else X 4 i := fun i => by simp [wrkX, up2]
    have X5 : ∀ i, wrkX X vx vy vm t 5 i = if i = X 1 0 then vy else X 5 i := fun i => by simp [wrkX, up2]
    have X3 : ∀ i, wrkX X vx vy vm t 3 i = if i = X 1 0 then vm else X 3 i := fun i => by simp [wrkX, up2]
    have Xo : ∀ k i, k = 2 ∨ k = 16 ∨ k = 22 ∨ k = 23 ∨ k = 17 ∨ k = 18 ∨ k = 19 ∨ k = 20 ∨ k = 21 → wrkX X vx vy vm t k i = X k i := fun k i hk => by
      rcases hk with e | e | e | e | e | e | e | e | e <;> subst e <;> simp [wrkX, up2]
    unfold Rx
    simp only
    rw [X0, X1, X25, Xo 17 0 (by decide), Xo 18 0 (by decide), Xo 19 0 (by decide), Xo 20 0 (by decide), Xo 21 0 (by decide), R 203 _ (by decide) (by decide) (by decide), R 212 _ (by decide) (by decide) (by decide), R 213 _ (by decide) (by decide) (by decide), R 214 _ (by decide) (by decide) (by decide), R 215 _ (by decide) (by decide) (by decide), R 216 _ (by decide) (by decide) (by decide)]
    refine ⟨⟨by rw [rd_wr_ne (by decide), rd_same], by omega, fun i i0 i1 => ?_⟩, ⟨p1, p2, p3, fun p i0 i1 => ?_⟩, ⟨by rw [rd_same], by omega, by omega, fun p i0 i1 => ?_⟩, q1', q2', q3', q4', q5'⟩
    · rw [X24, R 200 _ (by decide) (by decide) (by decide), rd_wr_ne (by decide), rd_wr_ne (by decide)]
      by_cases hi : i = X 25 0
      · rw [if_pos hi, hi, rd_same, ← z1]
        exact ⟨by omega, by rw [Int.toNat_natCast]; exact k18, rfl⟩
      · rw [if_neg hi, rd_i hi]
        exact n3 i i0 (by omega)
    · rw [Xo 22 p (by decide), Xo 23 p (by decide), Xo 2 p (by decide), Xo 16 p (by decide), R 204 _ (by decide) (by decide) (by decide), R 205 _ (by decide) (by decide) (by decide), R 206 _ (by decide) (by decide) (by decide), R 207 _ (by decide) (by decide) (by decide)]
      exact p4 p i0 i1
    · rw [X4, X5, X3, R 209 _ (by decide) (by decide) (by decide), R 210 _ (by decide) (by decide) (by decide), R 211 _ (by decide) (by decide) (by decide)]
      by_cases hi : p = X 1 0
      · rw [if_pos hi, if_pos hi, if_pos hi, hi]
        exact ⟨y4, y5, y6⟩
      · rw [if_neg hi, if_neg hi, if_neg hi]
        exact k4 p i0 (by omega)
