/-! the class's laws, whole -/
def CLw (S : Int → Int) (U : Int) : Int → Lw → Prop
  | _, [] => False
  | a, (none, b) :: r => clA S a b ∧ S (a + b.length) = 4 ∧ a + b.length < U ∧ r = []
  | a, (some t, b) :: r => clA S a t.1 ∧ clA S (a + t.1.length) t.2 ∧ S (a + t.1.length + t.2.length) = (a + t.1.length + t.2.length + 1 + b.length + 1) * 256 + 3 ∧ clA S (a + t.1.length + t.2.length + 1) b ∧ S (a + t.1.length + t.2.length + 1 + b.length) = 4 ∧ a + t.1.length + t.2.length + 1 + b.length < U ∧ CLw S U (a + t.1.length + t.2.length + 1 + b.length + 1) r
theorem c_ans {F : Nat} {h : Hp} {c U : Int} (s : Sh h) (ic : isSc c) (hu : rd h (c + 8) 4 = U) (hU : U ≤ 450) {n : Nat} {a k : Int} {P : Int → Int} (ha : 0 ≤ a) (hau : a < U) (hk : 0 ≤ k) (hka : k ≤ a) (hS : rd h (c + 9) a = 4) : Laws_value_L12 F (n + 1) (c + 8) a 1 k (sr h (c + 12) P) = some (P 0, sr h (c + 12) P) := by
  have sp : Sh (sr h (c + 12) P) := Sh_srW s (ok12 ic)
  have r8 : rd (sr h (c + 12) P) (c + 8) = rd h (c + 8) := rd_sr_ne (by omega)
  have r9 : rd (sr h (c + 12) P) (c + 9) = rd h (c + 9) := rd_sr_ne (by omega)
  obtain ⟨d1, d2⟩ := dec_I (x := 0) (k := 4) (by decide) (by decide)
  rw [show (0 : Int) * 256 + 4 = 4 by decide] at d1 d2
  show Laws_value_L12s F (Laws_value_L12 F n) (c + 8) a 1 k (sr h (c + 12) P) = _
  unfold Laws_value_L12s
  rw [if_pos (by omega), if_neg (by omega), gL4 sp ic, r8, hu, if_pos (by omega), gL0 sp ic, aL0 sp ic ha (by omega), r9, hS, lt_eq, gL0 sp ic, aL0 sp ic ha (by omega), r9, hS, lt_eq, d1, if_neg (by decide), if_neg (by decide), if_pos rfl]
  unfold Laws_value_B131
  rw [if_pos (by decide), gL3 sp ic, w32_id (by decide) (by decide), show (1 : Int) - 1 = 0 by decide, aL3 sp ic (by decide) (by decide), rd_sr]
theorem c_body {F : Nat} {h : Hp} {c U : Int} (s : Sh h) (ic : isSc c) (hu : rd h (c + 8) 4 = U) (hU : U ≤ 450) {N : Nat} {a k : Int} {P : Int → Int} {b : List (Int × Int)} (ha : 0 ≤ a) (hk : 0 ≤ k) (hka : k ≤ a) (hN : U - a < N) (cb : clA (rd h (c + 9)) a b) (ex : Ex 15 b) (h4 : rd h (c + 9) (a + b.length) = 4) (hl : a + b.length < U) :
    ∃ P', Laws_value_L12 F N (c + 8) a 0 k (sr h (c + 12) P) = some ((evV (rd h (c + 11)) b).getD 0, sr h (c + 12) P') := by
  obtain ⟨P1, e1, r1⟩ := c_val (F := F) s ic hu hU b N a k [] P ha (by omega) hk hka (by omega) cb (okH_mono (by decide) b 0 (ex.2.2 0)) (by simp) trivial
  have e2 := ex.1 (rd h (c + 11)) []
  rw [e2] at e1 r1
  have e0 : Laws_value_L12 F N (c + 8) a 0 k (sr h (c + 12) P) = Laws_value_L12 F N (c + 8) a (([] : List Int).length : Nat) k (sr h (c + 12) P) := rfl
  rw [e0, e1]
  cases hv : evV (rd h (c + 11)) b with
  | none => exact ⟨P1, rfl⟩
  | some x =>
    rw [hv] at r1
    have r2 := r1 [x] rfl
    obtain ⟨n, hn⟩ : ∃ n, N - b.length = n + 1 := ⟨N - b.length - 1, by omega⟩
    refine ⟨P1, ?_⟩
    show Laws_value_L12 F (N - b.length) (c + 8) (a + b.length) 1 (k + b.length) (sr h (c + 12) P1) = some (x, sr h (c + 12) P1)
    rw [hn, c_ans s ic hu hU (by omega) hl (by omega) (by omega) h4]
    rw [show P1 0 = x from r2.1]
theorem c_lawB {F : Nat} {h : Hp} {c U : Int} (s : Sh h) (ic : isSc c) (hu : rd h (c + 8) 4 = U) (hU : U ≤ 450) : ∀ (L : Lw) (N : Nat) (a k : Int) (P : Int → Int), 0 ≤ a → 0 ≤ k → k ≤ a → U - a < N → CLw (rd h (c + 9)) U a L → LwOk L → ∃ P', Laws_value_L12 F N (c + 8) a 0 k (sr h (c + 12) P) = some (lawB (rd h (c + 11)) L, sr h (c + 12) P') := by
  intro L
  induction L with
  | nil => intro N a k P ha hk hka hN cl ok; exact absurd cl (by simp [CLw])
  | cons q r ih =>
    intro N a k P ha hk hka hN cl ok
    obtain ⟨o, b⟩ := q
    have okq := ok (o, b) (List.mem_cons_self ..)
    cases o with
    | none =>
      obtain ⟨c1, c2, c3, -⟩ := cl
      exact c_body s ic hu hU ha hk hka hN c1 okq.1 c2 c3
    | some t =>
      obtain ⟨c1, c2, c3, c4, c5, c6, c7⟩ := cl
      obtain ⟨x1, x2⟩ := okq.2 t rfl
      obtain ⟨P1, e1, r1⟩ := c_val (F := F) s ic hu hU t.1 N a k [] P ha (by omega) hk hka (by omega) c1 (okH_mono (by decide) t.1 0 (x1.2.2 0)) (by simp) trivial
      rw [x1.1 (rd h (c + 11)) []] at e1 r1
      have e0 : Laws_value_L12 F N (c + 8) a 0 k (sr h (c + 12) P) = Laws_value_L12 F N (c + 8) a (([] : List Int).length : Nat) k (sr h (c + 12) P) := rfl
      rw [e0, e1]
      show ∃ P', _ = some ((match evV (rd h (c + 11)) t.1, evV (rd h (c + 11)) t.2 with | some x, some y => if x < y then (evV (rd h (c + 11)) b).getD 0 else lawB (rd h (c + 11)) r | _, _ => 0), sr h (c + 12) P')
      cases hv : evV (rd h (c + 11)) t.1 with
      | none => exact ⟨P1, rfl⟩
      | some x =>
        rw [hv] at r1
        have r2 := r1 [x] rfl
        obtain ⟨P2, e2, r3⟩ := c_val (F := F) s ic hu hU t.2 (N - t.1.length) (a + t.1.length) (k + t.1.length) [x] P1 (by omega) (by omega) (by omega) (by omega) (by omega) c2 (okH_mono (by decide) t.2 1 (x2.2.2 1)) (by simp) r2
        rw [x2.1 (rd h (c + 11)) [x]] at e2 r3
        show ∃ P', Laws_value_L12 F (N - t.1.length) (c + 8) (a + t.1.length) (([x] : List Int).length : Nat) (k + t.1.length) (sr h (c + 12) P1) = _
        rw [e2]
        cases hw : evV (rd h (c + 11)) t.2 with
        | none => exact ⟨P2, rfl⟩
        | some y =>
          rw [hw] at r3
          have r4 := r3 [y, x] rfl
          have p1 : P2 1 = y := r4.1
          have p0 : P2 0 = x := r4.2.1
          obtain ⟨n, hn⟩ : ∃ n, N - t.1.length - t.2.length = n + 1 := ⟨N - t.1.length - t.2.length - 1, by omega⟩
          have sp : Sh (sr h (c + 12) P2) := Sh_srW s (ok12 ic)
          have r8 : rd (sr h (c + 12) P2) (c + 8) = rd h (c + 8) := rd_sr_ne (by omega)
          have r9 : rd (sr h (c + 12) P2) (c + 9) = rd h (c + 9) := rd_sr_ne (by omega)
          show ∃ P', Laws_value_L12 F (N - t.1.length - t.2.length) (c + 8) (a + t.1.length + t.2.length) 2 (k + t.1.length + t.2.length) (sr h (c + 12) P2) = some (if x < y then (evV (rd h (c + 11)) b).getD 0 else lawB (rd h (c + 11)) r, sr h (c + 12) P')
          rw [hn]
          have est : Laws_value_L12 F (n + 1) (c + 8) (a + t.1.length + t.2.length) 2 (k + t.1.length + t.2.length) (sr h (c + 12) P2) = if x < y then Laws_value_L12 F n (c + 8) (a + t.1.length + t.2.length + 1) 0 (k + t.1.length + t.2.length + 1) (sr h (c + 12) P2) else Laws_value_L12 F n (c + 8) (a + t.1.length + t.2.length + 1 + b.length + 1) 0 (k + t.1.length + t.2.length + 1) (sr h (c + 12) P2) := by
            generalize hA : a + t.1.length + t.2.length = A at *
            obtain ⟨d1, d2⟩ := dec_I (x := A + 1 + b.length + 1) (k := 3) (by omega) (by decide)
            show Laws_value_L12s F (Laws_value_L12 F n) (c + 8) A 2 (k + t.1.length + t.2.length) (sr h (c + 12) P2) = _
            unfold Laws_value_L12s
            rw [if_pos (by omega), if_neg (by omega), gL4 sp ic, r8, hu, if_pos (by omega), gL0 sp ic, aL0 sp ic (by omega) (by omega), r9, c3, lt_eq, gL0 sp ic, aL0 sp ic (by omega) (by omega), r9, c3, lt_eq, d1, d2, if_neg (by decide), if_neg (by decide), if_neg (by decide), w32_id (x := 2 + -2) (by decide) (by decide), show (2 : Int) + -2 = 0 by decide, if_neg (by decide), gL3 sp ic, aL3 sp ic (by decide) (by decide), gL3 sp ic, w32_id (x := 0 + 1) (by decide) (by decide), show (0 : Int) + 1 = 1 by decide, aL3 sp ic (by decide) (by decide), rd_sr, p0, p1, if_pos rfl, w32_id (x := A + 1) (by omega) (by omega), w32_id (x := k + t.1.length + t.2.length + 1) (by omega) (by omega), lt_eq]
          rw [est]
          by_cases cxy : x < y
          · rw [if_pos cxy, if_pos cxy]
            exact c_body s ic hu hU (by omega) (by omega) (by omega) (by omega) c4 okq.1 c5 c6
          · rw [if_neg cxy, if_neg cxy]
            exact ih n _ _ P2 (by omega) (by omega) (by omega) (by omega) c7 (fun q hq => ok q (List.mem_cons_of_mem _ hq))
/-- the class's law for what a text tells of it -/
def dfl (k : Nat) : Lw := [(none, if k = 0 then [(1, 1)] else if k = 1 then [(0, 0)] else if k = 2 then [(0, 100)] else if k = 3 then [(1, 3)] else [(0, 0)])]
def cLw (k : Nat) (L : Lw) : Lw := if L = [] then dfl k else L
def CLz (h : Hp) (c : Int) (Λ : Nat → Lw) : Prop := (0 ≤ rd h (c + 8) 4 ∧ rd h (c + 8) 4 ≤ 450) ∧ ∀ k : Nat, k < 5 → 0 ≤ rd h (c + 10) k ∧ CLw (rd h (c + 9)) (rd h (c + 8) 4) (rd h (c + 10) k) (cLw k (Λ k)) ∧ LwOk (Λ k)
theorem dfl_ok (k : Nat) : LwOk (dfl k) := by
  intro q hq
  unfold dfl at hq
  rw [List.mem_singleton] at hq
  subst hq
  refine ⟨?_, fun t e => absurd e (by simp)⟩
  show Ex 15 (if k = 0 then [(1, 1)] else if k = 1 then [(0, 0)] else if k = 2 then [(0, 100)] else if k = 3 then [(1, 3)] else [(0, 0)])
  split
  · exact Ex_mono (Ex_var (by decide)) (by decide)
  · split
    · exact Ex_mono (Ex_num 0) (by decide)
    · split
      · exact Ex_mono (Ex_num 100) (by decide)
      · split
        · exact Ex_mono (Ex_var (by decide)) (by decide)
        · exact Ex_mono (Ex_num 0) (by decide)
theorem cLw_ok {k : Nat} {L : Lw} (h : LwOk L) : LwOk (cLw k L) := by
  unfold cLw
  split
  · exact dfl_ok k
  · exact h
theorem c_value {F k : Nat} {h : Hp} {c : Int} {Λ : Nat → Lw} (hF : 1000 ≤ F) (s : Sh h) (ic : isSc c) (g : CLz h c Λ) (hk : k < 5) : ∃ P, Laws_value F (c + 8) k h = some (lawB (rd h (c + 11)) (cLw k (Λ k)), sr h (c + 12) P) := by
  obtain ⟨gu, gk⟩ := g
  obtain ⟨g1, g2, g3⟩ := gk k hk
  obtain ⟨P', e⟩ := c_lawB (F := F) s ic rfl gu.2 (cLw k (Λ k)) F (rd h (c + 10) k) 0 (rd h (c + 12)) g1 (by decide) g1 (by omega) g2 (cLw_ok g3)
  rw [sr_self] at e
  refine ⟨P', ?_⟩
  unfold Laws_value
  rw [gL1 s ic, aL1 s ic (by omega) (by omega)]
  exact e
theorem c_within {F : Nat} {h : Hp} {lo hi x : Int} (hl : lo ≤ hi) : Laws_within F lo x hi h = some (clm lo hi x, h) := by
  unfold Laws_within
  rw [lt_eq, lt_eq]
  unfold imax imin clm
  congr 2
  (repeat' split) <;> omega
theorem c_setVars {F : Nat} {h : Hp} {c x y m f o : Int} (s : Sh h) (ic : isSc c) : Laws_setVariables F (c + 8) x y m f o h = some (0, sr h (c + 11) (vs5 (rd h (c + 11)) x y m f o)) := by
  have ok : ∀ i, okW (c + 11) i = true := fun i => okC ic (Or.inr (by decide))
  have s1 : Sh (wr h (c + 11) 0 x) := shOk s (ok _)
  have s2 : Sh (wr (wr h (c + 11) 0 x) (c + 11) 1 y) := shOk s1 (ok _)
  have s3 : Sh (wr (wr (wr h (c + 11) 0 x) (c + 11) 1 y) (c + 11) 2 m) := shOk s2 (ok _)
  have s4 : Sh (wr (wr (wr (wr h (c + 11) 0 x) (c + 11) 1 y) (c + 11) 2 m) (c + 11) 3 f) := shOk s3 (ok _)
  unfold Laws_setVariables
  rw [gL2 s ic, sL2 s ic (by decide) (by decide), gL2 s1 ic, sL2 s1 ic (by decide) (by decide), gL2 s2 ic, sL2 s2 ic (by decide) (by decide), gL2 s3 ic, sL2 s3 ic (by decide) (by decide), gL2 s4 ic, sL2 s4 ic (by decide) (by decide), wr_sr h, wr_up, wr_up, wr_up, wr_up]
  rfl
/-- laws were looked at on the class's side: variables and stack alone may differ -/
def Lc (c : Int) (h h' : Hp) : Prop := (hsz h' = hsz h ∧ hus h' = hus h ∧ hkd h' = hkd h ∧ hln h' = hln h) ∧ Sh h' ∧ ∀ a, a ≠ c + 11 → a ≠ c + 12 → rd h' a = rd h a
theorem Lc_refl {c : Int} {h : Hp} (s : Sh h) : Lc c h h := ⟨⟨rfl, rfl, rfl, rfl⟩, s, fun _ _ _ => rfl⟩
theorem Lc_trans {c : Int} {h h' h'' : Hp} (a : Lc c h h') (b : Lc c h' h'') : Lc c h h'' := ⟨⟨b.1.1.trans a.1.1, b.1.2.1.trans a.1.2.1, b.1.2.2.1.trans a.1.2.2.1, b.1.2.2.2.trans a.1.2.2.2⟩, b.2.1, fun x h1 h2 => (b.2.2 x h1 h2).trans (a.2.2 x h1 h2)⟩
theorem CLz_eq {h h' : Hp} {c : Int} {Λ : Nat → Lw} (e8 : rd h' (c + 8) = rd h (c + 8)) (e9 : rd h' (c + 9) = rd h (c + 9)) (e10 : rd h' (c + 10) = rd h (c + 10)) (g : CLz h c Λ) : CLz h' c Λ := by
  unfold CLz
  rw [e8, e9, e10]
  exact g
theorem Lc_CLz {c : Int} {h h' : Hp} {Λ : Nat → Lw} (a : Lc c h h') (g : CLz h c Λ) : CLz h' c Λ := CLz_eq (a.2.2 _ (by omega) (by omega)) (a.2.2 _ (by omega) (by omega)) (a.2.2 _ (by omega) (by omega)) g
/-- a law told of some things -/
theorem c_tellsAt {F k : Nat} {h : Hp} {c lo hi x y m f o : Int} {Λ : Nat → Lw} (hF : 1000 ≤ F) (s : Sh h) (ic : isSc c) (g : CLz h c Λ) (hk : k < 5) (hl : lo ≤ hi) : ∃ h', (iv h (c + 8) 100 (Laws_setVariables F (c + 8) x y m f o h) fun r1 h2 => iv h2 (c + 8) 100 (Laws_value F (c + 8) k h2) fun r3 h4 => cl (Laws_within F lo r3 hi h4) fun r5 h6 => some (r5, h6)) = some (clm lo hi (lawB (vv x y m f o) (cLw k (Λ k))), h') ∧ Lc c h h' := by
  have ok : ∀ i, okW (c + 11) i = true := fun i => okC ic (Or.inr (by decide))
  have s1 : Sh (sr h (c + 11) (vs5 (rd h (c + 11)) x y m f o)) := Sh_srW s ok
  have l1 : Lc c h (sr h (c + 11) (vs5 (rd h (c + 11)) x y m f o)) := ⟨⟨rfl, rfl, rfl, rfl⟩, s1, fun a h1 _ => rd_sr_ne h1⟩
  obtain ⟨P, e⟩ := c_value (F := F) hF s1 ic (Lc_CLz l1 g) hk
  have l2 : Lc c (sr h (c + 11) (vs5 (rd h (c + 11)) x y m f o)) (sr (sr h (c + 11) (vs5 (rd h (c + 11)) x y m f o)) (c + 12) P) := ⟨⟨rfl, rfl, rfl, rfl⟩, Sh_srW s1 (ok12 ic), fun a _ h2 => rd_sr_ne h2⟩
  refine ⟨_, ?_, Lc_trans l1 l2⟩
  rw [ivL s ic, c_setVars s ic, cl_some, ivL s1 ic, e, cl_some, c_within hl, cl_some, rd_sr, lawB_congr (vs5_vv (rd h (c + 11)) x y m f o) (cLw k (Λ k)) (cLw_ok (g.2 k hk).2.2)]
theorem cLw_V {k : Nat} {L : Lw} {v : Int → Int} {pl : Int} (hp : evV v (dfl k).head!.2 = some pl) : lawB v (cLw k L) = lawV pl L v := by
  unfold cLw lawV
  by_cases e : L = []
  · rw [if_pos e, if_pos e]
    show (evV v (dfl k).head!.2).getD 0 = pl
    rw [hp]; rfl
  · rw [if_neg e, if_neg e]
theorem c_tide {F : Nat} {h : Hp} {c m : Int} {Λ : Nat → Lw} (hF : 1000 ≤ F) (s : Sh h) (ic : isSc c) (g : CLz h c Λ) : ∃ h', Laws_tide F (c + 8) m h = some (tdV (Λ 1) m, h') ∧ Lc c h h' := by
  obtain ⟨h', e, l⟩ := c_tellsAt (k := 1) (lo := -9999) (hi := 9999) (x := 0) (y := 0) (m := m) (f := 0) (o := 0) hF s ic g (by decide) (by decide)
  exact ⟨h', by unfold tdV; rw [← cLw_V (k := 1) (by rfl)]; exact e, l⟩
theorem c_sun {F : Nat} {h : Hp} {c m : Int} {Λ : Nat → Lw} (hF : 1000 ≤ F) (s : Sh h) (ic : isSc c) (g : CLz h c Λ) : ∃ h', Laws_sun F (c + 8) m h = some (snV (Λ 2) m, h') ∧ Lc c h h' := by
  obtain ⟨h', e, l⟩ := c_tellsAt (k := 2) (lo := 0) (hi := 100) (x := 0) (y := 0) (m := m) (f := 0) (o := 0) hF s ic g (by decide) (by decide)
  exact ⟨h', by unfold snV; rw [← cLw_V (k := 2) (by rfl)]; exact e, l⟩
theorem c_high {F : Nat} {h : Hp} {c x y : Int} {Λ : Nat → Lw} (hF : 1000 ≤ F) (s : Sh h) (ic : isSc c) (g : CLz h c Λ) : ∃ h', Laws_high F (c + 8) x y h = some (hgV (Λ 0) x y, h') ∧ Lc c h h' := by
  obtain ⟨h', e, l⟩ := c_tellsAt (k := 0) (lo := -9999) (hi := 9999) (x := x) (y := y) (m := 0) (f := 0) (o := 0) hF s ic g (by decide) (by decide)
  exact ⟨h', by unfold hgV; rw [← cLw_V (k := 0) (by rfl)]; exact e, l⟩
theorem c_slip {F : Nat} {h : Hp} {c f o : Int} {Λ : Nat → Lw} (hF : 1000 ≤ F) (s : Sh h) (ic : isSc c) (g : CLz h c Λ) : ∃ h', Laws_slip F (c + 8) f o h = some (slV (Λ 3) f o, h') ∧ Lc c h h' := by
  obtain ⟨h', e, l⟩ := c_tellsAt (k := 3) (lo := 0) (hi := 9999) (x := 0) (y := 0) (m := 0) (f := f) (o := o) hF s ic g (by decide) (by decide)
  exact ⟨h', by unfold slV; rw [← cLw_V (k := 3) (by rfl)]; exact e, l⟩
theorem c_loose {F : Nat} {h : Hp} {c x y m : Int} {Λ : Nat → Lw} (hF : 1000 ≤ F) (s : Sh h) (ic : isSc c) (g : CLz h c Λ) : ∃ h', Laws_loose F (c + 8) x y m h = some (dgV (Λ 4) x y m, h') ∧ Lc c h h' := by
  obtain ⟨h', e, l⟩ := c_tellsAt (k := 4) (lo := 0) (hi := 100) (x := x) (y := y) (m := m) (f := 0) (o := 0) hF s ic g (by decide) (by decide)
  exact ⟨h', by unfold dgV; rw [← cLw_V (k := 4) (by rfl)]; exact e, l⟩
