/-! the class reads tells -/
def NmC (h : Hp) (M : Nat → Int) (X : Nat → Int → Int) : Prop := rd h 3 6 = X 25 0 ∧ ∀ i, 0 ≤ i → i < X 25 0 → rd h 8 i = M (X 24 i).toNat
theorem ok8 : ∀ i, okW 8 i = true := fun i => okW_arr (by decide) (fun _ => by decide)
theorem lcmp_0 {x y : Int} : lcmp x y = 0 ↔ x = y := by
  unfold lcmp
  by_cases c : y < x
  · rw [if_pos c]; exact ⟨fun q => absurd q (by decide), fun q => absurd c (by omega)⟩
  · rw [if_neg c]
    by_cases d : x = y
    · rw [if_pos d]; exact ⟨fun _ => d, fun _ => rfl⟩
    · rw [if_neg d]; exact ⟨fun q => absurd q (by decide), fun q => absurd q d⟩
theorem lp_name {F : Nat} {c : Int} (ic : isSc c) {hb G : Hp} {M : Nat → Int} {X : Nat → Int → Int} {nm pl : Int} {t : Nat} (hn : 0 ≤ X 25 0 ∧ X 25 0 ≤ 10) (hG : rd G 3 6 = X 25 0 ∧ ∀ i, 0 ≤ i → i < X 25 0 → rd G 8 i = M (X 24 i).toNat) : ∀ (k N : Nat) (i : Int) (h : Hp) (w : Int × Int), 0 ≤ i → i + k = X 25 0 → k < N → Fz c hb h → (rd h 3 8 = 0 ∧ rd h 3 7 = t ∧ t ≤ 400) → mild h w → Ag c h G → T (Read_takeName_L33 F N 3 nm pl i h) (fun _ h' => Fz c hb h' ∧ (rd h' 3 8 = 0 ∧ rd h' 3 7 = t ∧ t ≤ 400) ∧ mild h' (if exN (fun i => decide (M (X 24 i).toNat = nm)) i k = true ∧ w.1 = 0 then (3, pl) else w) ∧ Ag c h' (wr (wr G 8 (X 25 0) nm) 3 6 (X 25 0 + 1))) := by
  have hcc : c = 9 ∨ c = 23 := ic
  intro k
  induction k with
  | zero =>
    intro N i h w i0 ik hN f ga gm gg
    obtain ⟨N, rfl⟩ : ∃ n, N = n + 1 := ⟨N - 1, by omega⟩
    have s := f.2.1
    have h6 : rd h 3 6 = X 25 0 := gg.2.2.trans hG.1
    show T (Read_takeName_L33s F (Read_takeName_L33 F N) 3 nm pl i h) _
    unfold Read_takeName_L33s
    rw [gR6 s, h6, if_neg (by omega)]
    unfold Read_takeName_B66
    have s1 : Sh (wr h 8 (X 25 0) nm) := shOk s (ok8 _)
    rw [gR6 s, h6, gR4 s, nR4 s, if_pos (by omega), gR4 s, gR6 s, h6, sR4 s (by omega) (by omega), gR6 s1, rd_wr_ne (by decide), h6, w32_id (by omega) (by omega), pR6 s1]
    refine T_some ⟨Fz_3 (Fz_wr f (ok8 _) (Or.inl rfl) ic) (by decide) (fun q => absurd q (by decide)), ?_, ?_, fun a h1 h2 => ?_, ?_, ?_⟩
    · rw [rd_i (by decide), rd_i (by decide), rd_wr_ne (by decide)]; exact ga
    · rw [if_neg (fun q => absurd q.1 (by simp [exN]))]
      refine mild_3 (by decide) ⟨by rw [rd_wr_ne (by decide)]; exact gm.1, fun z => by rw [rd_wr_ne (by decide)]; exact gm.2 z⟩
    · rw [rd_wr_ne (by omega), rd_wr_ne (by omega), rd_wr_ne (by omega), rd_wr_ne (by omega)]; exact gg.1 a h1 h2
    · have e1 : rd (wr (wr h 8 (X 25 0) nm) 3 6 (X 25 0 + 1)) 8 = rd (wr h 8 (X 25 0) nm) 8 := rd_wr_ne (by decide)
      have e2 : rd (wr (wr G 8 (X 25 0) nm) 3 6 (X 25 0 + 1)) 8 = rd (wr G 8 (X 25 0) nm) 8 := rd_wr_ne (by decide)
      rw [e1, e2]
      funext j
      rw [rd_wr, rd_wr, gg.2.1]
    · rw [rd_same, rd_same]
  | succ k ih =>
    intro N i h w i0 ik hN f ga gm gg
    obtain ⟨N, rfl⟩ : ∃ n, N = n + 1 := ⟨N - 1, by omega⟩
    have s := f.2.1
    have h6 : rd h 3 6 = X 25 0 := gg.2.2.trans hG.1
    have hr : rd h 8 i = M (X 24 i).toNat := by rw [gg.2.1]; exact hG.2 i i0 (by omega)
    show T (Read_takeName_L33s F (Read_takeName_L33 F N) 3 nm pl i h) _
    unfold Read_takeName_L33s
    rw [gR6 s, h6, if_pos (by omega), gR4 s, aR4 s (by omega) (by omega), hr, w32_id (by omega) (by omega)]
    have ex : exN (fun i => decide (M (X 24 i).toNat = nm)) i (k + 1) = (decide (M (X 24 i).toNat = nm) || exN (fun i => decide (M (X 24 i).toNat = nm)) (i + 1) k) := rfl
    rw [ex]
    by_cases e : M (X 24 i).toNat = nm
    · rw [if_pos (lcmp_0.2 e), decide_eq_true e, Bool.true_or, ivR s, c_mildly s, cl_some]
      have m2 := mild_set (n := 3) (p := pl) gm True trivial
      have f2 : Fz c hb (if rd h 3 10 = 0 then wr (wr h 3 10 3) 3 11 pl else h) := by
        split
        · exact Fz_3 (Fz_3 f (by decide) (fun q => absurd q (by decide))) (by decide) (fun q => absurd q (by decide))
        · exact f
      have a2 : rd (if rd h 3 10 = 0 then wr (wr h 3 10 3) 3 11 pl else h) 3 8 = 0 ∧ rd (if rd h 3 10 = 0 then wr (wr h 3 10 3) 3 11 pl else h) 3 7 = t ∧ t ≤ 400 := by
        split
        · rw [rd_i (by decide), rd_i (by decide), rd_i (by decide), rd_i (by decide)]; exact ga
        · exact ga
      have g2 : Ag c (if rd h 3 10 = 0 then wr (wr h 3 10 3) 3 11 pl else h) G := by
        split
        · exact Ag_3 ic (by decide) (Ag_3 ic (by decide) gg)
        · exact gg
      refine T_mono (ih N (i + 1) _ _ (by omega) (by omega) (by omega) f2 a2 m2 g2) (fun _ h' q => ⟨q.1, q.2.1, ?_, q.2.2.2⟩)
      have q3 := q.2.2.1
      have hw1 : (if True ∧ w.1 = 0 then ((3 : Int), pl) else w).1 ≠ 0 := by
        by_cases w0 : w.1 = 0
        · rw [if_pos ⟨trivial, w0⟩]; show (3 : Int) ≠ 0; decide
        · rw [if_neg (fun z => w0 z.2)]; exact w0
      rw [if_neg (show ¬ (exN (fun i => decide (M (X 24 i).toNat = nm)) (i + 1) k = true ∧ (if True ∧ w.1 = 0 then ((3 : Int), pl) else w).1 = 0) from fun z => hw1 z.2)] at q3
      by_cases w0 : w.1 = 0
      · rw [if_pos ⟨trivial, w0⟩] at q3
        rw [if_pos ⟨rfl, w0⟩]
        exact q3
      · rw [if_neg (fun z => w0 z.2)] at q3
        rw [if_neg (fun z => w0 z.2)]
        exact q3
    · rw [if_neg (fun z => e (lcmp_0.1 z)), decide_eq_false e, Bool.false_or]
      exact ih N (i + 1) h w (by omega) (by omega) (by omega) f ga gm gg
theorem st_name {F : Nat} {c : Int} (hF : 1000 ≤ F) (ic : isSc c) {hb h : Hp} {K V P M : Nat → Int} {X : Nat → Int → Int} {r : Ch} {W : List Int → Hp} (tk : TkC hb K V P) (tm : ∀ t : Nat, t ≤ 400 → rd hb 6 t = M t) (hn : 0 ≤ X 25 0 ∧ X 25 0 ≤ 10) (hW : Wc c hb W) (hW2 : ∀ l, rd (W l) 3 6 = X 25 0 ∧ ∀ i, 0 ≤ i → i < X 25 0 → rd (W l) 8 i = M (X 24 i).toNat) (g : STc c hb h r W) : T (Read_takeName F 3 h) (fun _ h' => STc c hb h' (cName K P M X r) (fun l => wr (wr (W l.tail) 8 (X 25 0) (M (l.headD 0).toNat)) 3 6 (X 25 0 + 1))) := by
  have hcc : c = 9 ∨ c = 23 := ic
  have f := STc_F g
  have s := f.2.1
  have f7 := f.2.2.2.2
  obtain ⟨t, ht⟩ := Int.eq_ofNat_of_zero_le f7.1
  obtain ⟨k1, k2, k3, k4⟩ := TkC_Fz ic f tk t (by omega)
  have hm : rd h 6 t = M t := by rw [f.2.2.1 6 (by decide) (by decide) (by omega)]; exact tm t (by omega)
  unfold Read_takeName
  rw [gR2 s, gR7 s, ht, aR2 s (by omega) (by omega), hm, gR3 s, gR7 s, ht, aR3 s (by omega) (by omega), k2, ivR s]
  cases r with
  | inl q =>
    rw [c_accept_d s (by rw [g.1.2.2.1]; exact g.1.2.1), cl_some, if_pos rfl]
    exact T_some g
  | inr q =>
    obtain ⟨-, ga, gm, gg⟩ := g
    have eq : q.1 = t := by have := ga.2.1; omega
    rw [c_accept s (TkC_Fz ic f tk) ga.2.2 ga.2.1 ga.1]
    show T _ (fun _ h' => STc c hb h' (rbd (pAcc K P 18 q.1) (fun t => Sum.inr (t, (if exN (fun i => decide (M (X 24 i).toNat = M q.1)) 0 (X 25 0).toNat = true ∧ q.2.1.1 = 0 then (3, P q.1) else q.2.1), (q.1 : Int) :: q.2.2))) (fun l => wr (wr (W l.tail) 8 (X 25 0) (M (l.headD 0).toNat)) 3 6 (X 25 0 + 1)))
    rw [eq]
    cases hp : pAcc K P 18 t with
    | inl z =>
      rw [cl_some, if_pos rfl]
      exact T_some (st_fl ic f (by rw [gg.1 c (by omega) (by omega)]; exact hW _) (pAcc_e hp))
    | inr t' =>
      obtain ⟨p1, p2, p3⟩ := pAcc_inr hp
      rw [cl_some, if_neg (by decide)]
      have key := lp_name (F := F) (nm := M t) (pl := P t) (t := t') ic hn (hW2 q.2.2) (X 25 0).toNat F 0 (wr h 3 7 (t' : Nat)) q.2.1 (Int.le_refl _) (by omega) (by omega) (Fz_3 f (by decide) (fun _ => ⟨by omega, by omega⟩)) ⟨by rw [rd_i (by decide)]; exact ga.1, rd_same _ _ _ _, by omega⟩ (mild_3 (by decide) gm) (Ag_3 ic (by decide) gg)
      refine T_mono key (fun _ h' k => ⟨k.1, k.2.1, k.2.2.1, ?_⟩)
      show Ag c h' (wr (wr (W q.2.2) 8 (X 25 0) (M ((t : Int)).toNat)) 3 6 (X 25 0 + 1))
      rw [Int.toNat_natCast]
      exact k.2.2.2
/-- a row was read; its end -/
def STd (c : Int) (hb h : Hp) (r : Ch) (W : List Int → Hp) : Prop := match r with
  | Sum.inl q => DZ c hb h q.1 q.2
  | Sum.inr q => Fz c hb h ∧ (rd h 3 8 = 0 ∧ rd h 3 7 = q.1 ∧ q.1 ≤ 400) ∧ mild h q.2.1 ∧ Ag c h (W q.2.2)
theorem STd_of {c : Int} {hb h : Hp} {r : Ch} {W : List Int → Hp} (g : STc c hb h r W) : STd c hb h r W := by
  cases r with
  | inl q => exact g.1
  | inr q => exact g
theorem st_semi {F : Nat} {c : Int} (ic : isSc c) {hb h : Hp} {K V P : Nat → Int} {r : Ch} {W : List Int → Hp} (tk : TkC hb K V P) (g : STd c hb h r W) : T (Read_takeTell_B175 F 3 h) (fun _ h' => STd c hb h' (cAcc K P 59 r) W) := by
  unfold Read_takeTell_B175
  cases r with
  | inl q =>
    rw [ivR g.1.2.1, c_accept_d g.1.2.1 (by rw [g.2.2.1]; exact g.2.1), cl_some]
    exact T_some g
  | inr q =>
    obtain ⟨f, ga, gm, gg⟩ := g
    rw [ivR f.2.1, c_accept f.2.1 (TkC_Fz ic f tk) ga.2.2 ga.2.1 ga.1]
    show T _ (fun _ h' => STd c hb h' (rbd (pAcc K P 59 q.1) (fun t => Sum.inr (t, q.2))) W)
    cases hp : pAcc K P 59 q.1 with
    | inl z =>
      rw [cl_some]
      exact T_some ⟨Fz_3 (Fz_3 f (by decide) (fun q => absurd q (by decide))) (by decide) (fun q => absurd q (by decide)), pAcc_e hp, by rw [rd_i (by decide), rd_same], rd_same _ _ _ _⟩
    | inr t =>
      obtain ⟨p1, p2, p3⟩ := pAcc_inr hp
      rw [cl_some]
      exact T_some ⟨Fz_3 f (by decide) (fun _ => ⟨by omega, by omega⟩), ⟨by rw [rd_i (by decide)]; exact ga.1, rd_same _ _ _ _, by omega⟩, mild_3 (by decide) gm, Ag_3 ic (by decide) gg⟩
/-- a text so far, as the class has it -/
def TSc (c : Int) (h : Hp) (M : Nat → Int) (s : Sg) : Prop := (rd h 3 8 = 0 ∧ rd h 3 7 = s.1 ∧ s.1 ≤ 400) ∧ CxE h c s.2.1 ∧ CLz h c s.2.2.1 ∧ rd h (c + 8) 4 ≤ 10 + s.1 ∧ mild h s.2.2.2 ∧ NmC h M s.2.1 ∧ ((0 ≤ s.2.1 0 0 ∧ s.2.1 0 0 ≤ 8) ∧ (0 ≤ s.2.1 1 0 ∧ s.2.1 1 0 ≤ 3) ∧ s.2.1 25 0 = s.2.1 0 0 + s.2.1 1 0)
def QT (c : Int) (M : Nat → Int) (hb h : Hp) (r : (Int × Int) ⊕ Sg) : Prop := match r with
  | Sum.inl q => DZ c hb h q.1 q.2
  | Sum.inr s => Fz c hb h ∧ TSc c h M s
