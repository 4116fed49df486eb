/-! the class reads a tell: rows of TOKENS -/
def Fz (c : Int) (hb h : Hp) : Prop := (hsz h = hsz hb ∧ hus h = hus hb ∧ hkd h = hkd hb ∧ hln h = hln hb) ∧ Sh h ∧ (∀ a, a ≠ 3 → a ≠ 8 → ¬ (c ≤ a ∧ a ≤ c + 10) → rd h a = rd hb a) ∧ (∀ k, k ≤ 5 → rd h 3 k = rd hb 3 k) ∧ (0 ≤ rd h 3 7 ∧ rd h 3 7 ≤ 400)
theorem Fz_trans {c : Int} {hb h h' : Hp} (a : Fz c hb h) (b : Fz c h h') : Fz c hb h' := ⟨⟨b.1.1.trans a.1.1, b.1.2.1.trans a.1.2.1, b.1.2.2.1.trans a.1.2.2.1, b.1.2.2.2.trans a.1.2.2.2⟩, b.2.1, fun x h1 h2 h3 => (b.2.2.1 x h1 h2 h3).trans (a.2.2.1 x h1 h2 h3), fun k hk => (b.2.2.2.1 k hk).trans (a.2.2.2.1 k hk), b.2.2.2.2⟩
theorem Fz_refl {c : Int} {h : Hp} (s : Sh h) (h7 : 0 ≤ rd h 3 7 ∧ rd h 3 7 ≤ 400) : Fz c h h := ⟨⟨rfl, rfl, rfl, rfl⟩, s, fun _ _ _ _ => rfl, fun _ _ => rfl, h7⟩
theorem Fz_3 {c : Int} {hb h : Hp} (f : Fz c hb h) {k v : Int} (hk : 6 ≤ k) (h7 : k = 7 → 0 ≤ v ∧ v ≤ 400) : Fz c hb (wr h 3 k v) := by
  refine ⟨f.1, shOk f.2.1 (ok3 hk), fun a h1 h2 h3 => by rw [rd_wr_ne h1]; exact f.2.2.1 a h1 h2 h3, fun j hj => by rw [rd_i (by omega)]; exact f.2.2.2.1 j hj, ?_⟩
  by_cases e : k = 7
  · subst e; rw [rd_same]; exact h7 rfl
  · rw [rd_i (fun q => e q.symm)]; exact f.2.2.2.2
theorem Fz_wr {c : Int} {hb h : Hp} (f : Fz c hb h) {a i v : Int} (ok : okW a i = true) (ha : a = 8 ∨ (c ≤ a ∧ a ≤ c + 10)) (ic : isSc c) : Fz c hb (wr h a i v) := by
  have hcc : c = 9 ∨ c = 23 := ic
  exact ⟨f.1, shOk f.2.1 ok, fun b h1 h2 h3 => by rw [rd_wr_ne (fun q => by subst q; omega)]; exact f.2.2.1 b h1 h2 h3, fun j hj => by rw [rd_wr_ne (by omega)]; exact f.2.2.2.1 j hj, by rw [rd_wr_ne (by omega)]; exact f.2.2.2.2⟩
def DZ (c : Int) (hb h : Hp) (e p : Int) : Prop := Fz c hb h ∧ e ≠ 0 ∧ rd h 3 8 = e ∧ rd h 3 9 = p
def Ag (c : Int) (h g : Hp) : Prop := (∀ a, c ≤ a → a ≤ c + 10 → rd h a = rd g a) ∧ rd h 8 = rd g 8 ∧ rd h 3 6 = rd g 3 6
def mild (h : Hp) (w : Int × Int) : Prop := rd h 3 10 = w.1 ∧ (w.1 ≠ 0 → rd h 3 11 = w.2)
def STc (c : Int) (hb h : Hp) (r : Ch) (W : List Int → Hp) : Prop := match r with
  | Sum.inl q => DZ c hb h q.1 q.2 ∧ rd h c 4 = rd hb c 4 ∧ rd h c 8 = rd hb c 8
  | Sum.inr q => Fz c hb h ∧ (rd h 3 8 = 0 ∧ rd h 3 7 = q.1 ∧ q.1 ≤ 400) ∧ mild h q.2.1 ∧ Ag c h (W q.2.2)
theorem TkC_Fz {c : Int} (ic : isSc c) {hb h : Hp} {K V P : Nat → Int} (f : Fz c hb h) (tk : TkC hb K V P) : TkC h K V P := fun t ht => by
  have hcc : c = 9 ∨ c = 23 := ic
  rw [f.2.2.1 5 (by decide) (by decide) (by omega), f.2.2.1 6 (by decide) (by decide) (by omega), f.2.2.1 7 (by decide) (by decide) (by omega)]
  exact tk t ht
theorem STc_F {c : Int} {hb h : Hp} {r : Ch} {W : List Int → Hp} (g : STc c hb h r W) : Fz c hb h := by
  cases r with
  | inl q => exact g.1.1
  | inr q => exact g.1
theorem Ag_3 {c : Int} (ic : isSc c) {h g : Hp} {k v : Int} (hk : 7 ≤ k) (a : Ag c h g) : Ag c (wr h 3 k v) g := by
  have hcc : c = 9 ∨ c = 23 := ic
  exact ⟨fun b h1 h2 => by rw [rd_wr_ne (by omega)]; exact a.1 b h1 h2, by rw [rd_wr_ne (by decide)]; exact a.2.1, by rw [rd_i (by omega)]; exact a.2.2⟩
theorem mild_3 {h : Hp} {k v : Int} {w : Int × Int} (hk : k ≠ 10 ∧ k ≠ 11) (m : mild h w) : mild (wr h 3 k v) w := ⟨by rw [rd_i (fun q => hk.1 q.symm)]; exact m.1, fun q => by rw [rd_i (fun q => hk.2 q.symm)]; exact m.2 q⟩
theorem st_fl {c : Int} (ic : isSc c) {hb h : Hp} (f : Fz c hb h) (hc : rd h c 4 = rd hb c 4 ∧ rd h c 8 = rd hb c 8) {e p : Int} (he : e ≠ 0) : DZ c hb (wr (wr h 3 8 e) 3 9 p) e p ∧ rd (wr (wr h 3 8 e) 3 9 p) c 4 = rd hb c 4 ∧ rd (wr (wr h 3 8 e) 3 9 p) c 8 = rd hb c 8 := by
  have hcc : c = 9 ∨ c = 23 := ic
  refine ⟨⟨Fz_3 (Fz_3 f (by decide) (fun q => absurd q (by decide))) (by decide) (fun q => absurd q (by decide)), he, by rw [rd_i (by decide), rd_same], rd_same _ _ _ _⟩, ?_, ?_⟩
  · rw [rd_wr_ne (by omega), rd_wr_ne (by omega)]; exact hc.1
  · rw [rd_wr_ne (by omega), rd_wr_ne (by omega)]; exact hc.2
/-- the fields that count parts and workers stay while a row is read -/
def Wc (c : Int) (hb : Hp) (W : List Int → Hp) : Prop := ∀ l, rd (W l) c 4 = rd hb c 4 ∧ rd (W l) c 8 = rd hb c 8
theorem st_acc {F : Nat} {c : Int} (ic : isSc c) {hb h : Hp} {K V P : Nat → Int} {k : Int} {r : Ch} {W : List Int → Hp} (tk : TkC hb K V P) (hW : Wc c hb W) (g : STc c hb h r W) : T (Read_accept F 3 k h) (fun _ h' => STc c hb h' (cAcc K P k r) W) := by
  have hcc : c = 9 ∨ c = 23 := ic
  cases r with
  | inl q =>
    rw [c_accept_d g.1.1.2.1 (by rw [g.1.2.2.1]; exact g.1.2.1)]
    exact T_some g
  | inr q =>
    obtain ⟨f, ga, gm, gg⟩ := g
    rw [c_accept f.2.1 (TkC_Fz ic f tk) ga.2.2 ga.2.1 ga.1]
    show T _ (fun _ h' => STc c hb h' (rbd (pAcc K P k q.1) (fun t => Sum.inr (t, q.2))) W)
    cases hp : pAcc K P k q.1 with
    | inl z => exact T_some (st_fl ic f (by rw [gg.1 c (by omega) (by omega)]; exact hW _) (pAcc_e hp))
    | inr t =>
      obtain ⟨p1, p2, p3⟩ := pAcc_inr hp
      exact T_some ⟨Fz_3 f (by decide) (fun _ => ⟨by omega, by omega⟩), ⟨by rw [rd_i (by decide)]; exact ga.1, rd_same _ _ _ _, by omega⟩, mild_3 (by decide) gm, Ag_3 ic (by decide) gg⟩
theorem c_mildly {F : Nat} {h : Hp} {n p : Int} (s : Sh h) : Read_failMildly F 3 n p h = some (0, if rd h 3 10 = 0 then wr (wr h 3 10 n) 3 11 p else h) := by
  unfold Read_failMildly
  rw [gR10 s]
  by_cases e : rd h 3 10 = 0
  · have s1 : Sh (wr h 3 10 n) := shOk s (ok3 (by decide))
    rw [if_pos e, if_pos e, pR10 s, pR11 s1]
  · rw [if_neg e, if_neg e]
theorem mild_set {h : Hp} {n p : Int} {w : Int × Int} (m : mild h w) (B : Prop) [Decidable B] (hB : B) : mild (if rd h 3 10 = 0 then wr (wr h 3 10 n) 3 11 p else h) (if B ∧ w.1 = 0 then (n, p) else w) := by
  by_cases e : w.1 = 0
  · rw [if_pos (by rw [m.1]; exact e), if_pos ⟨hB, e⟩]
    exact ⟨by rw [rd_i (by decide), rd_same], fun _ => rd_same _ _ _ _⟩
  · rw [if_neg (by rw [m.1]; exact e), if_neg (fun q => e q.2)]
    exact m
theorem st_num {F : Nat} {c lo hi : Int} (ic : isSc c) {hb h : Hp} {K V P : Nat → Int} {r : Ch} {W : List Int → Hp} (tk : TkC hb K V P) (hW : Wc c hb W) (g : STc c hb h r W) : T (Read_takeNumber F 3 lo hi h) (fun v h' => STc c hb h' (cNum K V P lo hi r) (fun l => W l.tail) ∧ ∀ q, cNum K V P lo hi r = Sum.inr q → v = q.2.2.headD 0) := by
  have hcc : c = 9 ∨ c = 23 := ic
  have f := STc_F g
  have s := f.2.1
  have f7 := f.2.2.2.2
  obtain ⟨t, ht⟩ := Int.eq_ofNat_of_zero_le f7.1
  obtain ⟨k1, k2, k3, k4⟩ := TkC_Fz ic f tk t (by omega)
  unfold Read_takeNumber
  rw [gR2 s, gR7 s, ht, aR2 s (by omega) (by omega), k3, lt_eq, gR3 s, gR7 s, ht, aR3 s (by omega) (by omega), k2, ivR s]
  cases r with
  | inl q =>
    rw [c_accept_d s (by rw [g.1.2.2.1]; exact g.1.2.1), cl_some, if_pos rfl]
    exact T_some ⟨g, fun q e => by cases e⟩
  | inr q =>
    obtain ⟨-, ga, gm, gg⟩ := g
    have eq : q.1 = t := by have := ga.2.1; omega
    rw [c_accept s (TkC_Fz ic f tk) ga.2.2 ga.2.1 ga.1]
    show T _ (fun v h' => STc c hb h' (rbd (pAcc K P 19 q.1) (fun t => Sum.inr (t, (if (V q.1 < lo ∨ hi < V q.1) ∧ q.2.1.1 = 0 then (5, P q.1) else q.2.1), V q.1 :: q.2.2))) (fun l => W l.tail) ∧ ∀ z, rbd (pAcc K P 19 q.1) (fun t => (Sum.inr (t, (if (V q.1 < lo ∨ hi < V q.1) ∧ q.2.1.1 = 0 then (5, P q.1) else q.2.1), V q.1 :: q.2.2) : Ch)) = Sum.inr z → v = z.2.2.headD 0)
    rw [eq]
    cases hp : pAcc K P 19 t with
    | inl z =>
      rw [cl_some, if_pos rfl]
      exact T_some ⟨st_fl ic f (by rw [gg.1 c (by omega) (by omega)]; exact hW _) (pAcc_e hp), fun q e => by cases e⟩
    | inr t' =>
      obtain ⟨p1, p2, p3⟩ := pAcc_inr hp
      have F1 : Fz c hb (wr h 3 7 (t' : Nat)) := Fz_3 f (by decide) (fun _ => ⟨by omega, by omega⟩)
      have A1 : rd (wr h 3 7 (t' : Nat)) 3 8 = 0 ∧ rd (wr h 3 7 (t' : Nat)) 3 7 = t' ∧ t' ≤ 400 := ⟨by rw [rd_i (by decide)]; exact ga.1, rd_same _ _ _ _, by omega⟩
      have M1 : mild (wr h 3 7 (t' : Nat)) q.2.1 := mild_3 (by decide) gm
      have G1 : Ag c (wr h 3 7 (t' : Nat)) (W q.2.2) := Ag_3 ic (by decide) gg
      have out : ∀ z, rbd (Sum.inr t') (fun t0 => (Sum.inr (t0, (if (V t < lo ∨ hi < V t) ∧ q.2.1.1 = 0 then (5, P t) else q.2.1), V t :: q.2.2) : Ch)) = Sum.inr z → V t = z.2.2.headD 0 := fun z e => by cases e; rfl
      rw [cl_some, if_neg (by decide)]
      have B43 : (V t < lo ∨ hi < V t) → T (Read_takeNumber_B43 F 3 (V t) (P t) (wr h 3 7 (t' : Nat))) (fun v h' => STc c hb h' (rbd (Sum.inr t') (fun t0 => Sum.inr (t0, (if (V t < lo ∨ hi < V t) ∧ q.2.1.1 = 0 then (5, P t) else q.2.1), V t :: q.2.2))) (fun l => W l.tail) ∧ ∀ z, rbd (Sum.inr t') (fun t0 => (Sum.inr (t0, (if (V t < lo ∨ hi < V t) ∧ q.2.1.1 = 0 then (5, P t) else q.2.1), V t :: q.2.2) : Ch)) = Sum.inr z → v = z.2.2.headD 0) := by
        intro hv
        have m2 := mild_set (n := 5) (p := P t) M1 (V t < lo ∨ hi < V t) hv
        unfold Read_takeNumber_B43
        rw [ivR F1.2.1, c_mildly F1.2.1, cl_some]
        refine T_some ⟨⟨?_, ?_, m2, ?_⟩, out⟩
        · split
          · exact Fz_3 (Fz_3 F1 (by decide) (fun q => absurd q (by decide))) (by decide) (fun q => absurd q (by decide))
          · exact F1
        · split
          · rw [rd_i (by decide), rd_i (by decide), rd_i (by decide), rd_i (by decide)]; exact A1
          · exact A1
        · split
          · exact Ag_3 ic (by decide) (Ag_3 ic (by decide) G1)
          · exact G1
      by_cases c1 : V t < lo
      · rw [if_pos c1]; exact B43 (Or.inl c1)
      · rw [if_neg c1]
        by_cases c2 : hi < V t
        · rw [if_pos c2]; exact B43 (Or.inr c2)
        · rw [if_neg c2]
          refine T_some ⟨⟨F1, A1, ?_, G1⟩, out⟩
          rw [if_neg (fun q => by rcases q.1 with z | z <;> omega)]
          exact M1
/-- a number goes to its place -/
theorem st_wr {c : Int} (ic : isSc c) {hb h : Hp} {r : Ch} {W : List Int → Hp} {a i v : Int} (ok : okW a i = true) (ha : (c + 1 ≤ a ∧ a ≤ c + 7) ∨ (a = c ∧ 9 ≤ i)) (hv : ∀ q, r = Sum.inr q → v = q.2.2.headD 0) (g : STc c hb h r W) : STc c hb (wr h a i v) r (fun l => wr (W l) a i (l.headD 0)) := by
  have hcc : c = 9 ∨ c = 23 := ic
  cases r with
  | inl q =>
    obtain ⟨⟨f, he, e8, e9⟩, c4, c8⟩ := g
    refine ⟨⟨Fz_wr f ok (Or.inr (by omega)) ic, he, by rw [rd_wr_ne (by omega)]; exact e8, by rw [rd_wr_ne (by omega)]; exact e9⟩, ?_, ?_⟩
    · rw [rd_wr, if_neg (by omega)]; exact c4
    · rw [rd_wr, if_neg (by omega)]; exact c8
  | inr q =>
    obtain ⟨f, ga, gm, gg⟩ := g
    rw [hv q rfl]
    refine ⟨Fz_wr f ok (Or.inr (by omega)) ic, by rw [rd_wr_ne (by omega)]; exact ga, ⟨by rw [rd_wr_ne (by omega)]; exact gm.1, fun z => by rw [rd_wr_ne (by omega)]; exact gm.2 z⟩, fun b h1 h2 => ?_, ?_, ?_⟩
    · funext j
      rw [rd_wr, rd_wr, gg.1 b h1 h2]
    · rw [rd_wr_ne (by omega), rd_wr_ne (by omega)]; exact gg.2.1
    · rw [rd_wr_ne (by omega), rd_wr_ne (by omega)]; exact gg.2.2
