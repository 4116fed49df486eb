/-! who is ready later never does more -/
theorem bsR_max {D : Nat → Int → Int} {T : Int → Int} {a b : Int} {al : Nat} {s : Nat} (hs : s &&& al = s) (hb : lrV T a s ≤ b) (h1 : 1 ≤ s) : ∀ n : Nat, s ≤ n → wbV D s ≤ wbV D (bsR D T a b al n) := by
  intro n
  induction n with
  | zero => intro h; omega
  | succ n ih =>
    intro h
    unfold bsR
    by_cases c : s = n + 1
    · subst c
      split
      · exact Int.le_refl _
      · rename_i z
        apply Classical.byContradiction
        intro y
        exact z ⟨⟨hs, hb⟩, Or.inl (by omega)⟩
    · have i1 := ih (by omega)
      split
      · rename_i z
        rcases z.2 with y | y
        · omega
        · omega
      · exact i1
/-- later starts, later ends -/
theorem CT_late {g : Hp} (m : Mo g) {G H : Nat → Int} (hg : Gok (dt g) G) (hh : Gok (dt g) H) (mn : MnD (dt g) (G 3)) {w : Int} (hw : 0 ≤ w ∧ w < dt g 1 0) {al : Nat} (hl : al < 256) (e0 : H 0 = G 0) (e1 : H 1 = G 1) (e3 : H 3 = G 3) (e4 : H 4 = G 4) (le : G 2 ≤ H 2) :
    ∀ k s : Nat, s ≤ k → 1 ≤ s → s < 2 ^ (dt g 0 0).toNat → s &&& al = s → ∀ p : Nat, s.testBit p = true → cap (CT (dt g) G w al (8 * s + p)) ≤ cap (CT (dt g) H w al (8 * s + p)) := by
  have h8 := D8 m
  intro k
  induction k with
  | zero => intro s h1 h2; omega
  | succ k ih =>
    intro s hk h1 hs ha p hb
    have pP : p < (dt g 0 0).toNat := by
      apply Classical.byContradiction
      intro c
      rw [Nat.testBit_lt_two_pow (Nat.lt_of_lt_of_le hs (Nat.pow_le_pow_right (by decide) (by omega)))] at hb
      exact absurd hb (by decide)
    have hp : 0 ≤ (p : Int) ∧ (p : Int) < dt g 0 0 := by omega
    have fcG := fcC_in (g := g) (G := G) (p := (p : Int)) m hg hw hp
    by_cases c : s - 2 ^ p = 0
    · rw [CT_one m hg hw h1 hs ha hb c, CT_one m hh hw h1 hs ha hb c, e3, e4]
      refine endV_mn hg.1 mn hp fcG.1 ?_
      unfold fcC
      rw [e0, e1, e3]
      omega
    · have dl := drop_lt hb
      have s256 : s < 256 := Nat.lt_of_lt_of_le hs (Nat.pow_le_pow_right (n := 2) (by decide) h8)
      have sa := sub_drop ha hb s256 hl
      have tok := fun i => CT_ok m hg (al := al) hw i
      rw [CT_more m hg mn hw h1 hs ha hb c, CT_more m hh (by rw [e3]; exact mn) hw h1 hs ha hb c, e3, e4]
      have ww : ∀ o : Nat, wyC (dt g) H w o p = wyC (dt g) G w o p := fun o => by unfold wyC; rw [e3]
      refine endV_mn hg.1 mn hp (mnB_lo (by decide) 8 (fun o ho hob => ?_)) ?_
      · have oP : o < (dt g 0 0).toNat := by
          apply Classical.byContradiction
          intro cc
          rw [Nat.testBit_lt_two_pow (Nat.lt_of_lt_of_le (show s - 2 ^ p < 2 ^ (dt g 0 0).toNat by omega) (Nat.pow_le_pow_right (by decide) (by omega)))] at hob
          exact absurd hob (by decide)
        have := wyC_in (g := g) (G := G) (w := w) (o := (o : Int)) (p := (p : Int)) m hg hw (by omega) hp
        have := cap_in (tok (8 * ((s - 2 ^ p : Nat) : Int) + o))
        omega
      · have key : ∀ n : Nat, mnB (fun o => cap (CT (dt g) G w al (8 * ((s - 2 ^ p : Nat) : Int) + o)) + wyC (dt g) G w o p) (s - 2 ^ p) 10000 n ≤ mnB (fun o => cap (CT (dt g) H w al (8 * ((s - 2 ^ p : Nat) : Int) + o)) + wyC (dt g) H w o p) (s - 2 ^ p) 10000 n := fun n => by
          refine mnB_lo ((mnB_hi n).1) n (fun o ho hob => ?_)
          have i1 := ih (s - 2 ^ p) (by omega) (Nat.pos_of_ne_zero c) (by omega) sa o hob
          have i2 := (mnB_hi (f := fun o => cap (CT (dt g) G w al (8 * ((s - 2 ^ p : Nat) : Int) + o)) + wyC (dt g) G w o p) (b := s - 2 ^ p) (i := 10000) n).2 o ho hob
          rw [ww o]
          show _ ≤ cap (CT (dt g) H w al (8 * ((s - 2 ^ p : Nat) : Int) + o)) + wyC (dt g) G w o p
          have i3 : mnB (fun o => cap (CT (dt g) G w al (8 * ((s - 2 ^ p : Nat) : Int) + o)) + wyC (dt g) G w o p) (s - 2 ^ p) 10000 n ≤ cap (CT (dt g) G w al (8 * ((s - 2 ^ p : Nat) : Int) + o)) + wyC (dt g) G w o p := i2
          omega
        exact key 8
theorem lr_late {g : Hp} (m : Mo g) {G H : Nat → Int} (hg : Gok (dt g) G) (hh : Gok (dt g) H) (mn : MnD (dt g) (G 3)) {w : Int} (hw : 0 ≤ w ∧ w < dt g 1 0) {al : Nat} (hl : al < 256) (e0 : H 0 = G 0) (e1 : H 1 = G 1) (e3 : H 3 = G 3) (e4 : H 4 = G 4) (le : G 2 ≤ H 2) {s : Nat} (h1 : 1 ≤ s) (hs : s < 2 ^ (dt g 0 0).toNat) (ha : s &&& al = s) (a a' : Int) {b : Int} (hb : b ≤ 600) (h : lrV (CT (dt g) H w al) a' s ≤ b) : lrV (CT (dt g) G w al) a s ≤ b := by
  have oG := lr_ok m hg (a := a) (al := al) hw (show s ≠ 0 by omega)
  have oH := lr_ok m hh (a := a') (al := al) hw (show s ≠ 0 by omega)
  have cG := lr_cap m hg (a := a) (al := al) hw (show s ≠ 0 by omega)
  have cH := lr_cap m hh (a := a') (al := al) hw (show s ≠ 0 by omega)
  have key : mnB (fun p => cap (CT (dt g) G w al (8 * (s : Int) + p))) s 10000 8 ≤ mnB (fun p => cap (CT (dt g) H w al (8 * (s : Int) + p))) s 10000 8 := by
    refine mnB_lo ((mnB_hi 8).1) 8 (fun o ho hob => ?_)
    have i1 := CT_late m hg hh mn hw hl e0 e1 e3 e4 le s s (by omega) h1 hs ha o hob
    have i2 := (mnB_hi (f := fun p => cap (CT (dt g) G w al (8 * (s : Int) + p))) (b := s) (i := 10000) 8).2 o ho hob
    exact Int.le_trans i2 i1
  rw [← cG, ← cH] at key
  unfold cap at key
  unfold Vok at oG oH
  split at key <;> split at key <;> omega
/-- the worth of a plan falls with the delay -/
theorem spW_mono {n w b d e : Int} {h : Hp} {Λ : Nat → Lw} (j : JJ n h Λ) (hw : 0 ≤ w ∧ w < dt h 1 0) (hb : 0 ≤ b ∧ b ≤ 600) (hd : 0 ≤ d) (hde : d ≤ e) (he : e ≤ 600) : spW h w b e ≤ spW h w b d := by
  have mo := jMo j
  have rn := jRw j
  have hg := G_pl mo rn.1.1 (w := w) (d := d) (e := 0) hw ⟨hd, by omega⟩
  have hh := G_pl mo rn.1.1 (w := w) (d := e) (e := 0) hw ⟨by omega, he⟩
  unfold spW
  have lt : plSet (dt h) (rd h 239) w e b < 2 ^ (dt h 0 0).toNat := plSet_lt
  have can : plSet (dt h) (rd h 239) w e b = 0 ∨ (plSet (dt h) (rd h 239) w e b &&& nevN (dt h) (rd h 239) = plSet (dt h) (rd h 239) w e b ∧ lrV (CT (dt h) (plG (rd h 239) w e 0) w (nevN (dt h) (rd h 239))) (rd h 239 (38 + w) + e) (plSet (dt h) (rd h 239) w e b) ≤ b) := bsR_can _
  have sub : plSet (dt h) (rd h 239) w e b &&& nevN (dt h) (rd h 239) = plSet (dt h) (rd h 239) w e b := plSet_sub
  have nn := wb_in mo (plSet_lt (D := dt h) (N := rd h 239) (w := w) (d := d) (b := b))
  by_cases c : plSet (dt h) (rd h 239) w e b = 0
  · rw [c, wbV_0]; exact nn.1
  · have c2 := (can.resolve_left c).2
    exact bsR_max sub (lr_late mo hg hh (mn_day j.1.2.2.1) hw (nev8 mo _) rfl rfl rfl rfl (show rd h 239 (38 + w) + d ≤ rd h 239 (38 + w) + e by omega) (Nat.pos_of_ne_zero c) lt sub _ _ hb.2 c2) (Nat.pos_of_ne_zero c) _ (by show plSet (dt h) (rd h 239) w e b ≤ 2 ^ (dt h 0 0).toNat - 1; omega)
/-- the last that is as good, counted or halved -/
theorem spL_in {f : Int → Int} {v : Int} : ∀ (k : Nat) (i : Int), i ≤ spL f v k i ∧ spL f v k i ≤ i + k ∧ (∀ x, i < x → x ≤ spL f v k i → f x = v) ∧ (spL f v k i < i + k → f (spL f v k i + 1) ≠ v) := by
  intro k
  induction k with
  | zero => intro i; exact ⟨Int.le_refl _, by show i ≤ i + ((0 : Nat) : Int); omega, fun x h1 h2 => absurd (show x ≤ i from h2) (by omega), fun z => absurd (show i < i + ((0 : Nat) : Int) from z) (by omega)⟩
  | succ k ih =>
    intro i
    unfold spL
    by_cases c : f (i + 1) = v
    · rw [if_pos c]
      obtain ⟨a1, a2, a3, a4⟩ := ih (i + 1)
      refine ⟨by omega, by omega, fun x h1 h2 => ?_, fun z => a4 (by omega)⟩
      by_cases e : x = i + 1
      · rw [e]; exact c
      · exact a3 x (by omega) h2
    · rw [if_neg c]
      exact ⟨Int.le_refl _, by omega, fun x h1 h2 => by omega, fun _ => c⟩
