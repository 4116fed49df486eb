/-! the class's rows: what they hold -/
def cap (v : Int) : Int := if v = 100000 then 10000 else v
def MnD (D : Nat → Int → Int) (L : Int) : Prop := ∀ p m n, 0 ≤ p → p < D 0 0 → 0 ≤ m → m ≤ n → n < 600 → 0 ≤ D 12 (601 * (L + p) + n) → 0 ≤ D 12 (601 * (L + p) + m) ∧ D 12 (601 * (L + p) + m) ≤ D 12 (601 * (L + p) + n)
theorem nxK_ge (f : Int → Int) (a b t : Int) : ∀ k : Nat, nxK f a b t k = -2 ∨ 599 - (k : Int) ≤ nxK f a b t k := by
  intro k
  induction k with
  | zero =>
    unfold nxK
    by_cases e : hoK f a b 0 < t
    · rw [if_pos e]; exact Or.inl rfl
    · rw [if_neg e]; exact Or.inr (by omega)
  | succ k ih =>
    unfold nxK
    by_cases e : hoK f a b (k + 1) < t
    · rw [if_pos e]
      rcases ih with e | e
      · exact Or.inl e
      · exact Or.inr (by omega)
    · rw [if_neg e]; exact Or.inr (by omega)
theorem nxK_mn (f : Int → Int) (a b t : Int) (j : Nat) : ∀ k : Nat, j ≤ k → k ≤ 599 → 0 ≤ nxK f a b t j → 0 ≤ nxK f a b t k ∧ nxK f a b t k ≤ nxK f a b t j := by
  intro k
  induction k with
  | zero =>
    intro h1 h2 h3
    obtain rfl : j = 0 := by omega
    exact ⟨h3, Int.le_refl _⟩
  | succ k ih =>
    intro h1 h2 h3
    by_cases e : j = k + 1
    · subst e; exact ⟨h3, Int.le_refl _⟩
    · have := ih (by omega) (by omega) h3
      have g := nxK_ge f a b t j
      have e2 : nxK f a b t (k + 1) = if hoK f a b (k + 1) < t then nxK f a b t k else 598 - (k : Int) := rfl
      rw [e2]
      by_cases c : hoK f a b (k + 1) < t
      · rw [if_pos c]; exact this
      · rw [if_neg c]; exact ⟨by omega, by omega⟩
theorem nxI_mn {f : Int → Int} {a b t m n : Int} (h0 : 0 ≤ m) (h1 : m ≤ n) (h2 : n < 600) (h3 : 0 ≤ nxI f a b t n) : 0 ≤ nxI f a b t m ∧ nxI f a b t m ≤ nxI f a b t n := by
  unfold nxI at h3 ⊢
  rw [if_neg (by omega)] at h3 ⊢
  rw [if_neg (by omega)]
  exact nxK_mn f a b t _ _ (by omega) (by omega) h3
/-- from coming to being through -/
def endV (D : Nat → Int → Int) (M q c : Int) : Int := if M = 0 then (if nxD D q c < 0 then 10000 else nxD D q c + D 8 q) else (if 600 < c + (D 8 q + 2) / 3 then 10000 else c + (D 8 q + 2) / 3)
theorem nxD_ok {D : Nat → Int → Int} {L p c : Int} (hq : Qok D L) (hp : 0 ≤ p ∧ p < D 0 0) (hc : 0 ≤ c) : nxD D (L + p) c = -2 ∨ (0 ≤ nxD D (L + p) c ∧ nxD D (L + p) c + D 8 (L + p) ≤ 600) := by
  obtain ⟨-, -, -, q12⟩ := hq.2 p hp.1 hp.2
  unfold nxD
  by_cases e : 599 < c
  · rw [if_pos e]; exact Or.inl rfl
  · rw [if_neg e]; exact q12 c hc (by omega)
theorem endV_in {D : Nat → Int → Int} {L M p c : Int} (hq : Qok D L) (hp : 0 ≤ p ∧ p < D 0 0) (hc : 0 ≤ c) : endV D M (L + p) c = 10000 ∨ (0 ≤ endV D M (L + p) c ∧ endV D M (L + p) c ≤ 600) := by
  have hx := nxD_ok hq hp hc
  obtain ⟨-, -, q8, -⟩ := hq.2 p hp.1 hp.2
  unfold endV
  by_cases hM : M = 0
  · rw [if_pos hM]
    by_cases c1 : nxD D (L + p) c < 0
    · rw [if_pos c1]; exact Or.inl rfl
    · rw [if_neg c1]; exact Or.inr (by omega)
  · rw [if_neg hM]
    by_cases c1 : 600 < c + (D 8 (L + p) + 2) / 3
    · rw [if_pos c1]; exact Or.inl rfl
    · rw [if_neg c1]; exact Or.inr (by omega)
theorem endV_mn {D : Nat → Int → Int} {L M p c d : Int} (hq : Qok D L) (mn : MnD D L) (hp : 0 ≤ p ∧ p < D 0 0) (hc : 0 ≤ c) (hd : c ≤ d) : endV D M (L + p) c ≤ endV D M (L + p) d := by
  have hx := nxD_ok hq hp hc
  have hy := nxD_ok hq hp (show 0 ≤ d by omega)
  have hyx : 0 ≤ nxD D (L + p) d → 0 ≤ nxD D (L + p) c ∧ nxD D (L + p) c ≤ nxD D (L + p) d := by
    intro h
    unfold nxD at h ⊢
    by_cases e : 599 < d
    · rw [if_pos e] at h; omega
    · rw [if_neg e] at h ⊢
      rw [if_neg (by omega)]
      exact mn p c d hp.1 hp.2 hc hd (by omega) h
  unfold endV
  by_cases hM : M = 0
  · rw [if_pos hM, if_pos hM]
    split <;> split <;> omega
  · rw [if_neg hM, if_neg hM]
    split <;> split <;> omega
theorem endV_far {D : Nat → Int → Int} {L M p c : Int} (hq : Qok D L) (hp : 0 ≤ p ∧ p < D 0 0) (hc : 10000 ≤ c) : endV D M (L + p) c = 10000 := by
  obtain ⟨-, -, q8, -⟩ := hq.2 p hp.1 hp.2
  unfold endV nxD
  by_cases hM : M = 0
  · rw [if_pos hM, if_pos (by omega : 599 < c)]; rfl
  · rw [if_neg hM, if_pos (by omega)]
theorem cap_step {D : Nat → Int → Int} {L M w x y r p : Int} (hq : Qok D L) (hp : 0 ≤ p ∧ p < D 0 0) (hc : 0 ≤ r + wayI (D 3 w) x y (D 6 (L + p)) (D 7 (L + p))) : cap (stepV D M w x y r (L + p)) = endV D M (L + p) (r + wayI (D 3 w) x y (D 6 (L + p)) (D 7 (L + p))) := by
  have hx := nxD_ok hq hp hc
  obtain ⟨-, -, q8, -⟩ := hq.2 p hp.1 hp.2
  unfold stepV endV cap
  generalize nxD D (L + p) (r + wayI (D 3 w) x y (D 6 (L + p)) (D 7 (L + p))) = X at *
  generalize r + wayI (D 3 w) x y (D 6 (L + p)) (D 7 (L + p)) = Y at *
  by_cases hM : M = 0
  · rw [if_pos hM, if_pos hM]
    by_cases c1 : X < 0
    · rw [if_pos c1, if_pos rfl, if_pos c1]
    · rw [if_neg c1, if_neg (by omega), if_neg c1]
  · rw [if_neg hM, if_neg hM]
    by_cases c1 : 600 < Y + (D 8 (L + p) + 2) / 3
    · rw [if_pos c1, if_pos rfl, if_pos c1]
    · rw [if_neg c1, if_neg (by omega), if_neg c1]
/-- the least of what grows with the rest is what the least grows to -/
theorem mnB_g {g : Int → Int} {P : Int → Prop} (hg : ∀ x y, P x → P y → x ≤ y → g x ≤ g y) {c : Int → Int} {b : Nat} {i : Int} (hi : P i) : ∀ n : Nat, (∀ o : Nat, o < n → b.testBit o = true → P (c o)) → P (mnB c b i n) ∧ mnB (fun o => g (c o)) b (g i) n = g (mnB c b i n) := by
  intro n
  induction n with
  | zero => intro _; exact ⟨hi, rfl⟩
  | succ n ih =>
    intro hc
    obtain ⟨p1, e1⟩ := ih (fun o ho => hc o (by omega))
    show P (if b.testBit n = true ∧ c n < mnB c b i n then c n else mnB c b i n) ∧ (if b.testBit n = true ∧ g (c n) < mnB (fun o => g (c o)) b (g i) n then g (c n) else mnB (fun o => g (c o)) b (g i) n) = g (if b.testBit n = true ∧ c n < mnB c b i n then c n else mnB c b i n)
    rw [e1]
    by_cases hb : b.testBit n = true
    · have pn := hc n (by omega) hb
      by_cases hl : c n < mnB c b i n
      · rw [if_pos ⟨hb, hl⟩]
        refine ⟨pn, ?_⟩
        have := hg _ _ pn p1 (Int.le_of_lt hl)
        by_cases e : g (c n) < g (mnB c b i n)
        · rw [if_pos ⟨hb, e⟩]
        · rw [if_neg (fun q => e q.2)]; omega
      · rw [if_neg (fun q => hl q.2)]
        have := hg _ _ p1 pn (by omega)
        exact ⟨p1, if_neg (fun q => by have := q.2; omega)⟩
    · rw [if_neg (fun q => hb q.1), if_neg (fun q => hb q.1)]
      exact ⟨p1, rfl⟩
theorem mnB_st {f : Int → Int} {b : Nat} {i : Int} {k : Nat} (hb : b < 2 ^ k) : ∀ n, k ≤ n → mnB f b i n = mnB f b i k := by
  intro n
  induction n with
  | zero =>
    intro h
    obtain rfl : k = 0 := by omega
    rfl
  | succ n ih =>
    intro h
    by_cases e : k = n + 1
    · subst e; rfl
    · rw [← ih (by omega)]
      have ht : b.testBit n = false := Nat.testBit_lt_two_pow (Nat.lt_of_lt_of_le hb (Nat.pow_le_pow_right (by decide) (by omega)))
      show (if b.testBit n = true ∧ f n < mnB f b i n then f n else mnB f b i n) = _
      rw [if_neg (fun q => by rw [ht] at q; exact absurd q.1 (by decide))]
theorem mnB_lo {f : Int → Int} {b : Nat} {i v : Int} (hi : v ≤ i) : ∀ n : Nat, (∀ o : Nat, o < n → b.testBit o = true → v ≤ f o) → v ≤ mnB f b i n := by
  intro n
  induction n with
  | zero => intro _; exact hi
  | succ n ih =>
    intro hf
    have h1 := ih (fun o ho => hf o (by omega))
    show v ≤ (if b.testBit n = true ∧ f n < mnB f b i n then f n else mnB f b i n)
    by_cases e : b.testBit n = true ∧ f n < mnB f b i n
    · rw [if_pos e]; exact hf n (by omega) e.1
    · rw [if_neg e]; exact h1
theorem mnB_hi {f : Int → Int} {b : Nat} {i : Int} : ∀ n : Nat, mnB f b i n ≤ i ∧ ∀ o : Nat, o < n → b.testBit o = true → mnB f b i n ≤ f o := by
  intro n
  induction n with
  | zero => exact ⟨Int.le_refl _, fun o ho => absurd ho (by omega)⟩
  | succ n ih =>
    show (if b.testBit n = true ∧ f n < mnB f b i n then f n else mnB f b i n) ≤ i ∧ ∀ o : Nat, o < n + 1 → b.testBit o = true → (if b.testBit n = true ∧ f n < mnB f b i n then f n else mnB f b i n) ≤ f o
    by_cases e : b.testBit n = true ∧ f n < mnB f b i n
    · rw [if_pos e]
      refine ⟨by have := ih.1; have := e.2; omega, fun o ho hb => ?_⟩
      by_cases c : o = n
      · subst c; exact Int.le_refl _
      · have := ih.2 o (by omega) hb; have := e.2; omega
    · rw [if_neg e]
      refine ⟨ih.1, fun o ho hb => ?_⟩
      by_cases c : o = n
      · subst c
        have : ¬ f o < mnB f b i o := fun q => e ⟨hb, q⟩
        omega
      · exact ih.2 o (by omega) hb
theorem cap_mn {x y : Int} (hx : Vok x) (hy : Vok y) (h : x ≤ y) : cap x ≤ cap y := by
  unfold cap
  unfold Vok at hx hy
  split <;> split <;> omega
theorem cap_in {x : Int} (hx : Vok x) : cap x = 10000 ∨ (0 ≤ cap x ∧ cap x ≤ 600) := by
  unfold cap
  unfold Vok at hx
  split <;> omega
theorem CT_ok {g : Hp} (m : Mo g) {G : Nat → Int} (hg : Gok (dt g) G) {w : Int} {al : Nat} (hw : 0 ≤ w ∧ w < dt g 1 0) (i : Int) : Vok (CT (dt g) G w al i) := tabF_ok m hg (fun _ => Or.inr (by decide)) hw i
theorem CT_fix {D : Nat → Int → Int} {G : Nat → Int} {w : Int} {al s p : Nat} (hs1 : 1 ≤ s) (hs : s < 2 ^ (D 0 0).toNat) (ha : s &&& al = s) (hp : p < 8) (hb : s.testBit p = true) : CT D G w al (8 * s + p) = bst D G w (CT D G w al) s p := tabS_fix hs1 (by omega) ha hp hb
def wyC (D : Nat → Int → Int) (G : Nat → Int) (w o p : Int) : Int := wayI (D 3 w) (D 6 (G 3 + o)) (D 7 (G 3 + o)) (D 6 (G 3 + p)) (D 7 (G 3 + p))
def fcC (D : Nat → Int → Int) (G : Nat → Int) (w p : Int) : Int := G 2 + wayI (D 3 w) (G 0) (G 1) (D 6 (G 3 + p)) (D 7 (G 3 + p))
theorem wyC_in {g : Hp} (m : Mo g) {G : Nat → Int} (hg : Gok (dt g) G) {w o p : Int} (hw : 0 ≤ w ∧ w < dt g 1 0) (ho : 0 ≤ o ∧ o < dt g 0 0) (hp : 0 ≤ p ∧ p < dt g 0 0) : 0 ≤ wyC (dt g) G w o p ∧ wyC (dt g) G w o p ≤ 4020 := by
  obtain ⟨o6, o7, -, -⟩ := hg.1.2 o ho.1 ho.2
  obtain ⟨p6, p7, -, -⟩ := hg.1.2 p hp.1 hp.2
  have h3 := m.2.2.2.2.2.1 w hw.1 hw.2
  exact wayI_in h3.1 h3.2 o6 o7 p6 p7
theorem fcC_in {g : Hp} (m : Mo g) {G : Nat → Int} (hg : Gok (dt g) G) {w p : Int} (hw : 0 ≤ w ∧ w < dt g 1 0) (hp : 0 ≤ p ∧ p < dt g 0 0) : 0 ≤ fcC (dt g) G w p ∧ fcC (dt g) G w p ≤ 7020 := by
  obtain ⟨p6, p7, -, -⟩ := hg.1.2 p hp.1 hp.2
  have h3 := m.2.2.2.2.2.1 w hw.1 hw.2
  have := wayI_in h3.1 h3.2 hg.2.1 hg.2.2.1 p6 p7
  have := hg.2.2.2
  unfold fcC
  omega
/-- the first part of a row -/
theorem CT_one {g : Hp} (m : Mo g) {G : Nat → Int} (hg : Gok (dt g) G) {w : Int} (hw : 0 ≤ w ∧ w < dt g 1 0) {al s p : Nat} (hs1 : 1 ≤ s) (hs : s < 2 ^ (dt g 0 0).toNat) (ha : s &&& al = s) (hb : s.testBit p = true) (h0 : s - 2 ^ p = 0) : cap (CT (dt g) G w al (8 * s + p)) = endV (dt g) (G 4) (G 3 + p) (fcC (dt g) G w p) := by
  have hp : p < (dt g 0 0).toNat := bit_lt hs hb
  have h8 := D8 m
  rw [CT_fix hs1 hs ha (by omega) hb]
  unfold bst
  rw [h0, if_pos rfl]
  have hz : mnB (fun o => rb1 (dt g) G w (CT (dt g) G w al) ((0 : Nat) : Int) o p) 0 (rb0 (dt g) G w p) 8 = rb0 (dt g) G w p := mnB_st (k := 0) (by decide) 8 (by decide)
  rw [hz]
  have := fcC_in m hg hw (p := p) ⟨by omega, by omega⟩
  exact cap_step hg.1 ⟨by omega, by omega⟩ this.1
/-- a part behind others -/
theorem CT_more {g : Hp} (m : Mo g) {G : Nat → Int} (hg : Gok (dt g) G) (mn : MnD (dt g) (G 3)) {w : Int} (hw : 0 ≤ w ∧ w < dt g 1 0) {al s p : Nat} (hs1 : 1 ≤ s) (hs : s < 2 ^ (dt g 0 0).toNat) (ha : s &&& al = s) (hb : s.testBit p = true) (h0 : s - 2 ^ p ≠ 0) : cap (CT (dt g) G w al (8 * s + p)) = endV (dt g) (G 4) (G 3 + p) (mnB (fun o => cap (CT (dt g) G w al (8 * ((s - 2 ^ p : Nat) : Int) + o)) + wyC (dt g) G w o p) (s - 2 ^ p) 10000 8) := by
  have hp : p < (dt g 0 0).toNat := bit_lt hs hb
  have h8 := D8 m
  have hpp : 0 ≤ (p : Int) ∧ (p : Int) < dt g 0 0 := ⟨by omega, by omega⟩
  rw [CT_fix hs1 hs ha (by omega) hb]
  unfold bst
  rw [if_neg h0]
  have hT := CT_ok m hg (al := al) hw
  have hob : ∀ o : Nat, (s - 2 ^ p).testBit o = true → 0 ≤ (o : Int) ∧ (o : Int) < dt g 0 0 := fun o ho => by
    have := drp_bit hs ho
    exact ⟨by omega, by omega⟩
  have k1 := (mnB_g (g := cap) (P := Vok) (fun x y hx hy h => cap_mn hx hy h) (c := fun o => rb1 (dt g) G w (CT (dt g) G w al) ((s - 2 ^ p : Nat) : Int) o p) (b := s - 2 ^ p) (i := 100000) (Or.inl rfl) 8 (fun o ho hb => rb1_ok m hg hT hw (hob o hb) hpp)).2
  rw [← k1]
  have k2 := (mnB_g (g := fun c => endV (dt g) (G 4) (G 3 + p) c) (P := fun c => 0 ≤ c) (fun x y hx hy h => endV_mn hg.1 mn hpp hx h) (c := fun o => cap (CT (dt g) G w al (8 * ((s - 2 ^ p : Nat) : Int) + o)) + wyC (dt g) G w o p) (b := s - 2 ^ p) (i := 10000) (by decide) 8 (fun o ho hb => by
    have := wyC_in m hg hw (hob o hb) hpp
    have := cap_in (hT (8 * ((s - 2 ^ p : Nat) : Int) + o))
    show 0 ≤ cap _ + wyC (dt g) G w o p
    omega)).2
  rw [← k2]
  show mnB _ _ (cap 100000) 8 = mnB _ _ (endV (dt g) (G 4) (G 3 + p) 10000) 8
  rw [endV_far hg.1 hpp (by decide), show cap 100000 = 10000 by rfl]
  refine mnB_congr 8 (fun o ho hb => ?_)
  have hw' := wyC_in m hg hw (hob o hb) hpp
  have hv := hT (8 * ((s - 2 ^ p : Nat) : Int) + o)
  show cap (rb1 (dt g) G w (CT (dt g) G w al) ((s - 2 ^ p : Nat) : Int) o p) = endV (dt g) (G 4) (G 3 + p) (cap (CT (dt g) G w al (8 * ((s - 2 ^ p : Nat) : Int) + o)) + wyC (dt g) G w o p)
  unfold rb1
  by_cases e : CT (dt g) G w al (8 * ((s - 2 ^ p : Nat) : Int) + o) = 100000
  · rw [if_pos e, e, show cap 100000 = 10000 by rfl, endV_far hg.1 hpp (by omega)]
  · rw [if_neg e, show cap (CT (dt g) G w al (8 * ((s - 2 ^ p : Nat) : Int) + o)) = CT (dt g) G w al (8 * ((s - 2 ^ p : Nat) : Int) + o) from if_neg e]
    have hn : 0 ≤ CT (dt g) G w al (8 * ((s - 2 ^ p : Nat) : Int) + o) := by unfold Vok at hv; omega
    exact cap_step hg.1 hpp (by show 0 ≤ _ + wyC (dt g) G w o p; omega)
/-- the soonest of a set -/
def snC (D : Nat → Int → Int) (G : Nat → Int) (w a : Int) (al s : Nat) : Int := if s = 0 then a else if s &&& al = s then cap (lrV (CT D G w al) a s) else 10000
theorem lr_ok {g : Hp} (m : Mo g) {G : Nat → Int} (hg : Gok (dt g) G) {w a : Int} (hw : 0 ≤ w ∧ w < dt g 1 0) {al s : Nat} (hs : s ≠ 0) : Vok (lrV (CT (dt g) G w al) a s) := by
  unfold lrV
  rw [if_neg hs]
  exact mnB_ok (f := fun p => CT (dt g) G w al (8 * (s : Int) + p)) (b := s) (i := 100000) (Or.inl rfl) (fun n _ => CT_ok m hg hw (8 * (s : Int) + (n : Int))) 8
theorem lr_cap {g : Hp} (m : Mo g) {G : Nat → Int} (hg : Gok (dt g) G) {w a : Int} (hw : 0 ≤ w ∧ w < dt g 1 0) {al s : Nat} (hs : s ≠ 0) : cap (lrV (CT (dt g) G w al) a s) = mnB (fun p => cap (CT (dt g) G w al (8 * (s : Int) + p))) s 10000 8 := by
  unfold lrV
  rw [if_neg hs]
  exact ((mnB_g (g := cap) (P := Vok) (fun x y hx hy h => cap_mn hx hy h) (c := fun p => CT (dt g) G w al (8 * (s : Int) + p)) (b := s) (i := 100000) (Or.inl rfl) 8 (fun o ho hb => CT_ok m hg hw _)).2).symm
/-- a set that cannot be done: nothing comes behind it -/
theorem CT_none {g : Hp} (m : Mo g) {G : Nat → Int} (hg : Gok (dt g) G) {w a : Int} (hw : 0 ≤ w ∧ w < dt g 1 0) {al : Nat} {r p : Nat} (hr : r ≠ 0) (hr2 : r < 2 ^ (dt g 0 0).toNat) (hp : (p : Int) < dt g 0 0) (hx : 10000 ≤ cap (lrV (CT (dt g) G w al) a r)) : endV (dt g) (G 4) (G 3 + p) (mnB (fun o => cap (CT (dt g) G w al (8 * (r : Int) + o)) + wyC (dt g) G w o p) r 10000 8) = 10000 := by
  refine endV_far hg.1 ⟨by omega, hp⟩ (mnB_lo (Int.le_refl _) 8 (fun o ho hb => ?_))
  rw [lr_cap m hg hw hr] at hx
  have h1 := (mnB_hi (f := fun p => cap (CT (dt g) G w al (8 * (r : Int) + p))) (b := r) (i := 10000) 8).2 o ho hb
  have ho2 := bit_lt hr2 hb
  have h8 := D8 m
  have := wyC_in m hg hw (o := o) (p := p) ⟨by omega, by omega⟩ ⟨by omega, hp⟩
  omega
