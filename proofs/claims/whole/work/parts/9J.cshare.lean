/-! the class: workers that share a set -/
theorem sbm : ∀ (k S M m : Nat), S < 2 ^ k → M &&& S = M → m &&& S = m → m < M → m ≤ (M - 1) &&& S := by
  intro k
  induction k with
  | zero =>
    intro S M m h1 h2 h3 h4
    obtain rfl : S = 0 := by omega
    rw [Nat.and_zero] at h2 h3
    omega
  | succ k ih =>
    intro S M m h1 h2 h3 h4
    have d2 : (M / 2) &&& (S / 2) = M / 2 := by rw [← Nat.and_div_two, h2]
    have d3 : (m / 2) &&& (S / 2) = m / 2 := by rw [← Nat.and_div_two, h3]
    have b2 : M % 2 = 1 → S % 2 = 1 := fun q => (Nat.and_mod_two_eq_one.1 (by rw [h2]; exact q)).2
    have b3 : m % 2 = 1 → S % 2 = 1 := fun q => (Nat.and_mod_two_eq_one.1 (by rw [h3]; exact q)).2
    have e1 : ((M - 1) &&& S) / 2 = (M - 1) / 2 &&& S / 2 := Nat.and_div_two
    have e2 : ((M - 1) &&& S) % 2 = 1 ↔ (M - 1) % 2 = 1 ∧ S % 2 = 1 := Nat.and_mod_two_eq_one
    have hS : S / 2 < 2 ^ k := by rw [Nat.pow_succ] at h1; omega
    by_cases c : M % 2 = 1
    · rw [show (M - 1) / 2 = M / 2 by omega, d2] at e1
      have : m % 2 < 2 := Nat.mod_lt _ (by decide)
      omega
    · have hlt : m / 2 < M / 2 := by omega
      have i1 := ih (S / 2) (M / 2) (m / 2) hS d2 d3 hlt
      rw [show (M - 1) / 2 = M / 2 - 1 by omega] at e1
      have : m % 2 < 2 := Nat.mod_lt _ (by decide)
      have e3 : (M - 1) % 2 = 1 := by omega
      by_cases q : m % 2 = 1
      · have := e2.2 ⟨e3, b3 q⟩
        omega
      · omega
theorem sbm2 {S M : Nat} (hM : M ≠ 0) : (M - 1) &&& S < M := by
  have := @Nat.and_le_left (M - 1) S
  omega
theorem xr_sub {S M : Nat} (h : M &&& S = M) : (S ^^^ M) &&& S = S ^^^ M ∧ (S ^^^ M) &&& M = 0 ∧ (S ^^^ M) ||| M = S := by
  have hb : ∀ i, M.testBit i = true → S.testBit i = true := fun i q => by
    rw [← h, Nat.testBit_and] at q
    revert q; cases S.testBit i <;> simp
  refine ⟨Nat.eq_of_testBit_eq fun i => ?_, Nat.eq_of_testBit_eq fun i => ?_, Nat.eq_of_testBit_eq fun i => ?_⟩
  · rw [Nat.testBit_and, Nat.testBit_xor]
    have := hb i
    revert this; cases M.testBit i <;> cases S.testBit i <;> simp
  · rw [Nat.testBit_and, Nat.testBit_xor, Nat.zero_testBit]
    have := hb i
    revert this; cases M.testBit i <;> cases S.testBit i <;> simp
  · rw [Nat.testBit_or, Nat.testBit_xor]
    have := hb i
    revert this; cases M.testBit i <;> cases S.testBit i <;> simp
theorem dj_xr {s n : Nat} (h : s &&& n = 0) : (s ||| n) ^^^ n = s ∧ n &&& (s ||| n) = n := by
  have hb : ∀ i, s.testBit i = true → n.testBit i = false := fun i q => by
    have : (s &&& n).testBit i = false := by rw [h, Nat.zero_testBit]
    rw [Nat.testBit_and, q] at this
    simpa using this
  refine ⟨Nat.eq_of_testBit_eq fun i => ?_, Nat.eq_of_testBit_eq fun i => ?_⟩
  · rw [Nat.testBit_xor, Nat.testBit_or]
    have := hb i
    revert this; cases s.testBit i <;> cases n.testBit i <;> simp
  · rw [Nat.testBit_and, Nat.testBit_or]
    have := hb i
    revert this; cases s.testBit i <;> cases n.testBit i <;> simp
theorem shI_iff {A c B : Nat → Bool} {s v : Nat} : ∀ n, shI A c s B n v = true ↔ (B v = true ∨ ∃ m, m < n ∧ s &&& m = 0 ∧ A s = true ∧ c m = true ∧ v = s ||| m) := by
  intro n
  induction n with
  | zero => exact ⟨Or.inl, fun q => by
    rcases q with q | ⟨m, q, -⟩
    · exact q
    · exact absurd q (by omega)⟩
  | succ n ih =>
    unfold shI
    by_cases e : s &&& n = 0 ∧ A s = true ∧ c n = true
    · rw [if_pos e]
      show (v == (s ||| n) || shI A c s B n v) = true ↔ _
      rw [Bool.or_eq_true, beq_iff_eq, ih]
      constructor
      · intro q
        rcases q with q | q | ⟨m, q1, q2⟩
        · exact Or.inr ⟨n, by omega, e.1, e.2.1, e.2.2, q⟩
        · exact Or.inl q
        · exact Or.inr ⟨m, by omega, q2⟩
      · intro q
        rcases q with q | ⟨m, q1, q2⟩
        · exact Or.inr (Or.inl q)
        · by_cases c2 : m = n
          · subst c2; exact Or.inl q2.2.2.2
          · exact Or.inr (Or.inr ⟨m, by omega, q2⟩)
    · rw [if_neg e, ih]
      constructor
      · intro q
        rcases q with q | ⟨m, q1, q2⟩
        · exact Or.inl q
        · exact Or.inr ⟨m, by omega, q2⟩
      · intro q
        rcases q with q | ⟨m, q1, q2⟩
        · exact Or.inl q
        · by_cases c2 : m = n
          · subst c2; exact absurd ⟨q2.1, q2.2.1, q2.2.2.1⟩ e
          · exact Or.inr ⟨m, by omega, q2⟩
theorem shO_iff {A c B : Nat → Bool} {v : Nat} : ∀ n, shO A c B n v = true ↔ (B v = true ∨ ∃ s m, s < n ∧ m < 256 ∧ s &&& m = 0 ∧ A s = true ∧ c m = true ∧ v = s ||| m) := by
  intro n
  induction n with
  | zero => exact ⟨Or.inl, fun q => by
    rcases q with q | ⟨s, m, q, -⟩
    · exact q
    · exact absurd q (by omega)⟩
  | succ n ih =>
    unfold shO
    rw [shI_iff, ih]
    constructor
    · intro q
      rcases q with (q | ⟨s, m, q1, q2⟩) | ⟨m, q1, q2⟩
      · exact Or.inl q
      · exact Or.inr ⟨s, m, by omega, q2⟩
      · exact Or.inr ⟨n, m, by omega, q1, q2⟩
    · intro q
      rcases q with q | ⟨s, m, q1, q2, q3⟩
      · exact Or.inl (Or.inl q)
      · by_cases c2 : s = n
        · subst c2; exact Or.inr ⟨m, q2, q3⟩
        · exact Or.inl (Or.inr ⟨s, m, by omega, q2, q3⟩)
/-- what all reach with one more -/
theorem shW_step {C : Nat → Nat → Bool} {w k v : Nat} (hk : k ≤ 8) (h0 : C w 0 = true) (hC : ∀ w v, C w v = true → v < 2 ^ k) : shW C (w + 1) v = true ↔ (shW C w v = true ∨ ∃ m, m ≠ 0 ∧ m &&& v = m ∧ C w m = true ∧ shW C w (v ^^^ m) = true) := by
  have t8 := two8 hk
  have hl := shW_lt hC
  have e : shW C (w + 1) = shO (shW C w) (C w) (fun _ => false) 256 := rfl
  rw [e, shO_iff]
  constructor
  · intro q
    rcases q with q | ⟨s, m, q1, q2, q3, q4, q5, q6⟩
    · exact absurd q (by decide)
    · by_cases c : m = 0
      · subst c
        rw [Nat.or_zero] at q6
        subst q6
        exact Or.inl q4
      · obtain ⟨d1, d2⟩ := dj_xr q3
        refine Or.inr ⟨m, c, ?_, q5, ?_⟩
        · rw [q6]; exact d2
        · rw [q6, d1]; exact q4
  · intro q
    rcases q with q | ⟨m, q1, q2, q3, q4⟩
    · have := hl w v q
      exact Or.inr ⟨v, 0, by omega, by decide, Nat.and_zero _, q, h0, (Nat.or_zero _).symm⟩
    · obtain ⟨d1, d2, d3⟩ := xr_sub q2
      have := hl w _ q4
      have := hC w m q3
      exact Or.inr ⟨v ^^^ m, m, by omega, by omega, d2, q4, q3, d3.symm⟩
theorem sn_pos {g : Hp} (m : Mo g) {G : Nat → Int} (hg : Gok (dt g) G) {w a : Int} (hw : 0 ≤ w ∧ w < dt g 1 0) {al s : Nat} (hs : s ≠ 0) : 0 ≤ snC (dt g) G w a al s := by
  have hv := cap_in (lr_ok (a := a) m hg hw (al := al) hs)
  unfold snC
  rw [if_neg hs]
  by_cases c : s &&& al = s
  · rw [if_pos c]; omega
  · rw [if_neg c]; decide
theorem c_share1 {F : Nat} {h g : Hp} {r w a x : Int} {G : Nat → Int} {al S : Nat} (m : Mo g) (hg : Gok (dt g) G) (hw : 0 ≤ w ∧ w < dt g 1 0) (sh : Sh h) (re : RwE h r (dt g) G w a al) (vx : vo h x 0 ∧ hln h x = 256) (sp : ∀ v : Nat, v < 2 ^ (dt g 0 0).toNat → 0 ≤ rd h x v) (hS : S < 2 ^ (dt g 0 0).toNat) (R9 : Int → Int → Int → Hp → Option (Int × Hp)) (hR : 1 ≤ S) : ∀ (k M N : Nat) (l : Int), M ≤ k → M < N → M &&& S = M → 0 ≤ l → ∃ l', Rows_shareIn_L20 F R9 N r x S l M h = R9 r x ((S - 1 : Nat) : Int) (wr h x S l') ∧ 0 ≤ l' ∧ ∀ b, 0 ≤ b → b ≤ 600 → (l' ≤ b ↔ (l ≤ b ∨ ∃ q : Nat, q ≠ 0 ∧ q &&& S = q ∧ q ≤ M ∧ snC (dt g) G w a al q ≤ b ∧ rd h x ((S ^^^ q : Nat) : Int) ≤ b)) := by
  obtain ⟨rc, ⟨ve, vs⟩, -, rb⟩ := re
  have ir := rc.1
  have h8 := D8 m
  have t8 := two8 h8
  intro k
  induction k with
  | zero =>
    intro M N l hM hN hs hl
    obtain ⟨n, rfl⟩ : ∃ n, N = n + 1 := ⟨N - 1, by omega⟩
    obtain rfl : M = 0 := by omega
    refine ⟨l, ?_, hl, fun b b0 b1 => ⟨Or.inl, fun q => ?_⟩⟩
    · show Rows_shareIn_L20s F R9 (Rows_shareIn_L20 F R9 n) r x S l ((0 : Nat) : Int) h = _
      unfold Rows_shareIn_L20s
      rw [if_neg (by decide), as_ok vx.1 vx.2 (by omega) (by omega), show w32 ((S : Int) + -1) = ((S - 1 : Nat) : Int) by rw [w32_id (by omega) (by omega)]; omega]
    · rcases q with q | ⟨z, q1, q2, q3, -⟩
      · exact q
      · omega
  | succ k ih =>
    intro M N l hM hN hs hl
    obtain ⟨n, rfl⟩ : ∃ n, N = n + 1 := ⟨N - 1, by omega⟩
    by_cases c0 : M = 0
    · subst c0
      exact ih 0 (n + 1) l (by omega) hN hs hl
    · have hMS : M ≤ S := by rw [← hs]; exact Nat.and_le_right
      have x1 := sbm2 (S := S) c0
      have x2 : ((M - 1) &&& S) &&& S = (M - 1) &&& S := by rw [Nat.and_assoc, Nat.and_self]
      obtain ⟨d1, d2, d3⟩ := xr_sub hs
      have hxl : S ^^^ M ≤ S := by rw [← d1]; exact Nat.and_le_right
      have hsp := sp (S ^^^ M) (by omega)
      have hsn := sn_pos (a := a) m hg hw (al := al) c0
      have e1 : iand (w32 ((M : Int) - 1)) (S : Int) = (((M - 1) &&& S : Nat) : Int) := by
        rw [w32_id (by omega) (by omega), show (M : Int) - 1 = ((M - 1 : Nat) : Int) by omega, iand_nat (by omega) (by omega)]
      have com : ∀ l2, 0 ≤ l2 → (∀ b, 0 ≤ b → b ≤ 600 → (l2 ≤ b ↔ (l ≤ b ∨ (snC (dt g) G w a al M ≤ b ∧ rd h x ((S ^^^ M : Nat) : Int) ≤ b)))) → ∃ l', Rows_shareIn_L20 F R9 n r x S l2 (((M - 1) &&& S : Nat) : Int) h = R9 r x ((S - 1 : Nat) : Int) (wr h x S l') ∧ 0 ≤ l' ∧ ∀ b, 0 ≤ b → b ≤ 600 → (l' ≤ b ↔ (l ≤ b ∨ ∃ q : Nat, q ≠ 0 ∧ q &&& S = q ∧ q ≤ M ∧ snC (dt g) G w a al q ≤ b ∧ rd h x ((S ^^^ q : Nat) : Int) ≤ b)) := by
        intro l2 hl2 hb2
        obtain ⟨l', y1, y2, y3⟩ := ih ((M - 1) &&& S) n l2 (by omega) (by omega) x2 hl2
        refine ⟨l', y1, y2, fun b b0 b1 => ?_⟩
        rw [y3 b b0 b1, hb2 b b0 b1]
        constructor
        · intro q
          rcases q with (q | q) | ⟨z, z1, z2, z3, z4⟩
          · exact Or.inl q
          · exact Or.inr ⟨M, c0, hs, Nat.le_refl _, q⟩
          · exact Or.inr ⟨z, z1, z2, by omega, z4⟩
        · intro q
          rcases q with q | ⟨z, z1, z2, z3, z4⟩
          · exact Or.inl (Or.inl q)
          · by_cases c1 : z = M
            · subst c1; exact Or.inl (Or.inr z4)
            · exact Or.inr ⟨z, z1, z2, sbm (dt g 0 0).toNat S M z hS hs z2 (by omega), z4⟩
      show ∃ l', Rows_shareIn_L20s F R9 (Rows_shareIn_L20 F R9 n) r x S l (M : Int) h = _ ∧ _
      unfold Rows_shareIn_L20s
      rw [if_pos (by omega), gQ6 sh ir, al_ok vs.1.2 vs.2 (by omega) (by omega), (rb M (by omega)).1, e1]
      by_cases c1 : snC (dt g) G w a al M < l
      · rw [if_pos c1, gQ6 sh ir, al_ok vs.1.2 vs.2 (by omega) (by omega), (rb M (by omega)).1, ixor_nat (by omega) (by omega), al_ok vx.1 vx.2 (by omega) (by omega), lt_eq, lt_eq, lt_eq]
        refine com _ ?_ (fun b b0 b1 => ?_)
        · unfold imin imax; (repeat' split) <;> omega
        · unfold imin imax; (repeat' split) <;> omega
      · rw [if_neg c1, lt_eq]
        exact com l hl (fun b b0 b1 => ⟨Or.inl, fun q => by rcases q with q | q <;> omega⟩)
/-- one more worker comes to the spans -/
def SpN (g : Hp) (G : Nat → Int) (w a : Int) (al : Nat) (A : Int → Int) (v : Nat) (z : Int) : Prop := 0 ≤ z ∧ ∀ b, 0 ≤ b → b ≤ 600 → (z ≤ b ↔ (A v ≤ b ∨ ∃ q : Nat, q ≠ 0 ∧ q &&& v = q ∧ snC (dt g) G w a al q ≤ b ∧ A ((v ^^^ q : Nat) : Int) ≤ b))
theorem c_shareIn {F : Nat} {h g : Hp} {r w a x : Int} {G : Nat → Int} {al : Nat} (hF : 1000 ≤ F) (m : Mo g) (hg : Gok (dt g) G) (hw : 0 ≤ w ∧ w < dt g 1 0) (sh : Sh h) (re : RwE h r (dt g) G w a al) (hx : x = 93 ∨ x = 94) (sp : ∀ v : Nat, v < 2 ^ (dt g 0 0).toNat → 0 ≤ rd h x v) :
    ∃ h', Rows_shareIn F r x h = some (0, h') ∧ FrA x h h' ∧ ∀ v : Nat, v < 2 ^ (dt g 0 0).toNat → SpN g G w a al (rd h x) v (rd h' x v) := by
  have re0 := re
  obtain ⟨rc, ⟨ve, vs⟩, wy, rb⟩ := re
  have ir := rc.1
  have hr := rw_cases ir
  have h8 := D8 m
  have h8' : dt g 0 0 ≤ 8 := m.2.2.1.2
  have t8 := two8 h8
  have t1 : 1 ≤ 2 ^ (dt g 0 0).toNat := Nat.one_le_two_pow
  have hd0 : dt g 0 0 = ((dt g 0 0).toNat : Int) := by have := m.2.2.1.1; omega
  have okx : ∀ i, okW x i = true := fun i => by rcases hx with e | e <;> subst e <;> exact okW_arr (by decide) (fun _ => by decide)
  have hvx : ∀ q : Hp, Sh q → vo q x 0 ∧ hln q x = 256 := fun q sq => by
    rcases hx with e | e <;> subst e
    · exact ⟨sq.vo 93 0 (by decide) (by decide) rfl, sq.ln 93 256 (by decide) (by decide) rfl⟩
    · exact ⟨sq.vo 94 0 (by decide) (by decide) rfl, sq.ln 94 256 (by decide) (by decide) rfl⟩
  have hrx : r ≠ x ∧ r + 2 ≠ x ∧ r + 3 ≠ x := by unfold isRw at ir; omega
  unfold Rows_shareIn
  have e1 : ∀ y : Int, y = ((dt g 0 0).toNat : Int) → w32 (ishl 1 y - 1) = ((2 ^ (dt g 0 0).toNat - 1 - 0 : Nat) : Int) := by
    intro y hy
    rw [hy, ishl_1 _ (by omega), w32_id (by omega) (by omega)]
    omega
  rw [gQ1 sh ir, rc.2.2.1, e1 _ hd0, lt_eq]
  have key := loopE (fun n i h1 => Rows_shareIn_L9 F n r x ((2 ^ (dt g 0 0).toNat - 1 - i : Nat) : Int) h1) (2 ^ (dt g 0 0).toNat - 1) (fun i h1 => FrA x h h1 ∧ (∀ v : Nat, v ≤ 2 ^ (dt g 0 0).toNat - 1 - i → rd h1 x v = rd h x v) ∧ ∀ v : Nat, 2 ^ (dt g 0 0).toNat - 1 - i < v → v < 2 ^ (dt g 0 0).toNat → SpN g G w a al (rd h x) v (rd h1 x v)) (fun z => ∃ h', z = some (0, h') ∧ FrA x h h' ∧ ∀ v : Nat, v < 2 ^ (dt g 0 0).toNat → SpN g G w a al (rd h x) v (rd h' x v)) (fun n i h1 hi P => Or.inl ?_) (fun n h1 P => ?_) (2 ^ (dt g 0 0).toNat - 1) F 0 h (by omega) (by omega) ⟨FrA_refl sh, fun _ _ => rfl, fun v v0 v1 => absurd v1 (by omega)⟩
  · exact key
  · obtain ⟨fr, p1, p2⟩ := P
    have s1 := fr.2.1
    have re1 : RwE h1 r (dt g) G w a al := by
      have er : rd h1 r = rd h r := fr.2.2 r hrx.1
      refine ⟨RwC_eq h8' fr.1 er (fun p q0 q1 => fr.2.2 _ (by have := sdA_in (L := G 3) ⟨q0, q1⟩; omega)) (fun p q0 q1 => fr.2.2 _ (by have := (rc.2.2.2.2 p q0 q1).2.2.2.2.1.1.1; omega)) rc, ⟨by rw [er]; exact vA_eq fr.1.1 fr.1.2.2.1 fr.1.2.2.2 ve, by rw [er]; exact vA_eq fr.1.1 fr.1.2.2.1 fr.1.2.2.2 vs⟩, fun o p o0 o1 q0 q1 => by rw [fr.2.2 _ hrx.2.1]; exact wy o p o0 o1 q0 q1, fun t ht => ?_⟩
      have h5 := ve.1.1
      have h6 := vs.1.1
      rw [er, fr.2.2 (rd h r 5) (by omega), fr.2.2 (rd h r 6) (by omega)]
      exact rb t ht
    obtain ⟨l', y1, y2, y3⟩ := c_share1 (F := F) (h := h1) m hg hw s1 re1 (hvx h1 s1) (S := 2 ^ (dt g 0 0).toNat - 1 - i) (fun v hv => by
      by_cases c : v ≤ 2 ^ (dt g 0 0).toNat - 1 - i
      · rw [p1 v c]; exact sp v hv
      · exact (p2 v (by omega) hv).1) (by omega) (Rows_shareIn_L9 F n) (by omega) (2 ^ (dt g 0 0).toNat - 1 - i) (2 ^ (dt g 0 0).toNat - 1 - i) F (rd h1 x ((2 ^ (dt g 0 0).toNat - 1 - i : Nat) : Int)) (Nat.le_refl _) (by omega) (Nat.and_self _) (by rw [p1 _ (Nat.le_refl _)]; exact sp _ (by omega))
    generalize hS : 2 ^ (dt g 0 0).toNat - 1 - i = S at *
    have fw := FrA_wr (i := (S : Int)) (v := l') fr (okx S)
    refine ⟨_, ⟨fw, fun v hv => ?_, fun v v0 v1 => ?_⟩, ?_⟩
    · rw [rd_i (by omega)]; exact p1 v (by omega)
    · by_cases c : v = S
      · subst c
        rw [rd_same]
        refine ⟨y2, fun b b0 b1 => ?_⟩
        rw [y3 b b0 b1, p1 v (Nat.le_refl _)]
        constructor
        · intro q
          rcases q with q | ⟨z, z1, z2, z3, z4, z5⟩
          · exact Or.inl q
          · have hxl : v ^^^ z ≤ v := by rw [← (xr_sub z2).1]; exact Nat.and_le_right
            exact Or.inr ⟨z, z1, z2, z4, by rw [← p1 _ hxl]; exact z5⟩
        · intro q
          rcases q with q | ⟨z, z1, z2, z4, z5⟩
          · exact Or.inl q
          · have hxl : v ^^^ z ≤ v := by rw [← (xr_sub z2).1]; exact Nat.and_le_right
            have hzl : z ≤ v := by rw [← z2]; exact Nat.and_le_right
            exact Or.inr ⟨z, z1, z2, hzl, z4, by rw [p1 _ hxl]; exact z5⟩
      · rw [rd_i (by omega)]; exact p2 v (by omega) v1
    · show Rows_shareIn_L9s F (Rows_shareIn_L9 F n) r x (S : Int) h1 = Rows_shareIn_L9 F n r x ((2 ^ (dt g 0 0).toNat - 1 - (i + 1) : Nat) : Int) _
      unfold Rows_shareIn_L9s
      rw [if_pos (by omega), al_ok (hvx h1 s1).1 (hvx h1 s1).2 (by omega) (by omega), y1, show 2 ^ (dt g 0 0).toNat - 1 - (i + 1) = S - 1 by omega]
  · obtain ⟨fr, p1, p2⟩ := P
    refine ⟨h1, ?_, fr, fun v hv => ?_⟩
    · show Rows_shareIn_L9s F (Rows_shareIn_L9 F n) r x ((2 ^ (dt g 0 0).toNat - 1 - (2 ^ (dt g 0 0).toNat - 1) : Nat) : Int) h1 = _
      unfold Rows_shareIn_L9s
      rw [if_neg (by omega)]
    · by_cases c : v = 0
      · subst c
        rw [p1 0 (by omega)]
        refine ⟨sp 0 (by omega), fun b b0 b1 => ⟨Or.inl, fun q => ?_⟩⟩
        rcases q with q | ⟨z, z1, z2, -⟩
        · exact q
        · rw [Nat.and_zero] at z2; exact absurd z2.symm z1
      · exact p2 v (by omega) hv
