/-! hopes, hope: class and reference alike -/
theorem smN_mul {f : Int → Int} {c : Int} : ∀ n : Nat, smN (fun k => f k * c) n = smN f n * c := by
  intro n
  induction n with
  | zero => show (0 : Int) = 0 * c; rw [Int.zero_mul]
  | succ n ih =>
    show smN (fun k => f k * c) n + f n * c = (smN f n + f n) * c
    rw [ih, Int.add_mul]
theorem k_hopes {F : Nat} {n t v k : Int} {h : Hp} {Λ : Nat → Lw} (hF : 6000 ≤ F) (j : JJ n h Λ) : Okc n h (Tide_hopes F 1 t v k h) (fun h1 => Mod_hopes F 194 t v k h1) := by
  have s := jS j
  have mo := jMo j
  have dk := jD j
  have seed : seedOk h := j.1.2.1.2.2.2.2.2.2.2.2
  have ref := m_hopes (F := F) (t := t) (v := v) (n := k) (by omega) j.1.1 seed
  by_cases cc : (0 ≤ t ∧ t < 600) ∧ 0 ≤ v ∧ (1 ≤ k ∧ k ≤ 50)
  rotate_left
  · refine okc_q0 j (r := -1) ?_ ?_
    · unfold Tide_hopes
      rw [c_isMinute, cl_some]
      by_cases ct : 0 ≤ t ∧ t < 600
      · rw [if_pos ct, if_neg (by decide)]
        by_cases v0 : v < 0
        · rw [if_pos v0]
        · rw [if_neg v0]
          by_cases k1 : k < 1
          · rw [if_pos k1]
          · rw [if_neg k1, if_pos (by apply Classical.byContradiction; intro z; exact cc ⟨ct, by omega, by omega, by omega⟩)]
      · rw [if_neg ct, if_pos rfl]
    · unfold hpsA at ref
      rw [if_pos cc] at ref
      exact ref
  obtain ⟨ct, cv, ck⟩ := cc
  obtain ⟨h1, a1, a2, a3⟩ := c_dogsRun (F := F) hF j ck ct
  have e := RfE_X a2.1 (fun b hb => by unfold Xd at hb; omega)
  have jm := RfE_JM e j.1
  have ed := RfE_dt e
  have e239 := e.2 239 (by decide) (by decide)
  obtain ⟨h2, b1, b2⟩ := m_hopes (F := F) (t := t) (v := v) (n := k) (by omega) jm.1 (show seedOk h1 by unfold seedOk; rw [ed]; exact seed)
  have s1 := a2.1.1
  obtain ⟨⟨cd, -, -, -⟩, -⟩ := PD_JK j a2
  refine ⟨hpsA h1 t v k, h1, h2, Λ, ?_, s1, b1, PD_end j a2 b2, Sc_X s a2.1 (by unfold Xd; omega), Sc_Fr b2⟩
  unfold Tide_hopes hpsA
  rw [c_isMinute, cl_some, if_pos ct, if_neg (by decide), if_neg (by omega), if_neg (by omega), if_neg (by omega), ivT s, a1, cl_some, ed, e239, if_neg (show ¬ ¬ ((0 ≤ t ∧ t < 600) ∧ 0 ≤ v ∧ (1 ≤ k ∧ k ≤ 50)) from fun z => z ⟨ct, cv, ck⟩)]
  have P256 : 2 ^ (dt h 0 0).toNat ≤ 256 := Nat.pow_le_pow_right (n := 2) (by decide) (D8 mo)
  have key := loop0 (fun N i => Tide_hopes_L36 F N 1 t v k (hpN (fun k => pbV (dt h) (rd h 239) (dt h 19 0 + k) t) v i) (i : Nat) h1) k.toNat F (some (hpN (fun k => pbV (dt h) (rd h 239) (dt h 19 0 + k) t) v k.toNat, h1)) (by omega) (fun N i hi => ?_) (fun N => ?_)
  · exact key
  · show Tide_hopes_L36s F (Tide_hopes_L36 F N) 1 t v k _ (i : Nat) h1 = Tide_hopes_L36 F N 1 t v k (hpN (fun k => pbV (dt h) (rd h 239) (dt h 19 0 + k) t) v (i + 1)) ((i + 1 : Nat) : Int) h1
    have hik : 0 ≤ (i : Int) ∧ (i : Int) < 50 ∧ (i : Int) < k := by omega
    have es : hpN (fun k => pbV (dt h) (rd h 239) (dt h 19 0 + k) t) v (i + 1) = hpN (fun k => pbV (dt h) (rd h 239) (dt h 19 0 + k) t) v i + (if pbV (dt h) (rd h 239) (dt h 19 0 + i) t < v then 0 else 1) := rfl
    have b := sm_in (f := fun k => if pbV (dt h) (rd h 239) (dt h 19 0 + k) t < v then 0 else 1) (k := 50) (fun p _ => by split <;> decide) i (by omega)
    have eh : smN (fun k => if pbV (dt h) (rd h 239) (dt h 19 0 + k) t < v then 0 else 1) i = hpN (fun k => pbV (dt h) (rd h 239) (dt h 19 0 + k) t) v i := rfl
    rw [eh] at b
    obtain ⟨-, y2⟩ := a3 i hik.2.2
    dsimp only at y2
    have ll := lvN_lt (D := dt h) (R := rd h 239) (t := t) (s := dt h 19 0 + i) (p := (dt h 0 0).toNat)
    have wl := lv_end (R := rd h 239) (t := t) (s := dt h 19 0 + i) (D8 mo)
    have x1 : (0 : Int) ≤ ((lvN (dt h) (rd h 239) t (dt h 19 0 + i) (dt h 0 0).toNat : Nat) : Int) ∧ ((lvN (dt h) (rd h 239) t (dt h 19 0 + i) (dt h 0 0).toNat : Nat) : Int) < 256 := by omega
    have pb := pbV_in mo (R := rd h 239) (s := dt h 19 0 + i) ct
    have wv : w32 (pbS (dt h) (rd h 239) (dt h 19 0 + i) t (dt h 0 0).toNat * dt h 14 t) = pbV (dt h) (rd h 239) (dt h 19 0 + i) t := w32_id (by unfold pbV at pb; omega) (by unfold pbV at pb; omega)
    have wc : w32 (hpN (fun k => pbV (dt h) (rd h 239) (dt h 19 0 + k) t) v i + 1) = hpN (fun k => pbV (dt h) (rd h 239) (dt h 19 0 + k) t) v i + 1 := w32_id (by omega) (by omega)
    rw [es]
    unfold Tide_hopes_L36s
    rw [if_pos hik.2.2, gT4 s1, gH4 s1, gT11 s1, aT11 s1 hik.1 hik.2.1, y2, aH4 s1 x1.1 x1.2, cd.2.2.2 _ ll, wl, gT4 s1, gH2 s1, aH2 s1 ct.1 ct.2, (cd.2.1 t ct.1 ct.2).2, wv, wc, w32_nat (by omega)]
    by_cases c : pbV (dt h) (rd h 239) (dt h 19 0 + i) t < v
    · rw [if_pos c, if_pos c, Int.add_zero]
    · rw [if_neg c, if_neg c]
  · show Tide_hopes_L36s F (Tide_hopes_L36 F N) 1 t v k _ ((k.toNat : Nat) : Int) h1 = _
    unfold Tide_hopes_L36s
    rw [if_neg (by omega)]
theorem k_hope {F : Nat} {n t k : Int} {h : Hp} {Λ : Nat → Lw} (hF : 6000 ≤ F) (j : JJ n h Λ) : Okc n h (Tide_hope F 1 t k h) (fun h1 => Mod_hope F 194 t k h1) := by
  have s := jS j
  have mo := jMo j
  have dk := jD j
  have seed : seedOk h := j.1.2.1.2.2.2.2.2.2.2.2
  have ref := m_hope (F := F) (t := t) (n := k) (by omega) j.1.1 seed
  by_cases cc : (0 ≤ t ∧ t < 600) ∧ (1 ≤ k ∧ k ≤ 50)
  rotate_left
  · refine okc_q0 j (r := -1) ?_ ?_
    · unfold Tide_hope
      rw [c_isMinute, cl_some]
      by_cases ct : 0 ≤ t ∧ t < 600
      · rw [if_pos ct, if_neg (by decide)]
        by_cases k1 : k < 1
        · rw [if_pos k1]
        · rw [if_neg k1, if_pos (by apply Classical.byContradiction; intro z; exact cc ⟨ct, by omega, by omega⟩)]
      · rw [if_neg ct, if_pos rfl]
    · unfold hopA at ref
      rw [if_pos cc] at ref
      exact ref
  obtain ⟨ct, ck⟩ := cc
  obtain ⟨h1, a1, a2, a3⟩ := c_dogsRun (F := F) hF j ck ct
  have e := RfE_X a2.1 (fun b hb => by unfold Xd at hb; omega)
  have jm := RfE_JM e j.1
  have ed := RfE_dt e
  have e239 := e.2 239 (by decide) (by decide)
  obtain ⟨h2, b1, b2⟩ := m_hope (F := F) (t := t) (n := k) (by omega) jm.1 (show seedOk h1 by unfold seedOk; rw [ed]; exact seed)
  have s1 := a2.1.1
  obtain ⟨⟨cd, -, -, -⟩, -⟩ := PD_JK j a2
  refine ⟨hopA h1 t k, h1, h2, Λ, ?_, s1, b1, PD_end j a2 b2, Sc_X s a2.1 (by unfold Xd; omega), Sc_Fr b2⟩
  unfold Tide_hope hopA
  rw [c_isMinute, cl_some, if_pos ct, if_neg (by decide), if_neg (by omega), if_neg (by omega), ivT s, a1, cl_some, ed, e239, if_neg (show ¬ ¬ ((0 ≤ t ∧ t < 600) ∧ (1 ≤ k ∧ k ≤ 50)) from fun z => z ⟨ct, ck⟩)]
  have P256 : 2 ^ (dt h 0 0).toNat ≤ 256 := Nat.pow_le_pow_right (n := 2) (by decide) (D8 mo)
  have h00 := dk.1
  have h14 := dk.2.2.2.2.2.2.2.2 t ct.1 ct.2
  have pin := fun x => pbS_in dk (R := rd h 239) (s := dt h 19 0 + x) (t := t) (dt h 0 0).toNat (by omega)
  have sin : ∀ i : Nat, 0 ≤ smN (fun x => pbS (dt h) (rd h 239) (dt h 19 0 + x) t (dt h 0 0).toNat) i ∧ smN (fun x => pbS (dt h) (rd h 239) (dt h 19 0 + x) t (dt h 0 0).toNat) i ≤ 792 * i := by
    intro i
    induction i with
    | zero => exact ⟨Int.le_refl 0, Int.le_refl 0⟩
    | succ i ih =>
      have := pin i
      show 0 ≤ smN (fun x => pbS (dt h) (rd h 239) (dt h 19 0 + x) t (dt h 0 0).toNat) i + pbS (dt h) (rd h 239) (dt h 19 0 + i) t (dt h 0 0).toNat ∧ smN (fun x => pbS (dt h) (rd h 239) (dt h 19 0 + x) t (dt h 0 0).toNat) i + pbS (dt h) (rd h 239) (dt h 19 0 + i) t (dt h 0 0).toNat ≤ _
      omega
  have fin : smN (fun k => pbV (dt h) (rd h 239) (dt h 19 0 + k) t) k.toNat = smN (fun x => pbS (dt h) (rd h 239) (dt h 19 0 + x) t (dt h 0 0).toNat) k.toNat * dt h 14 t := smN_mul k.toNat
  rw [fin]
  have key := loop0 (fun N i => Tide_hope_L31 F N 1 t k (smN (fun x => pbS (dt h) (rd h 239) (dt h 19 0 + x) t (dt h 0 0).toNat) i) (i : Nat) h1) k.toNat F (some (smN (fun x => pbS (dt h) (rd h 239) (dt h 19 0 + x) t (dt h 0 0).toNat) k.toNat * dt h 14 t, h1)) (by omega) (fun N i hi => ?_) (fun N => ?_)
  · exact key
  · show Tide_hope_L31s F (Tide_hope_L31 F N) 1 t k _ (i : Nat) h1 = Tide_hope_L31 F N 1 t k (smN (fun x => pbS (dt h) (rd h 239) (dt h 19 0 + x) t (dt h 0 0).toNat) i + pbS (dt h) (rd h 239) (dt h 19 0 + i) t (dt h 0 0).toNat) ((i + 1 : Nat) : Int) h1
    have hik : 0 ≤ (i : Int) ∧ (i : Int) < 50 ∧ (i : Int) < k := by omega
    obtain ⟨-, y2⟩ := a3 i hik.2.2
    dsimp only at y2
    have ll := lvN_lt (D := dt h) (R := rd h 239) (t := t) (s := dt h 19 0 + i) (p := (dt h 0 0).toNat)
    have wl := lv_end (R := rd h 239) (t := t) (s := dt h 19 0 + i) (D8 mo)
    have x1 : (0 : Int) ≤ ((lvN (dt h) (rd h 239) t (dt h 19 0 + i) (dt h 0 0).toNat : Nat) : Int) ∧ ((lvN (dt h) (rd h 239) t (dt h 19 0 + i) (dt h 0 0).toNat : Nat) : Int) < 256 := by omega
    have p1 := pin i
    have p2 := sin i
    have wc : w32 (smN (fun x => pbS (dt h) (rd h 239) (dt h 19 0 + x) t (dt h 0 0).toNat) i + pbS (dt h) (rd h 239) (dt h 19 0 + i) t (dt h 0 0).toNat) = smN (fun x => pbS (dt h) (rd h 239) (dt h 19 0 + x) t (dt h 0 0).toNat) i + pbS (dt h) (rd h 239) (dt h 19 0 + i) t (dt h 0 0).toNat := w32_id (by omega) (by omega)
    unfold Tide_hope_L31s
    rw [if_pos hik.2.2, gT4 s1, gH4 s1, gT11 s1, aT11 s1 hik.1 hik.2.1, y2, aH4 s1 x1.1 x1.2, cd.2.2.2 _ ll, wl, lt_eq, wc, w32_nat (by omega)]
  · show Tide_hope_L31s F (Tide_hope_L31 F N) 1 t k _ ((k.toNat : Nat) : Int) h1 = _
    have p2 := sin k.toNat
    have hm : 0 ≤ smN (fun x => pbS (dt h) (rd h 239) (dt h 19 0 + x) t (dt h 0 0).toNat) k.toNat * dt h 14 t ∧ smN (fun x => pbS (dt h) (rd h 239) (dt h 19 0 + x) t (dt h 0 0).toNat) k.toNat * dt h 14 t ≤ 39600 * 100 := ⟨Int.mul_nonneg p2.1 h14.1, Int.mul_le_mul (by omega) h14.2 h14.1 (by decide)⟩
    have wv := w32_id (x := smN (fun x => pbS (dt h) (rd h 239) (dt h 19 0 + x) t (dt h 0 0).toNat) k.toNat * dt h 14 t) (by omega) (by omega)
    unfold Tide_hope_L31s
    rw [if_neg (by omega), gT4 s1, gH2 s1, aH2 s1 ct.1 ct.2, (cd.2.1 t ct.1 ct.2).2, wv]
