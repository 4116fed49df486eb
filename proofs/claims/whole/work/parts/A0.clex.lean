/-! the class cuts the text into TOKENS -/
def sgL : List Int := [59, 61, 43, 45, 42, 47, 60, 40, 41]
theorem salS {f : Int → Option (Int × Hp)} : ∀ i : Nat, i < 9 → sal (-5) i f = f (sgL.getD i 0) := by
  intro i hi
  unfold sal
  rw [if_neg (fun q => absurd q.1 (by decide)), if_pos ⟨rfl, by omega, by show (i : Int) < ((9 : Nat) : Int); omega⟩, Int.toNat_natCast]
  have : ∀ j : Nat, j < 9 → (byS.getD j 0).toInt = sgL.getD j 0 := by decide +kernel
  rw [this i hi]
theorem idx_L {F : Nat} {h : Hp} {x : Int} : ∀ (k N i : Nat), i + k = 9 → k < N → ∃ r, Lat_indexOfChar_L7 F N (-5) 9 x i h = some (r, h) ∧ (r < 0 ↔ ∀ j : Nat, i ≤ j → j < 9 → sgL.getD j 0 ≠ x) := by
  intro k
  induction k with
  | zero =>
    intro N i hi hN
    obtain ⟨N, rfl⟩ : ∃ n, N = n + 1 := ⟨N - 1, by omega⟩
    refine ⟨-1, ?_, fun _ j j0 j1 => absurd j1 (by omega), fun _ => by decide⟩
    show Lat_indexOfChar_L7s F (Lat_indexOfChar_L7 F N) (-5) 9 x i h = _
    unfold Lat_indexOfChar_L7s
    rw [if_neg (by omega)]
  | succ k ih =>
    intro N i hi hN
    obtain ⟨N, rfl⟩ : ∃ n, N = n + 1 := ⟨N - 1, by omega⟩
    obtain ⟨r, e1, e2⟩ := ih N (i + 1) (by omega) (by omega)
    show ∃ r, Lat_indexOfChar_L7s F (Lat_indexOfChar_L7 F N) (-5) 9 x i h = _ ∧ _
    unfold Lat_indexOfChar_L7s
    rw [if_pos (by omega), salS i (by omega)]
    by_cases c : sgL.getD i 0 = x
    · rw [if_pos c]
      exact ⟨i, rfl, fun q => absurd q (by omega), fun q => absurd c (q i (Nat.le_refl _) (by omega))⟩
    · rw [if_neg c, w32_nat (by omega)]
      refine ⟨r, e1, ?_⟩
      rw [e2]
      constructor
      · intro q j j0 j1
        by_cases e : j = i
        · subst e; exact c
        · exact q j (by omega) j1
      · intro q j j0 j1; exact q j (by omega) j1
theorem i2c_s : ∀ c : Nat, c < 128 → i2c c = c := by decide +kernel
theorem sgk_iff {c : Int} : sgk c = 21 ∨ sgk c = c := by
  unfold sgk
  split
  · exact Or.inr rfl
  · exact Or.inl rfl
theorem sg_none : ∀ c : Nat, c < 128 → ((∀ j : Nat, j < 9 → sgL.getD j 0 ≠ (c : Int)) ↔ sgk (c : Int) = 21 ∧ (c : Int) ≠ 21 ∨ (c : Int) = 21) := by decide +kernel
theorem c_indexOf {F : Nat} {h : Hp} {c : Int} (hF : 100 ≤ F) (hc : 0 < c ∧ c ≤ 127) : ∃ r, Str_indexOf F (-4) (i2c c) h = some (r, h) ∧ (if r < 0 then (21 : Int) else c) = sgk c := by
  obtain ⟨n, rfl⟩ := Int.eq_ofNat_of_zero_le (show 0 ≤ c by omega)
  have hn : n < 128 := by omega
  obtain ⟨r, e1, e2⟩ := idx_L (F := F) (h := h) (x := (n : Int)) 9 F 0 (by omega) (by omega)
  refine ⟨r, ?_, ?_⟩
  · unfold Str_indexOf Str_indexOf2 Str_isLatin1 Str_length Str_coder
    have iv4 : ∀ (o : Option (Int × Hp)) (f : Int → Hp → Option (Int × Hp)), ivs (-4) o f = cl o f := fun o f => if_pos (Or.inr rfl)
    have g4 : ∀ f : Int → Option (Int × Hp), gsc (-4) f = f 0 := fun f => if_pos (Or.inr rfl)
    have v4 : ∀ f : Int → Option (Int × Hp), gsv (-4) f = f (-5) := fun f => by unfold gsv; rw [if_neg (by decide), if_pos rfl]
    have l5 : ∀ f : Int → Option (Int × Hp), sln (-5) f = f 9 := fun f => by unfold sln; rw [if_neg (by decide), if_pos rfl]; rfl
    have sh9 : ishr 9 0 = 9 := by decide +kernel
    rw [iv4, iv4, lt_eq, if_neg (by decide), g4, if_pos rfl, rz_1, cl_some, if_neg (by decide), v4, iv4, v4, l5, iv4, lt_eq, if_neg (by decide), g4, if_pos (Or.inl rfl), cl_some, sh9, cl_some]
    unfold Lat_indexOf Lat_canEncode
    rw [i2c_s n hn, if_neg (by omega), if_neg (by omega), rz_1, cl_some, if_neg (by decide), lt_eq, l5, lt_eq, show imax 0 0 = 0 by decide, show imin 9 9 = 9 by decide, if_pos (by decide)]
    unfold Lat_indexOfChar
    rw [i2b_id (by omega), lt_eq]
    rw [show (Lat_indexOfChar_L7 F F (-5) 9 (n : Int) 0 h) = some (r, h) from e1, cl_some, cl_some, cl_some]
  · have e3 : (r < 0) ↔ ∀ j : Nat, j < 9 → sgL.getD j 0 ≠ (n : Int) := e2.trans ⟨fun q j j1 => q j (by omega) j1, fun q j _ j1 => q j j1⟩
    have s9 := sg_none n hn
    by_cases c1 : r < 0
    · rw [if_pos c1]
      rcases s9.1 (e3.1 c1) with q | q
      · exact q.1.symm
      · rw [q]; rfl
    · rw [if_neg c1]
      have hns : ¬ (sgk (n : Int) = 21 ∧ (n : Int) ≠ 21 ∨ (n : Int) = 21) := fun q => c1 (e3.2 (s9.2 q))
      rcases sgk_iff (c := (n : Int)) with q | q
      · exact absurd (by
          by_cases z : (n : Int) = 21
          · exact Or.inr z
          · exact Or.inl ⟨q, z⟩) hns
      · exact q.symm
/-- the class's words -/
def WdI (h : Hp) : Prop := ∀ k : Nat, k < 18 → rd h 4 k = enc 32 (wds.getD k [])
def CkI (h : Hp) : Prop := ∀ t : Nat, t ≤ 401 → rd h 5 t = 19 → 0 ≤ rd h 6 t ∧ rd h 6 t ≤ 9999
theorem c_kindOf {F : Nat} {h : Hp} {ds : List Int} (hF : 1000 ≤ F) (s : Sh h) (wd : WdI h) (hd : dOk ds) : Read_kindOf F 3 (enc 32 ds) h = some ((kdW ds : Int), h) := by
  unfold Read_kindOf
  have hle := kdW_le ds
  have key : ∀ (k N i : Nat), i + k = 18 → k < N → i ≤ kdW ds → Read_kindOf_L2 F N 3 (enc 32 ds) i h = some ((kdW ds : Int), h) := by
    intro k
    induction k with
    | zero =>
      intro N i hi hN hk
      obtain ⟨N, rfl⟩ : ∃ n, N = n + 1 := ⟨N - 1, by omega⟩
      show Read_kindOf_L2s F (Read_kindOf_L2 F N) 3 (enc 32 ds) i h = _
      unfold Read_kindOf_L2s
      rw [if_neg (by omega), show (kdW ds : Int) = 18 by omega]
    | succ k ih =>
      intro N i hi hN hk
      obtain ⟨N, rfl⟩ : ∃ n, N = n + 1 := ⟨N - 1, by omega⟩
      show Read_kindOf_L2s F (Read_kindOf_L2 F N) 3 (enc 32 ds) i h = _
      unfold Read_kindOf_L2s
      rw [if_pos (by omega), gR0 s, aR0 s (by omega) (by omega), wd i (by omega)]
      have hkw := kdW_at ds (k := i) (by omega)
      by_cases e : wds.getD i [] = ds
      · rw [e, if_pos (lcmp_0.2 rfl), hkw.1 e]
      · have hne : ¬ lcmp (enc 32 (wds.getD i [])) (enc 32 ds) = 0 := fun q => e (enc_inj (by decide) _ _ (wds_at i (by omega)) hd (lcmp_0.1 q))
        rw [if_neg hne, w32_nat (by omega)]
        have : kdW ds ≠ i := fun q => e (hkw.2 q)
        exact ih N (i + 1) (by omega) (by omega) (by omega)
  exact key 18 F 0 (by omega) (by omega) (by omega)
def nmv (B : Int → Int) (i : Int) : Nat → Int
  | 0 => 0
  | k + 1 => w64 (w64 (nmv B i k * 32) + (B (i + k) - 96))
def nmd (B : Int → Int) (i : Int) : Nat → Int
  | 0 => 0
  | k + 1 => w32 (w32 (w32 (nmd B i k * 10) + B (i + k)) - 48)
theorem nmv_enc {B : Int → Int} {i : Int} : ∀ k : Nat, k ≤ 8 → (∀ j : Nat, j < k → isL (B (i + j)) = true) → nmv B i k = enc 32 (ltr B i k) ∧ 0 ≤ enc 32 (ltr B i k) ∧ enc 32 (ltr B i k) < 32 ^ k := by
  intro k
  induction k with
  | zero => intro _ _; exact ⟨rfl, Int.le_refl _, show (0 : Int) < 32 ^ 0 by decide⟩
  | succ k ih =>
    intro hk hl
    obtain ⟨e1, e2, e3⟩ := ih (by omega) (fun j hj => hl j (by omega))
    have hb := hl k (by omega)
    unfold isL at hb
    rw [decide_eq_true_eq] at hb
    have hp : (32 : Int) ^ k ≤ 32 ^ 7 := by
      have : (32 : Nat) ^ k ≤ 32 ^ 7 := Nat.pow_le_pow_right (by decide) (by omega)
      exact_mod_cast this
    have hq : (32 : Int) ^ (k + 1) = 32 ^ k * 32 := Int.pow_succ _ _
    have h7 : (32 : Int) ^ 7 = 34359738368 := by decide
    have en : enc 32 (ltr B i (k + 1)) = enc 32 (ltr B i k) * 32 + (B (i + k) - 96) := rfl
    have nn : nmv B i (k + 1) = w64 (w64 (nmv B i k * 32) + (B (i + k) - 96)) := rfl
    rw [nn, e1, en, w64_id (x := enc 32 (ltr B i k) * 32) (by omega) (by omega), w64_id (by omega) (by omega)]
    exact ⟨rfl, by omega, by omega⟩
theorem nmd_vl {B : Int → Int} {i : Int} : ∀ k : Nat, k ≤ 4 → (∀ j : Nat, j < k → isD (B (i + j)) = true) → nmd B i k = vlD B i k ∧ 0 ≤ vlD B i k ∧ vlD B i k < 10 ^ k := by
  intro k
  induction k with
  | zero => intro _ _; exact ⟨rfl, Int.le_refl _, show (0 : Int) < 10 ^ 0 by decide⟩
  | succ k ih =>
    intro hk hl
    obtain ⟨e1, e2, e3⟩ := ih (by omega) (fun j hj => hl j (by omega))
    have hb := hl k (by omega)
    unfold isD at hb
    rw [decide_eq_true_eq] at hb
    have hp : (10 : Int) ^ k ≤ 10 ^ 3 := by
      have : (10 : Nat) ^ k ≤ 10 ^ 3 := Nat.pow_le_pow_right (by decide) (by omega)
      exact_mod_cast this
    have hq : (10 : Int) ^ (k + 1) = 10 ^ k * 10 := Int.pow_succ _ _
    have h7 : (10 : Int) ^ 3 = 1000 := by decide
    have en : vlD B i (k + 1) = 10 * vlD B i k + (B (i + k) - 48) := rfl
    have nn : nmd B i (k + 1) = w32 (w32 (w32 (nmd B i k * 10) + B (i + k)) - 48) := rfl
    rw [nn, e1, en, w32_id (x := vlD B i k * 10) (by omega) (by omega), w32_id (x := vlD B i k * 10 + B (i + k)) (by omega) (by omega), w32_id (by omega) (by omega)]
    exact ⟨by omega, by omega, by omega⟩
theorem c_isLetter {F : Nat} {h : Hp} {c : Int} : Read_isLetter F c h = some (if isL c = true then 1 else 0, h) := by
  unfold Read_isLetter isL
  by_cases a : c < 97
  · rw [if_pos a, rz_0, decide_eq_false (by omega), if_neg (by decide)]
  · rw [if_neg a]
    by_cases b : 122 < c
    · rw [if_pos b, rz_0, decide_eq_false (by omega), if_neg (by decide)]
    · rw [if_neg b, rz_1, decide_eq_true (by omega), if_pos rfl]
theorem c_isDigit {F : Nat} {h : Hp} {c : Int} : Read_isDigit F c h = some (if isD c = true then 1 else 0, h) := by
  unfold Read_isDigit isD
  by_cases a : c < 48
  · rw [if_pos a, rz_0, decide_eq_false (by omega), if_neg (by decide)]
  · rw [if_neg a]
    by_cases b : 57 < c
    · rw [if_pos b, rz_0, decide_eq_false (by omega), if_neg (by decide)]
    · rw [if_neg b, rz_1, decide_eq_true (by omega), if_pos rfl]
theorem c_isBlank {F : Nat} {h : Hp} {c : Int} : Read_isBlank F c h = some (if c = 9 ∨ c = 10 ∨ c = 13 ∨ c = 32 then 1 else 0, h) := by
  unfold Read_isBlank
  by_cases a : c = 9
  · rw [if_pos a, rz_1, if_pos (Or.inl a)]
  · rw [if_neg a]
    by_cases b : c = 10
    · rw [if_pos b, rz_1, if_pos (Or.inr (Or.inl b))]
    · rw [if_neg b]
      by_cases d : c = 13
      · rw [if_pos d, rz_1, if_pos (Or.inr (Or.inr (Or.inl d)))]
      · rw [if_neg d]
        by_cases e : c = 32
        · rw [if_pos e, rz_1, if_pos (Or.inr (Or.inr (Or.inr e)))]
        · rw [if_neg e, rz_0, if_neg (by omega)]
