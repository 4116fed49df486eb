/-! TOKENS of a tape -/
def isB (c : Int) : Prop := c = 9 ∨ c = 10 ∨ c = 13 ∨ c = 32
def isL (c : Int) : Bool := decide (97 ≤ c ∧ c ≤ 122)
def isD (c : Int) : Bool := decide (48 ≤ c ∧ c ≤ 57)
/-- how many bytes of a kind from one on -/
def run (p : Int → Bool) (B : Int → Int) : Nat → Int → Nat
  | 0, _ => 0
  | n + 1, i => if p (B i) then run p B n (i + 1) + 1 else 0
theorem run_le (p : Int → Bool) (B : Int → Int) : ∀ n i, run p B n i ≤ n
  | 0, _ => Nat.le_refl _
  | n + 1, i => by
    have := run_le p B n (i + 1)
    unfold run
    split <;> omega
theorem run_in (p : Int → Bool) (B : Int → Int) : ∀ n i (k : Nat), k < run p B n i → p (B (i + k)) = true
  | 0, _, k, h => by unfold run at h; omega
  | n + 1, i, k, h => by
    unfold run at h
    split at h
    · rename_i hp
      rcases k with _ | k
      · simpa using hp
      · have := run_in p B n (i + 1) k (by omega)
        rw [show i + ((k + 1 : Nat) : Int) = i + 1 + (k : Int) by omega]
        exact this
    · omega
theorem run_end (p : Int → Bool) (B : Int → Int) : ∀ n i, run p B n i < n → p (B (i + run p B n i)) = false
  | 0, _, h => by omega
  | n + 1, i, h => by
    by_cases hp : p (B i) = true
    · have e : run p B (n + 1) i = run p B n (i + 1) + 1 := by
        show (if p (B i) = true then _ else _) = _
        rw [if_pos hp]
      rw [e] at h ⊢
      have := run_end p B n (i + 1) (by omega)
      rw [show i + ((run p B n (i + 1) + 1 : Nat) : Int) = i + 1 + (run p B n (i + 1) : Int) by omega]
      exact this
    · have e : run p B (n + 1) i = 0 := by
        show (if p (B i) = true then _ else _) = _
        rw [if_neg hp]
      rw [e]
      simpa using hp
/-- the last k letters, the last one first, as numbers from 1 on -/
def ltr (B : Int → Int) (i : Int) : Nat → List Int
  | 0 => []
  | k + 1 => (B (i + k) - 96) :: ltr B i k
def enc (b : Int) : List Int → Int
  | [] => 0
  | d :: ds => enc b ds * b + d
def dOk (ds : List Int) : Prop := ∀ d ∈ ds, 1 ≤ d ∧ d ≤ 26
theorem enc_0 {b : Int} (hb : 27 ≤ b) : ∀ ds : List Int, dOk ds → 0 ≤ enc b ds
  | [], _ => Int.le_refl _
  | d :: ds, h => by
    have ih := enc_0 hb ds (fun x hx => h x (List.mem_cons_of_mem _ hx))
    have hd := h d (List.mem_cons_self ..)
    have := Int.mul_nonneg ih (show 0 ≤ b by omega)
    unfold enc
    omega
theorem enc_inj {b : Int} (hb : 27 ≤ b) : ∀ ds es : List Int, dOk ds → dOk es → enc b ds = enc b es → ds = es
  | [], [], _, _, _ => rfl
  | [], e :: es, _, h2, h => by
    have hd := h2 e (List.mem_cons_self ..)
    have := Int.mul_nonneg (enc_0 hb es (fun x hx => h2 x (List.mem_cons_of_mem _ hx))) (show 0 ≤ b by omega)
    have e1 : enc b (e :: es) = enc b es * b + e := rfl
    have e2 : enc b [] = 0 := rfl
    omega
  | d :: ds, [], h1, _, h => by
    have hd := h1 d (List.mem_cons_self ..)
    have := Int.mul_nonneg (enc_0 hb ds (fun x hx => h1 x (List.mem_cons_of_mem _ hx))) (show 0 ≤ b by omega)
    have e1 : enc b (d :: ds) = enc b ds * b + d := rfl
    have e2 : enc b [] = 0 := rfl
    omega
  | d :: ds, e :: es, h1, h2, h => by
    have hd := h1 d (List.mem_cons_self ..)
    have he := h2 e (List.mem_cons_self ..)
    have e1 : enc b (d :: ds) = enc b ds * b + d := rfl
    have e2 : enc b (e :: es) = enc b es * b + e := rfl
    rw [e1, e2] at h
    have m1 : (enc b ds * b + d) % b = d := by rw [Int.add_comm, Int.add_mul_emod_self_right]; exact Int.emod_eq_of_lt (by omega) (by omega)
    have m2 : (enc b es * b + e) % b = e := by rw [Int.add_comm, Int.add_mul_emod_self_right]; exact Int.emod_eq_of_lt (by omega) (by omega)
    have de : d = e := by rw [← m1, h, m2]
    subst de
    have hm : enc b ds * b = enc b es * b := by omega
    have := Int.eq_of_mul_eq_mul_right (show b ≠ 0 by omega) hm
    rw [enc_inj hb ds es (fun x hx => h1 x (List.mem_cons_of_mem _ hx)) (fun x hx => h2 x (List.mem_cons_of_mem _ hx)) this]
theorem enc_le {b : Int} (hb : 27 ≤ b) : ∀ (ds : List Int), dOk ds → enc b ds < b ^ ds.length
  | [], _ => by show (0 : Int) < b ^ 0; simp
  | d :: ds, h => by
    have ih := enc_le hb ds (fun x hx => h x (List.mem_cons_of_mem _ hx))
    have hd := h d (List.mem_cons_self ..)
    have e1 : enc b (d :: ds) = enc b ds * b + d := rfl
    have e2 : b ^ (d :: ds).length = b ^ ds.length * b := by rw [List.length_cons, Int.pow_succ]
    rw [e1, e2]
    have : (enc b ds + 1) * b ≤ b ^ ds.length * b := Int.mul_le_mul_of_nonneg_right (by omega) (by omega)
    have e3 : (enc b ds + 1) * b = enc b ds * b + b := by rw [Int.add_mul, Int.one_mul]
    omega
/-- the words, the last letter first -/
def wds : List (List Int) := [[20, 18, 1, 16], [18, 5, 11, 18, 15, 23], [8, 7, 9, 8], [5, 4, 9, 20], [14, 21, 19], [16, 9, 12, 19], [7, 15, 4], [19, 4, 12, 15, 8], [7, 5, 16], [4, 5, 5, 19], [6, 9], [14, 5, 8, 20], [5, 19, 12, 5], [24], [25], [5, 20, 21, 14, 9, 13], [18, 1, 6], [6, 6, 15]]
def kdW (ds : List Int) : Nat := wds.findIdx (fun w => w == ds)
def vlD (B : Int → Int) (i : Int) : Nat → Int
  | 0 => 0
  | k + 1 => 10 * vlD B i k + (B (i + k) - 48)
def sgk (c : Int) : Int := if c = 59 ∨ c = 61 ∨ c = 40 ∨ c = 41 ∨ c = 43 ∨ c = 45 ∨ c = 42 ∨ c = 47 ∨ c = 60 then c else 21
/-- a TOKEN: its kind, its place, its number, its letters -/
abbrev Tkn : Type := Int × Int × Int × List Int
def lx (B : Int → Int) (n : Int) : Nat → Int → List Tkn
  | 0, _ => []
  | f + 1, i => if n ≤ i then [] else if B i = 9 ∨ B i = 10 ∨ B i = 13 ∨ B i = 32 then lx B n f (i + 1)
    else if isL (B i) then ((if 8 < run isL B (n - i).toNat i then 21 else (kdW (ltr B i (run isL B (n - i).toNat i)) : Int)), i, 0, ltr B i (run isL B (n - i).toNat i)) :: lx B n f (i + run isL B (n - i).toNat i)
    else if isD (B i) then ((if 4 < run isD B (n - i).toNat i then 21 else 19), i, vlD B i (run isD B (n - i).toNat i), []) :: lx B n f (i + run isD B (n - i).toNat i)
    else (sgk (B i), i, 0, []) :: lx B n f (i + 1)
def tkAt (ts : List Tkn) (n : Int) (t : Nat) : Tkn := ts.getD t (20, n, 0, [])
theorem kdW_le (ds : List Int) : kdW ds ≤ 18 := by
  have := List.findIdx_le_length (xs := wds) (p := fun w => w == ds)
  exact this
/-- what a row of TOKENS is like: kinds, places that rise, letters -/
def lxOk (n : Int) : Int → List Tkn → Prop
  | _, [] => True
  | i, q :: r => (KdOk q.1 ∧ q.1 ≠ 20 ∧ i ≤ q.2.1 ∧ q.2.1 < n ∧ (q.1 = 18 → dOk q.2.2.2 ∧ q.2.2.2.length ≤ 8 ∧ q.2.2.2 ≠ [])) ∧ lxOk n (q.2.1 + 1) r
theorem lxOk_mono {n : Int} {i j : Int} (h : j ≤ i) : ∀ ts : List Tkn, lxOk n i ts → lxOk n j ts
  | [], _ => trivial
  | q :: r, ⟨⟨a, b, c, d, e⟩, g⟩ => ⟨⟨a, b, by omega, d, e⟩, g⟩
theorem ltr_len (B : Int → Int) (i : Int) : ∀ k, (ltr B i k).length = k
  | 0 => rfl
  | k + 1 => by unfold ltr; rw [List.length_cons, ltr_len B i k]
theorem ltr_ok {B : Int → Int} {i : Int} : ∀ k : Nat, (∀ j : Nat, j < k → isL (B (i + j)) = true) → dOk (ltr B i k)
  | 0, _ => fun d hd => by cases hd
  | k + 1, h => by
    have hk := h k (by omega)
    unfold isL at hk
    have hk' := of_decide_eq_true hk
    intro d hd
    rcases List.mem_cons.mp hd with e | e
    · subst e; omega
    · exact ltr_ok k (fun j hj => h j (by omega)) d e
theorem sgk_ok (c : Int) : KdOk (sgk c) ∧ sgk c ≠ 20 ∧ sgk c ≠ 18 := by
  unfold sgk KdOk
  split <;> omega
theorem lx_ok (B : Int → Int) (n : Int) : ∀ f i, lxOk n i (lx B n f i)
  | 0, _ => trivial
  | f + 1, i => by
    unfold lx
    split
    · trivial
    · rename_i hi
      split
      · exact lxOk_mono (by omega) _ (lx_ok B n f (i + 1))
      · split
        · rename_i hL
          have r1 : 1 ≤ run isL B (n - i).toNat i := by
            obtain ⟨k, hk⟩ : ∃ k, (n - i).toNat = k + 1 := ⟨(n - i).toNat - 1, by omega⟩
            rw [hk]
            show 1 ≤ (if isL (B i) = true then _ else _)
            rw [if_pos hL]
            omega
          refine ⟨⟨?_, ?_, Int.le_refl _, by show i < n; omega, fun h18 => ?_⟩, lxOk_mono (j := i + 1) (by omega) _ (lx_ok B n f _)⟩
          · have := kdW_le (ltr B i (run isL B (n - i).toNat i))
            unfold KdOk
            split <;> omega
          · have := kdW_le (ltr B i (run isL B (n - i).toNat i))
            split <;> omega
          · split at h18
            · omega
            · refine ⟨ltr_ok _ (fun j hj => run_in isL B _ i j hj), by rw [ltr_len]; omega, fun e => ?_⟩
              have := ltr_len B i (run isL B (n - i).toNat i)
              have e' : ltr B i (run isL B (n - i).toNat i) = [] := e
              rw [e'] at this
              simp at this
              omega
        · split
          · rename_i hD
            have r1 : 1 ≤ run isD B (n - i).toNat i := by
              obtain ⟨k, hk⟩ : ∃ k, (n - i).toNat = k + 1 := ⟨(n - i).toNat - 1, by omega⟩
              rw [hk]
              show 1 ≤ (if isD (B i) = true then _ else _)
              rw [if_pos hD]
              omega
            refine ⟨⟨?_, ?_, Int.le_refl _, by show i < n; omega, fun h18 => ?_⟩, lxOk_mono (j := i + 1) (by omega) _ (lx_ok B n f _)⟩
            · unfold KdOk; split <;> omega
            · split <;> omega
            · split at h18 <;> omega
          · have := sgk_ok (B i)
            exact ⟨⟨this.1, this.2.1, Int.le_refl _, by show i < n; omega, fun h => absurd h this.2.2⟩, lx_ok B n f (i + 1)⟩
