/-! the reader's words -/
def wl : List Int32 → Int → List Lgr → List Lgr
  | [], _, c => c
  | b :: bs, w, c => if b.toInt = 32 then wl bs (w + 1) c else if w < 18 then wl bs w ((1, 4, w, w64 (w64 (lrd 4 w c * 32) + w32 (w32 (b.toInt - 97) + 1)), 0) :: c) else wl bs w c
theorem s_len (F : Nat) (h : Hp) : Str_length F (-2) h = some (82, h) := by
  show some (ishr 82 0, h) = _
  rw [show ishr 82 0 = 82 by decide]
theorem s_chr : ∀ i : Nat, i < 82 → i2c (iand (byW.getD i 0).toInt 255) = (byW.getD i 0).toInt ∧ 0 ≤ (byW.getD i 0).toInt ∧ (byW.getD i 0).toInt < 65536 := by decide +kernel
theorem s_at (F : Nat) (h : Hp) (i : Nat) (hi : i < 82) : Str_charAt F (-2) (i : Int) h = some ((byW.getD i 0).toInt, h) := by
  obtain ⟨e1, e2, e3⟩ := s_chr i hi
  have hl : ((byW.length : Nat) : Int) = 82 := rfl
  show (cl (Lat_charAt F (-3) i h) fun r4 h5 => rc r4 h5) = _
  have k : Lat_charAt F (-3) i h = some ((byW.getD i 0).toInt, h) := by
    have e : ∀ f, sln (-3) f = f 82 := fun f => rfl
    unfold Lat_charAt
    rw [e]
    unfold Str_checkIndex Prec_checkIndex
    rw [if_neg (by omega), if_pos (by omega)]
    show (if (-3 : Int) = -3 ∧ 0 ≤ (i : Int) ∧ (i : Int) < byW.length then (fun v4 => rc (i2c (iand v4 255)) h) (byW.getD (i : Int).toNat 0).toInt else _) = _
    rw [hl, if_pos ⟨rfl, by omega, by omega⟩, Int.toNat_natCast]
    show rc (i2c (iand (byW.getD i 0).toInt 255)) h = _
    unfold rc
    rw [e1, if_pos ⟨e2, e3⟩]
  rw [k]
  show rc _ _ = _
  unfold rc
  rw [if_pos ⟨e2, e3⟩]
theorem r_words {F L : Nat} {xs : Nat → Int32} : ∀ (bs : List Int32) (i n : Nat) (w : Int) (c : List Lgr), byW.drop i = bs → i ≤ 82 → bs.length < n → 0 ≤ w → w ≤ i → lkd 3 c = 103 → lrd 3 0 c = 4 → lkd 4 c = 3 → lln 4 c = 18 → 5 ≤ lsz c → Read_init_L62 F n 3 w i (lh (hini L xs) c) = some (0, lh (hini L xs) (wl bs w c)) := by
  intro bs
  induction bs with
  | nil =>
    intro i n w c hd hi hn w0 w1 k3 r3 k4 n4 z
    obtain ⟨n, rfl⟩ : ∃ j, n = j + 1 := ⟨n - 1, by omega⟩
    have hlen := congrArg List.length hd
    rw [List.length_drop, show byW.length = 82 from rfl] at hlen
    have hlen : 82 - i = 0 := hlen
    show Read_init_L62s F (Read_init_L62 F n) 3 w i _ = _
    unfold Read_init_L62s ivs
    rw [if_pos (Or.inl rfl), s_len, cl_s, if_neg (by omega)]
    rfl
  | cons b bs ih =>
    intro i n w c hd hi hn w0 w1 k3 r3 k4 n4 z
    obtain ⟨n, rfl⟩ : ∃ j, n = j + 1 := ⟨n - 1, by omega⟩
    have hlen := congrArg List.length hd
    rw [List.length_drop, show byW.length = 82 from rfl] at hlen
    have hlen : 82 - i = bs.length + 1 := hlen
    have hi2 : i < 82 := by omega
    have hb : byW.getD i 0 = b := by
      have : byW[i]? = some b := by
        have := congrArg (fun l => l[0]?) hd
        simp only [List.getElem?_drop, Nat.add_zero] at this
        exact this
      rw [List.getD_eq_getElem?_getD, this]
      rfl
    have hd2 : byW.drop (i + 1) = bs := by
      have := congrArg (List.drop 1) hd
      rw [List.drop_drop] at this
      exact this
    have hn2 : bs.length < n := by have : bs.length + 1 < n + 1 := hn; omega
    have g1 : (i : Int) < 82 := by omega
    have g2 : w + 1 ≤ ((i + 1 : Nat) : Int) := by omega
    have g3 : w ≤ ((i + 1 : Nat) : Int) := by omega
    have g4 : i + 1 ≤ 82 := by omega
    have g5 : 0 ≤ w + 1 := by omega
    have z3 : (3 : Int) < lsz c := by omega
    have z4 : (4 : Int) < lsz c := by omega
    have b1 : -2147483648 ≤ w + 1 := by omega
    have b2 : w + 1 < 2147483648 := by omega
    have a1 : w32 ((i : Int) + 1) = ((i + 1 : Nat) : Int) := by rw [w32_id (by omega) (by omega)]; omega
    have a2 : w32 (w + 1) = w + 1 := w32_id b1 b2
    show Read_init_L62s F (Read_init_L62 F n) 3 w i _ = _
    unfold Read_init_L62s ivs
    rw [if_pos (Or.inl rfl), s_len, cl_s, if_pos g1, if_pos (Or.inl rfl), s_at F _ i hi2, cl_s, hb, a1, a2]
    show _ = some (0, lh (hini L xs) (if b.toInt = 32 then wl bs (w + 1) c else if w < 18 then wl bs w ((1, 4, w, w64 (w64 (lrd 4 w c * 32) + w32 (w32 (b.toInt - 97) + 1)), 0) :: c) else wl bs w c))
    by_cases hsp : b.toInt = 32
    · rw [if_pos hsp, if_pos hsp]
      exact ih (i + 1) n (w + 1) c hd2 g4 hn2 g5 g2 k3 r3 k4 n4 z
    · rw [if_neg hsp, if_neg hsp]
      by_cases hw : w < 18
      · rw [if_pos hw, if_pos hw, gf_l, if_pos ⟨by decide, z3, k3⟩, gf_l, if_pos ⟨by decide, z3, k3⟩, r3, al_l, if_pos ⟨⟨by decide, z4, k4⟩, w0, by rw [n4]; exact hw⟩]
        unfold Read_withLetter
        rw [cl_s, as_l, if_pos ⟨⟨by decide, z4, k4⟩, w0, by rw [n4]; exact hw⟩]
        refine ih (i + 1) n w _ hd2 g4 hn2 w0 g3 ?_ ?_ ?_ ?_ ?_
        · rw [lkd_1]; exact k3
        · rw [lrd_1, if_neg (fun q => absurd q.1 (by decide))]; exact r3
        · rw [lkd_1]; exact k4
        · rw [lln_1]; exact n4
        · rw [lsz_1]; exact z
      · rw [if_neg hw, if_neg hw]
        exact ih (i + 1) n w c hd2 g4 hn2 w0 g3 k3 r3 k4 n4 z
/-- a cell of which no row speaks but its making -/
def lno (b : Int) : List Lgr → Bool
  | [] => true
  | (0, _) :: c => lno b c
  | (_ + 1, a, _) :: c => decide (¬ b = a) && lno b c
theorem lrd_no {b : Int} (j : Int) : ∀ c, lno b c = true → lrd b j c = 0
  | [], _ => rfl
  | (0, a, _, _, _) :: c, g => by
    show (if b = a then 0 else lrd b j c) = 0
    rw [lrd_no j c g]
    split <;> rfl
  | (1, a, x, y, _) :: c, g => by
    have g' : (decide (¬ b = a) && lno b c) = true := g
    rw [Bool.and_eq_true, decide_eq_true_eq] at g'
    show (if b = a ∧ j = x then y else lrd b j c) = 0
    rw [if_neg (fun q => g'.1 q.1), lrd_no j c g'.2]
  | (_ + 2, a, x, y, _) :: c, g => by
    have g' : (decide (¬ b = a) && lno b c) = true := g
    rw [Bool.and_eq_true, decide_eq_true_eq] at g'
    show (if b = a ∧ 0 ≤ j ∧ j < x then y else lrd b j c) = 0
    rw [if_neg (fun q => g'.1 q.1), lrd_no j c g'.2]
theorem lh_ext {g h : Hp} (h1 : hsz g = hsz h) (h2 : hus g = hus h) (h3 : hkd g = hkd h) (h4 : hln g = hln h) (h5 : ∀ b j, rd g b j = rd h b j) : g = h := by
  obtain ⟨a1, a2, a3, a4, a5⟩ := g
  obtain ⟨b1, b2, b3, b4, b5⟩ := h
  have e5 : a5 = b5 := funext fun b => funext fun j => h5 b j
  have h1 : a1 = b1 := h1
  have h2 : a2 = b2 := h2
  have h3 : a3 = b3 := h3
  have h4 : a4 = b4 := h4
  rw [h1, h2, h3, h4, e5]
