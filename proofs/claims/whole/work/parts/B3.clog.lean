/-! logs: a heap told by what was made and written, the newest first; kinds of rows: 0 a new cell (address, kind, length, room), 1 a value (address, place, value), 2 a value many times (address, how many, value) -/
abbrev Lgr : Type := Nat × Int × Int × Int × Int
def lh (g : Hp) : List Lgr → Hp
  | [] => g
  | (0, a, x, y, z) :: c => (a + 1, hus (lh g c) + z, fun b => if b = a then x.toNat else hkd (lh g c) b, fun b => if b = a then y else hln (lh g c) b, fun b j => if b = a then 0 else rd (lh g c) b j)
  | (1, a, x, y, _) :: c => wr (lh g c) a x y
  | (_ + 2, a, x, y, _) :: c => (hsz (lh g c), hus (lh g c), hkd (lh g c), hln (lh g c), fun b j => if b = a ∧ 0 ≤ j ∧ j < x then y else rd (lh g c) b j)
def lsz : List Lgr → Int
  | [] => 1
  | (0, a, _, _, _) :: _ => a + 1
  | (_ + 1, _) :: c => lsz c
def lus : List Lgr → Int
  | [] => 0
  | (0, _, _, _, z) :: c => lus c + z
  | (_ + 1, _) :: c => lus c
def lkd (b : Int) : List Lgr → Nat
  | [] => 0
  | (0, a, x, _, _) :: c => if b = a then x.toNat else lkd b c
  | (_ + 1, _) :: c => lkd b c
def lln (b : Int) : List Lgr → Int
  | [] => 0
  | (0, a, _, y, _) :: c => if b = a then y else lln b c
  | (_ + 1, _) :: c => lln b c
def lrd (b j : Int) : List Lgr → Int
  | [] => 0
  | (0, a, _, _, _) :: c => if b = a then 0 else lrd b j c
  | (1, a, x, y, _) :: c => if b = a ∧ j = x then y else lrd b j c
  | (_ + 2, a, x, y, _) :: c => if b = a ∧ 0 ≤ j ∧ j < x then y else lrd b j c
theorem hsz_lh (L : Nat) (xs : Nat → Int32) : ∀ c, hsz (lh (hini L xs) c) = lsz c
  | [] => rfl
  | (0, _, _, _, _) :: _ => rfl
  | (1, _, _, _, _) :: c => hsz_lh L xs c
  | (_ + 2, _, _, _, _) :: c => hsz_lh L xs c
theorem hus_lh (L : Nat) (xs : Nat → Int32) : ∀ c, hus (lh (hini L xs) c) = lus c
  | [] => rfl
  | (0, _, _, _, z) :: c => by show hus (lh (hini L xs) c) + z = lus c + z; rw [hus_lh L xs c]
  | (1, _, _, _, _) :: c => hus_lh L xs c
  | (_ + 2, _, _, _, _) :: c => hus_lh L xs c
theorem hkd_lh (L : Nat) (xs : Nat → Int32) (b : Int) : ∀ c, hkd (lh (hini L xs) c) b = lkd b c
  | [] => rfl
  | (0, a, x, _, _) :: c => by show (if b = a then x.toNat else hkd (lh (hini L xs) c) b) = if b = a then x.toNat else lkd b c; rw [hkd_lh L xs b c]
  | (1, _, _, _, _) :: c => hkd_lh L xs b c
  | (_ + 2, _, _, _, _) :: c => hkd_lh L xs b c
theorem hln_lh (L : Nat) (xs : Nat → Int32) {b : Int} (hb : b ≠ -1) : ∀ c, hln (lh (hini L xs) c) b = lln b c
  | [] => if_neg hb
  | (0, a, _, y, _) :: c => by show (if b = a then y else hln (lh (hini L xs) c) b) = if b = a then y else lln b c; rw [hln_lh L xs hb c]
  | (1, _, _, _, _) :: c => hln_lh L xs hb c
  | (_ + 2, _, _, _, _) :: c => hln_lh L xs hb c
theorem rd_lh (L : Nat) (xs : Nat → Int32) {b : Int} (hb : b ≠ -1) (j : Int) : ∀ c, rd (lh (hini L xs) c) b j = lrd b j c
  | [] => if_neg hb
  | (0, a, _, _, _) :: c => by show (if b = a then 0 else rd (lh (hini L xs) c) b j) = if b = a then 0 else lrd b j c; rw [rd_lh L xs hb j c]
  | (1, a, x, y, _) :: c => by show (if b = a ∧ j = x then y else rd (lh (hini L xs) c) b j) = if b = a ∧ j = x then y else lrd b j c; rw [rd_lh L xs hb j c]
  | (_ + 2, a, x, y, _) :: c => by show (if b = a ∧ 0 ≤ j ∧ j < x then y else rd (lh (hini L xs) c) b j) = if b = a ∧ 0 ≤ j ∧ j < x then y else lrd b j c; rw [rd_lh L xs hb j c]
/-- no row of the log speaks of the script -/
def lpo : List Lgr → Bool
  | [] => true
  | (_, a, _) :: c => decide (1 ≤ a) && lpo c
theorem hln_sc (L : Nat) (xs : Nat → Int32) : ∀ c, lpo c = true → hln (lh (hini L xs) c) (-1) = L
  | [], _ => by show (if (-1 : Int) = -1 then (L : Int) else 0) = L; rw [if_pos rfl]
  | (0, a, _, y, _) :: c, g => by
    have g' : (decide (1 ≤ a) && lpo c) = true := g
    rw [Bool.and_eq_true, decide_eq_true_eq] at g'
    show (if -1 = a then y else hln (lh (hini L xs) c) (-1)) = _
    rw [if_neg (by omega), hln_sc L xs c g'.2]
  | (1, a, _, _, _) :: c, g => by
    have g' : (decide (1 ≤ a) && lpo c) = true := g
    rw [Bool.and_eq_true] at g'
    exact hln_sc L xs c g'.2
  | (_ + 2, a, _, _, _) :: c, g => by
    have g' : (decide (1 ≤ a) && lpo c) = true := g
    rw [Bool.and_eq_true] at g'
    exact hln_sc L xs c g'.2
theorem vo_lh {L : Nat} {xs : Nat → Int32} {c : List Lgr} {a : Int} {κ : Nat} : vo (lh (hini L xs) c) a κ ↔ (1 ≤ a ∧ a < lsz c ∧ lkd a c = κ) := by
  unfold vo
  rw [hsz_lh, hkd_lh]
theorem nw_lh {L : Nat} {xs : Nat → Int32} {c : List Lgr} {κ : Nat} {n u : Int} : nw (lh (hini L xs) c) κ n u = lh (hini L xs) ((0, lsz c, (κ : Int), n, u) :: c) := by
  have e := hsz_lh L xs c
  show (hsz (lh (hini L xs) c) + 1, hus (lh (hini L xs) c) + u, (fun b => if b = hsz (lh (hini L xs) c) then κ else hkd (lh (hini L xs) c) b), (fun b => if b = hsz (lh (hini L xs) c) then n else hln (lh (hini L xs) c) b), fun b j => if b = hsz (lh (hini L xs) c) then 0 else rd (lh (hini L xs) c) b j) = _
  rw [e]
  rfl
/-! rules -/
theorem na_l {L : Nat} {xs : Nat → Int32} {c : List Lgr} {κ : Nat} {n : Int} {f : Int → Hp → Option (Int × Hp)} : na (lh (hini L xs) c) κ n f = if 0 ≤ n ∧ n ≤ 1000000 then f (lsz c) (lh (hini L xs) ((0, lsz c, (κ : Int), n, n) :: c)) else none := by
  unfold na
  rw [nw_lh, hsz_lh]
theorem no_l {L : Nat} {xs : Nat → Int32} {c : List Lgr} {κ : Nat} {n : Int} {f : Int → Hp → Option (Int × Hp)} : no (lh (hini L xs) c) κ n f = f (lsz c) (lh (hini L xs) ((0, lsz c, (κ : Int), 0, n) :: c)) := by
  unfold no
  rw [nw_lh, hsz_lh]
theorem vc_l {L : Nat} {xs : Nat → Int32} {c : List Lgr} {a : Int} {κ : Nat} {o : Option (Int × Hp)} : vc (lh (hini L xs) c) a κ o = if (1 ≤ a ∧ a < lsz c ∧ lkd a c = κ) then o else none := by
  unfold vc
  simp only [vo_lh]
theorem iv_l {L : Nat} {xs : Nat → Int32} {c : List Lgr} {a : Int} {κ : Nat} {o : Option (Int × Hp)} {f : Int → Hp → Option (Int × Hp)} : iv (lh (hini L xs) c) a κ o f = if (1 ≤ a ∧ a < lsz c ∧ lkd a c = κ) then cl o f else none := by
  unfold iv
  simp only [vo_lh]
theorem gf_l {L : Nat} {xs : Nat → Int32} {c : List Lgr} {a k : Int} {κ : Nat} {f : Int → Option (Int × Hp)} : gf (lh (hini L xs) c) a κ k f = if (1 ≤ a ∧ a < lsz c ∧ lkd a c = κ) then f (lrd a k c) else none := by
  unfold gf
  simp only [vo_lh]
  split
  · rename_i h
    rw [rd_lh L xs (by omega)]
  · rfl
theorem pf_l {L : Nat} {xs : Nat → Int32} {c : List Lgr} {a k x : Int} {κ : Nat} {f : Hp → Option (Int × Hp)} : pf (lh (hini L xs) c) a κ k x f = if (1 ≤ a ∧ a < lsz c ∧ lkd a c = κ) then f (lh (hini L xs) ((1, a, k, x, 0) :: c)) else none := by
  unfold pf
  simp only [vo_lh]
  rfl
theorem pz_l {L : Nat} {xs : Nat → Int32} {c : List Lgr} {a k x : Int} {κ : Nat} {f : Hp → Option (Int × Hp)} : pz (lh (hini L xs) c) a κ k x f = if (1 ≤ a ∧ a < lsz c ∧ lkd a c = κ) ∧ (x = 0 ∨ x = 1) then f (lh (hini L xs) ((1, a, k, x, 0) :: c)) else none := by
  unfold pz
  simp only [vo_lh]
  rfl
theorem al_l {L : Nat} {xs : Nat → Int32} {c : List Lgr} {a i : Int} {κ : Nat} {f : Int → Option (Int × Hp)} : al (lh (hini L xs) c) a κ i f = if (1 ≤ a ∧ a < lsz c ∧ lkd a c = κ) ∧ 0 ≤ i ∧ i < lln a c then f (lrd a i c) else none := by
  unfold al
  simp only [vo_lh]
  by_cases h : 1 ≤ a ∧ a < lsz c ∧ lkd a c = κ
  · rw [hln_lh L xs (by omega), rd_lh L xs (by omega)]
  · rw [if_neg (fun q => h q.1), if_neg (fun q => h q.1)]
theorem as_l {L : Nat} {xs : Nat → Int32} {c : List Lgr} {a i x : Int} {κ : Nat} {f : Hp → Option (Int × Hp)} : as (lh (hini L xs) c) a κ i x f = if (1 ≤ a ∧ a < lsz c ∧ lkd a c = κ) ∧ 0 ≤ i ∧ i < lln a c then f (lh (hini L xs) ((1, a, i, x, 0) :: c)) else none := by
  unfold as
  simp only [vo_lh]
  by_cases h : 1 ≤ a ∧ a < lsz c ∧ lkd a c = κ
  · rw [hln_lh L xs (by omega)]
    rfl
  · rw [if_neg (fun q => h q.1), if_neg (fun q => h q.1)]
theorem az_l {L : Nat} {xs : Nat → Int32} {c : List Lgr} {a i x : Int} {f : Hp → Option (Int × Hp)} : az (lh (hini L xs) c) a i x f = if (1 ≤ a ∧ a < lsz c ∧ lkd a c = 2) ∧ 0 ≤ i ∧ i < lln a c ∧ (x = 0 ∨ x = 1) then f (lh (hini L xs) ((1, a, i, x, 0) :: c)) else none := by
  unfold az
  simp only [vo_lh]
  by_cases h : 1 ≤ a ∧ a < lsz c ∧ lkd a c = 2
  · rw [hln_lh L xs (by omega)]
    rfl
  · rw [if_neg (fun q => h q.1), if_neg (fun q => h q.1)]
theorem ar_l {L : Nat} {xs : Nat → Int32} {c : List Lgr} {a i x : Int} {κ kx : Nat} {f : Hp → Option (Int × Hp)} : ar (lh (hini L xs) c) a κ i x kx f = if (1 ≤ a ∧ a < lsz c ∧ lkd a c = κ) ∧ 0 ≤ i ∧ i < lln a c ∧ (1 ≤ x ∧ x < lsz c ∧ lkd x c = kx) then f (lh (hini L xs) ((1, a, i, x, 0) :: c)) else none := by
  unfold ar
  simp only [vo_lh]
  by_cases h : 1 ≤ a ∧ a < lsz c ∧ lkd a c = κ
  · rw [hln_lh L xs (by omega)]
    rfl
  · rw [if_neg (fun q => h q.1), if_neg (fun q => h q.1)]
theorem aln_l {L : Nat} {xs : Nat → Int32} {c : List Lgr} {a : Int} {κ : Nat} {f : Int → Option (Int × Hp)} : aln (lh (hini L xs) c) a κ f = if (1 ≤ a ∧ a < lsz c ∧ lkd a c = κ) then f (lln a c) else none := by
  unfold aln
  simp only [vo_lh]
  split
  · rename_i h
    rw [hln_lh L xs (by omega)]
  · rfl
theorem cl_s (r : Int) (h : Hp) (f : Int → Hp → Option (Int × Hp)) : cl (some (r, h)) f = f r h := rfl
/-! reading a log -/
theorem lsz_0 {a x y z : Int} {c : List Lgr} : lsz ((0, a, x, y, z) :: c) = a + 1 := Eq.trans rfl rfl
theorem lsz_1 {a x y z : Int} {c : List Lgr} : lsz ((1, a, x, y, z) :: c) = lsz c := Eq.trans rfl rfl
theorem lsz_2 {a x y z : Int} {c : List Lgr} : lsz ((2, a, x, y, z) :: c) = lsz c := Eq.trans rfl rfl
theorem lkd_0 {b a x y z : Int} {c : List Lgr} : lkd b ((0, a, x, y, z) :: c) = if b = a then x.toNat else lkd b c := Eq.trans rfl rfl
theorem lkd_1 {b a x y z : Int} {c : List Lgr} : lkd b ((1, a, x, y, z) :: c) = lkd b c := Eq.trans rfl rfl
theorem lkd_2 {b a x y z : Int} {c : List Lgr} : lkd b ((2, a, x, y, z) :: c) = lkd b c := Eq.trans rfl rfl
theorem lln_0 {b a x y z : Int} {c : List Lgr} : lln b ((0, a, x, y, z) :: c) = if b = a then y else lln b c := Eq.trans rfl rfl
theorem lln_1 {b a x y z : Int} {c : List Lgr} : lln b ((1, a, x, y, z) :: c) = lln b c := Eq.trans rfl rfl
theorem lln_2 {b a x y z : Int} {c : List Lgr} : lln b ((2, a, x, y, z) :: c) = lln b c := Eq.trans rfl rfl
theorem lrd_0 {b j a x y z : Int} {c : List Lgr} : lrd b j ((0, a, x, y, z) :: c) = if b = a then 0 else lrd b j c := Eq.trans rfl rfl
theorem lrd_1 {b j a x y z : Int} {c : List Lgr} : lrd b j ((1, a, x, y, z) :: c) = if b = a ∧ j = x then y else lrd b j c := Eq.trans rfl rfl
theorem lrd_2 {b j a x y z : Int} {c : List Lgr} : lrd b j ((2, a, x, y, z) :: c) = if b = a ∧ 0 ≤ j ∧ j < x then y else lrd b j c := Eq.trans rfl rfl
theorem kc0 : ((0 : Nat) : Int) = 0 := Eq.trans rfl rfl
theorem kc1 : ((1 : Nat) : Int) = 1 := Eq.trans rfl rfl
theorem kc2 : ((2 : Nat) : Int) = 2 := Eq.trans rfl rfl
theorem kc3 : ((3 : Nat) : Int) = 3 := Eq.trans rfl rfl
theorem kc4 : ((4 : Nat) : Int) = 4 := Eq.trans rfl rfl
theorem kc5 : ((5 : Nat) : Int) = 5 := Eq.trans rfl rfl
theorem kc6 : ((6 : Nat) : Int) = 6 := Eq.trans rfl rfl
theorem kc7 : ((7 : Nat) : Int) = 7 := Eq.trans rfl rfl
theorem kc100 : ((100 : Nat) : Int) = 100 := Eq.trans rfl rfl
theorem kc101 : ((101 : Nat) : Int) = 101 := Eq.trans rfl rfl
theorem kc102 : ((102 : Nat) : Int) = 102 := Eq.trans rfl rfl
theorem kc103 : ((103 : Nat) : Int) = 103 := Eq.trans rfl rfl
theorem kc104 : ((104 : Nat) : Int) = 104 := Eq.trans rfl rfl
theorem kc105 : ((105 : Nat) : Int) = 105 := Eq.trans rfl rfl
theorem kc106 : ((106 : Nat) : Int) = 106 := Eq.trans rfl rfl
theorem kc107 : ((107 : Nat) : Int) = 107 := Eq.trans rfl rfl
theorem kc108 : ((108 : Nat) : Int) = 108 := Eq.trans rfl rfl
theorem kc109 : ((109 : Nat) : Int) = 109 := Eq.trans rfl rfl
theorem kc110 : ((110 : Nat) : Int) = 110 := Eq.trans rfl rfl
theorem kc111 : ((111 : Nat) : Int) = 111 := Eq.trans rfl rfl
theorem kc112 : ((112 : Nat) : Int) = 112 := Eq.trans rfl rfl
