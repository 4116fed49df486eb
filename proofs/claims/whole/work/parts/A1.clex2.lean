/-! the class cuts the text, whole -/
theorem ok5 : ∀ i, okW 5 i = true := fun i => okW_arr (by decide) (fun _ => by decide)
theorem ok6 : ∀ i, okW 6 i = true := fun i => okW_arr (by decide) (fun _ => by decide)
theorem ok7 : ∀ i, okW 7 i = true := fun i => okW_arr (by decide) (fun _ => by decide)
/-- the bytes on the class's tape -/
def BtC (h : Hp) : Prop := ∀ i, 0 ≤ i → i < 2000 → -128 ≤ rd h 2 i ∧ rd h 2 i ≤ 127
theorem c_letters {F : Nat} {h : Hp} {i n : Int} {z : Nat} (hF : 3000 ≤ F) (s : Sh h) (wd : WdI h) (hi : 0 ≤ i ∧ i < n) (hn : n ≤ 2000) (hz : z ≤ 400) : ∃ v, Read_takeLetters F 3 2 i n z h = some (i + run isL (rd h 2) (n - i).toNat i, wr (wr h 6 z v) 5 z (if 8 < run isL (rd h 2) (n - i).toNat i then 21 else (kdW (ltr (rd h 2) i (run isL (rd h 2) (n - i).toNat i)) : Int))) ∧ (run isL (rd h 2) (n - i).toNat i ≤ 8 → v = enc 32 (ltr (rd h 2) i (run isL (rd h 2) (n - i).toNat i))) := by
  have hrl := run_le isL (rd h 2) (n - i).toNat i
  have hri := run_in isL (rd h 2) (n - i).toNat i
  have hre := run_end isL (rd h 2) (n - i).toNat i
  have hbt : ∀ j : Nat, j < run isL (rd h 2) (n - i).toNat i → 97 ≤ rd h 2 (i + j) ∧ rd h 2 (i + j) ≤ 122 := fun j hj => by
    have := hri j hj
    unfold isL at this
    rw [decide_eq_true_eq] at this
    exact this
  generalize hR : run isL (rd h 2) (n - i).toNat i = R at *
  refine ⟨nmv (rd h 2) i R, ?_, fun q => (nmv_enc R q hri).1⟩
  have fin : Read_takeLetters_B39 F 3 i z (i + R) (nmv (rd h 2) i R) h = some (i + R, wr (wr h 6 z (nmv (rd h 2) i R)) 5 z (if 8 < R then 21 else (kdW (ltr (rd h 2) i R) : Int))) := by
    have s1 : Sh (wr h 6 z (nmv (rd h 2) i R)) := shOk s (ok6 _)
    unfold Read_takeLetters_B39
    rw [gR2 s, sR2 s (by omega) (by omega), gR1 s1, w32_id (by omega) (by omega)]
    by_cases c : 8 < R
    · rw [if_pos (by omega), if_pos c, sR1 s1 (by omega) (by omega)]
    · have wd1 : WdI (wr h 6 z (nmv (rd h 2) i R)) := fun k hk => by rw [rd_wr_ne (by decide)]; exact wd k hk
      rw [if_neg (by omega), if_neg c, (nmv_enc R (by omega) hri).1, ivR (by rw [← (nmv_enc R (by omega) hri).1]; exact s1), c_kindOf (by omega) (by rw [← (nmv_enc R (by omega) hri).1]; exact s1) (by rw [← (nmv_enc R (by omega) hri).1]; exact wd1) (ltr_ok R hri), cl_some, sR1 (by rw [← (nmv_enc R (by omega) hri).1]; exact s1) (by omega) (by omega)]
  unfold Read_takeLetters
  have key := loop0 (fun N k => Read_takeLetters_L6 F N 3 2 i n z (i + (k : Nat)) (nmv (rd h 2) i k) h) R F (some (i + (R : Int), wr (wr h 6 z (nmv (rd h 2) i R)) 5 z (if 8 < R then 21 else (kdW (ltr (rd h 2) i R) : Int)))) (by omega) (fun N k hk => ?_) (fun N => ?_)
  · have e0 : i + ((0 : Nat) : Int) = i := by omega
    rw [show Read_takeLetters_L6 F F 3 2 i n z i 0 h = Read_takeLetters_L6 F F 3 2 i n z (i + ((0 : Nat) : Int)) (nmv (rd h 2) i 0) h by rw [e0]; rfl]
    exact key
  · have hb := hbt k hk
    have hl := hri k hk
    show Read_takeLetters_L6s F (Read_takeLetters_L6 F N) 3 2 i n z (i + (k : Nat)) (nmv (rd h 2) i k) h = _
    unfold Read_takeLetters_L6s
    rw [if_pos (by omega), aT0 s (by omega) (by omega), c_isLetter, cl_some, hl, if_pos rfl, if_neg (by decide), aT0 s (by omega) (by omega)]
    unfold Read_withLetter
    rw [cl_some, w32_id (x := rd h 2 (i + (k : Nat)) - 97) (by omega) (by omega), w32_id (x := rd h 2 (i + (k : Nat)) - 97 + 1) (by omega) (by omega), w32_id (x := i + (k : Nat) + 1) (by omega) (by omega), show i + (k : Int) + 1 = i + ((k + 1 : Nat) : Int) by omega, show rd h 2 (i + (k : Int)) - 97 + 1 = rd h 2 (i + (k : Int)) - 96 by omega]
    rfl
  · show Read_takeLetters_L6s F (Read_takeLetters_L6 F N) 3 2 i n z (i + (R : Nat)) (nmv (rd h 2) i R) h = _
    unfold Read_takeLetters_L6s
    by_cases c : i + (R : Int) < n
    · have he : isL (rd h 2 (i + (R : Int))) = false := hre (by omega)
      rw [if_pos c, aT0 s (by omega) (by omega), c_isLetter, cl_some, he, b01, if_pos rfl]
      exact fin
    · rw [if_neg c]; exact fin
theorem c_digits {F : Nat} {h : Hp} {i n : Int} {z : Nat} (hF : 3000 ≤ F) (s : Sh h) (hi : 0 ≤ i ∧ i < n) (hn : n ≤ 2000) (hz : z ≤ 400) : ∃ v, Read_takeDigits F 3 2 i n z h = some (i + run isD (rd h 2) (n - i).toNat i, wr (wr h 6 z v) 5 z (if 4 < run isD (rd h 2) (n - i).toNat i then 21 else 19)) ∧ (run isD (rd h 2) (n - i).toNat i ≤ 4 → v = vlD (rd h 2) i (run isD (rd h 2) (n - i).toNat i) ∧ 0 ≤ v ∧ v ≤ 9999) := by
  have hrl := run_le isD (rd h 2) (n - i).toNat i
  have hri := run_in isD (rd h 2) (n - i).toNat i
  have hre := run_end isD (rd h 2) (n - i).toNat i
  generalize hR : run isD (rd h 2) (n - i).toNat i = R at *
  refine ⟨nmd (rd h 2) i R, ?_, fun q => ?_⟩
  · have fin : Read_takeDigits_B43 F 3 i z (i + R) (nmd (rd h 2) i R) h = some (i + R, wr (wr h 6 z (nmd (rd h 2) i R)) 5 z (if 4 < R then 21 else 19)) := by
      have s1 : Sh (wr h 6 z (nmd (rd h 2) i R)) := shOk s (ok6 _)
      unfold Read_takeDigits_B43
      rw [gR2 s, sR2 s (by omega) (by omega), gR1 s1, w32_id (by omega) (by omega)]
      by_cases c : 4 < R
      · rw [if_pos (by omega), if_pos c, sR1 s1 (by omega) (by omega)]
      · rw [if_neg (by omega), if_neg c, sR1 s1 (by omega) (by omega)]
    unfold Read_takeDigits
    have key := loop0 (fun N k => Read_takeDigits_L6 F N 3 2 i n z (i + (k : Nat)) (nmd (rd h 2) i k) h) R F (some (i + (R : Int), wr (wr h 6 z (nmd (rd h 2) i R)) 5 z (if 4 < R then 21 else 19))) (by omega) (fun N k hk => ?_) (fun N => ?_)
    · have e0 : i + ((0 : Nat) : Int) = i := by omega
      rw [show Read_takeDigits_L6 F F 3 2 i n z i 0 h = Read_takeDigits_L6 F F 3 2 i n z (i + ((0 : Nat) : Int)) (nmd (rd h 2) i 0) h by rw [e0]; rfl]
      exact key
    · have hl := hri k hk
      show Read_takeDigits_L6s F (Read_takeDigits_L6 F N) 3 2 i n z (i + (k : Nat)) (nmd (rd h 2) i k) h = _
      unfold Read_takeDigits_L6s
      rw [if_pos (by omega), aT0 s (by omega) (by omega), c_isDigit, cl_some, hl, if_pos rfl, if_neg (by decide), aT0 s (by omega) (by omega), lt_eq, w32_id (x := i + (k : Nat) + 1) (by omega) (by omega), show i + (k : Int) + 1 = i + ((k + 1 : Nat) : Int) by omega]
      rfl
    · show Read_takeDigits_L6s F (Read_takeDigits_L6 F N) 3 2 i n z (i + (R : Nat)) (nmd (rd h 2) i R) h = _
      unfold Read_takeDigits_L6s
      by_cases c : i + (R : Int) < n
      · have he : isD (rd h 2 (i + (R : Int))) = false := hre (by omega)
        rw [if_pos c, aT0 s (by omega) (by omega), c_isDigit, cl_some, he, b01, if_pos rfl]
        exact fin
      · rw [if_neg c]; exact fin
  · obtain ⟨e1, e2, e3⟩ := nmd_vl (B := rd h 2) (i := i) R q hri
    have hp : (10 : Int) ^ R ≤ 10 ^ 4 := by
      have : (10 : Nat) ^ R ≤ 10 ^ 4 := Nat.pow_le_pow_right (by decide) q
      exact_mod_cast this
    have h4 : (10 : Int) ^ 4 = 10000 := by decide
    rw [e1]
    exact ⟨rfl, e2, by omega⟩
/-- the TOKENS told so far -/
def CIc (h0 h : Hp) (ts : List Tkn) : Prop := (hsz h = hsz h0 ∧ hus h = hus h0 ∧ hkd h = hkd h0 ∧ hln h = hln h0) ∧ Sh h ∧ (∀ a : Int, a ≠ 5 → a ≠ 6 → a ≠ 7 → rd h a = rd h0 a) ∧ (∀ t : Nat, ∀ q : Tkn, ts[t]? = some q → rd h 5 t = q.1 ∧ rd h 7 t = q.2.1 ∧ (q.1 = 19 → rd h 6 t = q.2.2.1) ∧ (q.1 = 18 → rd h 6 t = enc 32 q.2.2.2)) ∧ CkI h
def CEc (h0 h : Hp) (n : Int) (ts : List Tkn) : Prop := (hsz h = hsz h0 ∧ hus h = hus h0 ∧ hkd h = hkd h0 ∧ hln h = hln h0) ∧ Sh h ∧ (∀ a : Int, a ≠ 5 → a ≠ 6 → a ≠ 7 → rd h a = rd h0 a) ∧ (∀ t : Nat, t ≤ 400 → ∀ q : Tkn, ts[t]? = some q → rd h 5 t = q.1 ∧ rd h 7 t = q.2.1 ∧ (q.1 = 19 → rd h 6 t = q.2.2.1) ∧ (q.1 = 18 → rd h 6 t = enc 32 q.2.2.2)) ∧ (ts.length ≤ 400 → rd h 5 ts.length = 20 ∧ rd h 7 ts.length = n) ∧ CkI h
theorem get_app {ts : List Tkn} {q x : Tkn} {t : Nat} (h : (ts ++ [q])[t]? = some x) : (t < ts.length ∧ ts[t]? = some x) ∨ (t = ts.length ∧ x = q) := by
  by_cases c : t < ts.length
  · rw [List.getElem?_append_left c] at h; exact Or.inl ⟨c, h⟩
  · rw [List.getElem?_append_right (by omega)] at h
    by_cases e : t = ts.length
    · subst e
      rw [Nat.sub_self] at h
      exact Or.inr ⟨rfl, by cases h; rfl⟩
    · obtain ⟨k, hk⟩ : ∃ k, t - ts.length = k + 1 := ⟨t - ts.length - 1, by omega⟩
      rw [hk] at h
      cases h
/-- a TOKEN more -/
theorem CIc_tk {h0 h : Hp} {ts : List Tkn} {q : Tkn} {v : Int} (g : CIc h0 h ts) (hl : ts.length ≤ 400) (hv : q.1 = 19 → v = q.2.2.1 ∧ 0 ≤ v ∧ v ≤ 9999) (hm : q.1 = 18 → v = enc 32 q.2.2.2) : CIc h0 (wr (wr (wr h 6 ts.length v) 5 ts.length q.1) 7 ts.length q.2.1) (ts ++ [q]) := by
  obtain ⟨g1, g2, g3, g4, g5⟩ := g
  refine ⟨g1, shOk (shOk (shOk g2 (ok6 _)) (ok5 _)) (ok7 _), fun a a5 a6 a7 => by rw [rd_wr_ne a7, rd_wr_ne a5, rd_wr_ne a6]; exact g3 a a5 a6 a7, fun t x hx => ?_, fun t ht h19 => ?_⟩
  · rcases get_app hx with ⟨c, e⟩ | ⟨c, e⟩
    · rw [rd_a (by decide), rd_i (by omega), rd_a (by decide), rd_i (by omega), rd_a (by decide), rd_a (by decide), rd_a (by decide), rd_a (by decide), rd_i (by omega)]
      exact g4 t x e
    · subst c; subst e
      rw [rd_a (by decide), rd_same, rd_same, rd_a (by decide), rd_a (by decide), rd_same]
      exact ⟨rfl, rfl, fun q => (hv q).1, hm⟩
  · rw [rd_a (by decide)] at h19
    rw [rd_a (by decide), rd_a (by decide)]
    by_cases c : t = ts.length
    · subst c
      rw [rd_same] at h19
      rw [rd_same]
      exact (hv h19).2
    · rw [rd_i (by omega), rd_a (by decide)] at h19
      rw [rd_i (by omega)]
      exact g5 t ht h19
theorem CIc_tk0 {h0 h : Hp} {ts : List Tkn} {q : Tkn} (g : CIc h0 h ts) (hl : ts.length ≤ 400) (hv : q.1 ≠ 19 ∧ q.1 ≠ 18) : CIc h0 (wr (wr h 5 ts.length q.1) 7 ts.length q.2.1) (ts ++ [q]) := by
  have := CIc_tk (q := q) (v := rd h 6 ts.length) g hl (fun z => absurd z hv.1) (fun z => absurd z hv.2)
  rw [show wr h 6 (ts.length : Int) (rd h 6 ts.length) = h by
    rw [wr_sr, show up (rd h 6) (ts.length : Int) (rd h 6 ts.length) = rd h 6 by
      funext j
      unfold up
      by_cases e : j = ts.length
      · rw [if_pos e, e]
      · rw [if_neg e], sr_self]] at this
  exact this
theorem CIc_end {F : Nat} {h0 h : Hp} {ts r : List Tkn} {n : Int} (g : CIc h0 h ts) (hl : ts.length ≤ 401) (hr : ts.length ≤ 400 → r = []) : T (Read_split_B160 F 3 n ts.length h) (fun _ h' => CEc h0 h' n (ts ++ r)) := by
  obtain ⟨g1, g2, g3, g4, g5⟩ := g
  have s1 : Sh (wr h 5 ts.length 20) := shOk g2 (ok5 _)
  unfold Read_split_B160
  rw [gR1 g2, sR1 g2 (by omega) (by omega), gR3 s1, sR3 s1 (by omega) (by omega)]
  refine T_some ⟨g1, shOk s1 (ok7 _), fun a a5 a6 a7 => by rw [rd_wr_ne a7, rd_wr_ne a5]; exact g3 a a5 a6 a7, fun t ht q hq => ?_, fun hl2 => ?_, fun t ht h19 => ?_⟩
  · have hlt : t < ts.length := by
      by_cases c : ts.length ≤ 400
      · rw [hr c, List.append_nil] at hq
        by_cases z : t < ts.length
        · exact z
        · rw [List.getElem?_eq_none (by omega)] at hq; cases hq
      · omega
    rw [List.getElem?_append_left hlt] at hq
    rw [rd_a (by decide), rd_i (by omega), rd_i (by omega), rd_a (by decide), rd_a (by decide), rd_a (by decide)]
    exact g4 t q hq
  · have hl3 : ts.length ≤ 400 := by rw [List.length_append] at hl2; omega
    rw [hr hl3, List.append_nil, rd_a (by decide), rd_same, rd_same]
    exact ⟨rfl, rfl⟩
  · rw [rd_a (by decide)] at h19
    rw [rd_a (by decide), rd_a (by decide)]
    by_cases c : t = ts.length
    · subst c; rw [rd_same] at h19; exact absurd h19 (by decide)
    · rw [rd_i (by omega)] at h19; exact g5 t ht h19
