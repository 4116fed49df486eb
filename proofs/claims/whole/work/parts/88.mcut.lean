/-! the reference cuts the text -/
theorem w64_id {x : Int} (h1 : -9223372036854775808 ≤ x) (h2 : x < 9223372036854775808) : w64 x = x := by unfold w64; exact Int.bmod_eq_of_le (by omega) (by omega)
def u8 (v : Int) : Int := if v < 0 then v + 256 else v
theorem iand_u8 {v : Int} (h : -128 ≤ v ∧ v ≤ 127) : iand v 255 = u8 v := by
  have key : ∀ k : Nat, k < 256 → iand ((k : Int) - 128) 255 = u8 ((k : Int) - 128) := by decide +kernel
  have := key (v + 128).toNat (by omega)
  rw [show (((v + 128).toNat : Nat) : Int) - 128 = v by omega] at this
  exact this
/-- the bytes that are read -/
def Byt (h : Hp) (n : Int) : Prop := rd h 194 4 = n ∧ (0 ≤ n ∧ n ≤ 2000) ∧ ∀ i, 0 ≤ i → i < 2000 → -128 ≤ rd h 196 i ∧ rd h 196 i ≤ 127
def btA (h : Hp) (n i : Int) : Int := if i < n then u8 (rd h 196 i) else 0
theorem m_byteAt {F : Nat} {h : Hp} {n i : Int} (s : Sh h) (b : Byt h n) (hi : 0 ≤ i) : Mod_byteAt F 194 i h = some (btA h n i, h) := by
  unfold Mod_byteAt btA
  rw [gM4 s, b.1]
  by_cases c : i < n
  · have := b.2.1
    rw [if_pos c, if_pos c, gM3 s, aM3 s hi (by omega), iand_u8 (b.2.2 i hi (by omega))]
  · rw [if_neg c, if_neg c]
theorem m_isLetter {F : Nat} {h : Hp} {c : Int} : Mod_isLetter F c h = some (if 97 ≤ c ∧ c ≤ 122 then 1 else 0, h) := by
  unfold Mod_isLetter
  by_cases h1 : c < 97
  · rw [if_pos h1, if_neg (by omega)]; rfl
  · rw [if_neg h1]
    by_cases h2 : 122 < c
    · rw [if_pos h2, if_neg (by omega)]; rfl
    · rw [if_neg h2, if_pos (by omega)]; rfl
theorem m_isDigit {F : Nat} {h : Hp} {c : Int} : Mod_isDigit F c h = some (if 48 ≤ c ∧ c ≤ 57 then 1 else 0, h) := by
  unfold Mod_isDigit
  by_cases h1 : c < 48
  · rw [if_pos h1, if_neg (by omega)]; rfl
  · rw [if_neg h1]
    by_cases h2 : 57 < c
    · rw [if_pos h2, if_neg (by omega)]; rfl
    · rw [if_neg h2, if_pos (by omega)]; rfl
theorem bt_L {h : Hp} {n i : Int} (b : Byt h n) (hi : 0 ≤ i ∧ i < n) : (97 ≤ btA h n i ∧ btA h n i ≤ 122 ↔ isL (rd h 196 i) = true) ∧ (isL (rd h 196 i) = true → btA h n i = rd h 196 i) := by
  have := b.2.2 i hi.1 (by have := b.2.1; omega)
  unfold btA u8 isL
  rw [if_pos hi.2, decide_eq_true_iff]
  split <;> omega
theorem bt_D {h : Hp} {n i : Int} (b : Byt h n) (hi : 0 ≤ i ∧ i < n) : (48 ≤ btA h n i ∧ btA h n i ≤ 57 ↔ isD (rd h 196 i) = true) ∧ (isD (rd h 196 i) = true → btA h n i = rd h 196 i) := by
  have := b.2.2 i hi.1 (by have := b.2.1; omega)
  unfold btA u8 isD
  rw [if_pos hi.2, decide_eq_true_iff]
  split <;> omega
theorem bt_end {h : Hp} {n i : Int} (hi : n ≤ i) : btA h n i = 0 := by unfold btA; rw [if_neg (by omega)]
def tkH (h : Hp) (k p v m : Int) : Hp := wr (wr (wr (wr (wr h 197 (rd h 194 10) k) 198 (rd h 194 10) p) 199 (rd h 194 10) v) 200 (rd h 194 10) m) 194 10 (rd h 194 10 + 1)
theorem m_token {F : Nat} {h : Hp} {k p v m : Int} (s : Sh h) (ht : 0 ≤ rd h 194 10 ∧ rd h 194 10 ≤ 401) : Mod_token F 194 k p v m h = some (0, tkH h k p v m) := by
  have s1 : Sh (wr h 197 (rd h 194 10) k) := shA s (by decide) (by decide)
  have s2 : Sh (wr (wr h 197 (rd h 194 10) k) 198 (rd h 194 10) p) := shA s1 (by decide) (by decide)
  have s3 : Sh (wr (wr (wr h 197 (rd h 194 10) k) 198 (rd h 194 10) p) 199 (rd h 194 10) v) := shA s2 (by decide) (by decide)
  have s4 : Sh (wr (wr (wr (wr h 197 (rd h 194 10) k) 198 (rd h 194 10) p) 199 (rd h 194 10) v) 200 (rd h 194 10) m) := shA s3 (by decide) (by decide)
  unfold Mod_token tkH
  rw [gM5 s, gM10 s, sM5 s (by omega) (by omega), gM6 s1, gM10 s1, rd_a (by decide), sM6 s1 (by omega) (by omega), gM7 s2, gM10 s2, rd_a (by decide), rd_a (by decide), sM7 s2 (by omega) (by omega), gM8 s3, gM10 s3, rd_a (by decide), rd_a (by decide), rd_a (by decide), sM8 s3 (by omega) (by omega), gM10 s4, rd_a (by decide), rd_a (by decide), rd_a (by decide), rd_a (by decide), w32_id (by omega) (by omega), pM10 s4]
/-- the TOKENS told so far; behind them all is as it was -/
def CI (h0 h : Hp) (ts : List Tkn) : Prop := (hsz h = hsz h0 ∧ hus h = hus h0 ∧ hkd h = hkd h0 ∧ hln h = hln h0) ∧ Sh h ∧ (∀ a : Int, a ≠ 194 → ¬ (197 ≤ a ∧ a ≤ 200) → rd h a = rd h0 a) ∧ (∀ k : Int, k ≠ 10 → rd h 194 k = rd h0 194 k) ∧ rd h 194 10 = ts.length ∧ (∀ t : Nat, ∀ q : Tkn, ts[t]? = some q → rd h 197 t = phi q.1 ∧ rd h 198 t = q.2.1 ∧ (q.1 = 19 → rd h 199 t = q.2.2.1) ∧ (q.1 = 18 → rd h 200 t = enc 27 q.2.2.2)) ∧ ∀ a j : Int, 197 ≤ a → a ≤ 200 → (ts.length : Int) ≤ j → rd h a j = rd h0 a j
theorem CI_tk {h0 h : Hp} {ts : List Tkn} {q : Tkn} {v m : Int} (g : CI h0 h ts) (hv : q.1 = 19 → v = q.2.2.1) (hm : q.1 = 18 → m = enc 27 q.2.2.2) : CI h0 (tkH h (phi q.1) q.2.1 v m) (ts ++ [q]) := by
  obtain ⟨g1, s, g3, g4, g5, g6, g7⟩ := g
  have r : ∀ a j : Int, 197 ≤ a → a ≤ 200 → j ≠ rd h 194 10 → rd (tkH h (phi q.1) q.2.1 v m) a j = rd h a j := fun a j h1 h2 h3 => by
    unfold tkH
    rw [rd_wr_ne (by omega), rd_wr, if_neg (by omega), rd_wr, if_neg (by omega), rd_wr, if_neg (by omega), rd_wr, if_neg (by omega)]
  have hl : (ts ++ [q]).length = ts.length + 1 := by simp
  refine ⟨g1, sh10 (shA (shA (shA (shA s (by decide) (by decide)) (by decide) (by decide)) (by decide) (by decide)) (by decide) (by decide)) _, fun a h1 h2 => ?_, fun k hk => ?_, ?_, fun t u hu => ?_, fun a j h1 h2 h3 => ?_⟩
  · unfold tkH
    rw [rd_wr_ne h1, rd_wr_ne (by omega), rd_wr_ne (by omega), rd_wr_ne (by omega), rd_wr_ne (by omega)]
    exact g3 a h1 h2
  · unfold tkH
    rw [rd_i hk, rd_wr_ne (by decide), rd_wr_ne (by decide), rd_wr_ne (by decide), rd_wr_ne (by decide)]
    exact g4 k hk
  · unfold tkH
    rw [rd_same, g5, hl]; omega
  · by_cases e : t < ts.length
    · rw [List.getElem?_append_left e] at hu
      have := g6 t u hu
      rw [r 197 t (by decide) (by decide) (by omega), r 198 t (by decide) (by decide) (by omega), r 199 t (by decide) (by decide) (by omega), r 200 t (by decide) (by decide) (by omega)]
      exact this
    · rw [List.getElem?_append_right (by omega)] at hu
      have e0 : t = ts.length := by
        by_cases h0' : t - ts.length = 0
        · omega
        · rw [List.getElem?_eq_none (by simp; omega)] at hu
          cases hu
      rw [e0, Nat.sub_self] at hu
      cases hu
      rw [e0, ← g5]
      unfold tkH
      refine ⟨?_, ?_, fun h => ?_, fun h => ?_⟩
      · rw [rd_wr_ne (by decide), rd_wr_ne (by decide), rd_wr_ne (by decide), rd_wr_ne (by decide), rd_same]
      · rw [rd_wr_ne (by decide), rd_wr_ne (by decide), rd_wr_ne (by decide), rd_same]
      · rw [rd_wr_ne (by decide), rd_wr_ne (by decide), rd_same]; exact hv h
      · rw [rd_wr_ne (by decide), rd_same]; exact hm h
  · rw [hl] at h3
    rw [r a j h1 h2 (by omega)]
    exact g7 a j h1 h2 (by omega)
theorem CI_byt {h0 h : Hp} {ts : List Tkn} {n : Int} (g : CI h0 h ts) (b : Byt h0 n) : Byt h n := by
  unfold Byt
  rw [g.2.2.2.1 4 (by decide), g.2.2.1 196 (by decide) (by decide)]
  exact b
/-- the reference's words -/
def Keys (h : Hp) : Prop := ∀ k : Nat, k < 18 → rd h 201 k = enc 27 (wds.getD k [])
theorem wds_at : ∀ k : Nat, k < 18 → dOk (wds.getD k []) := by
  intro k hk d hd
  have key : ∀ k : Nat, k < 18 → (wds.getD k []).all (fun d => decide (1 ≤ d ∧ d ≤ 26)) = true := by decide +kernel
  exact of_decide_eq_true (List.all_eq_true.mp (key k hk) d hd)
theorem kdW_at (ds : List Int) {k : Nat} (hk : k < 18) : wds.getD k [] = ds ↔ kdW ds = k := by
  have len : wds.length = 18 := rfl
  have nd : ∀ i : Nat, i < 18 → ∀ j : Nat, j < 18 → wds.getD i [] = wds.getD j [] → i = j := by decide +kernel
  have getD_eq : ∀ i : Nat, (hi : i < wds.length) → wds.getD i [] = wds[i] := fun i hi => by rw [List.getD_eq_getElem?_getD, List.getElem?_eq_getElem hi]; rfl
  constructor
  · intro h
    have hex : ∃ w ∈ wds, (w == ds) = true := ⟨wds[k]'(by rw [len]; exact hk), List.getElem_mem _, by rw [← getD_eq k (by rw [len]; exact hk), h]; simp⟩
    have lt : kdW ds < wds.length := List.findIdx_lt_length_of_exists hex
    have at' := List.findIdx_getElem (w := lt)
    have e : wds[kdW ds]'lt = ds := eq_of_beq at'
    exact nd (kdW ds) (by rw [len] at lt; exact lt) k hk (by rw [getD_eq _ lt, e, h])
  · intro h
    have lt : kdW ds < wds.length := by rw [h, len]; exact hk
    have at' := List.findIdx_getElem (w := lt)
    have e : wds[kdW ds]'lt = ds := eq_of_beq at'
    rw [← h, getD_eq _ lt, e]
theorem kdW_8 {ds : List Int} (h : 8 ≤ ds.length) : kdW ds = 18 := by
  have key : ∀ k : Nat, k < 18 → (wds.getD k []).length < 8 := by decide +kernel
  have le := kdW_le ds
  by_cases e : kdW ds < 18
  · have := (kdW_at ds e).mpr rfl
    have := key _ e
    rw [(kdW_at ds e).mpr rfl] at this
    omega
  · omega
theorem phi_kdW (ds : List Int) : phi (kdW ds) = if kdW ds < 18 then 20 + (kdW ds : Int) else 1 := by
  have := kdW_le ds
  by_cases e : kdW ds < 18
  · rw [if_pos e]
    unfold phi
    rw [if_pos (by omega)]
  · rw [if_neg e, show kdW ds = 18 by omega]
    rfl
