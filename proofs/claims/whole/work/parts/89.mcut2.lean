/-! the reference cuts the text, whole -/
/-- the text is cut: the TOKENS, the end behind them, what stood further on -/
def CE (h0 h : Hp) (n : Int) (ts : List Tkn) : Prop := (hsz h = hsz h0 ∧ hus h = hus h0 ∧ hkd h = hkd h0 ∧ hln h = hln h0) ∧ Sh h ∧ (∀ a : Int, a ≠ 194 → ¬ (197 ≤ a ∧ a ≤ 200) → rd h a = rd h0 a) ∧ (∀ k : Int, k ≠ 10 → rd h 194 k = rd h0 194 k) ∧ (∀ t : Nat, t ≤ 400 → ∀ q : Tkn, ts[t]? = some q → rd h 197 t = phi q.1 ∧ rd h 198 t = q.2.1 ∧ (q.1 = 19 → rd h 199 t = q.2.2.1) ∧ (q.1 = 18 → rd h 200 t = enc 27 q.2.2.2)) ∧ (ts.length ≤ 400 → rd h 197 ts.length = 0 ∧ rd h 198 ts.length = n) ∧ ∀ a j : Int, 197 ≤ a → a ≤ 200 → (ts.length : Int) < j → rd h a j = rd h0 a j
theorem m_cut_146 {F : Nat} {h : Hp} {i L : Int} {ds : List Int} (hF : 1000 ≤ F) (R7 : Int → Int → Hp → Option (Int × Hp)) (s : Sh h) (ky : Keys h) (hd : dOk ds) : Mod_cut_L146 F R7 F 194 i L (enc 27 ds) 1 0 h = Mod_cut_B179 F R7 194 i L (enc 27 ds) (phi (kdW ds)) h := by
  refine loop0 (fun n j => Mod_cut_L146 F R7 n 194 i L (enc 27 ds) (if kdW ds < j then 20 + (kdW ds : Int) else 1) (j : Nat) h) 18 F _ (by omega) (fun n j hj => ?_) (fun n => ?_)
  · show Mod_cut_L146s F R7 (Mod_cut_L146 F R7 n) 194 i L _ _ _ h = _
    unfold Mod_cut_L146s
    have kj := ky j hj
    rw [if_pos (by omega), gM9 s, aM9 s (by omega) (by omega), kj, w32_nat (by omega)]
    by_cases hm : wds.getD j [] = ds
    · have hk := (kdW_at ds hj).mp hm
      rw [hm, if_pos (by unfold lcmp; rw [if_neg (by omega), if_pos rfl]), w32_id (x := 20 + (j : Int)) (by omega) (by omega), lt_eq, if_pos (by omega), hk]
    · have hk : kdW ds ≠ j := fun e => hm ((kdW_at ds hj).mpr e)
      have hne : ¬ lcmp (enc 27 (wds.getD j [])) (enc 27 ds) = 0 := by
        intro q
        refine hm (enc_inj (b := 27) (by decide) _ _ (wds_at j hj) hd ?_)
        unfold lcmp at q
        split at q
        · omega
        · split at q
          · assumption
          · omega
      rw [if_neg hne]
      by_cases hlt : kdW ds < j
      · rw [if_pos hlt, if_pos (by omega)]
      · rw [if_neg hlt, if_neg (by omega)]
  · show Mod_cut_L146s F R7 (Mod_cut_L146 F R7 n) 194 i L _ _ _ h = _
    unfold Mod_cut_L146s
    rw [if_neg (by decide), phi_kdW]
theorem ltr_enc {B : Int → Int} {i : Int} {k : Nat} (h : ∀ j : Nat, j < k → isL (B (i + j)) = true) (hk : k ≤ 8) : 0 ≤ enc 27 (ltr B i k) ∧ enc 27 (ltr B i k) < 282429536481 := by
  have ok := ltr_ok k h
  refine ⟨enc_0 (by decide) _ ok, ?_⟩
  have := enc_le (b := 27) (by decide) _ ok
  rw [ltr_len] at this
  have key : ∀ k : Nat, k < 9 → (27 : Int) ^ k ≤ 282429536481 := by decide
  have := key k (by omega)
  omega
theorem m_cut_85 {F : Nat} {h : Hp} {n i : Int} (hF : 3000 ≤ F) (R7 : Int → Int → Hp → Option (Int × Hp)) (s : Sh h) (b : Byt h n) (hi : 0 ≤ i ∧ i < n) :
    Mod_cut_L85 F R7 F 194 i 0 0 h = Mod_cut_B124 F R7 194 i (run isL (rd h 196) (n - i).toNat i) (enc 27 (ltr (rd h 196) i (min (run isL (rd h 196) (n - i).toNat i) 8))) h := by
  have hn := b.2.1
  have rle := run_le isL (rd h 196) (n - i).toNat i
  have rin := run_in isL (rd h 196) (n - i).toNat i
  have rend := run_end isL (rd h 196) (n - i).toNat i
  generalize run isL (rd h 196) (n - i).toNat i = L at rle rin rend ⊢
  refine loop0 (fun m j => Mod_cut_L85 F R7 m 194 i (j : Nat) (enc 27 (ltr (rd h 196) i (min j 8))) h) L F _ (by omega) (fun m j hj => ?_) (fun m => ?_)
  · show Mod_cut_L85s F R7 (Mod_cut_L85 F R7 m) 194 i _ _ h = _
    have bl := bt_L b (i := i + j) (by omega)
    have hl := rin j hj
    have be := bl.2 hl
    unfold Mod_cut_L85s
    rw [w32_id (x := i + (j : Int)) (by omega) (by omega), ivM s, m_byteAt s b (by omega), cl_some, m_isLetter, cl_some, if_pos (bl.1.mpr hl), if_neg (by decide), w32_nat (by omega)]
    by_cases h8 : j < 8
    · have en := ltr_enc (B := rd h 196) (i := i) (k := j) (fun x hx => rin x (by omega)) (by omega)
      unfold isL at hl
      have hl' := of_decide_eq_true hl
      rw [if_pos (by omega), ivM s, m_byteAt s b (by omega), cl_some, be]
      unfold Mod_appends
      rw [if_neg (by omega), cl_some, show min j 8 = j by omega, show min (j + 1) 8 = j + 1 by omega, w64_id (x := 27 * enc 27 (ltr (rd h 196) i j)) (by omega) (by omega), w32_id (x := rd h 196 (i + j) - 97) (by omega) (by omega), w32_id (x := rd h 196 (i + j) - 97 + 1) (by omega) (by omega), w64_id (by omega) (by omega)]
      have e : 27 * enc 27 (ltr (rd h 196) i j) + (rd h 196 (i + j) - 97 + 1) = enc 27 (ltr (rd h 196) i (j + 1)) := by
        show _ = enc 27 (ltr (rd h 196) i j) * 27 + (rd h 196 (i + j) - 96)
        omega
      rw [e]
    · rw [if_neg (by omega), show min j 8 = 8 by omega, show min (j + 1) 8 = 8 by omega]
  · show Mod_cut_L85s F R7 (Mod_cut_L85 F R7 m) 194 i _ _ h = _
    unfold Mod_cut_L85s
    rw [w32_id (x := i + (L : Int)) (by omega) (by omega), ivM s, m_byteAt s b (by omega), cl_some, m_isLetter, cl_some]
    have no : ¬ (97 ≤ btA h n (i + L) ∧ btA h n (i + L) ≤ 122) := by
      by_cases c : L < (n - i).toNat
      · have bl := bt_L b (i := i + L) (by omega)
        intro q
        have := bl.1.mp q
        rw [rend c] at this
        exact absurd this (by decide)
      · rw [bt_end (by omega)]; decide
    rw [if_neg no, if_pos rfl]
theorem m_cut_208 {F : Nat} {h : Hp} {n i : Int} (hF : 3000 ≤ F) (R7 : Int → Int → Hp → Option (Int × Hp)) (s : Sh h) (b : Byt h n) (hi : 0 ≤ i ∧ i < n) :
    Mod_cut_L208 F R7 F 194 i 0 0 h = Mod_cut_B250 F R7 194 i (run isD (rd h 196) (n - i).toNat i) (vlD (rd h 196) i (min (run isD (rd h 196) (n - i).toNat i) 4)) h := by
  have hn := b.2.1
  have rle := run_le isD (rd h 196) (n - i).toNat i
  have rin := run_in isD (rd h 196) (n - i).toNat i
  have rend := run_end isD (rd h 196) (n - i).toNat i
  generalize run isD (rd h 196) (n - i).toNat i = L at rle rin rend ⊢
  have vb : ∀ j : Nat, j ≤ L → j ≤ 4 → 0 ≤ vlD (rd h 196) i j ∧ vlD (rd h 196) i j < 100000 := by
    have st : ∀ j : Nat, j < L → 0 ≤ rd h 196 (i + j) - 48 ∧ rd h 196 (i + j) - 48 ≤ 9 := fun j hj => by
      have := rin j hj
      unfold isD at this
      have := of_decide_eq_true this
      omega
    have v0 : vlD (rd h 196) i 0 = 0 := rfl
    have vs : ∀ j, vlD (rd h 196) i (j + 1) = 10 * vlD (rd h 196) i j + (rd h 196 (i + j) - 48) := fun j => rfl
    intro j h1 h2
    have b1 : 1 ≤ L → 0 ≤ vlD (rd h 196) i 1 ∧ vlD (rd h 196) i 1 ≤ 9 := fun h => by have := st 0 (by omega); rw [vs, v0]; omega
    have b2 : 2 ≤ L → 0 ≤ vlD (rd h 196) i 2 ∧ vlD (rd h 196) i 2 ≤ 99 := fun h => by have := st 1 (by omega); have := b1 (by omega); rw [vs]; omega
    have b3 : 3 ≤ L → 0 ≤ vlD (rd h 196) i 3 ∧ vlD (rd h 196) i 3 ≤ 999 := fun h => by have := st 2 (by omega); have := b2 (by omega); rw [vs]; omega
    have b4 : 4 ≤ L → 0 ≤ vlD (rd h 196) i 4 ∧ vlD (rd h 196) i 4 ≤ 9999 := fun h => by have := st 3 (by omega); have := b3 (by omega); rw [vs]; omega
    obtain rfl | rfl | rfl | rfl | rfl : j = 0 ∨ j = 1 ∨ j = 2 ∨ j = 3 ∨ j = 4 := by omega
    · rw [v0]; omega
    · have := b1 h1; omega
    · have := b2 h1; omega
    · have := b3 h1; omega
    · have := b4 h1; omega
  refine loop0 (fun m j => Mod_cut_L208 F R7 m 194 i (j : Nat) (vlD (rd h 196) i (min j 4)) h) L F _ (by omega) (fun m j hj => ?_) (fun m => ?_)
  · show Mod_cut_L208s F R7 (Mod_cut_L208 F R7 m) 194 i _ _ h = _
    have bl := bt_D b (i := i + j) (by omega)
    have hl := rin j hj
    have be := bl.2 hl
    unfold Mod_cut_L208s
    rw [w32_id (x := i + (j : Int)) (by omega) (by omega), ivM s, m_byteAt s b (by omega), cl_some, m_isDigit, cl_some, if_pos (bl.1.mpr hl), if_neg (by decide), w32_nat (by omega)]
    by_cases h8 : j < 4
    · have en := vb j (by omega) (by omega)
      unfold isD at hl
      have hl' := of_decide_eq_true hl
      rw [if_pos (by omega), ivM s, m_byteAt s b (by omega), cl_some, be, show min j 4 = j by omega, show min (j + 1) 4 = j + 1 by omega, w32_id (x := 10 * vlD (rd h 196) i j) (by omega) (by omega), w32_id (x := 10 * vlD (rd h 196) i j + rd h 196 (i + j)) (by omega) (by omega), w32_id (x := 10 * vlD (rd h 196) i j + rd h 196 (i + j) - 48) (by omega) (by omega), lt_eq]
      have e : 10 * vlD (rd h 196) i j + rd h 196 (i + j) - 48 = vlD (rd h 196) i (j + 1) := by
        show _ = 10 * vlD (rd h 196) i j + (rd h 196 (i + j) - 48)
        omega
      rw [e]
    · rw [if_neg (by omega), show min j 4 = 4 by omega, show min (j + 1) 4 = 4 by omega]
  · show Mod_cut_L208s F R7 (Mod_cut_L208 F R7 m) 194 i _ _ h = _
    unfold Mod_cut_L208s
    rw [w32_id (x := i + (L : Int)) (by omega) (by omega), ivM s, m_byteAt s b (by omega), cl_some, m_isDigit, cl_some]
    have no : ¬ (48 ≤ btA h n (i + L) ∧ btA h n (i + L) ≤ 57) := by
      by_cases c : L < (n - i).toNat
      · have bl := bt_D b (i := i + L) (by omega)
        intro q
        have := bl.1.mp q
        rw [rend c] at this
        exact absurd this (by decide)
      · rw [bt_end (by omega)]; decide
    rw [if_neg no, if_pos rfl]
theorem m_sign {F : Nat} {h : Hp} {i c d : Int} (s : Sh h) (ht : 0 ≤ rd h 194 10 ∧ rd h 194 10 ≤ 401) (hc : 0 ≤ c ∧ c ≤ 255) : Mod_sign F 194 i c d h = some (1, tkH h (phi (sgk c)) i 0 0) := by
  have tk : ∀ k, Mod_token F 194 k i 0 0 h = some (0, tkH h k i 0 0) := fun k => m_token s ht
  unfold Mod_sign Mod_sign_B43 Mod_sign_B55 Mod_sign_B65 Mod_sign_B75 Mod_sign_B85 Mod_sign_B95 sgk
  simp only [ivM s, tk, cl_some]
  by_cases a1 : c = 59
  · subst a1; rfl
  by_cases a2 : c = 61
  · subst a2; rfl
  by_cases a3 : c = 40
  · subst a3; rfl
  by_cases a4 : c = 41
  · subst a4; rfl
  by_cases a5 : c = 43
  · subst a5; rfl
  by_cases a6 : c = 45
  · subst a6; rfl
  by_cases a7 : c = 42
  · subst a7; rfl
  by_cases a8 : c = 47
  · subst a8; rfl
  by_cases a9 : c = 60
  · subst a9; rfl
  simp only [a1, a2, a3, a4, a5, a6, a7, a8, a9, if_false, or_self]
  rfl
theorem m_cut_L7 {F : Nat} {h0 : Hp} {n : Int} (hF : 3000 ≤ F) (b : Byt h0 n) (ky : Keys h0) :
    ∀ (f N : Nat) (i : Int) (h : Hp) (pre : List Tkn), 0 ≤ i → n - i < f → 0 < f → f < N → CI h0 h pre → pre.length ≤ 401 → T (Mod_cut_L7 F N 194 i h) (fun _ h' => CE h0 h' n (pre ++ lx (rd h0 196) n f i)) := by
  intro f
  induction f with
  | zero => intro N i h pre _ _ hf; omega
  | succ f ih =>
    intro N i h pre hi hf _ hN g hp
    obtain ⟨N, rfl⟩ : ∃ j, N = j + 1 := ⟨N - 1, by omega⟩
    have hn := b.2.1
    have s := g.2.1
    have bh := CI_byt g b
    have e196 : rd h 196 = rd h0 196 := g.2.2.1 196 (by decide) (by decide)
    have g10 := g.2.2.2.2.1
    show T (Mod_cut_L7s F (Mod_cut_L7 F N) 194 i h) _
    unfold Mod_cut_L7s
    rw [gM10 s, g10]
    by_cases h4 : (400 : Int) < pre.length
    · rw [if_pos h4]
      obtain ⟨g1, g2, g3, g4, g5, g6, g7⟩ := g
      refine T_some ⟨g1, g2, g3, g4, fun t ht q hq => g6 t q (by rw [List.getElem?_append_left (by omega)] at hq; exact hq), fun h => by rw [List.length_append] at h; omega, fun a j h1 h2 h3 => g7 a j h1 h2 (by rw [List.length_append] at h3; omega)⟩
    · rw [if_neg h4, ivM s, m_byteAt s bh hi, cl_some, gM4 s, bh.1]
      by_cases hin : i < n
      · have ub := b.2.2 i hi (by omega)
        have eb : btA h n i = u8 (rd h0 196 i) := by unfold btA; rw [if_pos hin, e196]
        have ub2 : 0 ≤ u8 (rd h0 196 i) ∧ u8 (rd h0 196 i) ≤ 255 := by unfold u8; split <;> omega
        have eu : ∀ k : Int, 0 ≤ k → k ≤ 127 → (u8 (rd h0 196 i) = k ↔ rd h0 196 i = k) := fun k k0 k1 => by unfold u8; split <;> omega
        have bw : w32 (i + 1) = i + 1 := w32_id (by omega) (by omega)
        rw [if_pos hin, eb]
        have lxe : lx (rd h0 196) n (f + 1) i = if n ≤ i then [] else if rd h0 196 i = 9 ∨ rd h0 196 i = 10 ∨ rd h0 196 i = 13 ∨ rd h0 196 i = 32 then lx (rd h0 196) n f (i + 1)
          else if isL (rd h0 196 i) then ((if 8 < run isL (rd h0 196) (n - i).toNat i then 21 else (kdW (ltr (rd h0 196) i (run isL (rd h0 196) (n - i).toNat i)) : Int)), i, 0, ltr (rd h0 196) i (run isL (rd h0 196) (n - i).toNat i)) :: lx (rd h0 196) n f (i + run isL (rd h0 196) (n - i).toNat i)
          else if isD (rd h0 196 i) then ((if 4 < run isD (rd h0 196) (n - i).toNat i then 21 else 19), i, vlD (rd h0 196) i (run isD (rd h0 196) (n - i).toNat i), []) :: lx (rd h0 196) n f (i + run isD (rd h0 196) (n - i).toNat i)
          else (sgk (rd h0 196 i), i, 0, []) :: lx (rd h0 196) n f (i + 1) := rfl
        rw [if_neg (by omega)] at lxe
        have nxt : ∀ (j : Int) (h' : Hp) (q : Tkn), i < j → j ≤ 4000 → CI h0 h' (pre ++ [q]) → lx (rd h0 196) n (f + 1) i = q :: lx (rd h0 196) n f j → T (Mod_cut_L7 F N 194 j h') (fun _ h' => CE h0 h' n (pre ++ lx (rd h0 196) n (f + 1) i)) := by
          intro j h' q hj _ gq e
          rw [e, show pre ++ q :: lx (rd h0 196) n f j = (pre ++ [q]) ++ lx (rd h0 196) n f j by simp]
          exact ih N j h' (pre ++ [q]) (by omega) (by omega) (by omega) (by omega) gq (by simp; omega)
        have blank : (rd h0 196 i = 9 ∨ rd h0 196 i = 10 ∨ rd h0 196 i = 13 ∨ rd h0 196 i = 32) → T (Mod_cut_L7 F N 194 (i + 1) h) (fun _ h' => CE h0 h' n (pre ++ lx (rd h0 196) n (f + 1) i)) := by
          intro hb
          rw [if_pos hb] at lxe
          rw [lxe]
          exact ih N (i + 1) h pre (by omega) (by omega) (by omega) (by omega) g hp
        by_cases c9 : rd h0 196 i = 9
        · rw [if_pos ((eu 9 (by decide) (by decide)).mpr c9), bw]; exact blank (Or.inl c9)
        · rw [if_neg (fun q => c9 ((eu 9 (by decide) (by decide)).mp q))]
          by_cases c10 : rd h0 196 i = 10
          · rw [if_pos ((eu 10 (by decide) (by decide)).mpr c10), bw]; exact blank (Or.inr (Or.inl c10))
          · rw [if_neg (fun q => c10 ((eu 10 (by decide) (by decide)).mp q))]
            by_cases c13 : rd h0 196 i = 13
            · rw [if_pos ((eu 13 (by decide) (by decide)).mpr c13), bw]; exact blank (Or.inr (Or.inr (Or.inl c13)))
            · rw [if_neg (fun q => c13 ((eu 13 (by decide) (by decide)).mp q))]
              by_cases c32 : rd h0 196 i = 32
              · rw [if_pos ((eu 32 (by decide) (by decide)).mpr c32), bw]; exact blank (Or.inr (Or.inr (Or.inr c32)))
              · rw [if_neg (fun q => c32 ((eu 32 (by decide) (by decide)).mp q))]
                rw [if_neg (by omega)] at lxe
                have bl := bt_L bh (i := i) ⟨hi, hin⟩
                have bd := bt_D bh (i := i) ⟨hi, hin⟩
                rw [eb, e196] at bl bd
                rw [m_isLetter, cl_some]
                by_cases cL : isL (rd h0 196 i) = true
                · rw [if_pos (bl.1.mpr cL), if_neg (by decide), m_cut_85 hF _ s bh ⟨hi, hin⟩, e196]
                  rw [if_pos cL] at lxe
                  have rle := run_le isL (rd h0 196) (n - i).toNat i
                  have rin := run_in isL (rd h0 196) (n - i).toNat i
                  have r1 : 1 ≤ run isL (rd h0 196) (n - i).toNat i := by
                    obtain ⟨k, hk⟩ : ∃ k, (n - i).toNat = k + 1 := ⟨(n - i).toNat - 1, by omega⟩
                    rw [hk]
                    show 1 ≤ (if isL (rd h0 196 i) = true then _ else _)
                    rw [if_pos cL]; omega
                  generalize run isL (rd h0 196) (n - i).toNat i = L at lxe rle rin r1 ⊢
                  have fin : ∀ k m, k = phi (if 8 < L then 21 else (kdW (ltr (rd h0 196) i L) : Int)) → (L ≤ 8 → m = enc 27 (ltr (rd h0 196) i L)) → T (Mod_cut_B179 F (Mod_cut_L7 F N) 194 i L m k h) (fun _ h' => CE h0 h' n (pre ++ lx (rd h0 196) n (f + 1) i)) := by
                    intro k m hk hm
                    unfold Mod_cut_B179
                    rw [ivM s, m_token s (by omega), cl_some, w32_id (x := i + (L : Int)) (by omega) (by omega), lt_eq, hk]
                    refine nxt _ _ _ (by omega) (by omega) (CI_tk (q := ((if 8 < L then 21 else (kdW (ltr (rd h0 196) i L) : Int)), i, 0, ltr (rd h0 196) i L)) (v := 0) (m := m) g (fun h => rfl) (fun h18 => ?_)) lxe
                    simp only at h18 ⊢
                    refine hm ?_
                    split at h18
                    · omega
                    · omega
                  unfold Mod_cut_B124 Mod_cut_B135
                  by_cases c8 : 8 < L
                  · rw [if_pos (by omega), if_pos (by omega)]
                    exact fin 3 _ (by rw [if_pos c8]; rfl) (fun h => by omega)
                  · rw [if_neg (by omega), show min L 8 = L by omega]
                    by_cases c7 : 7 < L
                    · rw [if_pos (by omega)]
                      exact fin 1 _ (by rw [if_neg c8, kdW_8 (by rw [ltr_len]; omega)]; rfl) (fun _ => rfl)
                    · rw [if_neg (by omega), m_cut_146 (by omega) _ s (fun k hk => by rw [g.2.2.1 201 (by decide) (by decide)]; exact ky k hk) (ltr_ok L rin)]
                      exact fin _ _ (by rw [if_neg c8]) (fun _ => rfl)
                · rw [if_neg (fun q => cL (bl.1.mp q)), if_pos rfl, m_isDigit, cl_some]
                  rw [if_neg cL] at lxe
                  by_cases cD : isD (rd h0 196 i) = true
                  · rw [if_pos (bd.1.mpr cD), if_neg (by decide), m_cut_208 hF _ s bh ⟨hi, hin⟩, e196]
                    rw [if_pos cD] at lxe
                    have rle := run_le isD (rd h0 196) (n - i).toNat i
                    have r1 : 1 ≤ run isD (rd h0 196) (n - i).toNat i := by
                      obtain ⟨k, hk⟩ : ∃ k, (n - i).toNat = k + 1 := ⟨(n - i).toNat - 1, by omega⟩
                      rw [hk]
                      show 1 ≤ (if isD (rd h0 196 i) = true then _ else _)
                      rw [if_pos cD]; omega
                    generalize run isD (rd h0 196) (n - i).toNat i = L at lxe rle r1 ⊢
                    have fin : ∀ k v, k = phi (if 4 < L then 21 else 19) → (L ≤ 4 → v = vlD (rd h0 196) i L) → T (Mod_cut_B261 F (Mod_cut_L7 F N) 194 i L v k 194 h) (fun _ h' => CE h0 h' n (pre ++ lx (rd h0 196) n (f + 1) i)) := by
                      intro k v hk hv
                      unfold Mod_cut_B261
                      rw [ivM s, m_token s (by omega), cl_some, w32_id (x := i + (L : Int)) (by omega) (by omega), lt_eq, hk]
                      refine nxt _ _ _ (by omega) (by omega) (CI_tk (q := ((if 4 < L then 21 else 19), i, vlD (rd h0 196) i L, [])) (v := v) (m := 0) g (fun h19 => ?_) (fun h18 => ?_)) lxe
                      · simp only at h19 ⊢
                        refine hv ?_
                        split at h19 <;> omega
                      · simp only at h18
                        split at h18 <;> omega
                    unfold Mod_cut_B250
                    by_cases c4 : 4 < L
                    · rw [if_pos (by omega)]
                      exact fin 3 _ (by rw [if_pos c4]; rfl) (fun h => by omega)
                    · rw [if_neg (by omega), show min L 4 = L by omega]
                      exact fin 2 _ (by rw [if_neg c4]; rfl) (fun _ => rfl)
                  · rw [if_neg (fun q => cD (bd.1.mp q)), if_pos rfl, bw, ivM s, m_byteAt s bh (by omega), cl_some, ivM s, m_sign s (by omega) ub2, cl_some, bw, lt_eq]
                    rw [if_neg cD] at lxe
                    have es : sgk (u8 (rd h0 196 i)) = sgk (rd h0 196 i) := by
                      unfold u8 sgk
                      split
                      · rw [if_neg (by omega), if_neg (by omega)]
                      · rfl
                    rw [es]
                    refine nxt _ _ _ (by omega) (by omega) (CI_tk (q := (sgk (rd h0 196 i), i, 0, [])) (v := 0) (m := 0) g (fun _ => rfl) (fun _ => rfl)) lxe
      · rw [if_neg hin]
        unfold Mod_cut_B31
        have lxe : lx (rd h0 196) n (f + 1) i = [] := by
          show (if n ≤ i then [] else _) = _
          rw [if_pos (by omega)]
        rw [lxe, List.append_nil, gM4 s, bh.1, ivM s, m_token s (by omega), cl_some]
        have g2 := CI_tk (q := (20, n, 0, [])) (v := 0) (m := 0) g (fun _ => rfl) (fun _ => rfl)
        obtain ⟨a1, a2, a3, a4, a5, a6, a7⟩ := g2
        refine T_some ⟨a1, a2, a3, a4, fun t ht q hq => a6 t q ?_, fun _ => ?_, fun a j h1 h2 h3 => a7 a j h1 h2 (by rw [List.length_append, List.length_singleton]; omega)⟩
        · rw [List.getElem?_append_left]
          · exact hq
          · by_cases e : t < pre.length
            · exact e
            · rw [List.getElem?_eq_none (by omega)] at hq; cases hq
        · have := a6 pre.length (20, n, 0, []) (by simp)
          exact ⟨this.1, this.2.1⟩
