/-! the class cuts the text and reads it -/
theorem imax_1 {i r : Int} (h : i + 1 ≤ r) : imax (i + 1) r = r := by
  unfold imax
  by_cases c : i + 1 < r
  · rw [if_pos c]
  · rw [if_neg c]; omega
theorem run_pos {p : Int → Bool} {B : Int → Int} {k : Nat} {i : Int} (hk : 0 < k) (h : p (B i) = true) : 0 < run p B k i := by
  obtain ⟨n, rfl⟩ : ∃ n, k = n + 1 := ⟨k - 1, by omega⟩
  unfold run
  rw [if_pos h]
  omega
theorem c_split {F : Nat} {h0 : Hp} {n : Int} (hF : 3000 ≤ F) (bt : BtC h0) (wd : WdI h0) (hn : 0 ≤ n ∧ n ≤ 2000) :
    ∀ (f N : Nat) (i : Int) (h : Hp) (pre : List Tkn), 0 ≤ i → n - i < f → 0 < f → f < N → CIc h0 h pre → pre.length ≤ 401 → T (Read_split_L8 F N 3 2 n pre.length i h) (fun _ h' => CEc h0 h' n (pre ++ lx (rd h0 2) n f i)) := by
  intro f
  induction f with
  | zero => intro N i h pre _ _ hf; exact absurd hf (by decide)
  | succ f ih =>
    intro N i h pre i0 hif _ hN g hl
    obtain ⟨N, rfl⟩ : ∃ m, N = m + 1 := ⟨N - 1, by omega⟩
    have s := g.2.1
    have e2 : rd h 2 = rd h0 2 := g.2.2.1 2 (by decide) (by decide) (by decide)
    have wd1 : WdI h := fun k hk => by rw [g.2.2.1 4 (by decide) (by decide) (by decide)]; exact wd k hk
    show T (Read_split_L8s F (Read_split_L8 F N) 3 2 n pre.length i h) (fun _ h' => CEc h0 h' n (pre ++ (if n ≤ i then [] else if rd h0 2 i = 9 ∨ rd h0 2 i = 10 ∨ rd h0 2 i = 13 ∨ rd h0 2 i = 32 then lx (rd h0 2) n f (i + 1) else if isL (rd h0 2 i) then ((if 8 < run isL (rd h0 2) (n - i).toNat i then 21 else (kdW (ltr (rd h0 2) i (run isL (rd h0 2) (n - i).toNat i)) : Int)), i, 0, ltr (rd h0 2) i (run isL (rd h0 2) (n - i).toNat i)) :: lx (rd h0 2) n f (i + run isL (rd h0 2) (n - i).toNat i) else if isD (rd h0 2 i) then ((if 4 < run isD (rd h0 2) (n - i).toNat i then 21 else 19), i, vlD (rd h0 2) i (run isD (rd h0 2) (n - i).toNat i), []) :: lx (rd h0 2) n f (i + run isD (rd h0 2) (n - i).toNat i) else (sgk (rd h0 2 i), i, 0, []) :: lx (rd h0 2) n f (i + 1))))
    unfold Read_split_L8s
    by_cases cn : n ≤ i
    · rw [if_neg (by omega), if_pos cn]
      exact CIc_end g hl (fun _ => rfl)
    · rw [if_pos (by omega), if_neg cn]
      by_cases c4 : 400 < (pre.length : Int)
      · rw [if_pos c4]
        exact CIc_end g hl (fun z => absurd z (by omega))
      · have hb := bt i i0 (by omega)
        have hpl : pre.length ≤ 400 := by omega
        rw [if_neg c4, lt_eq, w32_id (x := i + 1) (by omega) (by omega), aT0 s i0 (by omega), e2, c_isBlank, cl_some]
        by_cases cb : rd h0 2 i = 9 ∨ rd h0 2 i = 10 ∨ rd h0 2 i = 13 ∨ rd h0 2 i = 32
        · rw [if_pos cb, if_neg (by decide), if_pos cb]
          unfold Read_split_B146
          rw [w32_id (x := i + 1) (by omega) (by omega), imax_1 (Int.le_refl _), lt_eq]
          by_cases f0 : 0 < f
          · exact ih N (i + 1) h pre (by omega) (by omega) f0 (by omega) g hl
          · omega
        · rw [if_neg cb, if_pos rfl, if_neg cb, aT0 s i0 (by omega), e2, c_isLetter, cl_some]
          by_cases cl : isL (rd h0 2 i) = true
          · obtain ⟨v, a1, a2⟩ := c_letters (F := F) (h := h) (i := i) (n := n) (z := pre.length) hF s wd1 ⟨i0, by omega⟩ hn.2 hpl
            rw [e2] at a1 a2
            have hrp := run_pos (p := isL) (B := rd h0 2) (k := (n - i).toNat) (i := i) (by omega) cl
            have hrl := run_le isL (rd h0 2) (n - i).toNat i
            generalize run isL (rd h0 2) (n - i).toNat i = R at *
            rw [cl, if_pos rfl, if_neg (by decide), if_pos rfl, ivR s, a1, cl_some]
            have s1 : Sh (wr (wr h 6 pre.length v) 5 pre.length (if 8 < R then 21 else (kdW (ltr (rd h0 2) i R) : Int))) := shOk (shOk s (ok6 _)) (ok5 _)
            have g1 := CIc_tk (q := ((if 8 < R then 21 else (kdW (ltr (rd h0 2) i R) : Int)), i, 0, ltr (rd h0 2) i R)) (v := v) g hpl (fun z => by
              have z2 : (if 8 < R then (21 : Int) else (kdW (ltr (rd h0 2) i R) : Int)) = 19 := z
              have := kdW_le (ltr (rd h0 2) i R)
              by_cases q : 8 < R
              · rw [if_pos q] at z2; omega
              · rw [if_neg q] at z2; omega) (fun z => by
              have z2 : (if 8 < R then (21 : Int) else (kdW (ltr (rd h0 2) i R) : Int)) = 18 := z
              by_cases q : 8 < R
              · rw [if_pos q] at z2; omega
              · exact a2 (by omega))
            unfold Read_split_B146
            rw [gR3 s1, sR3 s1 (by omega) (by omega), w32_id (x := i + 1) (by omega) (by omega), imax_1 (show i + 1 ≤ i + (R : Int) by omega), lt_eq, w32_nat (by omega)]
            have key := ih N (i + (R : Int)) _ _ (by omega) (by omega) (by omega) (by omega) g1 (by rw [List.length_append]; show pre.length + 1 ≤ 401; omega)
            rw [List.length_append, List.append_assoc] at key
            exact key
          · rw [Bool.eq_false_iff.2 cl, b01, if_pos rfl, if_neg (by decide), aT0 s i0 (by omega), e2, c_isDigit, cl_some]
            by_cases cd : isD (rd h0 2 i) = true
            · obtain ⟨v, a1, a2⟩ := c_digits (F := F) (h := h) (i := i) (n := n) (z := pre.length) hF s ⟨i0, by omega⟩ hn.2 hpl
              rw [e2] at a1 a2
              have hrp := run_pos (p := isD) (B := rd h0 2) (k := (n - i).toNat) (i := i) (by omega) cd
              have hrl := run_le isD (rd h0 2) (n - i).toNat i
              generalize run isD (rd h0 2) (n - i).toNat i = R at *
              rw [cd, if_pos rfl, if_neg (by decide), if_pos rfl, ivR s, a1, cl_some]
              have s1 : Sh (wr (wr h 6 pre.length v) 5 pre.length (if 4 < R then 21 else 19)) := shOk (shOk s (ok6 _)) (ok5 _)
              have g1 := CIc_tk (q := ((if 4 < R then 21 else 19), i, vlD (rd h0 2) i R, [])) (v := v) g hpl (fun z => by
                have z2 : (if 4 < R then (21 : Int) else 19) = 19 := z
                by_cases q : 4 < R
                · rw [if_pos q] at z2; omega
                · exact a2 (by omega)) (fun z => by
                have z2 : (if 4 < R then (21 : Int) else 19) = 18 := z
                by_cases q : 4 < R
                · rw [if_pos q] at z2; omega
                · rw [if_neg q] at z2; omega)
              unfold Read_split_B146
              rw [gR3 s1, sR3 s1 (by omega) (by omega), w32_id (x := i + 1) (by omega) (by omega), imax_1 (show i + 1 ≤ i + (R : Int) by omega), lt_eq, w32_nat (by omega)]
              have key := ih N (i + (R : Int)) _ _ (by omega) (by omega) (by omega) (by omega) g1 (by rw [List.length_append]; show pre.length + 1 ≤ 401; omega)
              rw [List.length_append, List.append_assoc] at key
              exact key
            · rw [Bool.eq_false_iff.2 cd, b01, if_pos rfl, if_neg (by decide), aT0 s i0 (by omega), e2]
              have g1 := CIc_tk0 (q := (sgk (rd h0 2 i), i, 0, [])) g hpl (by
                have := sgk_ok (rd h0 2 i)
                refine ⟨fun z => ?_, fun z => this.2.2 z⟩
                have z2 : sgk (rd h0 2 i) = 19 := z
                unfold sgk at z2
                split at z2
                · omega
                · omega)
              have B : ∀ s0, (if s0 = 0 then (21 : Int) else rd h0 2 i) = sgk (rd h0 2 i) → T (Read_split_B113 F (Read_split_L8 F N) 3 2 n pre.length (i + 1) i s0 h) (fun _ h' => CEc h0 h' n (pre ++ ((sgk (rd h0 2 i), i, 0, []) :: lx (rd h0 2) n f (i + 1)))) := by
                intro s0 hs
                have s1 : Sh (wr h 5 pre.length (sgk (rd h0 2 i))) := shOk s (ok5 _)
                have key : T (Read_split_B146 F (Read_split_L8 F N) 3 2 n (w32 ((pre.length : Int) + 1)) (i + 1) i (wr (wr h 5 pre.length (sgk (rd h0 2 i))) 7 pre.length i)) (fun _ h' => CEc h0 h' n (pre ++ ((sgk (rd h0 2 i), i, 0, []) :: lx (rd h0 2) n f (i + 1)))) := by
                  unfold Read_split_B146
                  rw [w32_id (x := i + 1) (by omega) (by omega), imax_1 (Int.le_refl _), lt_eq, w32_nat (by omega)]
                  have key := ih N (i + 1) _ _ (by omega) (by omega) (by omega) (by omega) g1 (by rw [List.length_append]; show pre.length + 1 ≤ 401; omega)
                  rw [List.length_append, List.append_assoc] at key
                  exact key
                unfold Read_split_B113
                rw [gR1 s]
                by_cases z : s0 = 0
                · rw [if_pos z] at hs ⊢
                  rw [hs, sR1 s (by omega) (by omega), gR3 s1, sR3 s1 (by omega) (by omega)]
                  exact key
                · rw [if_neg z] at hs ⊢
                  rw [aT0 s i0 (by omega), e2, sR1 s (by omega) (by omega)]
                  rw [← hs] at s1 key
                  rw [gR3 s1, sR3 s1 (by omega) (by omega)]
                  rw [← hs]
                  exact key
              by_cases cp : 0 < rd h0 2 i
              · obtain ⟨r, r1, r2⟩ := c_indexOf (F := F) (h := h) (c := rd h0 2 i) (by omega) ⟨cp, hb.2⟩
                have iv4 : ∀ (o : Option (Int × Hp)) (f : Int → Hp → Option (Int × Hp)), ivs (-4) o f = _root_.id (Jvm.Pilot.CTideRakesLaw_law_r7149_9f0718.cl o f) := fun o f => if_pos (Or.inr rfl)
                rw [if_pos cp, aT0 s i0 (by omega), e2, iv4, r1]
                show T (if r < 0 then _ else _) _
                by_cases cr : r < 0
                · rw [if_pos cr] at r2 ⊢
                  exact B 0 (by rw [if_pos rfl]; exact r2)
                · rw [if_neg cr] at r2 ⊢
                  exact B 1 (by rw [if_neg (by decide)]; exact r2)
              · rw [if_neg cp]
                refine B 0 ?_
                rw [if_pos rfl]
                unfold sgk
                rw [if_neg (by omega)]
/-- the tokens of the class are those of the tape -/
theorem CEc_Agr {h0 h : Hp} {B : Int → Int} {n : Int} (g : CEc h0 h n (tsF B n)) : Agr (KF B n) (VF B n) (PF B n) (MF B n) (fun t => rd h 5 t) (fun t => w32 (rd h 6 t)) (fun t => rd h 7 t) (fun t => rd h 6 t) (lstT (tsF B n)) := by
  obtain ⟨-, -, -, g4, g5, g6⟩ := g
  have hat : ∀ t : Nat, t ≤ lstT (tsF B n) → (rd h 5 t = KF B n t ∧ rd h 7 t = PF B n t ∧ (KF B n t = 19 → w32 (rd h 6 t) = VF B n t) ∧ (KF B n t = 18 → rd h 6 t = MF B n t)) := by
    intro t ht
    by_cases c : t < (tsF B n).length
    · obtain ⟨q, hq⟩ : ∃ q, (tsF B n)[t]? = some q := ⟨(tsF B n)[t], List.getElem?_eq_getElem c⟩
      have h4 : t ≤ 400 := by unfold lstT at ht; split at ht <;> omega
      obtain ⟨a1, a2, a3, a4⟩ := g4 t h4 q hq
      have e := tkAt_some (n := n) hq
      unfold KF PF VF MF
      rw [e]
      refine ⟨a1, a2, fun z => ?_, a4⟩
      have h9 := g6 t (by omega) (a1.trans z)
      rw [w32_id (by omega) (by omega)]
      exact a3 z
    · have hl : (tsF B n).length ≤ 400 := by unfold lstT at ht; split at ht <;> omega
      have ht2 : t = (tsF B n).length := by unfold lstT at ht; rw [if_pos hl] at ht; omega
      obtain ⟨b1, b2⟩ := g5 hl
      have e := tkAt_end (n := n) (ts := tsF B n) (t := t) (by omega)
      unfold KF PF VF MF
      rw [e, ht2]
      exact ⟨b1, b2, fun z => absurd z (show ¬ (20 : Int) = 19 by decide), fun z => absurd z (show ¬ (20 : Int) = 18 by decide)⟩
  refine ⟨?_, ?_, fun t ht => ?_⟩
  · unfold lstT; split <;> omega
  · unfold lstT
    by_cases c : (tsF B n).length ≤ 400
    · rw [if_pos c]
      left
      unfold KF
      rw [tkAt_end (Nat.le_refl _)]
    · rw [if_neg c]; exact Or.inr rfl
  · obtain ⟨a1, a2, a3, a4⟩ := hat t ht
    refine ⟨a1, a2, a3, fun u hu k1 k2 => ?_⟩
    obtain ⟨b1, b2, b3, b4⟩ := hat u hu
    show rd h 6 t = rd h 6 u ↔ _
    rw [a4 k1, b4 k2]
