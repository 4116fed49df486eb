/-! the class's laws -/
theorem ishr_8 {x : Int} (h0 : -2147483648 ≤ x) (h1 : x < 2147483648) : ishr x 8 = x / 256 := by
  unfold ishr
  have e : (Int32.ofInt 8 &&& 31) = 8 := by decide
  rw [e, ← Int32.toInt_toBitVec, Int32.toBitVec_shiftRight]
  rw [show (Int32.toBitVec 8).smod 32 = (8 : BitVec 32) by decide]
  show ((Int32.ofInt x).toBitVec.sshiftRight 8).toInt = x / 256
  rw [BitVec.toInt_sshiftRight, Int.shiftRight_eq_div_pow]
  rw [Int32.toInt_toBitVec, Int32.toInt_ofInt_of_le h0 (by omega)]
  rfl
theorem dec_I {x k : Int} (hx : 0 ≤ x ∧ x < 100000) (hk : 0 ≤ k ∧ k < 256) : iand (x * 256 + k) 255 = k ∧ ishr (x * 256 + k) 8 = x := by
  refine ⟨?_, by rw [ishr_8 (by omega) (by omega)]; omega⟩
  obtain ⟨X, rfl⟩ := Int.eq_ofNat_of_zero_le hx.1
  obtain ⟨K, rfl⟩ := Int.eq_ofNat_of_zero_le hk.1
  rw [show ((X : Int) * 256 + (K : Int)) = ((X * 256 + K : Nat) : Int) by omega, show (255 : Int) = ((255 : Nat) : Int) from rfl, iand_nat (by omega) (by decide)]
  have e := Nat.and_two_pow_sub_one_eq_mod (X * 256 + K) 8
  rw [show (255 : Nat) = 2 ^ 8 - 1 by decide, e]
  omega
def csc (q : Int × Int) : Int := if q.1 = 0 then q.2 * 256 + 1 else if q.1 = 1 then q.2 * 256 + 2 else if q.1 = 2 then 43 else if q.1 = 3 then 45 else if q.1 = 4 then 42 else 47
def clA (S : Int → Int) : Int → List (Int × Int) → Prop
  | _, [] => True
  | c, q :: cs => S c = csc q ∧ (q.1 = 0 → 0 ≤ q.2 ∧ q.2 < 100000) ∧ clA S (c + 1) cs
theorem Sh_srW {h : Hp} (s : Sh h) {a : Int} {R : Int → Int} (ok : ∀ i, okW a i = true) : Sh (sr h a R) := by
  refine ⟨s.1, s.2.1, fun q hq => ?_⟩
  have hne : q.1 ≠ a := fun e => by
    have := ok q.2.1
    unfold okW at this
    rw [Bool.not_eq_true', List.any_eq_false] at this
    have := this q hq
    simp [e] at this
  rw [rd_sr_ne hne]
  exact s.2.2 q hq
theorem ok12 {c : Int} (ic : isSc c) : ∀ i, okW (c + 12) i = true := fun i => okC ic (Or.inr (by decide))
theorem c_combined {F : Nat} {h : Hp} {k x y : Int} (hk : 2 ≤ k ∧ k ≤ 5) (hy : ¬ (k = 5 ∧ y = 0)) (z : Int) : Laws_combined F (csc (k, z)) x y h = some (opV k x y, h) := by
  have hc : k = 2 ∨ k = 3 ∨ k = 4 ∨ k = 5 := by omega
  unfold Laws_combined opV
  rcases hc with e | e | e | e <;> subst e
  · rw [show csc (2, z) = 43 from rfl, if_pos rfl, if_pos rfl]
  · rw [show csc (3, z) = 45 from rfl, if_neg (by decide), if_pos rfl, if_neg (by decide), if_pos rfl]
  · rw [show csc (4, z) = 42 from rfl, if_neg (by decide), if_neg (by decide), if_pos rfl, if_neg (by decide), if_neg (by decide), if_pos rfl]
  · have hy0 : y ≠ 0 := fun q => hy ⟨rfl, q⟩
    rw [show csc (5, z) = 47 from rfl, if_neg (by decide), if_neg (by decide), if_neg (by decide), if_neg hy0, dv_ok hy0, if_neg (by decide), if_neg (by decide), if_neg (by decide)]
theorem csc_op {k z : Int} (hk : 2 ≤ k ∧ k ≤ 5) : iand (csc (k, z)) 255 = csc (k, z) ∧ ¬ csc (k, z) = 1 ∧ ¬ csc (k, z) = 2 ∧ ¬ csc (k, z) = 3 ∧ ¬ csc (k, z) = 4 ∧ (csc (k, z) = 47 ↔ k = 5) := by
  have hc : k = 2 ∨ k = 3 ∨ k = 4 ∨ k = 5 := by omega
  rcases hc with e | e | e | e <;> subst e
  · rw [show csc (2, z) = 43 from rfl]; decide +kernel
  · rw [show csc (3, z) = 45 from rfl]; decide +kernel
  · rw [show csc (4, z) = 42 from rfl]; decide +kernel
  · rw [show csc (5, z) = 47 from rfl]; decide +kernel
theorem c_val {F : Nat} {h : Hp} {c U : Int} (s : Sh h) (ic : isSc c) (hu : rd h (c + 8) 4 = U) (hU : U ≤ 450) : ∀ (cs : List (Int × Int)) (N : Nat) (a k : Int) (st : List Int) (P : Int → Int), 0 ≤ a → a + cs.length ≤ U → 0 ≤ k → k ≤ a → cs.length < N → clA (rd h (c + 9)) a cs → okH cs st.length 20 → st.length ≤ 20 → rpS P st →
    ∃ P', Laws_value_L12 F N (c + 8) a st.length k (sr h (c + 12) P) = (match exS (rd h (c + 11)) cs st with | some st' => Laws_value_L12 F (N - cs.length) (c + 8) (a + cs.length) st'.length (k + cs.length) (sr h (c + 12) P') | none => some (0, sr h (c + 12) P')) ∧ ∀ st', exS (rd h (c + 11)) cs st = some st' → rpS P' st' := by
  intro cs
  induction cs with
  | nil =>
    intro N a k st P ha hau hk hka hN _ _ _ hr
    refine ⟨P, ?_, fun st' e => by cases e; exact hr⟩
    show _ = Laws_value_L12 F (N - 0) (c + 8) (a + ((0 : Nat) : Int)) st.length (k + ((0 : Nat) : Int)) (sr h (c + 12) P)
    rw [Nat.sub_zero, Int.natCast_zero, Int.add_zero, Int.add_zero]
  | cons q cs ih =>
    intro N a k st P ha hau hk hka hN hcd ho hst hr
    have hlen : ((q :: cs).length : Int) = (cs.length : Int) + 1 := by simp
    have hlen' : (q :: cs).length = cs.length + 1 := by simp
    obtain ⟨n, rfl⟩ : ∃ j, N = j + 1 := ⟨N - 1, by omega⟩
    obtain ⟨c1, c2, c3⟩ := hcd
    have sp : Sh (sr h (c + 12) P) := Sh_srW s (ok12 ic)
    have r8 : rd (sr h (c + 12) P) (c + 8) = rd h (c + 8) := rd_sr_ne (by omega)
    have r9 : rd (sr h (c + 12) P) (c + 9) = rd h (c + 9) := rd_sr_ne (by omega)
    have r11 : rd (sr h (c + 12) P) (c + 11) = rd h (c + 11) := rd_sr_ne (by omega)
    have e0 : Laws_value_L12 F (n + 1) (c + 8) a st.length k (sr h (c + 12) P) = Laws_value_L12s F (Laws_value_L12 F n) (c + 8) a st.length k (sr h (c + 12) P) := rfl
    unfold Laws_value_L12s at e0
    rw [if_pos (by omega), if_neg (by omega), gL4 sp ic, r8, hu, if_pos (by omega), gL0 sp ic, aL0 sp ic ha (by omega), r9, c1, lt_eq, gL0 sp ic, aL0 sp ic ha (by omega), r9, c1, lt_eq, w32_id (x := a + 1) (by omega) (by omega)] at e0
    rw [e0, show n + 1 - (q :: cs).length = n - cs.length by omega, show a + ((q :: cs).length : Int) = a + 1 + (cs.length : Int) by omega, show k + ((q :: cs).length : Int) = k + 1 + (cs.length : Int) by omega]
    unfold okH at ho
    unfold exS
    have hl : ∀ x : Int, (((x :: st).length : Nat) : Int) = (st.length : Int) + 1 := fun x => by simp
    by_cases k2 : q.1 < 2
    · rw [if_pos k2] at ho ⊢
      by_cases k0 : q.1 = 0
      · have hq := c2 k0
        have ec : csc q = q.2 * 256 + 1 := if_pos k0
        obtain ⟨d1, d2⟩ := dec_I (x := q.2) (k := 1) hq (by decide)
        rw [ec, d1, d2, if_pos rfl, if_pos k0]
        unfold Laws_value_B70
        rw [if_pos (by omega), if_neg (by omega), if_neg (by decide)]
        unfold Laws_value_B95
        rw [gL3 sp ic, if_pos rfl, sL3 sp ic (by omega) (by omega), wr_up, w32_id (x := (st.length : Int) + 1) (by omega) (by omega), w32_id (x := k + 1) (by omega) (by omega), ← hl q.2]
        exact ih n (a + 1) (k + 1) (q.2 :: st) _ (by omega) (by omega) (by omega) (by omega) (by omega) c3 ho.2.2 (by show st.length + 1 ≤ 20; omega) ⟨up_s _ _ _, rpS_up st (by omega) hr⟩
      · have hv : 0 ≤ q.2 ∧ q.2 < 5 := by omega
        have h1 : q.1 = 1 := by omega
        have ec : csc q = q.2 * 256 + 2 := by unfold csc; rw [if_neg k0, if_pos h1]
        obtain ⟨d1, d2⟩ := dec_I (x := q.2) (k := 2) (by omega) (by decide)
        rw [ec, d1, d2, if_neg (by decide), if_pos rfl, if_neg k0]
        unfold Laws_value_B70
        rw [if_pos (by omega), if_neg (by omega), if_pos rfl, if_pos (by omega)]
        unfold Laws_value_B95
        rw [gL3 sp ic, if_neg (by decide), gL2 sp ic, aL2 sp ic hv.1 hv.2, r11, sL3 sp ic (by omega) (by omega), wr_up, w32_id (x := (st.length : Int) + 1) (by omega) (by omega), w32_id (x := k + 1) (by omega) (by omega), ← hl (rd h (c + 11) q.2)]
        exact ih n (a + 1) (k + 1) (rd h (c + 11) q.2 :: st) _ (by omega) (by omega) (by omega) (by omega) (by omega) c3 ho.2.2 (by show st.length + 1 ≤ 20; omega) ⟨up_s _ _ _, rpS_up st (by omega) hr⟩
    · rw [if_neg k2] at ho ⊢
      rcases st with _ | ⟨y, _ | ⟨x, st⟩⟩
      · exact absurd ho.1 (by simp)
      · exact absurd ho.1 (by simp)
      · obtain ⟨r1, r2, r3⟩ := hr
        have hq5 : 2 ≤ q.1 ∧ q.1 ≤ 5 := ⟨by omega, ho.2.1⟩
        obtain ⟨o1, o2, o3, o4, o5, o6⟩ := csc_op (z := q.2) hq5
        have hl1 : ((y :: x :: st).length : Int) = (st.length : Int) + 2 := by simp; omega
        have hl2 : ((x :: st).length : Int) = (st.length : Int) + 1 := by simp
        have hl3 : (y :: x :: st).length = st.length + 2 := by simp
        have hl4 : ((opV q.1 x y :: st).length : Int) = (st.length : Int) + 1 := by simp
        have ho2 : okH cs (opV q.1 x y :: st).length 20 := ho.2.2
        rw [hl2] at r1
        have nx := ih n (a + 1) (k + 1) (opV q.1 x y :: st) (up P st.length (opV q.1 x y)) (by omega) (by omega) (by omega) (by omega) (by omega) c3 ho2 (by show st.length + 1 ≤ 20; omega) ⟨up_s _ _ _, rpS_up st (by omega) r3⟩
        rw [hl4] at nx
        have B : ¬ (q.1 = 5 ∧ y = 0) → Laws_value_B212 F (Laws_value_L12 F n) (c + 8) (a + 1) (st.length : Int) k (csc q) x y (sr h (c + 12) P) = Laws_value_L12 F n (c + 8) (a + 1) ((st.length : Int) + 1) (k + 1) (sr h (c + 12) (up P st.length (opV q.1 x y))) := fun hy => by
          unfold Laws_value_B212
          have ecq : Laws_combined F (csc q) x y (sr h (c + 12) P) = some (opV q.1 x y, sr h (c + 12) P) := c_combined hq5 hy q.2
          rw [gL3 sp ic, ecq, cl_some, sL3 sp ic (by omega) (by omega), wr_up, w32_id (x := (st.length : Int) + 1) (by omega) (by omega), w32_id (x := k + 1) (by omega) (by omega)]
        rw [show iand (csc q) 255 = csc q from o1, if_neg (show ¬ csc q = 1 from o2), if_neg (show ¬ csc q = 2 from o3), if_neg (show ¬ csc q = 4 from o5), hl1, w32_id (x := (st.length : Int) + 2 + -2) (by omega) (by omega), show (st.length : Int) + 2 + -2 = (st.length : Int) by omega, if_neg (by omega), gL3 sp ic, aL3 sp ic (by omega) (by omega), gL3 sp ic, w32_id (x := (st.length : Int) + 1) (by omega) (by omega), aL3 sp ic (by omega) (by omega), rd_sr, r1, r2, if_neg (show ¬ csc q = 3 from o4)]
        by_cases hy : q.1 = 5 ∧ y = 0
        · rw [if_pos (show csc q = 47 from o6.2 hy.1), if_pos hy.2]
          simp only
          rw [if_pos hy]
          exact ⟨P, rfl, fun _ e => by cases e⟩
        · have eq : (if csc q = 47 then if y = 0 then some (0, sr h (c + 12) P) else Laws_value_B212 F (Laws_value_L12 F n) (c + 8) (a + 1) (st.length : Int) k (csc q) x y (sr h (c + 12) P) else Laws_value_B212 F (Laws_value_L12 F n) (c + 8) (a + 1) (st.length : Int) k (csc q) x y (sr h (c + 12) P)) = Laws_value_B212 F (Laws_value_L12 F n) (c + 8) (a + 1) (st.length : Int) k (csc q) x y (sr h (c + 12) P) := by
            by_cases z : csc q = 47
            · rw [if_pos z, if_neg (fun w => hy ⟨o6.1 z, w⟩)]
            · rw [if_neg z]
          rw [eq, B hy]
          simp only
          rw [if_neg hy]
          exact nx
