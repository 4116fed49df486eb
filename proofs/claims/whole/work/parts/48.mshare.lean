/-! the reference's sets that all workers reach together; hands -/
def ind (B : Nat → Bool) : Int → Int := fun j => if B j.toNat then 1 else 0
def arB (C : Int → Int) (B : Nat → Bool) : Int → Int := putA C 0 256 (ind B)
theorem arB_at (C : Int → Int) (B : Nat → Bool) {n : Nat} (hn : n < 256) : arB C B n = if B n then 1 else 0 := by
  unfold arB putA
  rw [if_pos (by omega), Int.sub_zero]
  rfl
theorem arB_up {C : Int → Int} {B : Nat → Bool} {u : Nat} (hu : u < 256) : up (arB C B) (u : Int) 1 = arB C (fun v => v == u || B v) := by
  funext j
  unfold up arB putA ind
  by_cases h1 : j = u
  · rw [if_pos h1, if_pos (by omega), Int.sub_zero]
    have : j.toNat = u := by omega
    simp [this]
  · rw [if_neg h1]
    by_cases h2 : 0 ≤ j ∧ j < 0 + 256
    · rw [if_pos h2, if_pos h2, Int.sub_zero]
      have : ¬ j.toNat = u := by omega
      simp [this]
    · rw [if_neg h2, if_neg h2]
def shI (A c : Nat → Bool) (s : Nat) (B : Nat → Bool) : Nat → Nat → Bool
  | 0 => B
  | n + 1 => if s &&& n = 0 ∧ A s = true ∧ c n = true then fun v => v == (s ||| n) || shI A c s B n v else shI A c s B n
def shO (A c : Nat → Bool) (B : Nat → Bool) : Nat → Nat → Bool
  | 0 => B
  | n + 1 => shI A c n (shO A c B n) 256
theorem m_sh_L78 {F : Nat} {h : Hp} {w : Int} {s : Nat} {C : Int → Int} {A B c : Nat → Bool} (hF : 1000 ≤ F) (R32 : Int → Int → Hp → Option (Int × Hp)) (R69 : Int → Int → Int → Hp → Option (Int × Hp)) (sh : Sh h) (hw : 0 ≤ w ∧ w < 3) (hs : s < 256) (hA : rd h 245 s = if A s then 1 else 0) (hc : ∀ n : Nat, n < 256 → rd h 244 (256 * w + n) = if c n then 1 else 0) :
    Mod_sharesAll_L78 F R32 R69 F 194 w s 0 (sr h 246 (arB C B)) = R69 194 w ((s + 1 : Nat) : Int) (sr h 246 (arB C (shI A c s B 256))) := by
  have hsh : ∀ X, Sh (sr h 246 X) := fun X => Sh_sr sh (by decide) (by decide)
  refine loop0 (fun n i => Mod_sharesAll_L78 F R32 R69 n 194 w s (i : Int) (sr h 246 (arB C (shI A c s B i)))) 256 F _ (by omega) (fun n i hi => ?_) (fun n => ?_)
  · show Mod_sharesAll_L78s F R32 R69 (Mod_sharesAll_L78 F R32 R69 n) 194 w s i _ = _
    have e : shI A c s B (i + 1) = if s &&& i = 0 ∧ A s = true ∧ c i = true then fun v => v == (s ||| i) || shI A c s B i v else shI A c s B i := rfl
    rw [e]
    generalize shI A c s B i = U
    have s1 := hsh (arB C U)
    unfold Mod_sharesAll_L78s
    rw [if_pos (by omega), iand_nat (by omega) (by omega), w32_nat (by omega)]
    by_cases h1 : s &&& i = 0
    · rw [if_pos (by omega), gM75 s1, aM75 s1 (by omega) (by omega), rd_sr_ne (by decide), hA]
      by_cases h2 : A s = true
      · rw [if_pos h2, if_neg (by decide), gM74 s1, w32_id (x := 256 * w) (by omega) (by omega), w32_id (x := 256 * w + (i : Int)) (by omega) (by omega), aM74 s1 (by omega) (by omega), rd_sr_ne (by decide), hc i hi]
        by_cases h3 : c i = true
        · have o1 : s ||| i < 2 ^ 8 := Nat.or_lt_two_pow hs hi
          rw [if_pos h3, if_neg (by decide), gM76 s1, ior_nat (by omega) (by omega), sM76 s1 (by omega) (by omega) (Or.inr rfl), wr_up, arB_up (by omega), if_pos ⟨h1, h2, h3⟩]
        · rw [if_neg h3, if_pos rfl, if_neg (fun z => h3 z.2.2)]
      · rw [if_neg h2, if_pos rfl, if_neg (fun z => h2 z.2.1)]
    · rw [if_neg (by omega), if_neg (fun z => h1 z.1)]
  · show Mod_sharesAll_L78s F R32 R69 (Mod_sharesAll_L78 F R32 R69 n) 194 w s _ _ = _
    unfold Mod_sharesAll_L78s
    rw [if_neg (by decide), w32_nat (by omega)]
theorem m_sh_L69 {F : Nat} {h : Hp} {w : Int} {C : Int → Int} {A B c : Nat → Bool} (hF : 1000 ≤ F) (R32 : Int → Int → Hp → Option (Int × Hp)) (sh : Sh h) (hw : 0 ≤ w ∧ w < 3) (hA : ∀ s : Nat, s < 256 → rd h 245 s = if A s then 1 else 0) (hc : ∀ n : Nat, n < 256 → rd h 244 (256 * w + n) = if c n then 1 else 0) :
    Mod_sharesAll_L69 F R32 F 194 w 0 (sr h 246 (arB C B)) = Mod_sharesAll_L138 F R32 F 194 w 0 (sr h 246 (arB C (shO A c B 256))) := by
  refine loop0 (fun n i => Mod_sharesAll_L69 F R32 n 194 w (i : Int) (sr h 246 (arB C (shO A c B i)))) 256 F _ (by omega) (fun n i hi => ?_) (fun n => ?_)
  · show Mod_sharesAll_L69s F R32 (Mod_sharesAll_L69 F R32 n) 194 w i _ = _
    unfold Mod_sharesAll_L69s
    rw [if_pos (by omega)]
    exact m_sh_L78 hF R32 _ sh hw hi (hA i hi) hc
  · show Mod_sharesAll_L69s F R32 (Mod_sharesAll_L69 F R32 n) 194 w _ _ = _
    unfold Mod_sharesAll_L69s
    rw [if_neg (by decide)]
theorem m_sh_L138 {F : Nat} {h : Hp} {w : Int} (hF : 1000 ≤ F) (R32 : Int → Int → Hp → Option (Int × Hp)) (sh : Sh h) (hw : 0 ≤ w ∧ w < 3) (h01 : ∀ s : Nat, s < 256 → rd h 246 s = 0 ∨ rd h 246 s = 1) :
    Mod_sharesAll_L138 F R32 F 194 w 0 h = R32 194 (w + 1) (sr h 245 (putA (rd h 245) 0 256 (rd h 246))) := by
  have key := loop0 (fun n i => Mod_sharesAll_L138 F R32 n 194 w (i : Int) (sr h 245 (putA (rd h 245) 0 i (rd h 246)))) 256 F (R32 194 (w + 1) (sr h 245 (putA (rd h 245) 0 256 (rd h 246)))) (by omega) (fun n i hi => ?_) (fun n => ?_)
  · rw [show ((0 : Nat) : Int) = 0 from rfl, putA_0, sr_self] at key
    exact key
  · show Mod_sharesAll_L138s F R32 (Mod_sharesAll_L138 F R32 n) 194 w i _ = _
    have e := putA_up (rd h 245) 0 (rd h 246) i
    rw [Int.zero_add] at e
    rw [← e]
    generalize putA (rd h 245) 0 i (rd h 246) = U
    have s1 : Sh (sr h 245 U) := Sh_sr sh (by decide) (by decide)
    unfold Mod_sharesAll_L138s
    rw [if_pos (by omega), gM75 s1, gM76 s1, aM76 s1 (by omega) (by omega), rd_sr_ne (by decide), sM75 s1 (by omega) (by omega) (h01 i hi), wr_up, w32_nat (by omega)]
  · show Mod_sharesAll_L138s F R32 (Mod_sharesAll_L138 F R32 n) 194 w _ _ = _
    unfold Mod_sharesAll_L138s
    rw [if_neg (by decide), w32_id (by omega) (by omega)]
    rfl
theorem m_sh_L47 {F : Nat} {h : Hp} {w : Int} (hF : 1000 ≤ F) (R32 : Int → Int → Hp → Option (Int × Hp)) (sh : Sh h) :
    Mod_sharesAll_L47 F R32 F 194 w 0 h = Mod_sharesAll_L69 F R32 F 194 w 0 (sr h 246 (arB (rd h 246) (fun _ => false))) := by
  have key := loop0 (fun n i => Mod_sharesAll_L47 F R32 n 194 w (i : Int) (sr h 246 (putA (rd h 246) 0 i (ind (fun _ => false))))) 256 F (Mod_sharesAll_L69 F R32 F 194 w 0 (sr h 246 (arB (rd h 246) (fun _ => false)))) (by omega) (fun n i hi => ?_) (fun n => ?_)
  · rw [show ((0 : Nat) : Int) = 0 from rfl, putA_0, sr_self] at key
    exact key
  · show Mod_sharesAll_L47s F R32 (Mod_sharesAll_L47 F R32 n) 194 w i _ = _
    have e := putA_up (rd h 246) 0 (ind (fun _ => false)) i
    rw [Int.zero_add, show ind (fun _ => false) i = 0 from rfl] at e
    rw [← e]
    generalize putA (rd h 246) 0 i (ind (fun _ => false)) = U
    have s1 : Sh (sr h 246 U) := Sh_sr sh (by decide) (by decide)
    unfold Mod_sharesAll_L47s
    rw [if_pos (by omega), gM76 s1, sM76 s1 (by omega) (by omega) (Or.inl rfl), wr_up, w32_nat (by omega)]
  · show Mod_sharesAll_L47s F R32 (Mod_sharesAll_L47 F R32 n) 194 w _ _ = _
    unfold Mod_sharesAll_L47s
    rw [if_neg (by decide)]
    rfl
