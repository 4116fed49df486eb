/-! the reference's isSo, whole -/
def alN (g : Int → Bool) : Nat → Bool
  | 0 => true
  | n + 1 => alN g n && g n
theorem alN_f {g : Int → Bool} {i : Nat} (hi : g i = false) : ∀ n, i < n → alN g n = false
  | 0, h => by omega
  | n + 1, h => by
    unfold alN
    by_cases he : i = n
    · rw [← he, hi, Bool.and_false]
    · rw [alN_f hi n (by omega), Bool.false_and]
def Tdk (h : Hp) : Prop := ∀ i : Int, 0 ≤ i → i < rd h 194 80 → (0 ≤ rd h 249 i ∧ rd h 249 i < dt h 0 0) ∧ (rd h 251 i = 0 ∨ rd h 251 i = 1)
def sayD (h : Hp) (R : Int → Int) (i : Int) : Bool := decide ((if seenD (dt h) R (rd h 249 i) (rd h 250 i) then (1 : Int) else 0) = rd h 251 i)
theorem m_isSo_L125 {F : Nat} {h : Hp} {R : Int → Int} {k : Nat} (hF : 1000 ≤ F) (m : Mo h) (hr : Rok (dt h) R) (ht : Tdk h) (hk : (k : Int) ≤ rd h 194 80) (h20 : rd h 194 80 ≤ 20) : Mod_isSo_L125 F F 194 k 0 (sr h 240 R) = some (if alN (sayD h R) k then 1 else 0, sr h 240 R) := by
  have s1 : Sh (sr h 240 R) := Sh_sr m.1 (by decide) (by decide)
  have m1 : Mo (sr h 240 R) := Mo_sr m (by decide) (by decide)
  have ed : dt (sr h 240 R) = dt h := dt_sr (by decide) (by decide) (by decide)
  refine loopE (fun n i g => Mod_isSo_L125 F n 194 k (i : Int) g) k (fun i g => g = sr h 240 R ∧ alN (sayD h R) i = true) (fun o => o = some (if alN (sayD h R) k then 1 else 0, sr h 240 R)) (fun n i g hi hp => ?_) (fun n g hp => ?_) k F 0 (sr h 240 R) (by omega) (by omega) ⟨rfl, rfl⟩
  · obtain ⟨rfl, al⟩ := hp
    obtain ⟨t1, t2⟩ := ht i (by omega) (by omega)
    have se := m_isSeen (F := F) (h := sr h 240 R) (p := rd h 249 i) (t := rd h 250 i) hF m1 (by rw [ed, rd_sr]; exact hr) (by rw [ed]; exact t1)
    rw [ed, rd_sr] at se
    have st : Mod_isSo_L125s F (Mod_isSo_L125 F n) 194 k i (sr h 240 R) = if (if seenD (dt h) R (rd h 249 i) (rd h 250 i) then (1 : Int) else 0) = rd h 251 i then Mod_isSo_L125 F n 194 k ((i + 1 : Nat) : Int) (sr h 240 R) else rz 0 (sr h 240 R) := by
      unfold Mod_isSo_L125s
      rw [if_pos (by omega), gM81 s1, aM81 s1 (by omega) (by omega), rd_sr_ne (by decide), gM82 s1, aM82 s1 (by omega) (by omega), rd_sr_ne (by decide), ivM s1, se, cl_some, gM83 s1, aM83 s1 (by omega) (by omega), rd_sr_ne (by decide), w32_nat (by omega)]
    by_cases hc : (if seenD (dt h) R (rd h 249 i) (rd h 250 i) then (1 : Int) else 0) = rd h 251 i
    · left
      refine ⟨sr h 240 R, ⟨rfl, ?_⟩, ?_⟩
      · show (alN (sayD h R) i && sayD h R i) = true
        rw [al, Bool.true_and]
        unfold sayD
        exact decide_eq_true hc
      · show Mod_isSo_L125s F (Mod_isSo_L125 F n) 194 k i (sr h 240 R) = _
        rw [st, if_pos hc]
    · right
      show Mod_isSo_L125s F (Mod_isSo_L125 F n) 194 k i (sr h 240 R) = _
      have hf : sayD h R i = false := by unfold sayD; exact decide_eq_false hc
      rw [st, if_neg hc, alN_f hf k hi]
      rfl
  · obtain ⟨rfl, al⟩ := hp
    show Mod_isSo_L125s F (Mod_isSo_L125 F n) 194 k _ (sr h 240 R) = _
    unfold Mod_isSo_L125s
    rw [if_neg (by omega), al]
    rfl
