/-! sharesAll and hands, whole -/
def shW (C : Nat → Nat → Bool) : Nat → Nat → Bool
  | 0 => fun s => s == 0
  | w + 1 => shO (shW C w) (C w) (fun _ => false) 256
theorem shI_lt {A c B : Nat → Bool} {s k : Nat} (hA : ∀ v, A v = true → v < 2 ^ k) (hc : ∀ v, c v = true → v < 2 ^ k) (hB : ∀ v, B v = true → v < 2 ^ k) : ∀ n v, shI A c s B n v = true → v < 2 ^ k
  | 0, v, h => hB v h
  | n + 1, v, h => by
    unfold shI at h
    split at h
    · rename_i q
      rw [Bool.or_eq_true] at h
      rcases h with h1 | h1
      · have : v = s ||| n := by simpa using h1
        rw [this]
        exact Nat.or_lt_two_pow (hA s q.2.1) (hc n q.2.2)
      · exact shI_lt hA hc hB n v h1
    · exact shI_lt hA hc hB n v h
theorem shO_lt {A c B : Nat → Bool} {k : Nat} (hA : ∀ v, A v = true → v < 2 ^ k) (hc : ∀ v, c v = true → v < 2 ^ k) (hB : ∀ v, B v = true → v < 2 ^ k) : ∀ n v, shO A c B n v = true → v < 2 ^ k
  | 0, v, h => hB v h
  | n + 1, v, h => shI_lt hA hc (shO_lt hA hc hB n) 256 v h
theorem shW_lt {C : Nat → Nat → Bool} {k : Nat} (hC : ∀ w v, C w v = true → v < 2 ^ k) : ∀ w v, shW C w v = true → v < 2 ^ k := by
  intro w
  induction w with
  | zero =>
    intro v h
    have h' : (v == 0) = true := h
    have : v = 0 := by simpa using h'
    rw [this]
    exact Nat.two_pow_pos k
  | succ w ih =>
    intro v h
    exact shO_lt ih (hC w) (fun v h => Bool.noConfusion h) 256 v h
theorem m_sharesAll {F : Nat} {h0 h : Hp} {C : Nat → Nat → Bool} (hF : 1000 ≤ F) (m : MT h0) (f : Fr h0 h) (hc : ∀ w : Nat, (w : Int) < dt h0 1 0 → ∀ n : Nat, n < 256 → rd h 244 (256 * (w : Int) + n) = if C w n then 1 else 0) :
    ∃ h', Mod_sharesAll F 194 h = some (0, h') ∧ Fr h0 h' ∧ rd h' 240 = rd h 240 ∧ ∀ s : Nat, s < 256 → rd h' 245 s = if shW C (dt h0 1 0).toNat s then 1 else 0 := by
  have sh := f.2.1
  have hw3 := m.1.1.2.2.2.1
  have L32 : ∀ g, (Fr h0 g ∧ rd g 240 = rd h 240 ∧ rd g 244 = rd h 244 ∧ ∀ s : Nat, s < 256 → rd g 245 s = if shW C 0 s then 1 else 0) → ∃ h', Mod_sharesAll_L32 F F 194 0 g = some (0, h') ∧ Fr h0 h' ∧ rd h' 240 = rd h 240 ∧ ∀ s : Nat, s < 256 → rd h' 245 s = if shW C (dt h0 1 0).toNat s then 1 else 0 := by
    intro g hg
    refine loopE (fun n i g => Mod_sharesAll_L32 F n 194 (i : Int) g) (dt h0 1 0).toNat (fun i g => Fr h0 g ∧ rd g 240 = rd h 240 ∧ rd g 244 = rd h 244 ∧ ∀ s : Nat, s < 256 → rd g 245 s = if shW C i s then 1 else 0) (fun o => ∃ h', o = some (0, h') ∧ Fr h0 h' ∧ rd h' 240 = rd h 240 ∧ ∀ s : Nat, s < 256 → rd h' 245 s = if shW C (dt h0 1 0).toNat s then 1 else 0) (fun n i g hi hp => ?_) (fun n g hp => ?_) (dt h0 1 0).toNat F 0 g (by omega) (by omega) hg
    · left
      obtain ⟨fg, p1, p2, p3⟩ := hp
      show ∃ h', _ ∧ Mod_sharesAll_L32s F (Mod_sharesAll_L32 F n) 194 i g = _
      have sg := fg.2.1
      have hl := (Fr_MT m fg).1.1.2.1
      have e0 : rd g 208 (rd g 194 18) = dt h0 1 0 := congrFun (congrFun (Fr_dt fg) 1) 0
      have s1 : Sh (sr g 246 (arB (rd g 246) (shO (shW C i) (C i) (fun _ => false) 256))) := Sh_sr sg (by decide) (by decide)
      refine ⟨sr (sr g 246 (arB (rd g 246) (shO (shW C i) (C i) (fun _ => false) 256))) 245 (putA (rd g 245) 0 256 (arB (rd g 246) (shO (shW C i) (C i) (fun _ => false) 256))), ⟨Fr_sr (Fr_sr fg (by decide)) (by decide), ?_, ?_, fun s hs => ?_⟩, ?_⟩
      · rw [rd_sr_ne (by decide), rd_sr_ne (by decide)]; exact p1
      · rw [rd_sr_ne (by decide), rd_sr_ne (by decide)]; exact p2
      · rw [rd_sr]
        have q := putA_in (C := rd g 245) (g := arB (rd g 246) (shO (shW C i) (C i) (fun _ => false) 256)) (o := 0) (i := 256) (j := (s : Int)) (by omega)
        rw [Int.zero_add] at q
        rw [q, arB_at _ _ hs]
        rfl
      · unfold Mod_sharesAll_L32s
        rw [gM27 sg, gM18 sg, aM27 sg (by omega) (by omega), e0, if_pos (by omega), m_sh_L47 hF _ sg, m_sh_L69 (A := shW C i) (c := C i) hF _ sg (by omega) p3 (fun n hn => by rw [p2]; exact hc i (by omega) n hn), m_sh_L138 hF _ s1 (by omega) (fun s hs => by
          rw [rd_sr, arB_at _ _ hs]
          split
          · exact Or.inr rfl
          · exact Or.inl rfl), rd_sr, rd_sr_ne (by decide)]
        rfl
    · obtain ⟨fg, p1, p2, p3⟩ := hp
      refine ⟨g, ?_, fg, p1, p3⟩
      show Mod_sharesAll_L32s F (Mod_sharesAll_L32 F n) 194 _ g = _
      have sg := fg.2.1
      have hl := (Fr_MT m fg).1.1.2.1
      have e0 : rd g 208 (rd g 194 18) = dt h0 1 0 := congrFun (congrFun (Fr_dt fg) 1) 0
      unfold Mod_sharesAll_L32s
      rw [gM27 sg, gM18 sg, aM27 sg (by omega) (by omega), e0, if_neg (by omega)]
  have key := loop0 (fun n i => Mod_sharesAll_L2 F n 194 (i : Int) (sr h 245 (putA (rd h 245) 0 i (ind (fun s => s == 0))))) 256 F (Mod_sharesAll_L32 F F 194 0 (sr h 245 (arB (rd h 245) (fun s => s == 0)))) (by omega) (fun n i hi => ?_) (fun n => ?_)
  · rw [show ((0 : Nat) : Int) = 0 from rfl, putA_0, sr_self] at key
    obtain ⟨h', e, r⟩ := L32 (sr h 245 (arB (rd h 245) (fun s => s == 0))) ⟨Fr_sr f (by decide), rd_sr_ne (by decide), rd_sr_ne (by decide), fun s hs => by rw [rd_sr, arB_at _ _ hs]; rfl⟩
    exact ⟨h', key.trans e, r⟩
  · show Mod_sharesAll_L2s F (Mod_sharesAll_L2 F n) 194 i _ = _
    have e := putA_up (rd h 245) 0 (ind (fun s => s == 0)) i
    rw [Int.zero_add] at e
    rw [← e]
    generalize putA (rd h 245) 0 i (ind (fun s => s == 0)) = U
    have s1 : Sh (sr h 245 U) := Sh_sr sh (by decide) (by decide)
    unfold Mod_sharesAll_L2s
    rw [if_pos (by omega), gM75 s1, w32_nat (by omega)]
    by_cases h1 : i = 0
    · have e1 : ind (fun s => s == 0) (i : Int) = 1 := by rw [h1]; rfl
      rw [if_pos (by omega), sM75 s1 (by omega) (by omega) (Or.inr rfl), wr_up, e1]
    · have e1 : ind (fun s => s == 0) (i : Int) = 0 := by unfold ind; simp [h1]
      rw [if_neg (by omega), sM75 s1 (by omega) (by omega) (Or.inl rfl), wr_up, e1]
  · show Mod_sharesAll_L2s F (Mod_sharesAll_L2 F n) 194 _ _ = _
    unfold Mod_sharesAll_L2s
    rw [if_neg (by decide)]
    rfl
/-- the first of the best that are reached -/
def hnB (D : Nat → Int → Int) (A : Nat → Bool) : Nat → Nat
  | 0 => 0
  | n + 1 => if A (n + 1) = true ∧ wbV D (hnB D A n) < wbV D (n + 1) then n + 1 else hnB D A n
theorem hnB_lt {D : Nat → Int → Int} {A : Nat → Bool} {k : Nat} (hk : 0 < k) (hA : ∀ v, A v = true → v < k) : ∀ n, hnB D A n < k
  | 0 => hk
  | n + 1 => by
    unfold hnB
    split
    · rename_i h; exact hA _ h.1
    · exact hnB_lt hk hA n
theorem m_hands_L68 {F : Nat} {h : Hp} {q : Int} {A : Nat → Bool} (hF : 1000 ≤ F) (m : Mo h) (hA : ∀ v, A v = true → v < 2 ^ (dt h 0 0).toNat) (hv : ∀ s : Nat, s < 256 → rd h 245 s = if A s then 1 else 0) :
    Mod_hands_L68 F F 194 q 0 1 h = some (if q = 0 then wbV (dt h) (hnB (dt h) A 255) else ((hnB (dt h) A 255 : Nat) : Int), h) := by
  have sh := m.1
  have hpos : 0 < 2 ^ (dt h 0 0).toNat := Nat.two_pow_pos _
  refine loop0 (fun n i => Mod_hands_L68 F n 194 q ((hnB (dt h) A i : Nat) : Int) ((i + 1 : Nat) : Int) h) 255 F _ (by omega) (fun n i hi => ?_) (fun n => ?_)
  · show Mod_hands_L68s F (Mod_hands_L68 F n) 194 q _ ((i + 1 : Nat) : Int) h = _
    have lt := hnB_lt (D := dt h) hpos hA i
    have e : hnB (dt h) A (i + 1) = if A (i + 1) = true ∧ wbV (dt h) (hnB (dt h) A i) < wbV (dt h) (i + 1) then i + 1 else hnB (dt h) A i := rfl
    rw [e]
    generalize hnB (dt h) A i = k at lt ⊢
    unfold Mod_hands_L68s
    rw [if_pos (by omega), gM75 sh, aM75 sh (by omega) (by omega), hv (i + 1) (by omega), w32_nat (by omega)]
    by_cases h1 : A (i + 1) = true
    · rw [if_pos h1, if_neg (by decide), ivM sh, m_worthBy hF m (hA _ h1), cl_some, ivM sh, m_worthBy hF m lt, cl_some]
      by_cases h2 : wbV (dt h) k < wbV (dt h) (i + 1)
      · rw [if_pos h2, if_pos ⟨h1, h2⟩]
      · rw [if_neg h2, if_neg (fun z => h2 z.2)]
    · rw [if_neg h1, if_pos rfl, if_neg (fun z => h1 z.1)]
  · show Mod_hands_L68s F (Mod_hands_L68 F n) 194 q _ _ h = _
    unfold Mod_hands_L68s Mod_hands_B109
    rw [if_neg (by decide), ivM sh, m_worthBy hF m (hnB_lt hpos hA 255), cl_some]
    by_cases h0 : q = 0
    · rw [if_pos h0, if_pos h0]
    · rw [if_neg h0, if_neg h0]
