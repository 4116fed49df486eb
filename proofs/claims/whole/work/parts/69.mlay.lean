/-! the reference lays out a part's day -/
def frN (T : Int → Int) (g : Int) : Nat → Int
  | 0 => if T 0 < g then 1 else 0
  | m + 1 => if T ((m + 1 : Nat) : Int) < g then frN T g m + 1 else 0
theorem frN_in (T : Int → Int) (g : Int) : ∀ m : Nat, 0 ≤ frN T g m ∧ frN T g m ≤ (m : Int) + 1
  | 0 => by unfold frN; split <;> omega
  | m + 1 => by
    have := frN_in T g m
    unfold frN; split <;> omega
def frI (T : Int → Int) (g m : Int) : Int := frN T g m.toNat
/-- for how many minutes it goes on holding, k minutes ahead of the last one -/
def hoK (f : Int → Int) (a b : Int) : Nat → Int
  | 0 => if a ≤ f 599 ∧ f 599 ≤ b then 1 else 0
  | k + 1 => if a ≤ f (598 - (k : Int)) ∧ f (598 - (k : Int)) ≤ b then hoK f a b k + 1 else 0
theorem hoK_in (f : Int → Int) (a b : Int) : ∀ k : Nat, 0 ≤ hoK f a b k ∧ hoK f a b k ≤ (k : Int) + 1
  | 0 => by unfold hoK; split <;> omega
  | k + 1 => by
    have := hoK_in f a b k
    unfold hoK; split <;> omega
def hoI (f : Int → Int) (a b m : Int) : Int := hoK f a b (599 - m).toNat
def nxK (f : Int → Int) (a b t : Int) : Nat → Int
  | 0 => if hoK f a b 0 < t then -2 else 599
  | k + 1 => if hoK f a b (k + 1) < t then nxK f a b t k else 598 - (k : Int)
def nxI (f : Int → Int) (a b t m : Int) : Int := if m = 600 then -2 else nxK f a b t (599 - m).toNat
theorem nxK_in (f : Int → Int) {a b t : Int} (ht : 1 ≤ t) : ∀ k : Nat, nxK f a b t k = -2 ∨ (599 - (k : Int) ≤ nxK f a b t k ∧ nxK f a b t k + t ≤ 600)
  | 0 => by
    have := hoK_in f a b 0
    unfold nxK
    split
    · exact Or.inl rfl
    · refine Or.inr ⟨by omega, by omega⟩
  | k + 1 => by
    have := hoK_in f a b (k + 1)
    have ih := nxK_in f (a := a) (b := b) ht k
    unfold nxK
    split
    · omega
    · refine Or.inr ⟨by omega, by omega⟩
theorem nxI_st (f : Int → Int) (a b t : Int) (k : Nat) (hk : k < 600) : nxI f a b t (599 - (k : Int)) = if hoI f a b (599 - (k : Int)) < t then nxI f a b t (600 - (k : Int)) else 599 - (k : Int) := by
  have tk : (599 - (599 - (k : Int))).toNat = k := by omega
  have e1 : nxI f a b t (599 - (k : Int)) = nxK f a b t k := by
    unfold nxI; rw [if_neg (by omega), tk]
  have e2 : hoI f a b (599 - (k : Int)) = hoK f a b k := by unfold hoI; rw [tk]
  rw [e1, e2]
  rcases k with _ | k
  · have e3 : nxI f a b t (600 - ((0 : Nat) : Int)) = -2 := by unfold nxI; rw [if_pos (by omega)]
    rw [e3]
    rfl
  · have e3 : nxI f a b t (600 - ((k + 1 : Nat) : Int)) = nxK f a b t k := by
      unfold nxI; rw [if_neg (by omega), show (599 - (600 - ((k + 1 : Nat) : Int))).toNat = k by omega]
    rw [e3, show 599 - ((k + 1 : Nat) : Int) = 598 - (k : Int) by omega]
    rfl
/-- filled from the end on -/
def pdA (C : Int → Int) (o n k : Int) (g : Int → Int) : Int → Int := fun j => if o + n - k ≤ j ∧ j < o + n then g (j - o) else C j
theorem pdA_0 (C : Int → Int) (o n : Int) (g : Int → Int) : pdA C o n 0 g = C := by
  funext j; unfold pdA; rw [if_neg (by omega)]
theorem pdA_up (C : Int → Int) (o n k : Int) (g : Int → Int) (hk : 0 ≤ k) {v i : Int} (hi : i = o + n - 1 - k) (hv : v = g (n - 1 - k)) : up (pdA C o n k g) i v = pdA C o n (k + 1) g := by
  subst hi hv
  funext j
  unfold up pdA
  by_cases h1 : j = o + n - 1 - k
  · rw [if_pos h1, if_pos (by omega), h1, show o + n - 1 - k - o = n - 1 - k by omega]
  · rw [if_neg h1]
    by_cases h2 : o + n - k ≤ j ∧ j < o + n
    · rw [if_pos h2, if_pos (by omega)]
    · rw [if_neg h2, if_neg (by omega)]
theorem pdA_n (C : Int → Int) (o n : Int) (g : Int → Int) : pdA C o n n g = putA C o n g := by
  funext j
  unfold pdA putA
  by_cases h : o ≤ j ∧ j < o + n
  · rw [if_pos (by omega), if_pos h]
  · rw [if_neg (by omega), if_neg h]
theorem pdA_in {C g : Int → Int} {o n k j : Int} (h : n - k ≤ j ∧ j < n) : pdA C o n k g (o + j) = g j := by
  unfold pdA
  rw [if_pos (by omega), show o + j - o = j by omega]
def lyH (h : Hp) (F3 F4 F5 : Int → Int) : Hp := sr (sr (sr h 236 F3) 237 F4) 238 F5
theorem lyH_sh {h : Hp} (s : Sh h) (a b c : Int → Int) : Sh (lyH h a b c) := Sh_sr (Sh_sr (Sh_sr s (by decide) (by decide)) (by decide) (by decide)) (by decide) (by decide)
theorem lyH_6 (h : Hp) (a b c : Int → Int) : rd (lyH h a b c) 236 = a := by unfold lyH; rw [rd_sr_ne (by decide), rd_sr_ne (by decide), rd_sr]
theorem lyH_7 (h : Hp) (a b c : Int → Int) : rd (lyH h a b c) 237 = b := by unfold lyH; rw [rd_sr_ne (by decide), rd_sr]
theorem lyH_8 (h : Hp) (a b c : Int → Int) : rd (lyH h a b c) 238 = c := by unfold lyH; rw [rd_sr]
theorem lyH_ne {h : Hp} {a b c : Int → Int} {i : Int} (h1 : ¬ (236 ≤ i ∧ i ≤ 238)) : rd (lyH h a b c) i = rd h i := by unfold lyH; rw [rd_sr_ne (by omega), rd_sr_ne (by omega), rd_sr_ne (by omega)]
theorem lyH_w6 (h : Hp) (a b c : Int → Int) (i v : Int) : wr (lyH h a b c) 236 i v = lyH h (up a i v) b c := by
  rw [wr_sr, lyH_6]
  refine hp_ext rfl rfl rfl rfl (fun x j => ?_)
  by_cases h8 : x = 238
  · subst h8; rw [rd_sr_ne (by decide), lyH_8, lyH_8]
  · by_cases h7 : x = 237
    · subst h7; rw [rd_sr_ne (by decide), lyH_7, lyH_7]
    · by_cases h6 : x = 236
      · subst h6; rw [rd_sr, lyH_6]
      · rw [rd_sr_ne h6, lyH_ne (by omega), lyH_ne (by omega)]
theorem lyH_w7 (h : Hp) (a b c : Int → Int) (i v : Int) : wr (lyH h a b c) 237 i v = lyH h a (up b i v) c := by
  rw [wr_sr, lyH_7]
  refine hp_ext rfl rfl rfl rfl (fun x j => ?_)
  by_cases h8 : x = 238
  · subst h8; rw [rd_sr_ne (by decide), lyH_8, lyH_8]
  · by_cases h7 : x = 237
    · subst h7; rw [rd_sr, lyH_7]
    · by_cases h6 : x = 236
      · subst h6; rw [rd_sr_ne (by decide), lyH_6, lyH_6]
      · rw [rd_sr_ne h7, lyH_ne (by omega), lyH_ne (by omega)]
theorem lyH_w8 (h : Hp) (a b c : Int → Int) (i v : Int) : wr (lyH h a b c) 238 i v = lyH h a b (up c i v) := by
  rw [wr_sr, lyH_8]
  refine hp_ext rfl rfl rfl rfl (fun x j => ?_)
  by_cases h8 : x = 238
  · subst h8; rw [rd_sr, lyH_8]
  · rw [rd_sr_ne h8]
    by_cases h7 : x = 237
    · subst h7; rw [lyH_7, lyH_7]
    · by_cases h6 : x = 236
      · subst h6; rw [lyH_6, lyH_6]
      · rw [lyH_ne (by omega), lyH_ne (by omega)]
theorem m_lays_L132 {F : Nat} {h : Hp} {p a b t : Int} {f A B C : Int → Int} (s : Sh h) (hl : rd h 194 18 = 0 ∨ rd h 194 18 = 1) (hp : 0 ≤ p ∧ p < 16) (ha : rd h 212 (rd h 194 18) = a) (hb : rd h 213 (rd h 194 18) = b) (ht : rd h 234 p = t) :
    ∀ (j n k : Nat), k + j = 600 → j < n → Mod_laysPart_L132 F n 194 p (599 - (k : Int)) (lyH h (putA A (600 * p) 600 f) (pdA B (600 * p) 600 k (hoI f a b)) (pdA C (601 * p) 601 ((k : Int) + 1) (nxI f a b t))) = some (0, lyH h (putA A (600 * p) 600 f) (putA B (600 * p) 600 (hoI f a b)) (putA C (601 * p) 601 (nxI f a b t))) := by
  intro j
  induction j with
  | zero =>
    intro n k hk hn
    obtain ⟨n, rfl⟩ : ∃ j, n = j + 1 := ⟨n - 1, by omega⟩
    show Mod_laysPart_L132s F _ 194 p _ _ = _
    unfold Mod_laysPart_L132s
    rw [if_pos (by omega), show (k : Int) = 600 by omega, pdA_n, show (600 : Int) + 1 = 601 from rfl, pdA_n]
  | succ j ih =>
    intro n k hk hn
    obtain ⟨n, rfl⟩ : ∃ j, n = j + 1 := ⟨n - 1, by omega⟩
    show Mod_laysPart_L132s F (Mod_laysPart_L132 F n) 194 p _ _ = _
    have nx := ih n (k + 1) (by omega) (by omega)
    have s1 := lyH_sh s (putA A (600 * p) 600 f) (pdA B (600 * p) 600 k (hoI f a b)) (pdA C (601 * p) 601 ((k : Int) + 1) (nxI f a b t))
    have e18 : ∀ x y z, rd (lyH h x y z) 194 18 = rd h 194 18 := fun x y z => by rw [lyH_ne (by decide)]
    have hold : Mod_isHolding F 194 p (599 - (k : Int)) (lyH h (putA A (600 * p) 600 f) (pdA B (600 * p) 600 k (hoI f a b)) (pdA C (601 * p) 601 ((k : Int) + 1) (nxI f a b t))) = some (if a ≤ f (599 - (k : Int)) ∧ f (599 - (k : Int)) ≤ b then 1 else 0, lyH h (putA A (600 * p) 600 f) (pdA B (600 * p) 600 k (hoI f a b)) (pdA C (601 * p) 601 ((k : Int) + 1) (nxI f a b t))) := by
      unfold Mod_isHolding
      rw [gM59 s1, w32_id (x := 600 * p) (by omega) (by omega), w32_id (x := 600 * p + (599 - (k : Int))) (by omega) (by omega), aM59 s1 (by omega) (by omega), lyH_6, putA_in (by omega), gM31 s1, gM18 s1, e18, aM31 s1 (by omega) (by omega), lyH_ne (by decide), ha, gM32 s1, gM18 s1, e18, aM32 s1 (by omega) (by omega), lyH_ne (by decide), hb, m_in, cl_some]
      split <;> rfl
    -- the step's second half
    have B2 : ∀ v, v = hoI f a b (599 - (k : Int)) → Mod_laysPart_B183 F (Mod_laysPart_L132 F n) 194 p (599 - (k : Int)) (600 * p + (599 - (k : Int))) v (600 * p + (599 - (k : Int))) 237 (lyH h (putA A (600 * p) 600 f) (pdA B (600 * p) 600 k (hoI f a b)) (pdA C (601 * p) 601 ((k : Int) + 1) (nxI f a b t))) = some (0, lyH h (putA A (600 * p) 600 f) (putA B (600 * p) 600 (hoI f a b)) (putA C (601 * p) 601 (nxI f a b t))) := by
      intro v hv
      unfold Mod_laysPart_B183
      have u1 := pdA_up B (600 * p) 600 k (hoI f a b) (by omega) (v := v) (i := 600 * p + (599 - (k : Int))) (by omega) (hv.trans (congrArg (hoI f a b) (by omega)))
      rw [sM60 s1 (by omega) (by omega), lyH_w7, u1]
      have s2 := lyH_sh s (putA A (600 * p) 600 f) (pdA B (600 * p) 600 ((k : Int) + 1) (hoI f a b)) (pdA C (601 * p) 601 ((k : Int) + 1) (nxI f a b t))
      have r7 : pdA B (600 * p) 600 ((k : Int) + 1) (hoI f a b) (600 * p + (599 - (k : Int))) = hoI f a b (599 - (k : Int)) := pdA_in (by omega)
      have r8 : pdA C (601 * p) 601 ((k : Int) + 1) (nxI f a b t) (601 * p + (599 - (k : Int)) + 1) = nxI f a b t (600 - (k : Int)) := by
        rw [show 601 * p + (599 - (k : Int)) + 1 = 601 * p + (600 - (k : Int)) by omega]; exact pdA_in (by omega)
      have tk : (599 - (599 - (k : Int))).toNat = k := by omega
      have nk := nxI_st f a b t k (by omega)
      have fin : ∀ x, x = nxI f a b t (599 - (k : Int)) → Mod_laysPart_L132 F n 194 p (599 - (k : Int) + -1) (lyH h (putA A (600 * p) 600 f) (pdA B (600 * p) 600 ((k : Int) + 1) (hoI f a b)) (up (pdA C (601 * p) 601 ((k : Int) + 1) (nxI f a b t)) (601 * p + (599 - (k : Int))) x)) = some (0, lyH h (putA A (600 * p) 600 f) (putA B (600 * p) 600 (hoI f a b)) (putA C (601 * p) 601 (nxI f a b t))) := by
        intro x hx
        rw [pdA_up C (601 * p) 601 ((k : Int) + 1) (nxI f a b t) (by omega) (v := x) (i := 601 * p + (599 - (k : Int))) (by omega) (hx.trans (congrArg (nxI f a b t) (by omega)))]
        rw [show 599 - (k : Int) + -1 = 599 - ((k + 1 : Nat) : Int) by omega, show (k : Int) + 1 = ((k + 1 : Nat) : Int) by omega]
        exact nx
      rw [gM61 s2, gM60 s2, aM60 s2 (by omega) (by omega), lyH_7, r7, gM57 s2, aM57 s2 hp.1 hp.2, lyH_ne (by decide), ht, w32_id (x := 601 * p) (by omega) (by omega), w32_id (x := 601 * p + (599 - (k : Int))) (by omega) (by omega), w32_id (x := 601 * p + (599 - (k : Int)) + 1) (by omega) (by omega), w32_id (x := 599 - (k : Int) + -1) (by omega) (by omega)]
      by_cases hc : hoI f a b (599 - (k : Int)) < t
      · rw [if_pos hc] at nk
        rw [if_pos hc, gM61 s2, aM61 s2 (by omega) (by omega), lyH_8, r8, sM61 s2 (by omega) (by omega), lyH_w8]
        exact fin _ nk.symm
      · rw [if_neg hc] at nk
        rw [if_neg hc, sM61 s2 (by omega) (by omega), lyH_w8]
        exact fin _ nk.symm
    unfold Mod_laysPart_L132s
    rw [if_neg (by omega), w32_id (x := 600 * p) (by omega) (by omega), w32_id (x := 600 * p + (599 - (k : Int))) (by omega) (by omega), lt_eq, gM60 s1, ivM s1, hold, cl_some]
    have tk : (599 - (599 - (k : Int))).toNat = k := by omega
    by_cases hc : a ≤ f (599 - (k : Int)) ∧ f (599 - (k : Int)) ≤ b
    · rw [if_pos hc, if_neg (by decide)]
      by_cases k0 : k = 0
      · rw [if_pos (by omega)]
        refine B2 1 ?_
        unfold hoI
        rw [tk, k0]
        unfold hoK
        rw [k0] at hc
        rw [if_pos (by simpa using hc)]
      · obtain ⟨k', rfl⟩ : ∃ k', k = k' + 1 := ⟨k - 1, by omega⟩
        have hk' := hoK_in f a b k'
        have r7 : pdA B (600 * p) 600 ((k' + 1 : Nat) : Int) (hoI f a b) (600 * p + (599 - ((k' + 1 : Nat) : Int)) + 1) = hoK f a b k' := by
          rw [show 600 * p + (599 - ((k' + 1 : Nat) : Int)) + 1 = 600 * p + (599 - (k' : Int)) by omega, pdA_in (by omega)]
          exact congrArg (hoK f a b) (by omega)
        rw [if_neg (by omega), gM60 s1, w32_id (x := 600 * p + (599 - ((k' + 1 : Nat) : Int)) + 1) (by omega) (by omega), aM60 s1 (by omega) (by omega), lyH_7, r7, w32_id (x := hoK f a b k' + 1) (by omega) (by omega)]
        refine B2 _ ?_
        unfold hoI
        rw [tk]
        show _ = if a ≤ f (598 - (k' : Int)) ∧ f (598 - (k' : Int)) ≤ b then hoK f a b k' + 1 else 0
        rw [show 599 - ((k' + 1 : Nat) : Int) = 598 - (k' : Int) by omega] at hc
        rw [if_pos hc]
    · rw [if_neg hc, if_pos rfl]
      refine B2 0 ?_
      unfold hoI
      rw [tk]
      by_cases k0 : k = 0
      · rw [k0] at hc ⊢
        unfold hoK
        rw [if_neg (by simpa using hc)]
      · obtain ⟨k', rfl⟩ : ∃ k', k = k' + 1 := ⟨k - 1, by omega⟩
        show _ = if a ≤ f (598 - (k' : Int)) ∧ f (598 - (k' : Int)) ≤ b then hoK f a b k' + 1 else 0
        rw [show 599 - ((k' + 1 : Nat) : Int) = 598 - (k' : Int) by omega] at hc
        rw [if_neg hc]
