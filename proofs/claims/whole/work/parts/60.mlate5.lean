/-! late, whole; loops with a measure -/
theorem loopM {σ : Type} (L : Nat → σ → Option (Int × Hp)) (μ : σ → Nat) (P : σ → Prop) (Q : Option (Int × Hp) → Prop) (hs : ∀ n x, P x → (∃ y, P y ∧ μ y < μ x ∧ L (n + 1) x = L n y) ∨ Q (L (n + 1) x)) : ∀ n x, P x → μ x < n → Q (L n x) := by
  intro n
  induction n with
  | zero => intro x _ hx; omega
  | succ n ih =>
    intro x hp hx
    rcases hs n x hp with ⟨y, hy, hm, e⟩ | q
    · rw [e]; exact ih y hy (by omega)
    · exact q
theorem Zo_bg {h : Hp} (m : Mo h) : Zo 140 (bgR (dt h)) := fun j hj => by
  have h3 := m.2.2.2.1
  unfold bgR
  rw [if_neg (by omega), if_neg (by omega), if_neg (by omega), if_neg (by omega)]
theorem Zo_actS {h : Hp} (m : Mo h) {R : Int → Int} (z : Zo 140 R) {k w p : Int} (hw : k = 1 ∨ (0 ≤ w ∧ w < dt h 1 0)) (hp : 0 ≤ p ∧ p < dt h 0 0) : Zo 140 (actS (dt h) R k w p) := by
  have hp8 := m.2.2.1
  unfold actS
  by_cases k0 : k = 0
  · rw [if_pos k0]
    split
    · exact z
    · exact Zo_snd m z (by omega) hp
  · rw [if_neg k0]
    by_cases k1 : k = 1
    · rw [if_pos k1]
      split
      · exact z
      · exact Zo_up z (by omega)
    · rw [if_neg k1]
      split
      · split
        · exact z
        · exact Zo_mnd m z (by omega) hp
      · exact z
theorem Zo_rp {h : Hp} (m : Mo h) {R N : Int → Int} (z : Zo 140 R) (ha : Aok (dt h) N) : ∀ i : Nat, (i : Int) ≤ N 44 → i ≤ 30 → Zo 140 (rpR (dt h) R N i)
  | 0, _, _ => z
  | i + 1, h1, h2 => by
    have ih := Zo_rp m z ha i (by omega) (by omega)
    obtain ⟨a, b⟩ := ha i (by omega) (by omega)
    exact Zo_actS m ih a b
theorem Zo_so {h : Hp} (m : MS h) (ha : Aok (dt h) (rd h 239)) (h30 : rd h 239 44 ≤ 30) {w d : Int} (hw : 0 ≤ w ∧ w < dt h 1 0) : Zo 140 (soR h w d) := by
  have h3 := m.1.2.2.2.1
  have h44 := m.2.2.2.2.1
  exact Zo_rp m.1 (Zo_up (Zo_bg m.1) (by omega)) ha _ (by omega) (by omega)
theorem m_isSo' {F : Nat} {h : Hp} {X : Int → Int} {w d : Int} {k : Nat} (hF : 1000 ≤ F) (m : MS h) (z : Zo 140 X) (ha : Aok (dt h) (rd h 239)) (ht : Tdk h) (hw : 0 ≤ w ∧ w < dt h 1 0) (hd : 0 ≤ d ∧ d ≤ 600) (hk : (k : Int) ≤ rd h 194 80) (h30 : rd h 239 44 ≤ 30) : Mod_isSo F 194 w d k (sr h 240 X) = some (if latF h k w d then 1 else 0, sr h 240 (soR h w d)) := by
  have e : dt (sr h 240 X) = dt h := dt_sr (by decide) (by decide) (by decide)
  have e9 : rd (sr h 240 X) 239 = rd h 239 := rd_sr_ne (by decide)
  have e4 : rd (sr h 240 X) 194 = rd h 194 := rd_sr_ne (by decide)
  have m' : MS (sr h 240 X) := by
    obtain ⟨m1, m2, m3, m4, m5, m6, m7⟩ := m
    refine ⟨Mo_sr m1 (by decide) (by decide), by rw [e9]; exact m2, by rw [rd_sr]; exact z, by rw [e9, e]; exact m4, by rw [e9]; exact m5, by rw [e4]; exact m6, by rw [e4]; exact m7⟩
  have t' : Tdk (sr h 240 X) := by
    unfold Tdk
    rw [e4, e, rd_sr_ne (a := 240) (b := 249) (by decide), rd_sr_ne (a := 240) (b := 251) (by decide)]
    exact ht
  have es : soR (sr h 240 X) = soR h := by funext w d; unfold soR; rw [e, e9]
  have ey : sayD (sr h 240 X) = sayD h := by funext R i; unfold sayD; rw [e, rd_sr_ne (a := 240) (b := 249) (by decide), rd_sr_ne (a := 240) (b := 250) (by decide), rd_sr_ne (a := 240) (b := 251) (by decide)]
  have := m_isSo (F := F) (h := sr h 240 X) (w := w) (d := d) (k := k) hF m' (by rw [e, e9]; exact ha) t' (by rw [e]; exact hw) hd (by rw [e4]; exact hk) (by rw [e9]; exact h30)
  rw [this, es, ey, sr_sr]
  rfl
theorem m_late_L65 {F : Nat} {h : Hp} {w i : Int} {k : Nat} (hF : 1000 ≤ F) (R39 : Int → Int → Int → Int → Int → Hp → Option (Int × Hp)) (m : MS h) (ha : Aok (dt h) (rd h 239)) (ht : Tdk h) (hw : 0 ≤ w ∧ w < dt h 1 0) (hk : (k : Int) ≤ rd h 194 80) (h30 : rd h 239 44 ≤ 30) :
    ∀ (q n : Nat) (d c : Int) (X : Int → Int), 0 ≤ d → d + q = 61 → q < n → 0 ≤ c → c ≤ 61 * w + d → Zo 140 X → ∃ Y, Zo 140 Y ∧ Mod_late_L65 F R39 n 194 k i c w d (sr h 240 X) = (match ltI (latF h k w) i w q d c with | Sum.inl v => some (v, sr h 240 Y) | Sum.inr c' => R39 194 k i c' (w + 1) (sr h 240 Y)) ∧ ∀ c', ltI (latF h k w) i w q d c = Sum.inr c' → 0 ≤ c' ∧ c' ≤ 61 * (w + 1) := by
  have h3 := m.1.2.2.2.1
  have hs : ∀ X, Sh (sr h 240 X) := fun X => Sh_sr m.1.1 (by decide) (by decide)
  intro q
  induction q with
  | zero =>
    intro n d c X hd hq hn hc1 hc2 z
    obtain ⟨n, rfl⟩ : ∃ j, n = j + 1 := ⟨n - 1, by omega⟩
    refine ⟨X, z, ?_, fun c' e => ?_⟩
    · show Mod_late_L65s F R39 _ 194 k i c w d _ = _
      unfold Mod_late_L65s
      rw [if_pos (by omega), w32_id (x := w + 1) (by omega) (by omega)]
      rfl
    · rw [ltI] at e
      cases e
      omega
  | succ q ih =>
    intro n d c X hd hq hn hc1 hc2 z
    obtain ⟨n, rfl⟩ : ∃ j, n = j + 1 := ⟨n - 1, by omega⟩
    have zz := Zo_so m ha h30 (d := d) hw
    have e0 : Mod_late_L65 F R39 (n + 1) 194 k i c w d (sr h 240 X) = Mod_late_L65s F R39 (Mod_late_L65 F R39 n) 194 k i c w d (sr h 240 X) := rfl
    unfold Mod_late_L65s at e0
    rw [if_neg (by omega), ivM (hs _), m_isSo' hF m z ha ht hw (by omega) hk h30, cl_some] at e0
    rw [e0, ltI]
    by_cases hf : latF h k w d = true
    · rw [if_pos hf, if_neg (by decide), if_pos hf]
      by_cases hc : c = i
      · rw [if_pos hc, if_pos hc, w32_id (x := 100 * w) (by omega) (by omega), w32_id (x := 100 * w + d) (by omega) (by omega)]
        exact ⟨_, zz, rfl, fun c' e => by cases e⟩
      · rw [if_neg hc, if_neg hc, w32_id (x := c + 1) (by omega) (by omega), w32_id (x := d + 1) (by omega) (by omega)]
        exact ih n (d + 1) (c + 1) _ (by omega) (by omega) (by omega) (by omega) (by omega) zz
    · rw [if_neg hf, if_pos rfl, if_neg hf, w32_id (x := d + 1) (by omega) (by omega)]
      exact ih n (d + 1) c _ (by omega) (by omega) (by omega) (by omega) (by omega) zz
theorem m_late_L39 {F : Nat} {h : Hp} {i : Int} {k : Nat} (hF : 1000 ≤ F) (m : MS h) (ha : Aok (dt h) (rd h 239)) (ht : Tdk h) (hk : (k : Int) ≤ rd h 194 80) (h30 : rd h 239 44 ≤ 30) :
    ∀ (q n : Nat) (w c : Int) (X : Int → Int), 0 ≤ w → w + q = dt h 1 0 → q < n → 0 ≤ c → c ≤ 61 * w → Zo 140 X → ∃ Y, Zo 140 Y ∧ Mod_late_L39 F n 194 k i c w (sr h 240 X) = some (ltO (latF h k) i q w c, sr h 240 Y) := by
  have h3 := m.1.2.2.2.1
  have hl := m.1.2.1
  have hs : ∀ X, Sh (sr h 240 X) := fun X => Sh_sr m.1.1 (by decide) (by decide)
  have e1 : ∀ X, rd (sr h 240 X) 208 (rd (sr h 240 X) 194 18) = dt h 1 0 := fun X => by rw [rd_sr_ne (by decide), rd_sr_ne (by decide)]; rfl
  have e2 : ∀ X, rd (sr h 240 X) 194 18 = rd h 194 18 := fun X => by rw [rd_sr_ne (by decide)]
  intro q
  induction q with
  | zero =>
    intro n w c X hw hq hn hc1 hc2 z
    obtain ⟨n, rfl⟩ : ∃ j, n = j + 1 := ⟨n - 1, by omega⟩
    refine ⟨X, z, ?_⟩
    show Mod_late_L39s F _ 194 k i c w _ = _
    unfold Mod_late_L39s Mod_late_B116
    rw [gM27 (hs _), gM18 (hs _), aM27 (hs _) (by rw [e2]; omega) (by rw [e2]; omega), e1, if_neg (by omega), ltO]
    split <;> rfl
  | succ q ih =>
    intro n w c X hw hq hn hc1 hc2 z
    obtain ⟨n, rfl⟩ : ∃ j, n = j + 1 := ⟨n - 1, by omega⟩
    have e0 : Mod_late_L39 F (n + 1) 194 k i c w (sr h 240 X) = Mod_late_L39s F (Mod_late_L39 F n) 194 k i c w (sr h 240 X) := rfl
    unfold Mod_late_L39s at e0
    rw [gM27 (hs _), gM18 (hs _), aM27 (hs _) (by rw [e2]; omega) (by rw [e2]; omega), e1, if_pos (by omega)] at e0
    have step : ∃ Y, Zo 140 Y ∧ Mod_late_L39 F (n + 1) 194 k i c w (sr h 240 X) = (match ltI (latF h k w) i w (if w = 0 then 61 else 60) (if w = 0 then 0 else 1) c with | Sum.inl v => some (v, sr h 240 Y) | Sum.inr c' => Mod_late_L39 F n 194 k i c' (w + 1) (sr h 240 Y)) ∧ ∀ c', ltI (latF h k w) i w (if w = 0 then 61 else 60) (if w = 0 then 0 else 1) c = Sum.inr c' → 0 ≤ c' ∧ c' ≤ 61 * (w + 1) := by
      rw [e0]
      by_cases w0 : w = 0
      · rw [if_pos w0, if_pos w0, if_pos w0]
        exact m_late_L65 hF _ m ha ht (by omega) hk h30 61 F 0 c X (by omega) (by omega) (by omega) hc1 (by omega) z
      · rw [if_neg w0, if_neg w0, if_neg w0]
        exact m_late_L65 hF _ m ha ht (by omega) hk h30 60 F 1 c X (by omega) (by omega) (by omega) hc1 (by omega) z
    obtain ⟨Y, zy, e, hb⟩ := step
    rw [e, ltO]
    cases hc : ltI (latF h k w) i w (if w = 0 then 61 else 60) (if w = 0 then 0 else 1) c with
    | inl v => exact ⟨Y, zy, rfl⟩
    | inr c' =>
      have := hb c' hc
      exact ih n (w + 1) c' Y (by omega) (by omega) (by omega) this.1 this.2 zy
theorem m_late {F : Nat} {h : Hp} {k i : Int} (hF : 1000 ≤ F) (m : MT h) (ha : Aok (dt h) (rd h 239)) (ht : Tdk h) : ∃ h', Mod_late F 194 k i h = some (latA h k i, h') ∧ Fr h h' := by
  have s := m.1.1.1
  have h44 := m.1.2.2.2.2.1
  have hw3 := m.1.1.2.2.2.1
  unfold Mod_late latA
  rw [gM80 s, m_in, cl_some]
  by_cases hk : 0 ≤ k ∧ k ≤ rd h 194 80
  · rw [if_pos hk, if_neg (by decide)]
    by_cases hi : -1 ≤ i
    · rw [if_neg (by omega), if_neg (not_not_intro ⟨hk, hi⟩), gM62 s, aM62 s (by decide) (by decide)]
      by_cases h30 : 30 < rd h 239 44
      · rw [if_pos h30, if_pos h30]; exact ⟨h, rfl, Fr_refl m⟩
      · rw [if_neg h30, if_neg h30]
        obtain ⟨Y, zy, e⟩ := m_late_L39 (F := F) (h := h) (i := i) (k := k.toNat) hF m.1 ha ht (by omega) (by omega) (dt h 1 0).toNat F 0 0 (rd h 240) (by omega) (by omega) (by omega) (by omega) (by omega) m.1.2.2.1
        rw [sr_self, show ((k.toNat : Nat) : Int) = k by omega] at e
        rw [e]
        exact ⟨_, rfl, Fr_240 (Fr_refl m) zy⟩
    · rw [if_pos (by omega), if_pos (fun q => hi q.2)]; exact ⟨h, rfl, Fr_refl m⟩
  · rw [if_neg hk, if_pos rfl, if_pos (fun q => hk q.1)]; exact ⟨h, rfl, Fr_refl m⟩
