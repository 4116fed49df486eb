/-! the reference lays out the day -/
def hgV (L : Lw) (x y : Int) : Int := clm (-9999) 9999 (lawV y L (vv x y 0 0 0))
def tdV (L : Lw) (m : Int) : Int := clm (-9999) 9999 (lawV 0 L (vv 0 0 m 0 0))
def snV (L : Lw) (m : Int) : Int := clm 0 100 (lawV 100 L (vv 0 0 m 0 0))
def dgV (L : Lw) (x y m : Int) : Int := clm 0 100 (lawV 0 L (vv x y m 0 0))
theorem lyH_self (h : Hp) : lyH h (rd h 236) (rd h 237) (rd h 238) = h := by
  unfold lyH
  rw [sr_self, sr_self, sr_self]
theorem m_lays_L44 {F : Nat} {h : Hp} {p g a b t : Int} (hF : 1000 ≤ F) (s : Sh h) (hl : rd h 194 18 = 0 ∨ rd h 194 18 = 1) (hp : 0 ≤ p ∧ p < 16) (hg : rd h 235 p = g) (ha : rd h 212 (rd h 194 18) = a) (hb : rd h 213 (rd h 194 18) = b) (ht : rd h 234 p = t) :
    Mod_laysPart_L44 F F 194 p 0 h = some (0, lyH h (putA (rd h 236) (600 * p) 600 (frI (rd h 229) g)) (putA (rd h 237) (600 * p) 600 (hoI (frI (rd h 229) g) a b)) (putA (rd h 238) (601 * p) 601 (nxI (frI (rd h 229) g) a b t))) := by
  have key := loop0 (fun n i => Mod_laysPart_L44 F n 194 p (i : Nat) (lyH h (putA (rd h 236) (600 * p) i (frI (rd h 229) g)) (rd h 237) (rd h 238))) 600 F (some (0, lyH h (putA (rd h 236) (600 * p) 600 (frI (rd h 229) g)) (putA (rd h 237) (600 * p) 600 (hoI (frI (rd h 229) g) a b)) (putA (rd h 238) (601 * p) 601 (nxI (frI (rd h 229) g) a b t)))) (by omega) (fun n i hi => ?_) (fun n => ?_)
  · rw [show ((0 : Nat) : Int) = 0 from rfl, putA_0, lyH_self] at key
    exact key
  · show Mod_laysPart_L44s F (Mod_laysPart_L44 F n) 194 p _ _ = _
    have s1 := lyH_sh s (putA (rd h 236) (600 * p) i (frI (rd h 229) g)) (rd h 237) (rd h 238)
    unfold Mod_laysPart_L44s
    rw [if_pos (by omega), gM59 s1, gM52 s1, aM52 s1 (by omega) (by omega), lyH_ne (by decide), gM58 s1, aM58 s1 hp.1 hp.2, lyH_ne (by decide), hg, w32_id (x := 600 * p) (by omega) (by omega), w32_id (x := 600 * p + (i : Int)) (by omega) (by omega), w32_nat (by omega)]
    have e : frI (rd h 229) g i = frN (rd h 229) g i := by unfold frI; rw [Int.toNat_natCast]
    have fin : ∀ v, v = frI (rd h 229) g i → Mod_laysPart_L44 F n 194 p ((i + 1 : Nat) : Int) (lyH h (up (putA (rd h 236) (600 * p) i (frI (rd h 229) g)) (600 * p + (i : Int)) v) (rd h 237) (rd h 238)) = Mod_laysPart_L44 F n 194 p ((i + 1 : Nat) : Int) (lyH h (putA (rd h 236) (600 * p) ((i + 1 : Nat) : Int) (frI (rd h 229) g)) (rd h 237) (rd h 238)) := by
      intro v hv
      rw [hv, putA_up]
    by_cases hc : rd h 229 i < g
    · rw [if_pos hc]
      by_cases i0 : i = 0
      · rw [if_pos (by omega), sM59 s1 (by omega) (by omega), lyH_w6]
        refine fin _ ?_
        rw [e, i0]
        rw [i0] at hc
        exact (if_pos hc).symm
      · obtain ⟨k, rfl⟩ : ∃ k, i = k + 1 := ⟨i - 1, by omega⟩
        have hk := frN_in (rd h 229) g k
        have r : putA (rd h 236) (600 * p) ((k + 1 : Nat) : Int) (frI (rd h 229) g) (600 * p + ((k + 1 : Nat) : Int) - 1) = frN (rd h 229) g k := by
          rw [show 600 * p + ((k + 1 : Nat) : Int) - 1 = 600 * p + (k : Int) by omega, putA_in (by omega)]
          unfold frI; rw [Int.toNat_natCast]
        rw [if_neg (by omega), gM59 s1, w32_id (x := 600 * p + ((k + 1 : Nat) : Int) - 1) (by omega) (by omega), aM59 s1 (by omega) (by omega), lyH_6, r, w32_id (x := frN (rd h 229) g k + 1) (by omega) (by omega), sM59 s1 (by omega) (by omega), lyH_w6]
        refine fin _ ?_
        rw [e]
        show _ = if rd h 229 ((k + 1 : Nat) : Int) < g then frN (rd h 229) g k + 1 else 0
        rw [if_pos hc]
    · rw [if_neg hc, sM59 s1 (by omega) (by omega), lyH_w6]
      refine fin _ ?_
      rw [e]
      rcases i with _ | k
      · exact (if_neg hc).symm
      · show _ = if rd h 229 ((k + 1 : Nat) : Int) < g then frN (rd h 229) g k + 1 else 0
        rw [if_neg hc]
  · show Mod_laysPart_L44s F (Mod_laysPart_L44 F n) 194 p _ _ = _
    have s1 := lyH_sh s (putA (rd h 236) (600 * p) 600 (frI (rd h 229) g)) (rd h 237) (rd h 238)
    unfold Mod_laysPart_L44s Mod_laysPart_B112
    rw [if_neg (by decide), show ((600 : Nat) : Int) = 600 from rfl, gM61 s1, w32_id (x := 601 * p) (by omega) (by omega), w32_id (x := 601 * p + 600) (by omega) (by omega), sM61 s1 (by omega) (by omega), lyH_w8]
    have u := pdA_up (rd h 238) (601 * p) 601 0 (nxI (frI (rd h 229) g) a b t) (by decide) (v := -2) (i := 601 * p + 600) (by omega) (by unfold nxI; rw [if_pos (by decide)])
    rw [pdA_0] at u
    rw [u]
    have := m_lays_L132 (F := F) (h := h) (p := p) (a := a) (b := b) (t := t) (f := frI (rd h 229) g) (A := rd h 236) (B := rd h 237) (C := rd h 238) s hl hp ha hb ht 600 F 0 (by omega) (by omega)
    rw [show ((0 : Nat) : Int) = 0 from rfl, pdA_0] at this
    exact this
theorem m_laysPart {F : Nat} {h : Hp} {p : Int} {L : Lw} (hF : 1000 ≤ F) (s : Sh h) (hl : rd h 194 18 = 0 ∨ rd h 194 18 = 1) (hp : 0 ≤ p ∧ p < 16) (g : RLw h 0 L) :
    ∃ h1, Lk h h1 ∧ Mod_laysPart F 194 p h = some (0, lyH (wr h1 235 p (hgV L (rd h 232 p) (rd h 233 p))) (putA (rd h 236) (600 * p) 600 (frI (rd h 229) (hgV L (rd h 232 p) (rd h 233 p)))) (putA (rd h 237) (600 * p) 600 (hoI (frI (rd h 229) (hgV L (rd h 232 p) (rd h 233 p))) (rd h 212 (rd h 194 18)) (rd h 213 (rd h 194 18)))) (putA (rd h 238) (601 * p) 601 (nxI (frI (rd h 229) (hgV L (rd h 232 p) (rd h 233 p))) (rd h 212 (rd h 194 18)) (rd h 213 (rd h 194 18)) (rd h 234 p)))) := by
  obtain ⟨h1, e, l, r⟩ := m_setsTells (F := F) (h := h) (k := 0) (pl := rd h 233 p) (lo := -9999) (hi := 9999) (x := rd h 232 p) (y := rd h 233 p) (m := 0) (f := 0) (o := 0) hF s hl (by decide) (by decide) g
  refine ⟨h1, l, ?_⟩
  have s0 : Sh (sr h 227 (vs5 (rd h 227) (rd h 232 p) (rd h 233 p) 0 0 0)) := Sh_sr s (by decide) (by decide)
  have s1 := l.2.1
  have s2 : Sh (wr h1 235 p (hgV L (rd h 232 p) (rd h 233 p))) := shA s1 (by decide) (by decide)
  unfold Mod_laysPart
  rw [gM55 s, aM55 s hp.1 hp.2, gM56 s, aM56 s hp.1 hp.2, ivM s, m_setsOf s, cl_some, gM58 s0, gM56 s0, aM56 s0 hp.1 hp.2, rd_sr_ne (by decide), ivM s0, e, cl_some, sM58 s1 hp.1 hp.2]
  have e1 : ∀ a : Int, a ≠ 194 → ¬ (a = 227 ∨ a = 228) → a ≠ 235 → rd (wr h1 235 p (hgV L (rd h 232 p) (rd h 233 p))) a = rd h a := fun a q1 q2 q3 => by rw [rd_wr_ne q3]; exact l.2.2.1 a q1 q2
  have e2 : rd (wr h1 235 p (hgV L (rd h 232 p) (rd h 233 p))) 194 18 = rd h 194 18 := by rw [rd_wr_ne (by decide)]; exact l.2.2.2 18 (by decide)
  have := m_lays_L44 (F := F) (h := wr h1 235 p (hgV L (rd h 232 p) (rd h 233 p))) (p := p) hF s2 (by rw [e2]; exact hl) hp rfl rfl rfl rfl
  rw [e2, e1 236 (by decide) (by decide) (by decide), e1 237 (by decide) (by decide) (by decide), e1 238 (by decide) (by decide) (by decide), e1 229 (by decide) (by decide) (by decide), e1 212 (by decide) (by decide) (by decide), e1 213 (by decide) (by decide) (by decide), e1 234 (by decide) (by decide) (by decide), rd_same] at this
  exact this
/-- only the day's cells may differ -/
def Fy (h h' : Hp) : Prop := (hsz h' = hsz h ∧ hus h' = hus h ∧ hkd h' = hkd h ∧ hln h' = hln h) ∧ Sh h' ∧ (∀ a : Int, a ≠ 194 → ¬ (227 ≤ a ∧ a ≤ 238) → rd h' a = rd h a) ∧ ∀ k : Int, k ≠ 51 → rd h' 194 k = rd h 194 k
theorem Fy_refl {h : Hp} (s : Sh h) : Fy h h := ⟨⟨rfl, rfl, rfl, rfl⟩, s, fun _ _ _ => rfl, fun _ _ => rfl⟩
theorem Fy_Lk {h h' h'' : Hp} (a : Fy h h') (b : Lk h' h'') : Fy h h'' := by
  obtain ⟨⟨a1, a2, a3, a4⟩, a5, a6, a7⟩ := a
  obtain ⟨⟨b1, b2, b3, b4⟩, b5, b6, b7⟩ := b
  exact ⟨⟨b1.trans a1, b2.trans a2, b3.trans a3, b4.trans a4⟩, b5, fun a h1 h2 => (b6 a h1 (by omega)).trans (a6 a h1 h2), fun k hk => (b7 k hk).trans (a7 k hk)⟩
theorem Fy_sr {h h' : Hp} (a : Fy h h') {i : Int} {R : Int → Int} (hi : 227 ≤ i ∧ i ≤ 238) : Fy h (sr h' i R) := by
  obtain ⟨a1, a5, a6, a7⟩ := a
  exact ⟨a1, Sh_sr a5 (by omega) (by omega), fun a h1 h2 => by rw [rd_sr_ne (by omega)]; exact a6 a h1 h2, fun k hk => by rw [rd_sr_ne (by omega)]; exact a7 k hk⟩
theorem Fy_wr {h h' : Hp} (a : Fy h h') {i j v : Int} (hi : 227 ≤ i ∧ i ≤ 238) : Fy h (wr h' i j v) := by rw [wr_sr]; exact Fy_sr a hi
theorem Fy_RL {h h' : Hp} (a : Fy h h') {k : Int} {L : Lw} (g : RLw h k L) : RLw h' k L := RL_eq (a.2.2.2 18 (by decide)) (fun b h1 h2 => a.2.2.1 b (by omega) (by omega)) g
theorem Fy_trans {h h' h'' : Hp} (a : Fy h h') (b : Fy h' h'') : Fy h h'' := by
  obtain ⟨⟨a1, a2, a3, a4⟩, a5, a6, a7⟩ := a
  obtain ⟨⟨b1, b2, b3, b4⟩, b5, b6, b7⟩ := b
  exact ⟨⟨b1.trans a1, b2.trans a2, b3.trans a3, b4.trans a4⟩, b5, fun a h1 h2 => (b6 a h1 h2).trans (a6 a h1 h2), fun k hk => (b7 k hk).trans (a7 k hk)⟩
theorem m_lay_L2 {F : Nat} {h0 : Hp} {Λ : Nat → Lw} (hF : 1000 ≤ F) (s0 : Sh h0) (hl : rd h0 194 18 = 0 ∨ rd h0 194 18 = 1) (g1 : RLw h0 1 (Λ 1)) (g2 : RLw h0 2 (Λ 2)) :
    ∀ (j n i : Nat) (h : Hp), i + j = 600 → j < n → Fy h0 h → (∀ a, 231 ≤ a → a ≤ 238 → rd h a = rd h0 a) → rd h 229 = putA (rd h0 229) 0 i (tdV (Λ 1)) → rd h 230 = putA (rd h0 230) 0 i (snV (Λ 2)) →
    ∃ h', Fy h0 h' ∧ (∀ a, 231 ≤ a → a ≤ 238 → rd h' a = rd h0 a) ∧ rd h' 229 = putA (rd h0 229) 0 600 (tdV (Λ 1)) ∧ rd h' 230 = putA (rd h0 230) 0 600 (snV (Λ 2)) ∧ Mod_layOut_L2 F n 194 i h = Mod_layOut_L60 F F 194 0 h' := by
  intro j
  induction j with
  | zero =>
    intro n i h hi hn f e e1 e2
    obtain ⟨n, rfl⟩ : ∃ j, n = j + 1 := ⟨n - 1, by omega⟩
    have : i = 600 := by omega
    subst this
    refine ⟨h, f, e, e1, e2, ?_⟩
    show Mod_layOut_L2s F _ 194 _ h = _
    unfold Mod_layOut_L2s
    rw [if_neg (by decide)]
  | succ j ih =>
    intro n i h hi hn f e e1 e2
    obtain ⟨n, rfl⟩ : ∃ j, n = j + 1 := ⟨n - 1, by omega⟩
    have s := f.2.1
    have hl1 : rd h 194 18 = 0 ∨ rd h 194 18 = 1 := by rw [f.2.2.2 18 (by decide)]; exact hl
    obtain ⟨h1, q1, l1, r1⟩ := m_setsTells (F := F) (h := h) (k := 1) (pl := 0) (lo := -9999) (hi := 9999) (x := 0) (y := 0) (m := i) (f := 0) (o := 0) hF s hl1 (by decide) (by decide) (Fy_RL f g1)
    have s1 := l1.2.1
    have f1 := Fy_Lk f l1
    have f2 : Fy h0 (wr h1 229 i (tdV (Λ 1) i)) := Fy_wr f1 (by decide)
    have s2 := f2.2.1
    have hl2 : rd (wr h1 229 i (tdV (Λ 1) i)) 194 18 = 0 ∨ rd (wr h1 229 i (tdV (Λ 1) i)) 194 18 = 1 := by rw [f2.2.2.2 18 (by decide)]; exact hl
    have r2 : rd (wr h1 229 i (tdV (Λ 1) i)) 227 = vs5 (rd h 227) 0 0 i 0 0 := by rw [rd_wr_ne (by decide)]; exact r1
    obtain ⟨h3, q3, l3, r3⟩ := m_tellsAt (F := F) (h := wr h1 229 i (tdV (Λ 1) i)) (k := 2) (pl := 100) (lo := 0) (hi := 100) (x := 0) (y := 0) (m := i) (f := 0) (o := 0) hF s2 hl2 (by decide) (by decide) (Fy_RL f2 g2) ⟨by rw [r2, vs5_3], by rw [r2]; exact vs5_idem _ _ _ _ _ _⟩
    have s3 := l3.2.1
    have f3 := Fy_Lk f2 l3
    show ∃ h', _ ∧ _ ∧ _ ∧ _ ∧ Mod_layOut_L2s F (Mod_layOut_L2 F n) 194 i h = _
    have sv : Sh (sr h 227 (vs5 (rd h 227) 0 0 i 0 0)) := Sh_sr s (by decide) (by decide)
    unfold Mod_layOut_L2s
    rw [if_pos (by omega), ivM s, m_setsOf s, cl_some, gM52 sv, ivM sv, q1, cl_some, sM52 s1 (by omega) (by omega)]
    have s2' : Sh (wr h1 229 i (clm (-9999) 9999 (lawV 0 (Λ 1) (vv 0 0 i 0 0)))) := s2
    rw [gM53 s2', ivM s2']
    have q3' : Mod_tells F 194 2 100 0 100 (wr h1 229 i (clm (-9999) 9999 (lawV 0 (Λ 1) (vv 0 0 i 0 0)))) = some (clm 0 100 (lawV 100 (Λ 2) (vv 0 0 i 0 0)), h3) := q3
    rw [q3', cl_some, sM53 s3 (by omega) (by omega), w32_nat (by omega)]
    refine ih n (i + 1) _ (by omega) (by omega) (Fy_wr f3 (by decide)) (fun a h1 h2 => ?_) ?_ ?_
    · rw [rd_wr_ne (by omega), l3.2.2.1 a (by omega) (by omega), rd_wr_ne (by omega), l1.2.2.1 a (by omega) (by omega)]
      exact e a h1 h2
    · rw [rd_wr_ne (by decide), l3.2.2.1 229 (by decide) (by decide), wr_sr, rd_sr, l1.2.2.1 229 (by decide) (by decide), e1]
      have := putA_up (rd h0 229) 0 (tdV (Λ 1)) i
      rw [Int.zero_add] at this
      exact this
    · rw [wr_sr, rd_sr, l3.2.2.1 230 (by decide) (by decide), rd_wr_ne (by decide), l1.2.2.1 230 (by decide) (by decide), e2]
      have := putA_up (rd h0 230) 0 (snV (Λ 2)) i
      rw [Int.zero_add] at this
      exact this
theorem m_lay_L140 {F : Nat} {h0 : Hp} {L : Lw} {p : Int} (hF : 1000 ≤ F) (R60 : Int → Int → Hp → Option (Int × Hp)) (s0 : Sh h0) (hl : rd h0 194 18 = 0 ∨ rd h0 194 18 = 1) (g : RLw h0 4 L) (hp : 0 ≤ p ∧ p < 8) :
    ∀ (j n i : Nat) (h : Hp), i + j = 600 → j < n → Fy h0 h → (∀ a, 229 ≤ a → a ≤ 238 → a ≠ 231 → rd h a = rd h0 a) → rd h 231 = putA (rd h0 231) (600 * p) i (dgV L (rd h0 232 p) (rd h0 233 p)) →
    ∃ h', Fy h0 h' ∧ (∀ a, 229 ≤ a → a ≤ 238 → a ≠ 231 → rd h' a = rd h0 a) ∧ rd h' 231 = putA (rd h0 231) (600 * p) 600 (dgV L (rd h0 232 p) (rd h0 233 p)) ∧ Mod_layOut_L140 F R60 n 194 p i h = R60 194 (p + 1) h' := by
  intro j
  induction j with
  | zero =>
    intro n i h hi hn f e e1
    obtain ⟨n, rfl⟩ : ∃ j, n = j + 1 := ⟨n - 1, by omega⟩
    have : i = 600 := by omega
    subst this
    refine ⟨h, f, e, e1, ?_⟩
    show Mod_layOut_L140s F R60 _ 194 p _ h = _
    unfold Mod_layOut_L140s
    rw [if_neg (by decide), w32_id (x := p + 1) (by omega) (by omega)]
  | succ j ih =>
    intro n i h hi hn f e e1
    obtain ⟨n, rfl⟩ : ∃ j, n = j + 1 := ⟨n - 1, by omega⟩
    have s := f.2.1
    have hl1 : rd h 194 18 = 0 ∨ rd h 194 18 = 1 := by rw [f.2.2.2 18 (by decide)]; exact hl
    obtain ⟨h1, q1, l1, r1⟩ := m_setsTells (F := F) (h := h) (k := 4) (pl := 0) (lo := 0) (hi := 100) (x := rd h0 232 p) (y := rd h0 233 p) (m := i) (f := 0) (o := 0) hF s hl1 (by decide) (by decide) (Fy_RL f g)
    have s1 := l1.2.1
    have f1 := Fy_Lk f l1
    show ∃ h', _ ∧ _ ∧ _ ∧ Mod_layOut_L140s F R60 (Mod_layOut_L140 F R60 n) 194 p i h = _
    have sv : Sh (sr h 227 (vs5 (rd h 227) (rd h0 232 p) (rd h0 233 p) i 0 0)) := Sh_sr s (by decide) (by decide)
    unfold Mod_layOut_L140s
    rw [if_pos (by omega), gM55 s, aM55 s hp.1 (by omega), gM56 s, aM56 s hp.1 (by omega), e 232 (by decide) (by decide) (by decide), e 233 (by decide) (by decide) (by decide), ivM s, m_setsOf s, cl_some, gM54 sv, ivM sv, q1, cl_some, w32_id (x := 600 * p) (by omega) (by omega), w32_id (x := 600 * p + (i : Int)) (by omega) (by omega), sM54 s1 (by omega) (by omega), w32_nat (by omega)]
    refine ih n (i + 1) _ (by omega) (by omega) (Fy_wr f1 (by decide)) (fun a h1 h2 h3 => ?_) ?_
    · rw [rd_wr_ne h3, l1.2.2.1 a (by omega) (by omega)]
      exact e a h1 h2 h3
    · rw [wr_sr, rd_sr, l1.2.2.1 231 (by decide) (by decide), e1]
      exact putA_up (rd h0 231) (600 * p) (dgV L (rd h0 232 p) (rd h0 233 p)) i
