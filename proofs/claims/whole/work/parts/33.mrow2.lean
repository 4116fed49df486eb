/-! loops that fill arrays; the row kept, copied, begun -/
theorem loopG {α : Type} (L : Nat → Nat → α) (N : Nat) (X : α) (hs : ∀ n i, i < N → L (n + 1) i = L n (i + 1)) (he : ∀ n, L (n + 1) N = X) : ∀ (k n i : Nat), i + k = N → k < n → L n i = X := by
  intro k
  induction k with
  | zero =>
    intro n i hi hn
    obtain ⟨n, rfl⟩ : ∃ j, n = j + 1 := ⟨n - 1, by omega⟩
    have : i = N := by omega
    subst this
    exact he n
  | succ k ih =>
    intro n i hi hn
    obtain ⟨n, rfl⟩ : ∃ j, n = j + 1 := ⟨n - 1, by omega⟩
    rw [hs n i (by omega)]
    exact ih n (i + 1) (by omega) (by omega)
theorem loop0 {α : Type} (L : Nat → Nat → α) (N n : Nat) (X : α) (hn : N < n) (hs : ∀ n i, i < N → L (n + 1) i = L n (i + 1)) (he : ∀ n, L (n + 1) N = X) : L n 0 = X := loopG L N X hs he N n 0 (by omega) hn
/-- an array filled up to a place -/
def fl (f g : Int → Int) (i : Int) : Int → Int := fun j => if 0 ≤ j ∧ j < i then f j else g j
theorem fl_0 (f g : Int → Int) : fl f g 0 = g := by
  funext j
  unfold fl
  rw [if_neg (by omega)]
theorem fl_up (f g : Int → Int) (i : Nat) : up (fl f g i) i (f i) = fl f g ((i + 1 : Nat) : Int) := by
  funext j
  unfold up fl
  by_cases h1 : j = i
  · rw [if_pos h1, if_pos (by omega), h1]
  · rw [if_neg h1]
    by_cases h2 : 0 ≤ j ∧ j < (i : Int)
    · rw [if_pos h2, if_pos (by omega)]
    · rw [if_neg h2, if_neg (by omega)]
def Zo (n : Int) (R : Int → Int) : Prop := ∀ j, j < 0 ∨ n ≤ j → R j = 0
theorem fl_eq {f g : Int → Int} {n : Int} (hf : Zo n f) (hg : Zo n g) : fl f g n = f := by
  funext j
  unfold fl
  by_cases h : 0 ≤ j ∧ j < n
  · rw [if_pos h]
  · rw [if_neg h, hf j (by omega), hg j (by omega)]
theorem Zo_up {R : Int → Int} {n i v : Int} (h : Zo n R) (hi : 0 ≤ i ∧ i < n) : Zo n (up R i v) := fun j hj => by rw [up_n (by omega)]; exact h j hj
theorem m_copies {F : Nat} {h : Hp} (hF : 1000 ≤ F) (s : Sh h) (z1 : Zo 140 (rd h 239)) (z2 : Zo 140 (rd h 240)) : Mod_copies F 194 h = some (0, sr h 240 (rd h 239)) := by
  have key := loop0 (fun n i => Mod_copies_L2 F n 194 (i : Int) (sr h 240 (fl (rd h 239) (rd h 240) i))) 140 F (some (0, sr h 240 (rd h 239))) (by omega) (fun n i hi => ?_) (fun n => ?_)
  · rw [show ((0 : Nat) : Int) = 0 from rfl, fl_0, sr_self] at key
    exact key
  · show Mod_copies_L2s F (Mod_copies_L2 F n) 194 i _ = _
    have s' : Sh (sr h 240 (fl (rd h 239) (rd h 240) i)) := Sh_sr s (by decide) (by decide)
    unfold Mod_copies_L2s
    rw [if_pos (by omega), gM63 s', gM62 s', aM62 s' (by omega) (by omega), sM63 s' (by omega) (by omega), rd_sr_ne (by decide), wr_up, fl_up, w32_nat (by omega)]
  · show Mod_copies_L2s F (Mod_copies_L2 F n) 194 _ _ = _
    unfold Mod_copies_L2s
    rw [if_neg (by decide), show ((140 : Nat) : Int) = 140 from rfl, fl_eq z1 z2]
theorem m_keepsRow {F : Nat} {h : Hp} (hF : 1000 ≤ F) (s : Sh h) (z1 : Zo 140 (rd h 239)) (z2 : Zo 140 (rd h 240)) : Mod_keepsRow F 194 h = some (0, sr h 239 (rd h 240)) := by
  have key := loop0 (fun n i => Mod_keepsRow_L2 F n 194 (i : Int) (sr h 239 (fl (rd h 240) (rd h 239) i))) 140 F (some (0, sr h 239 (rd h 240))) (by omega) (fun n i hi => ?_) (fun n => ?_)
  · rw [show ((0 : Nat) : Int) = 0 from rfl, fl_0, sr_self] at key
    exact key
  · show Mod_keepsRow_L2s F (Mod_keepsRow_L2 F n) 194 i _ = _
    have s' : Sh (sr h 239 (fl (rd h 240) (rd h 239) i)) := Sh_sr s (by decide) (by decide)
    unfold Mod_keepsRow_L2s
    rw [if_pos (by omega), gM62 s', gM63 s', aM63 s' (by omega) (by omega), sM62 s' (by omega) (by omega), rd_sr_ne (by decide), wr_up, fl_up, w32_nat (by omega)]
  · show Mod_keepsRow_L2s F (Mod_keepsRow_L2 F n) 194 _ _ = _
    unfold Mod_keepsRow_L2s
    rw [if_neg (by decide), show ((140 : Nat) : Int) = 140 from rfl, fl_eq z2 z1]
/-- the row as a text begins it -/
def bgR (D : Nat → Int → Int) : Int → Int := fun j => if 0 ≤ j ∧ j < 8 then -2 else if 16 ≤ j ∧ j < 32 then -2 else if 32 ≤ j ∧ j < 32 + D 1 0 then D 4 (j - 32) else if 35 ≤ j ∧ j < 35 + D 1 0 then D 5 (j - 35) else 0
def bg1 (i : Int) : Int → Int := fun j => if 0 ≤ j ∧ j < i then -2 else if 16 ≤ j ∧ j < 16 + i then -2 else if 24 ≤ j ∧ j < 24 + i then -2 else 0
def bg2 (D : Nat → Int → Int) (i : Int) : Int → Int := fun j => if 0 ≤ j ∧ j < 8 then -2 else if 16 ≤ j ∧ j < 32 then -2 else if 32 ≤ j ∧ j < 32 + i then D 4 (j - 32) else if 35 ≤ j ∧ j < 35 + i then D 5 (j - 35) else 0
theorem bg1_up (i : Nat) (hi : i < 8) : up (up (up (bg1 i) i (-2)) (16 + i) (-2)) (24 + i) (-2) = bg1 ((i + 1 : Nat) : Int) := by
  funext j
  unfold up bg1
  (repeat' split) <;> first | rfl | omega
theorem bg1_8 (D : Nat → Int → Int) : bg1 8 = bg2 D 0 := by
  funext j
  unfold bg1 bg2
  (repeat' split) <;> first | rfl | omega
theorem bg2_up (D : Nat → Int → Int) (i : Nat) (hi : i < 3) : up (up (bg2 D i) (32 + i) (D 4 i)) (35 + i) (D 5 i) = bg2 D ((i + 1 : Nat) : Int) := by
  funext j
  unfold up bg2
  (repeat' split) <;> first | rfl | omega | (congr 1; omega)
theorem m_begins {F : Nat} {h : Hp} (hF : 1000 ≤ F) (m : Mo h) (z2 : Zo 140 (rd h 240)) : Mod_begins F 194 h = some (0, sr h 240 (bgR (dt h))) := by
  have s := m.1
  have hl := m.2.1
  have hw := m.2.2.2.1
  have hln : ∀ R, rd (sr h 240 R) 194 18 = rd h 194 18 := fun R => by rw [rd_sr_ne (by decide)]
  have hs : ∀ R, Sh (sr h 240 R) := fun R => Sh_sr s (by decide) (by decide)
  have k3 : Mod_begins_L68 F F 194 0 (sr h 240 (bg2 (dt h) 0)) = some (0, sr h 240 (bgR (dt h))) := by
    refine loop0 (fun n i => Mod_begins_L68 F n 194 (i : Int) (sr h 240 (bg2 (dt h) i))) (dt h 1 0).toNat F _ (by omega) (fun n i hi => ?_) (fun n => ?_)
    · show Mod_begins_L68s F (Mod_begins_L68 F n) 194 i _ = _
      have hi2 : (i : Int) < dt h 1 0 := by omega
      have e4 : rd h 209 (3 * rd h 194 18 + i) = dt h 4 i := rfl
      have e5 : rd h 210 (3 * rd h 194 18 + i) = dt h 5 i := rfl
      have s1 : Sh (sr h 240 (bg2 (dt h) i)) := hs _
      have s2 : Sh (sr h 240 (up (bg2 (dt h) i) (32 + i) (dt h 4 i))) := hs _
      unfold Mod_begins_L68s
      rw [gM27 s1, gM18 s1, hln, aM27 s1 (by omega) (by omega), rd_sr_ne (by decide), show rd h 208 (rd h 194 18) = dt h 1 0 from rfl, if_pos hi2, gM63 s1, gM28 s1, gM18 s1, hln, w32_id (x := 3 * rd h 194 18) (by omega) (by omega), w32_id (x := 3 * rd h 194 18 + (i : Int)) (by omega) (by omega), aM28 s1 (by omega) (by omega), rd_sr_ne (by decide), e4, w32_id (x := 32 + (i : Int)) (by omega) (by omega), sM63 s1 (by omega) (by omega), wr_up, gM63 s2, gM29 s2, gM18 s2, hln, w32_id (x := 3 * rd h 194 18) (by omega) (by omega), w32_id (x := 3 * rd h 194 18 + (i : Int)) (by omega) (by omega), aM29 s2 (by omega) (by omega), rd_sr_ne (by decide), e5, w32_id (x := 35 + (i : Int)) (by omega) (by omega), sM63 s2 (by omega) (by omega), wr_up, bg2_up _ _ (by omega), w32_nat (by omega)]
    · show Mod_begins_L68s F (Mod_begins_L68 F n) 194 _ _ = _
      have s1 := hs (bg2 (dt h) ((dt h 1 0).toNat : Int))
      unfold Mod_begins_L68s
      rw [gM27 s1, gM18 s1, hln, aM27 s1 (by omega) (by omega), rd_sr_ne (by decide), show rd h 208 (rd h 194 18) = dt h 1 0 from rfl, if_neg (by omega), show ((dt h 1 0).toNat : Int) = dt h 1 0 by omega]
      rfl
  have k2 : Mod_begins_L24 F F 194 0 (sr h 240 (bg1 0)) = some (0, sr h 240 (bgR (dt h))) := by
    refine loop0 (fun n i => Mod_begins_L24 F n 194 (i : Int) (sr h 240 (bg1 i))) 8 F _ (by omega) (fun n i hi => ?_) (fun n => ?_)
    · show Mod_begins_L24s F (Mod_begins_L24 F n) 194 i _ = _
      have s1 := hs (bg1 i)
      have s2 := hs (up (bg1 i) i (-2))
      have s3 := hs (up (up (bg1 i) i (-2)) (16 + i) (-2))
      unfold Mod_begins_L24s
      rw [if_pos (by omega), gM63 s1, sM63 s1 (by omega) (by omega), wr_up, gM63 s2, w32_id (x := 16 + (i : Int)) (by omega) (by omega), sM63 s2 (by omega) (by omega), wr_up, gM63 s3, w32_id (x := 24 + (i : Int)) (by omega) (by omega), sM63 s3 (by omega) (by omega), wr_up, bg1_up _ hi, w32_nat (by omega)]
    · show Mod_begins_L24s F (Mod_begins_L24 F n) 194 _ _ = _
      unfold Mod_begins_L24s
      rw [if_neg (by decide), show ((8 : Nat) : Int) = 8 from rfl, bg1_8 (dt h)]
      exact k3
  have key := loop0 (fun n i => Mod_begins_L2 F n 194 (i : Int) (sr h 240 (fl (fun _ => 0) (rd h 240) i))) 140 F (some (0, sr h 240 (bgR (dt h)))) (by omega) (fun n i hi => ?_) (fun n => ?_)
  · rw [show ((0 : Nat) : Int) = 0 from rfl, fl_0, sr_self] at key
    exact key
  · show Mod_begins_L2s F (Mod_begins_L2 F n) 194 i _ = _
    have s' := hs (fl (fun _ => 0) (rd h 240) i)
    have e := fl_up (fun _ => 0) (rd h 240) i
    unfold Mod_begins_L2s
    rw [if_pos (by omega), gM63 s', sM63 s' (by omega) (by omega), wr_up, e, w32_nat (by omega)]
  · show Mod_begins_L2s F (Mod_begins_L2 F n) 194 _ _ = _
    unfold Mod_begins_L2s
    rw [if_neg (by decide), show ((140 : Nat) : Int) = 140 from rfl, fl_eq (fun _ _ => rfl) z2, show (fun _ : Int => (0 : Int)) = bg1 0 by funext j; unfold bg1; rw [if_neg (by omega), if_neg (by omega), if_neg (by omega)]]
    exact k2
