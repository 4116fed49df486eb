/-! the reference's read -/
theorem Dok_of {D : Nat → Int → Int} {Λ : Nat → Lw} (tx : Tex D) (dy : Day D Λ) : Dok D := by
  obtain ⟨t0, t1, t2, t3, t4⟩ := tx
  refine ⟨t0, t1, fun p p0 p1 => (t2 p p0 p1).2.2.1, fun w w0 w1 => (t3 w w0 w1).2.2, fun w w0 w1 => ?_, fun p p0 p1 => ?_, fun p m p0 p1 m0 m1 => ?_, fun p m p0 p1 m0 m1 => ?_, fun m m0 m1 => ?_⟩
  · have := t3 w w0 w1; omega
  · obtain ⟨d6, d7, d8, -⟩ := dy.2 p p0 p1
    have := t2 p p0 p1
    rw [d6, d7, d8]; omega
  · obtain ⟨-, -, -, -, dm⟩ := dy.2 p p0 p1
    rw [(dm m m0 m1).1]
    have := frN_in (D 13) (D 9 p) m.toNat
    unfold frI; omega
  · obtain ⟨-, -, d8, -, dm⟩ := dy.2 p p0 p1
    rw [(dm m m0 m1).2.2.1]
    have := nxK_in (frI (D 13) (D 9 p)) (a := D 17 0) (b := D 18 0) (t := D 8 p) (by have := t2 p p0 p1; omega) (599 - m).toNat
    unfold nxI
    rw [if_neg (by omega)]
    omega
  · rw [(dy.1 m m0 m1).2]
    exact clm_in (by decide)
theorem LB_RL {h : Hp} {lo cb bb s k : Int} {L : Lw} (g : LB h lo cb bb s k L) (hs : rd h 194 18 = s) (hc : cb ≤ 840) : RLw h k L := by
  have sg : ∀ {a b cs}, segB h lo cb a b cs → seg h a b cs := fun g => ⟨g.1.1, g.2.1, by have := g.2.2.1; omega, g.2.2.2.1, g.2.2.2.2⟩
  have rl : ∀ (L : Lw) (b : Int), RBl h lo cb b L → RBs h b L := by
    intro L
    induction L with
    | nil => intro b _; trivial
    | cons q r ih =>
      intro b g
      refine ⟨⟨sg g.1.1, ?_⟩, ih (b + 1) g.2⟩
      have g2 := g.1.2
      cases hq : q.1 with
      | none => rw [hq] at g2; exact g2
      | some t => rw [hq] at g2; exact ⟨g2.1, sg g2.2.1, sg g2.2.2⟩
  obtain ⟨g1, g2, g3, g4, g5⟩ := g
  unfold RLw
  rw [hs]
  exact ⟨g1, g2, g4, rl L _ g5⟩
/-- what plain leaves on a side -/
def Pl (h h' : Hp) (s : Int) : Prop := (hsz h' = hsz h ∧ hus h' = hus h ∧ hkd h' = hkd h ∧ hln h' = hln h) ∧ Sh h' ∧ (∀ a : Int, ¬ (203 ≤ a ∧ a ≤ 218) → rd h' a = rd h a) ∧ (∀ a j : Int, 203 ≤ a → a ≤ 218 → ¬ (wdt a * s ≤ j ∧ j < wdt a * s + wdt a) → rd h' a j = rd h a j) ∧ (rd h' 203 s = 0 ∧ rd h' 208 s = 0 ∧ rd h' 212 s = 1 ∧ rd h' 213 s = 600 ∧ rd h' 214 s = 0 ∧ rd h' 215 s = 0 ∧ rd h' 216 s = 0) ∧ ∀ k : Int, 0 ≤ k → k < 5 → rd h' 217 (5 * s + k) = 0 ∧ rd h' 218 (5 * s + k) = 0
theorem m_plain {F : Nat} {h : Hp} {σ : Int} (hF : 1000 ≤ F) (s : Sh h) (hs : σ = 0 ∨ σ = 1) : T (Mod_plain F 194 σ h) (fun _ h' => Pl h h' σ) := by
  unfold Mod_plain
  have s1 : Sh (wr h 203 σ 0) := shA s (by decide) (by decide)
  have s2 : Sh (wr (wr h 203 σ 0) 208 σ 0) := shA s1 (by decide) (by decide)
  have s3 : Sh (wr (wr (wr h 203 σ 0) 208 σ 0) 212 σ 1) := shA s2 (by decide) (by decide)
  have s4 : Sh (wr (wr (wr (wr h 203 σ 0) 208 σ 0) 212 σ 1) 213 σ 600) := shA s3 (by decide) (by decide)
  have s5 : Sh (wr (wr (wr (wr (wr h 203 σ 0) 208 σ 0) 212 σ 1) 213 σ 600) 214 σ 0) := shA s4 (by decide) (by decide)
  have s6 : Sh (wr (wr (wr (wr (wr (wr h 203 σ 0) 208 σ 0) 212 σ 1) 213 σ 600) 214 σ 0) 215 σ 0) := shA s5 (by decide) (by decide)
  have s7 : Sh (wr (wr (wr (wr (wr (wr (wr h 203 σ 0) 208 σ 0) 212 σ 1) 213 σ 600) 214 σ 0) 215 σ 0) 216 σ 0) := shA s6 (by decide) (by decide)
  rw [gM22 s, sM22 s (by omega) (by omega), gM27 s1, sM27 s1 (by omega) (by omega), gM31 s2, sM31 s2 (by omega) (by omega), gM32 s3, sM32 s3 (by omega) (by omega), gM33 s4, sM33 s4 (by omega) (by omega), gM34 s5, sM34 s5 (by omega) (by omega), gM35 s6, sM35 s6 (by omega) (by omega)]
  have val : ∀ a j, rd (wr (wr (wr (wr (wr (wr (wr h 203 σ 0) 208 σ 0) 212 σ 1) 213 σ 600) 214 σ 0) 215 σ 0) 216 σ 0) a j = if (a = 203 ∨ a = 208 ∨ (214 ≤ a ∧ a ≤ 216)) ∧ j = σ then 0 else if a = 212 ∧ j = σ then 1 else if a = 213 ∧ j = σ then 600 else rd h a j := by
    intro a j
    simp only [rd_wr]
    (repeat' split) <;> first | rfl | omega
  have sz : hsz (wr (wr (wr (wr (wr (wr (wr h 203 σ 0) 208 σ 0) 212 σ 1) 213 σ 600) 214 σ 0) 215 σ 0) 216 σ 0) = hsz h ∧ hus (wr (wr (wr (wr (wr (wr (wr h 203 σ 0) 208 σ 0) 212 σ 1) 213 σ 600) 214 σ 0) 215 σ 0) 216 σ 0) = hus h ∧ hkd (wr (wr (wr (wr (wr (wr (wr h 203 σ 0) 208 σ 0) 212 σ 1) 213 σ 600) 214 σ 0) 215 σ 0) 216 σ 0) = hkd h ∧ hln (wr (wr (wr (wr (wr (wr (wr h 203 σ 0) 208 σ 0) 212 σ 1) 213 σ 600) 214 σ 0) 215 σ 0) 216 σ 0) = hln h := ⟨rfl, rfl, rfl, rfl⟩
  generalize wr (wr (wr (wr (wr (wr (wr h 203 σ 0) 208 σ 0) 212 σ 1) 213 σ 600) 214 σ 0) 215 σ 0) 216 σ 0 = g at s7 val sz
  have key : ∃ g', Mod_plain_L53 F F 194 σ 0 g = some (0, g') ∧ g' = sr (sr g 217 (putA (rd g 217) (5 * σ) 5 (fun _ => 0))) 218 (putA (rd g 218) (5 * σ) 5 (fun _ => 0)) := by
    refine ⟨_, ?_, rfl⟩
    have k := loop0 (fun n i => Mod_plain_L53 F n 194 σ (i : Nat) (sr (sr g 217 (putA (rd g 217) (5 * σ) i (fun _ => 0))) 218 (putA (rd g 218) (5 * σ) i (fun _ => 0)))) 5 F (some (0, sr (sr g 217 (putA (rd g 217) (5 * σ) 5 (fun _ => 0))) 218 (putA (rd g 218) (5 * σ) 5 (fun _ => 0)))) (by omega) (fun n i hi => ?_) (fun n => ?_)
    · rw [show ((0 : Nat) : Int) = 0 from rfl, putA_0, putA_0, sr_self, sr_self] at k
      exact k
    · show Mod_plain_L53s F (Mod_plain_L53 F n) 194 σ _ _ = _
      have sa : Sh (sr (sr g 217 (putA (rd g 217) (5 * σ) i (fun _ => 0))) 218 (putA (rd g 218) (5 * σ) i (fun _ => 0))) := Sh_sr (Sh_sr s7 (by decide) (by decide)) (by decide) (by decide)
      have u7 := putA_up (rd g 217) (5 * σ) (fun _ => 0) i
      have u8' := putA_up (rd g 218) (5 * σ) (fun _ => 0) i
      have e1 : wr (sr (sr g 217 (putA (rd g 217) (5 * σ) i (fun _ => 0))) 218 (putA (rd g 218) (5 * σ) i (fun _ => 0))) 217 (5 * σ + i) 0 = sr (sr g 217 (putA (rd g 217) (5 * σ) ((i + 1 : Nat) : Int) (fun _ => 0))) 218 (putA (rd g 218) (5 * σ) i (fun _ => 0)) := by
        rw [sr_comm (by decide), wr_up, u7, sr_comm (by decide)]
      have sb : Sh (sr (sr g 217 (putA (rd g 217) (5 * σ) ((i + 1 : Nat) : Int) (fun _ => 0))) 218 (putA (rd g 218) (5 * σ) i (fun _ => 0))) := Sh_sr (Sh_sr s7 (by decide) (by decide)) (by decide) (by decide)
      unfold Mod_plain_L53s
      rw [if_pos (by omega), gM36 sa, w32_id (x := 5 * σ) (by omega) (by omega), w32_id (x := 5 * σ + (i : Int)) (by omega) (by omega), sM36 sa (by omega) (by omega), e1, gM37 sb, sM37 sb (by omega) (by omega), wr_up, u8', w32_nat (by omega)]
    · show Mod_plain_L53s F (Mod_plain_L53 F n) 194 σ _ _ = _
      unfold Mod_plain_L53s
      rw [if_neg (by decide)]
      rfl
  obtain ⟨g', e, eg⟩ := key
  refine ⟨0, g', e, ?_⟩
  have r7 : rd g' 217 = putA (rd g 217) (5 * σ) 5 (fun _ => 0) := by rw [eg, rd_sr_ne (by decide), rd_sr]
  have r8 : rd g' 218 = putA (rd g 218) (5 * σ) 5 (fun _ => 0) := by rw [eg, rd_sr]
  have rn : ∀ a, a ≠ 217 → a ≠ 218 → rd g' a = rd g a := fun a h1 h2 => by rw [eg, rd_sr_ne h2, rd_sr_ne h1]
  have sg' : Sh g' := by rw [eg]; exact Sh_sr (Sh_sr s7 (by decide) (by decide)) (by decide) (by decide)
  have vn : ∀ a j, ¬ (a = 203 ∨ a = 208 ∨ (212 ≤ a ∧ a ≤ 216)) ∨ j ≠ σ → rd g a j = rd h a j := fun a j hc => by
    rw [val, if_neg (by omega), if_neg (by omega), if_neg (by omega)]
  refine ⟨?_, sg', fun a ha => ?_, fun a j h1 h2 h3 => ?_, ⟨?_, ?_, ?_, ?_, ?_, ?_, ?_⟩, fun k k0 k1 => ?_⟩
  · rw [eg]; exact sz
  · rw [rn a (by omega) (by omega)]
    funext j
    exact vn a j (Or.inl (by omega))
  · by_cases c7 : a = 217
    · subst c7
      rw [show wdt 217 = 5 by decide] at h3
      rw [r7, putA_out (by omega)]; exact vn 217 j (Or.inl (by decide))
    · by_cases c8 : a = 218
      · subst c8
        rw [show wdt 218 = 5 by decide] at h3
        rw [r8, putA_out (by omega)]; exact vn 218 j (Or.inl (by decide))
      · rw [rn a c7 c8]
        refine vn a j ?_
        by_cases c1 : a = 203 ∨ a = 208 ∨ (212 ≤ a ∧ a ≤ 216)
        · rw [wdt_1 c1] at h3; right; omega
        · exact Or.inl c1
  · rw [rn 203 (by decide) (by decide), val, if_pos ⟨by decide, rfl⟩]
  · rw [rn 208 (by decide) (by decide), val, if_pos ⟨by decide, rfl⟩]
  · rw [rn 212 (by decide) (by decide), val, if_neg (by omega), if_pos ⟨by decide, rfl⟩]
  · rw [rn 213 (by decide) (by decide), val, if_neg (by omega), if_neg (by omega), if_pos ⟨by decide, rfl⟩]
  · rw [rn 214 (by decide) (by decide), val, if_pos ⟨by decide, rfl⟩]
  · rw [rn 215 (by decide) (by decide), val, if_pos ⟨by decide, rfl⟩]
  · rw [rn 216 (by decide) (by decide), val, if_pos ⟨by decide, rfl⟩]
  · rw [r7, r8, putA_in ⟨k0, k1⟩, putA_in ⟨k0, k1⟩]
    exact ⟨rfl, rfl⟩
/-- the bytes on the reference's tape and text -/
def BytI (h : Hp) : Prop := (0 ≤ rd h 194 2 ∧ rd h 194 2 ≤ 2000) ∧ ∀ i, 0 ≤ i → i < 2000 → (-128 ≤ rd h 195 i ∧ rd h 195 i ≤ 127) ∧ (-128 ≤ rd h 196 i ∧ rd h 196 i ≤ 127)
theorem m_read_L10 {F : Nat} {h : Hp} (hF : 3000 ≤ F) (s : Sh h) (b : BytI h) (h4 : rd h 194 4 = rd h 194 2) : Mod_read_L10 F F 194 0 h = Mod_read_B36 F 194 (sr h 196 (putA (rd h 196) 0 (rd h 194 2) (rd h 195))) := by
  have hn := b.1
  have key := loop0 (fun n i => Mod_read_L10 F n 194 (i : Nat) (sr h 196 (putA (rd h 196) 0 i (rd h 195)))) (rd h 194 2).toNat F (Mod_read_B36 F 194 (sr h 196 (putA (rd h 196) 0 (rd h 194 2) (rd h 195)))) (by omega) (fun n i hi => ?_) (fun n => ?_)
  · rw [show ((0 : Nat) : Int) = 0 from rfl, putA_0, sr_self] at key
    exact key
  · show Mod_read_L10s F (Mod_read_L10 F n) 194 _ _ = _
    have s1 : Sh (sr h 196 (putA (rd h 196) 0 i (rd h 195))) := Sh_sr s (by decide) (by decide)
    have bi := (b.2 i (by omega) (by omega)).1
    have u := putA_up (rd h 196) 0 (rd h 195) i
    rw [Int.zero_add] at u
    unfold Mod_read_L10s
    rw [gM4 s1, rd_sr_ne (by decide), h4, if_pos (by omega), gM3 s1, gM1 s1, aM1 s1 (by omega) (by omega), rd_sr_ne (by decide), i2b_id bi, sM3 s1 (by omega) (by omega), wr_up, u, w32_nat (by omega)]
  · show Mod_read_L10s F (Mod_read_L10 F n) 194 _ _ = _
    have s1 : Sh (sr h 196 (putA (rd h 196) 0 ((rd h 194 2).toNat : Int) (rd h 195))) := Sh_sr s (by decide) (by decide)
    unfold Mod_read_L10s
    rw [gM4 s1, rd_sr_ne (by decide), h4, if_neg (by omega), show ((rd h 194 2).toNat : Int) = rd h 194 2 by omega]
/-- what a read leaves of the side that is in place, and of all else -/
def RdX (h h' : Hp) : Prop := (hsz h' = hsz h ∧ hus h' = hus h ∧ hkd h' = hkd h ∧ hln h' = hln h) ∧ Sh h' ∧ (∀ a : Int, a ≠ 194 → ¬ (196 ≤ a ∧ a ≤ 200) → ¬ (202 ≤ a ∧ a ≤ 226) → rd h' a = rd h a) ∧ (∀ a j : Int, 203 ≤ a → a ≤ 225 → ¬ (wdt a * (1 - rd h 194 18) ≤ j ∧ j < wdt a * (1 - rd h 194 18) + wdt a) → rd h' a j = rd h a j) ∧ (∀ k : Int, ¬ (k = 2 ∨ k = 4 ∨ (10 ≤ k ∧ k ≤ 17) ∨ k = 19 ∨ k = 20 ∨ k = 38 ∨ k = 44 ∨ k = 48) → rd h' 194 k = rd h 194 k) ∧ rd h' 194 2 = 0 ∧ BytI h' ∧ TkI h' ∧ rd h' 194 19 = 1 - rd h 194 18
/-- the text is read: before it is taken in place of the one ahead -/
theorem m_read1 {F : Nat} {h : Hp} (hF : 3000 ≤ F) (s : Sh h) (hl : rd h 194 18 = 0 ∨ rd h 194 18 = 1) (b : BytI h) (ky : Keys h) (ti : TkI h) :
    ∃ h', Mod_read F 194 h = Mod_read_B134 F 194 h' ∧ RdX h h' ∧ (match rdR (rd h 195) (rd h 194 2) with
      | Sum.inl e => 0 < e.1 ∧ rd h' 194 13 = e.1 ∧ rd h' 194 14 = e.2
      | Sum.inr q => rd h' 194 13 = 0 ∧ rd h' 194 15 = q.2.2.2.1 ∧ (q.2.2.2.1 ≠ 0 → rd h' 194 16 = q.2.2.2.2) ∧ (q.2.2.2.1 = 0 ∨ q.2.2.2.1 = 3 ∨ q.2.2.2.1 = 5) ∧ (q.2.2.2.1 = 0 → Tex q.2.1) ∧ (∀ k, LwOk (q.2.2.1 k)) ∧ ∃ K, Rx h' (1 - rd h 194 18) K q.2.1 ∧ ∃ bb cb, Rl h' (1 - rd h 194 18) q.2.2.1 bb cb) := by
  have hn := b.1
  -- the tape becomes the text
  have s1 := sh4 s (rd h 194 2)
  have b1 : BytI (wr h 194 4 (rd h 194 2)) := by
    unfold BytI
    rw [rd_i (by decide), rd_wr_ne (by decide), rd_wr_ne (by decide)]
    exact b
  have e10 := m_read_L10 (F := F) (h := wr h 194 4 (rd h 194 2)) hF s1 b1 (by rw [rd_same, rd_i (by decide)])
  rw [rd_i (by decide), rd_wr_ne (by decide), rd_wr_ne (by decide)] at e10
  have e0 : Mod_read F 194 h = Mod_read_B36 F 194 (sr (wr h 194 4 (rd h 194 2)) 196 (putA (rd h 196) 0 (rd h 194 2) (rd h 195))) := by
    unfold Mod_read
    rw [gM2 s, pM4 s]
    exact e10
  have s2 : Sh (sr (wr h 194 4 (rd h 194 2)) 196 (putA (rd h 196) 0 (rd h 194 2) (rd h 195))) := Sh_sr s1 (by decide) (by decide)
  have s3 : Sh (wr (sr (wr h 194 4 (rd h 194 2)) 196 (putA (rd h 196) 0 (rd h 194 2) (rd h 195))) 194 2 0) := sh2 s2 0
  -- what stands there now
  have f3 : ∀ k, k ≠ 2 → k ≠ 4 → rd (wr (sr (wr h 194 4 (rd h 194 2)) 196 (putA (rd h 196) 0 (rd h 194 2) (rd h 195))) 194 2 0) 194 k = rd h 194 k := fun k h1 h2 => by rw [rd_i h1, rd_sr_ne (by decide), rd_i h2]
  have f34 : rd (wr (sr (wr h 194 4 (rd h 194 2)) 196 (putA (rd h 196) 0 (rd h 194 2) (rd h 195))) 194 2 0) 194 4 = rd h 194 2 := by rw [rd_i (by decide), rd_sr_ne (by decide), rd_same]
  have f32 : rd (wr (sr (wr h 194 4 (rd h 194 2)) 196 (putA (rd h 196) 0 (rd h 194 2) (rd h 195))) 194 2 0) 194 2 = 0 := rd_same _ _ _ _
  have c3 : ∀ a, a ≠ 194 → a ≠ 196 → rd (wr (sr (wr h 194 4 (rd h 194 2)) 196 (putA (rd h 196) 0 (rd h 194 2) (rd h 195))) 194 2 0) a = rd h a := fun a h1 h2 => by rw [rd_wr_ne h1, rd_sr_ne h2, rd_wr_ne h1]
  have c36 : rd (wr (sr (wr h 194 4 (rd h 194 2)) 196 (putA (rd h 196) 0 (rd h 194 2) (rd h 195))) 194 2 0) 196 = putA (rd h 196) 0 (rd h 194 2) (rd h 195) := by rw [rd_wr_ne (by decide), rd_sr]
  have sz3 : hsz (wr (sr (wr h 194 4 (rd h 194 2)) 196 (putA (rd h 196) 0 (rd h 194 2) (rd h 195))) 194 2 0) = hsz h ∧ hus (wr (sr (wr h 194 4 (rd h 194 2)) 196 (putA (rd h 196) 0 (rd h 194 2) (rd h 195))) 194 2 0) = hus h ∧ hkd (wr (sr (wr h 194 4 (rd h 194 2)) 196 (putA (rd h 196) 0 (rd h 194 2) (rd h 195))) 194 2 0) = hkd h ∧ hln (wr (sr (wr h 194 4 (rd h 194 2)) 196 (putA (rd h 196) 0 (rd h 194 2) (rd h 195))) 194 2 0) = hln h := ⟨rfl, rfl, rfl, rfl⟩
  unfold Mod_read_B36 at e0
  rw [pM2 s2] at e0
  generalize wr (sr (wr h 194 4 (rd h 194 2)) 196 (putA (rd h 196) 0 (rd h 194 2) (rd h 195))) 194 2 0 = h3 at e0 s3 f3 f34 f32 c3 c36 sz3
  have by3 : ∀ i, 0 ≤ i → i < 2000 → -128 ≤ rd h3 196 i ∧ rd h3 196 i ≤ 127 := fun i i0 i1 => by
    rw [c36]
    unfold putA
    split
    · exact (b.2 (i - 0) (by omega) (by omega)).1
    · exact (b.2 i i0 i1).2
  have bt3 : Byt h3 (rd h 194 2) := ⟨f34, hn, by3⟩
  have ky3 : Keys h3 := fun k hk => by rw [c3 201 (by decide) (by decide)]; exact ky k hk
  have ti3 : TkI h3 := by
    unfold TkI
    rw [c3 197 (by decide) (by decide), c3 198 (by decide) (by decide)]
    exact ti
  -- cut
  have s3' := sh10 s3 0
  have ci : CI (wr h3 194 10 0) (wr h3 194 10 0) [] := ⟨⟨rfl, rfl, rfl, rfl⟩, s3', fun _ _ _ => rfl, fun _ _ => rfl, rd_same _ _ _ _, fun t q hq => by simp at hq, fun _ _ _ _ _ => rfl⟩
  obtain ⟨v, h4, e4, ce⟩ := m_cut_L7 (F := F) (h0 := wr h3 194 10 0) (n := rd h 194 2) hF (by unfold Byt; rw [rd_i (by decide), rd_wr_ne (by decide)]; exact bt3) (fun k hk => by rw [rd_wr_ne (by decide)]; exact ky3 k hk) 2001 F 0 (wr h3 194 10 0) [] (by decide) (by omega) (by decide) (by omega) ci (by simp)
  rw [List.nil_append] at ce
  have tsE : lx (rd (wr h3 194 10 0) 196) (rd h 194 2) 2001 0 = tsF (rd h 195) (rd h 194 2) := by
    rw [rd_wr_ne (by decide), c36]
    refine lx_congr (fun j j0 j1 => ?_) 2001 0 (by decide)
    have := putA_in (C := rd h 196) (g := rd h 195) (o := 0) (i := rd h 194 2) (j := j) ⟨j0, j1⟩
    rw [Int.zero_add] at this
    exact this
  rw [tsE] at ce
  have ok := lx_ok (rd h 195) (rd h 194 2) 2001 0
  have ti4 : TkI h4 := CE_TkI (by unfold TkI; rw [rd_wr_ne (by decide), rd_wr_ne (by decide)]; exact ti3) ce ok
  have ag := CE_Agr ce
  obtain ⟨sz4, s4, c4, f4, -, -, -⟩ := ce
  have ecut : Mod_cut F 194 h3 = some (v, h4) := by
    unfold Mod_cut
    rw [pM10 s3]
    exact e4
  rw [ivM s3, ecut, cl_some] at e0
  have f4' : ∀ k, k ≠ 2 → k ≠ 4 → k ≠ 10 → rd h4 194 k = rd h 194 k := fun k h1 h2 h3' => by rw [f4 k h3', rd_i h3']; exact f3 k h1 h2
  have c4' : ∀ a, a ≠ 194 → ¬ (196 ≤ a ∧ a ≤ 200) → rd h4 a = rd h a := fun a h1 h2 => by rw [c4 a h1 (by omega), rd_wr_ne h1]; exact c3 a h1 (by omega)
  have c46 : rd h4 196 = rd h3 196 := by rw [c4 196 (by decide) (by decide), rd_wr_ne (by decide)]
  have f42 : rd h4 194 2 = 0 := by rw [f4 2 (by decide), rd_i (by decide)]; exact f32
  -- the counters
  have p1 := sh11 s4 0
  have p2 := sh12 p1 0
  have p3 := sh13 p2 0
  have p4 := sh15 p3 0
  have q18 : rd (wr (wr (wr (wr h4 194 11 0) 194 12 0) 194 13 0) 194 15 0) 194 18 = rd h 194 18 := by rw [rd_i (by decide), rd_i (by decide), rd_i (by decide), rd_i (by decide)]; exact f4' 18 (by decide) (by decide) (by decide)
  have p5 := sh19 p4 (1 - rd h 194 18)
  have p6 := sh20 p5 0
  have q19 : rd (wr (wr (wr (wr (wr (wr h4 194 11 0) 194 12 0) 194 13 0) 194 15 0) 194 19 (1 - rd h 194 18)) 194 20 0) 194 19 = 1 - rd h 194 18 := by rw [rd_i (by decide), rd_same]
  rw [pM11 s4, pM12 p1, pM13 p2, pM15 p3, gM18 p4, q18, w32_id (x := 1 - rd h 194 18) (by omega) (by omega), pM19 p4, pM20 p5, gM19 p6, q19, ivM p6] at e0
  have fld : ∀ k, rd (wr (wr (wr (wr (wr (wr h4 194 11 0) 194 12 0) 194 13 0) 194 15 0) 194 19 (1 - rd h 194 18)) 194 20 0) 194 k = if k = 11 ∨ k = 12 ∨ k = 13 ∨ k = 15 ∨ k = 20 then 0 else if k = 19 then 1 - rd h 194 18 else rd h4 194 k := fun k => by
    simp only [rd_wr, true_and]
    (repeat' split) <;> first | rfl | omega
  have cel : ∀ a, a ≠ 194 → rd (wr (wr (wr (wr (wr (wr h4 194 11 0) 194 12 0) 194 13 0) 194 15 0) 194 19 (1 - rd h 194 18)) 194 20 0) a = rd h4 a := fun a ha => by rw [rd_wr_ne ha, rd_wr_ne ha, rd_wr_ne ha, rd_wr_ne ha, rd_wr_ne ha, rd_wr_ne ha]
  have sz5 : hsz (wr (wr (wr (wr (wr (wr h4 194 11 0) 194 12 0) 194 13 0) 194 15 0) 194 19 (1 - rd h 194 18)) 194 20 0) = hsz h4 ∧ hus (wr (wr (wr (wr (wr (wr h4 194 11 0) 194 12 0) 194 13 0) 194 15 0) 194 19 (1 - rd h 194 18)) 194 20 0) = hus h4 ∧ hkd (wr (wr (wr (wr (wr (wr h4 194 11 0) 194 12 0) 194 13 0) 194 15 0) 194 19 (1 - rd h 194 18)) 194 20 0) = hkd h4 ∧ hln (wr (wr (wr (wr (wr (wr h4 194 11 0) 194 12 0) 194 13 0) 194 15 0) 194 19 (1 - rd h 194 18)) 194 20 0) = hln h4 := ⟨rfl, rfl, rfl, rfl⟩
  generalize wr (wr (wr (wr (wr (wr h4 194 11 0) 194 12 0) 194 13 0) 194 15 0) 194 19 (1 - rd h 194 18)) 194 20 0 = h5 at e0 p6 fld cel sz5
  have hσ : 1 - rd h 194 18 = 0 ∨ 1 - rd h 194 18 = 1 := by omega
  obtain ⟨v6, h6, e6, pl⟩ := m_plain (F := F) (h := h5) (σ := 1 - rd h 194 18) (by omega) p6 hσ
  obtain ⟨sz6, s6, c6, w6, ⟨v1, v2, v3, v4, v5, v6', v7⟩, v8⟩ := pl
  have g194 : rd h6 194 = rd h5 194 := c6 194 (by decide)
  have g19 : rd h6 194 19 = 1 - rd h 194 18 := by rw [g194, fld, if_neg (by decide), if_pos rfl]
  have s7 := sh38 s6 (130 * (1 - rd h 194 18))
  have s8 := sh44 s7 (420 * (1 - rd h 194 18))
  have g197 : rd (wr h6 194 38 (130 * (1 - rd h 194 18))) 194 19 = 1 - rd h 194 18 := by rw [rd_i (by decide)]; exact g19
  rw [e6, cl_some, gM19 s6, g19, w32_id (x := 130 * (1 - rd h 194 18)) (by omega) (by omega), pM38 s6, gM19 s7, g197, w32_id (x := 420 * (1 - rd h 194 18)) (by omega) (by omega), pM44 s7] at e0
  have fld8 : ∀ k, rd (wr (wr h6 194 38 (130 * (1 - rd h 194 18))) 194 44 (420 * (1 - rd h 194 18))) 194 k = if k = 44 then 420 * (1 - rd h 194 18) else if k = 38 then 130 * (1 - rd h 194 18) else rd h5 194 k := fun k => by
    rw [← g194]
    simp only [rd_wr, true_and]
  have cel8 : ∀ a, a ≠ 194 → rd (wr (wr h6 194 38 (130 * (1 - rd h 194 18))) 194 44 (420 * (1 - rd h 194 18))) a = rd h6 a := fun a ha => by rw [rd_wr_ne ha, rd_wr_ne ha]
  have sz8 : hsz (wr (wr h6 194 38 (130 * (1 - rd h 194 18))) 194 44 (420 * (1 - rd h 194 18))) = hsz h6 ∧ hus (wr (wr h6 194 38 (130 * (1 - rd h 194 18))) 194 44 (420 * (1 - rd h 194 18))) = hus h6 ∧ hkd (wr (wr h6 194 38 (130 * (1 - rd h 194 18))) 194 44 (420 * (1 - rd h 194 18))) = hkd h6 ∧ hln (wr (wr h6 194 38 (130 * (1 - rd h 194 18))) 194 44 (420 * (1 - rd h 194 18))) = hln h6 := ⟨rfl, rfl, rfl, rfl⟩
  generalize wr (wr h6 194 38 (130 * (1 - rd h 194 18))) 194 44 (420 * (1 - rd h 194 18)) = hb at e0 s8 fld8 cel8 sz8
  have hb19 : rd hb 194 19 = 1 - rd h 194 18 := by rw [fld8, if_neg (by decide), if_neg (by decide), fld, if_neg (by decide), if_pos rfl]
  have tkc : ∀ a, 197 ≤ a → a ≤ 200 → rd hb a = rd h4 a := fun a h1 h2 => by rw [cel8 a (by omega), c6 a (by omega), cel a (by omega)]
  have tib : TkI hb := by
    unfold TkI
    rw [tkc 197 (by decide) (by decide), tkc 198 (by decide) (by decide)]
    exact ti4
  have agb : Agr (KF (rd h 195) (rd h 194 2)) (VF (rd h 195) (rd h 194 2)) (PF (rd h 195) (rd h 194 2)) (MF (rd h 195) (rd h 194 2)) (KR hb) (fun t => rd hb 199 t) (fun t => rd hb 198 t) (fun t => rd hb 200 t) (lstT (tsF (rd h 195) (rd h 194 2))) := by
    have e7 : KR hb = KR h4 := by funext t; unfold KR; rw [tkc 197 (by decide) (by decide)]
    rw [e7, tkc 198 (by decide) (by decide), tkc 199 (by decide) (by decide), tkc 200 (by decide) (by decide)]
    exact ag
  -- the beginning
  have rt : RT hb hb (KR hb) (fun t => rd hb 198 t) sg0 := by
    have X0 : ∀ k i, k ≠ 17 → k ≠ 18 → sg0.2.1 k i = 0 := fun k i h1 h2 => by show (if k = 17 then (1 : Int) else if k = 18 then 600 else 0) = 0; rw [if_neg h1, if_neg h2]
    have X7 : sg0.2.1 17 0 = 1 := rfl
    have X8 : sg0.2.1 18 0 = 600 := rfl
    have st : sg0.1 = 0 := rfl
    have sw : sg0.2.2.2 = (0, 0) := rfl
    refine ⟨130 * (1 - rd h 194 18), 420 * (1 - rd h 194 18), ⟨Fp_refl s8, ⟨?_, Nat.zero_le _, ?_, ?_⟩, ⟨?_, by rw [sw]; exact Int.le_refl _, fun q => absurd rfl q⟩, ?_, ?_⟩, ?_, ?_⟩
    · rw [fld8, if_neg (by decide), if_neg (by decide), fld, if_pos (by decide)]; rfl
    · rw [fld8, if_neg (by decide), if_neg (by decide), fld, if_pos (by decide)]
    · rw [fld8, if_neg (by decide), if_neg (by decide), fld, if_pos (by decide)]
    · rw [fld8, if_neg (by decide), if_neg (by decide), fld, if_pos (by decide)]; rfl
    · rw [hb19]
      unfold Rx
      rw [X0 25 0 (by decide) (by decide), X0 0 0 (by decide) (by decide), X0 1 0 (by decide) (by decide), X0 20 0 (by decide) (by decide), X0 21 0 (by decide) (by decide), X0 19 0 (by decide) (by decide), X7, X8]
      refine ⟨⟨by rw [fld8, if_neg (by decide), if_neg (by decide), fld, if_pos (by decide)], rfl, fun i i0 i1 => by omega⟩, ⟨by rw [cel8 203 (by decide)]; exact v1, by decide, by decide, fun p i0 i1 => by omega⟩, ⟨by rw [cel8 208 (by decide)]; exact v2, by decide, by decide, fun p i0 i1 => by omega⟩, by rw [cel8 212 (by decide)]; exact v3, by rw [cel8 213 (by decide)]; exact v4, by rw [cel8 214 (by decide)]; exact v5, by rw [cel8 215 (by decide)]; exact v6', by rw [cel8 216 (by decide)]; exact v7⟩
    · rw [hb19]
      refine ⟨by rw [fld8, if_neg (by decide), if_pos rfl], by rw [fld8, if_pos rfl], by omega, by omega, fun k hk => ?_⟩
      have := v8 k (by omega) (by omega)
      show LB hb _ _ _ _ _ []
      unfold LB
      rw [cel8 217 (by decide), cel8 218 (by decide), this.1, this.2]
      exact ⟨by decide, rfl, Or.inl rfl, by decide, trivial⟩
    · rw [hb19, st]; omega
    · rw [hb19, st]; omega
  obtain ⟨h', e', rs, -⟩ := t_text (F := F) (hb := hb) (V := fun t => rd hb 199 t) (M := fun t => rd hb 200 t) (by omega) (TkI_RTk tib) (TkI_Mn tib) (by rw [hb19]; exact hσ) 401 F sg0 hb rt (by decide) (by have : sg0.1 = 0 := rfl; omega)
  obtain ⟨ex, xi⟩ := Txi_txt agb 401 sg0 Txi_0
  rw [ex] at rs
  have fp : Fp hb h' := by
    cases hr : pTxt (KF (rd h 195) (rd h 194 2)) (VF (rd h 195) (rd h 194 2)) (PF (rd h 195) (rd h 194 2)) (MF (rd h 195) (rd h 194 2)) 401 sg0 with
    | inl e => rw [hr] at rs; exact rs.1
    | inr q => rw [hr] at rs; obtain ⟨bb, cb, rp, -⟩ := rs; exact rp.1
  refine ⟨h', e0.trans e', ?_, ?_⟩
  · obtain ⟨⟨a1, a2, a3, a4⟩, fs, fc, fw, ff⟩ := fp
    rw [hb19] at fw
    have bases : ∀ a, a ≠ 194 → ¬ (196 ≤ a ∧ a ≤ 200) → ¬ (202 ≤ a ∧ a ≤ 226) → rd hb a = rd h a := fun a h1 h2 h3 => by rw [cel8 a h1, c6 a (by omega), cel a h1]; exact c4' a h1 h2
    refine ⟨⟨?_, ?_, ?_, ?_⟩, fs, fun a h1 h2 h3 => ?_, fun a j h1 h2 h3 => ?_, fun k hk => ?_, ?_, ⟨?_, fun i i0 i1 => ?_⟩, ?_, ?_⟩
    · rw [a1, sz8.1, sz6.1, sz5.1, sz4.1]; exact sz3.1
    · rw [a2, sz8.2.1, sz6.2.1, sz5.2.1, sz4.2.1]; exact sz3.2.1
    · rw [a3, sz8.2.2.1, sz6.2.2.1, sz5.2.2.1, sz4.2.2.1]; exact sz3.2.2.1
    · rw [a4, sz8.2.2.2, sz6.2.2.2, sz5.2.2.2, sz4.2.2.2]; exact sz3.2.2.2
    · rw [fc a h1 h3]; exact bases a h1 h2 h3
    · rw [fw a j h1 h2 h3, cel8 a (by omega)]
      by_cases c : a ≤ 218
      · rw [w6 a j h1 c h3, cel a (by omega), c4' a (by omega) (by omega)]
      · rw [c6 a (by omega), cel a (by omega), c4' a (by omega) (by omega)]
    · rw [ff k (by omega), fld8, if_neg (by omega), if_neg (by omega), fld, if_neg (by omega), if_neg (by omega)]
      exact f4' k (by omega) (by omega) (by omega)
    · rw [ff 2 (by decide), fld8, if_neg (by decide), if_neg (by decide), fld, if_neg (by decide), if_neg (by decide)]; exact f42
    · rw [ff 2 (by decide), fld8, if_neg (by decide), if_neg (by decide), fld, if_neg (by decide), if_neg (by decide), f42]; decide
    · rw [fc 195 (by decide) (by decide), fc 196 (by decide) (by decide), cel8 195 (by decide), cel8 196 (by decide), c6 195 (by decide), c6 196 (by decide), cel 195 (by decide), cel 196 (by decide), c4' 195 (by decide) (by decide), c46]
      exact ⟨(b.2 i i0 i1).1, by3 i i0 i1⟩
    · unfold TkI
      rw [fc 197 (by decide) (by decide), fc 198 (by decide) (by decide)]
      exact tib
    · rw [ff 19 (by decide)]; exact hb19
  · have er : rdR (rd h 195) (rd h 194 2) = pTxt (KF (rd h 195) (rd h 194 2)) (VF (rd h 195) (rd h 194 2)) (PF (rd h 195) (rd h 194 2)) (MF (rd h 195) (rd h 194 2)) 401 sg0 := rfl
    rw [er]
    cases hr : pTxt (KF (rd h 195) (rd h 194 2)) (VF (rd h 195) (rd h 194 2)) (PF (rd h 195) (rd h 194 2)) (MF (rd h 195) (rd h 194 2)) 401 sg0 with
    | inl e => rw [hr] at rs; exact ⟨rs.2.1, rs.2.2.1, rs.2.2.2⟩
    | inr q =>
      rw [hr] at rs
      obtain ⟨bb, cb, rp, -⟩ := rs
      obtain ⟨x1, x2, x3, x4, x5, x6, x7⟩ := xi q hr
      obtain ⟨-, ⟨-, -, r13, -⟩, ⟨w1, w2, w3⟩, rx, rl⟩ := rp
      rw [hb19] at rx rl
      exact ⟨r13, w1, fun z => (w3 z).1, x6, x5, x7, _, rx, bb, cb, rl⟩
