/-! the reference's sets that a worker can do; two -/
def putA (C : Int → Int) (o i : Int) (g : Int → Int) : Int → Int := fun j => if o ≤ j ∧ j < o + i then g (j - o) else C j
theorem putA_0 (C : Int → Int) (o : Int) (g : Int → Int) : putA C o 0 g = C := by
  funext j
  unfold putA
  rw [if_neg (by omega)]
theorem putA_up (C : Int → Int) (o : Int) (g : Int → Int) (i : Nat) : up (putA C o i g) (o + i) (g i) = putA C o ((i + 1 : Nat) : Int) g := by
  funext j
  unfold up putA
  (repeat' split) <;> first | rfl | omega | (congr 1; omega)
def canV (T : Int → Int) (a b : Int) (al s : Nat) : Int := if s &&& al = s ∧ (s = 0 ∨ lrV T a s ≤ b) then 1 else 0
theorem canV_01 (T : Int → Int) (a b : Int) (al s : Nat) : canV T a b al s = 0 ∨ canV T a b al s = 1 := by
  unfold canV
  split
  · exact Or.inr rfl
  · exact Or.inl rfl
theorem m_fillsCan_L {F : Nat} {h : Hp} {w b : Int} {al : Nat} (hF : 1000 ≤ F) (sh : Sh h) (hw : 0 ≤ w ∧ w < 3) (ha : al < 256) : Mod_fillsCan_L9 F F 194 w al b 0 h = some (0, sr h 244 (putA (rd h 244) (256 * w) 256 (fun j => canV (rd h 242) (rd h 194 69) b al j.toNat))) := by
  have key := loop0 (fun n i => Mod_fillsCan_L9 F n 194 w al b (i : Int) (sr h 244 (putA (rd h 244) (256 * w) i (fun j => canV (rd h 242) (rd h 194 69) b al j.toNat)))) 256 F (some (0, sr h 244 (putA (rd h 244) (256 * w) 256 (fun j => canV (rd h 242) (rd h 194 69) b al j.toNat)))) (by omega) (fun n i hi => ?_) (fun n => ?_)
  · rw [show ((0 : Nat) : Int) = 0 from rfl, putA_0, sr_self] at key
    exact key
  · show Mod_fillsCan_L9s F (Mod_fillsCan_L9 F n) 194 w al b i _ = _
    have e := putA_up (rd h 244) (256 * w) (fun j => canV (rd h 242) (rd h 194 69) b al j.toNat) i
    rw [Int.toNat_natCast] at e
    rw [← e]
    generalize putA (rd h 244) (256 * w) i (fun j => canV (rd h 242) (rd h 194 69) b al j.toNat) = U
    have s1 : Sh (sr h 244 U) := Sh_sr sh (by decide) (by decide)
    have cb := m_canBy (F := F) (s := i) (b := b) hF s1 hi
    rw [rd_sr_ne (by decide), rd_sr_ne (by decide)] at cb
    unfold Mod_fillsCan_L9s canV
    rw [if_pos (by omega), gM74 s1, w32_id (x := 256 * w) (by omega) (by omega), w32_id (x := 256 * w + (i : Int)) (by omega) (by omega), w32_nat (by omega)]
    by_cases hsub : i &&& al = i
    · rw [if_pos ((sub_I i hi al ha).2 hsub), ivM s1, cb, cl_some]
      by_cases hc : i = 0 ∨ lrV (rd h 242) (rd h 194 69) i ≤ b
      · rw [if_pos hc, if_neg (by decide), if_pos ⟨hsub, hc⟩, sM74 s1 (by omega) (by omega) (Or.inr rfl), wr_up]
      · rw [if_neg hc, if_pos rfl, if_neg (fun q => hc q.2), sM74 s1 (by omega) (by omega) (Or.inl rfl), wr_up]
    · rw [if_neg (fun q => hsub ((sub_I i hi al ha).1 q)), if_neg (fun q => hsub q.1), sM74 s1 (by omega) (by omega) (Or.inl rfl), wr_up]
  · show Mod_fillsCan_L9s F (Mod_fillsCan_L9 F n) 194 w al b _ _ = _
    unfold Mod_fillsCan_L9s
    rw [if_neg (by decide)]
    rfl
theorem canV_CT {D : Nat → Int → Int} {G : Nat → Int} {w a b : Int} {T : Int → Int} {al s : Nat} (h8 : (D 0 0).toNat ≤ 8) (hl : al < 2 ^ (D 0 0).toNat) : canV (tabF D G w T al) a b al s = canV (CT D G w al) a b al s := by
  have h256 := two8 h8
  unfold canV
  by_cases hs : s &&& al = s
  · have h1 : s ≤ al := by rw [← hs]; exact Nat.and_le_right
    rw [lrV_CT h8 (by omega) (by omega) hs]
  · rw [if_neg (fun q => hs q.1), if_neg (fun q => hs q.1)]
theorem m_fillsCan {F : Nat} {h : Hp} {w b : Int} {al : Nat} (hF : 1000 ≤ F) (m : Mo h) (hg : Gok (dt h) (Pg h)) (ht : ∀ i, Vok (rd h 242 i)) (hw : 0 ≤ w ∧ w < dt h 1 0) (ha : al < 2 ^ (dt h 0 0).toNat) :
    Mod_fillsCan F 194 w al b h = some (0, sr (sr h 242 (tabF (dt h) (Pg h) w (rd h 242) al)) 244 (putA (rd h 244) (256 * w) 256 (fun j => canV (CT (dt h) (Pg h) w al) (rd h 194 69) b al j.toNat))) := by
  have h256 := two8 (D8 m)
  have hw3 := m.2.2.2.1
  unfold Mod_fillsCan
  rw [ivM m.1, m_fillsRows hF m hg ht hw (by omega), cl_some]
  obtain ⟨mo, ed, eg, et⟩ := sr242 m (tabS (dt h) (Pg h) w (rd h 242) al (2 ^ (dt h 0 0).toNat - 1))
  rw [m_fillsCan_L hF mo.1 (by omega) (by omega), et, rd_sr_ne (by decide), rd_sr_ne (by decide)]
  have e : (fun j : Int => canV (tabS (dt h) (Pg h) w (rd h 242) al (2 ^ (dt h 0 0).toNat - 1)) (rd h 194 69) b al j.toNat) = fun j : Int => canV (CT (dt h) (Pg h) w al) (rd h 194 69) b al j.toNat := by
    funext j
    exact canV_CT (D8 m) ha
  rw [e]
  rfl
/-- two workers: the first of the best pairs -/
def twI (D : Nat → Int → Int) (co : Nat → Bool) (s : Nat) (q : Nat × Nat) : Nat → Nat × Nat
  | 0 => q
  | n + 1 => if s &&& n = 0 ∧ co n = true ∧ wbV D ((twI D co s q n).1 ||| (twI D co s q n).2) < wbV D (s ||| n) then (s, n) else twI D co s q n
def twO (D : Nat → Int → Int) (cw co : Nat → Bool) : Nat → Nat × Nat
  | 0 => (0, 0)
  | n + 1 => if cw n then twI D co n (twO D cw co n) 256 else twO D cw co n
theorem twI_lt {D : Nat → Int → Int} {co : Nat → Bool} {s k : Nat} {q : Nat × Nat} (hs : s < k) (hq : q.1 < k ∧ q.2 < k) (hc : ∀ n, co n = true → n < k) : ∀ n, (twI D co s q n).1 < k ∧ (twI D co s q n).2 < k
  | 0 => hq
  | n + 1 => by
    have ih := twI_lt (D := D) hs hq hc n
    unfold twI
    split
    · rename_i h; exact ⟨hs, hc n h.2.1⟩
    · exact ih
theorem twO_lt {D : Nat → Int → Int} {cw co : Nat → Bool} {k : Nat} (hk : 0 < k) (hw : ∀ n, cw n = true → n < k) (hc : ∀ n, co n = true → n < k) : ∀ n, (twO D cw co n).1 < k ∧ (twO D cw co n).2 < k
  | 0 => ⟨hk, hk⟩
  | n + 1 => by
    have ih := twO_lt (D := D) hk hw hc n
    unfold twO
    split
    · rename_i h; exact twI_lt (hw n h) ih hc 256
    · exact ih
theorem m_two_L117 {F : Nat} {h : Hp} {w o q : Int} {s : Nat} {r : Nat × Nat} {co : Nat → Bool} (hF : 1000 ≤ F) (R87 : Int → Int → Int → Int → Int → Int → Int → Hp → Option (Int × Hp)) (m : Mo h) (ho : 0 ≤ o ∧ o < 3) (hs : s < 2 ^ (dt h 0 0).toNat) (hr : r.1 < 2 ^ (dt h 0 0).toNat ∧ r.2 < 2 ^ (dt h 0 0).toNat) (hc : ∀ n, co n = true → n < 2 ^ (dt h 0 0).toNat) (hv : ∀ n : Nat, n < 256 → rd h 244 (256 * o + n) = if co n then 1 else 0) :
    Mod_two_L117 F R87 F 194 w o q r.1 r.2 s 0 h = R87 194 w o q (twI (dt h) co s r 256).1 (twI (dt h) co s r 256).2 ((s + 1 : Nat) : Int) h := by
  have sh := m.1
  have h256 := two8 (D8 m)
  refine loop0 (fun n i => Mod_two_L117 F R87 n 194 w o q (twI (dt h) co s r i).1 (twI (dt h) co s r i).2 s (i : Int) h) 256 F _ (by omega) (fun n i hi => ?_) (fun n => ?_)
  · show Mod_two_L117s F R87 (Mod_two_L117 F R87 n) 194 w o q _ _ s i h = _
    have lt := twI_lt (D := dt h) hs hr hc i
    have e : twI (dt h) co s r (i + 1) = if s &&& i = 0 ∧ co i = true ∧ wbV (dt h) ((twI (dt h) co s r i).1 ||| (twI (dt h) co s r i).2) < wbV (dt h) (s ||| i) then (s, i) else twI (dt h) co s r i := rfl
    rw [e]
    generalize twI (dt h) co s r i = k at lt ⊢
    unfold Mod_two_L117s
    rw [if_pos (by omega), iand_nat (by omega) (by omega), w32_nat (by omega)]
    by_cases h1 : s &&& i = 0
    · rw [if_pos (by omega), gM74 sh, w32_id (x := 256 * o) (by omega) (by omega), w32_id (x := 256 * o + (i : Int)) (by omega) (by omega), aM74 sh (by omega) (by omega), hv i hi]
      by_cases h2 : co i = true
      · have hil := hc i h2
        have o1 := Nat.or_lt_two_pow hs hil
        have o2 := Nat.or_lt_two_pow lt.1 lt.2
        rw [if_pos h2, if_neg (by decide), ior_nat (by omega) (by omega), ior_nat (by omega) (by omega), ivM sh, m_worthBy hF m o1, cl_some, ivM sh, m_worthBy hF m o2, cl_some]
        by_cases h3 : wbV (dt h) (k.1 ||| k.2) < wbV (dt h) (s ||| i)
        · rw [if_pos h3, if_pos ⟨h1, h2, h3⟩]
        · rw [if_neg h3, if_neg (fun z => h3 z.2.2)]
      · rw [if_neg h2, if_pos rfl, if_neg (fun z => h2 z.2.1)]
    · rw [if_neg (by omega), if_neg (fun z => h1 z.1)]
  · show Mod_two_L117s F R87 (Mod_two_L117 F R87 n) 194 w o q _ _ s _ h = _
    unfold Mod_two_L117s
    rw [if_neg (by decide), w32_nat (by omega)]
