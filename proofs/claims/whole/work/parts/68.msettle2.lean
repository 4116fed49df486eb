/-! settles, whole; error, fails -/
theorem Fr_Lk {h0 h h' : Hp} (f : Fr h0 h) (l : Lk h h') : Fr h0 h' := by
  obtain ⟨⟨a1, a2, a3, a4⟩, b, c, d, e, v⟩ := f
  obtain ⟨⟨b1, b2, b3, b4⟩, b5, b6, b7⟩ := l
  refine ⟨⟨b1.trans a1, b2.trans a2, b3.trans a3, b4.trans a4⟩, b5, fun a h1 h2 => ?_, fun k hk => ?_, ?_, ?_⟩
  · rw [b6 a h1 (by omega)]; exact c a h1 h2
  · rw [b7 k (by omega)]; exact d k hk
  · rw [b6 240 (by decide) (by decide)]; exact e
  · rw [b6 242 (by decide) (by decide)]; exact v
theorem Fr_RL {h h' : Hp} (f : Fr h h') {k : Int} {L : Lw} (g : RLw h k L) : RLw h' k L := RL_eq (f.2.2.2.1 18 (by decide)) (fun b h1 h2 => f.2.2.1 b (by omega) (by omega)) g
theorem m_se_L7 {F : Nat} {h0 : Hp} {L : Lw} {E G : Int → Int} (hF : 1000 ≤ F) (m : MT h0) (pk : pegOk (dt h0)) (g : RLw h0 3 L) :
    ∀ (j n i : Nat) (h : Hp), i + j = (dt h0 0 0).toNat → j < n → Fr h0 h → rd h 247 = (seS (erV (dt h0) L) (dt h0 0 0).toNat E G i).2.1 → rd h 248 = (seS (erV (dt h0) L) (dt h0 0 0).toNat E G i).2.2 → rd h 194 79 = (seS (erV (dt h0) L) (dt h0 0 0).toNat E G i).1 → ∃ h', Fr h0 h' ∧ Mod_settles_L7 F n 194 i h = some (0, h') ∧ rd h' 247 = (seS (erV (dt h0) L) (dt h0 0 0).toNat E G (dt h0 0 0).toNat).2.1 ∧ rd h' 248 = (seS (erV (dt h0) L) (dt h0 0 0).toNat E G (dt h0 0 0).toNat).2.2 := by
  have hd := m.1.1.2.2.1
  have h8 := D8 m.1.1
  have h256 := two8 h8
  intro j
  induction j with
  | zero =>
    intro n i h hi hn f e1 e2 e3
    obtain ⟨n, rfl⟩ : ∃ j, n = j + 1 := ⟨n - 1, by omega⟩
    have mo := (Fr_MT m f).1.1
    have hl := mo.2.1
    have e0 : rd h 203 (rd h 194 18) = dt h0 0 0 := by rw [← Fr_dt f]; rfl
    have ei : (dt h0 0 0).toNat = i := by omega
    rw [ei] at e1 e2 ⊢
    refine ⟨h, f, ?_, e1, e2⟩
    show Mod_settles_L7s F _ 194 _ h = _
    unfold Mod_settles_L7s
    rw [gM22 mo.1, gM18 mo.1, aM22 mo.1 (by omega) (by omega), e0, if_neg (by omega)]
  | succ j ih =>
    intro n i h hi hn f e1 e2 e3
    obtain ⟨n, rfl⟩ : ∃ j, n = j + 1 := ⟨n - 1, by omega⟩
    have mo := (Fr_MT m f).1.1
    have hl := mo.2.1
    have ed := Fr_dt f
    have e0 : rd h 203 (rd h 194 18) = dt h0 0 0 := by rw [← ed]; rfl
    obtain ⟨s1, s2, s3⟩ := seS_in (erV (dt h0) L) h8 E G i (by omega)
    obtain ⟨p, p1, p2, p3⟩ := s3 (by omega)
    obtain ⟨h1, l1, q⟩ := m_se_L31 (F := F) (h0 := h) (L := L) (S := (seS (erV (dt h0) L) (dt h0 0 0).toNat E G i).1) (k := i) hF (Mod_settles_L7 F n) mo (by rw [ed]; exact pk) (Fr_RL f g) (by omega) e3 (dt h 0 0).toNat F 0 h (by omega) (by rw [ed]; omega) (Lk_refl mo.1)
    rw [ed, e1] at q
    show ∃ h', Fr h0 h' ∧ Mod_settles_L7s F (Mod_settles_L7 F n) 194 i h = some (0, h') ∧ _
    unfold Mod_settles_L7s
    rw [gM22 mo.1, gM18 mo.1, aM22 mo.1 (by omega) (by omega), e0, if_pos (by omega)]
    have q' : Mod_settles_L31 F (Mod_settles_L7 F n) F 194 i (-1) 0 (-2) 0 h = _ := q
    rw [q']
    have sh1 := l1.2.1
    have f1 := Fr_Lk f l1
    unfold Mod_settles_B150
    have x1 : rd h1 247 = (seS (erV (dt h0) L) (dt h0 0 0).toNat E G i).2.1 := by rw [l1.2.2.1 247 (by decide) (by decide)]; exact e1
    have x2 : rd h1 248 = (seS (erV (dt h0) L) (dt h0 0 0).toNat E G i).2.2 := by rw [l1.2.2.1 248 (by decide) (by decide)]; exact e2
    have x3 : rd h1 194 79 = (seS (erV (dt h0) L) (dt h0 0 0).toNat E G i).1 := by rw [l1.2.2.2 79 (by decide)]; exact e3
    have st : seS (erV (dt h0) L) (dt h0 0 0).toNat E G (i + 1) = ((seS (erV (dt h0) L) (dt h0 0 0).toNat E G i).1 ||| 2 ^ (scP (erV (dt h0) L (seS (erV (dt h0) L) (dt h0 0 0).toNat E G i).2.1) (seS (erV (dt h0) L) (dt h0 0 0).toNat E G i).1 (dt h0 0 0).toNat (dt h0 0 0).toNat).1.toNat, up (seS (erV (dt h0) L) (dt h0 0 0).toNat E G i).2.1 (scP (erV (dt h0) L (seS (erV (dt h0) L) (dt h0 0 0).toNat E G i).2.1) (seS (erV (dt h0) L) (dt h0 0 0).toNat E G i).1 (dt h0 0 0).toNat (dt h0 0 0).toNat).1 (scP (erV (dt h0) L (seS (erV (dt h0) L) (dt h0 0 0).toNat E G i).2.1) (seS (erV (dt h0) L) (dt h0 0 0).toNat E G i).1 (dt h0 0 0).toNat (dt h0 0 0).toNat).2.1, up (seS (erV (dt h0) L) (dt h0 0 0).toNat E G i).2.2 (scP (erV (dt h0) L (seS (erV (dt h0) L) (dt h0 0 0).toNat E G i).2.1) (seS (erV (dt h0) L) (dt h0 0 0).toNat E G i).1 (dt h0 0 0).toNat (dt h0 0 0).toNat).1 (scP (erV (dt h0) L (seS (erV (dt h0) L) (dt h0 0 0).toNat E G i).2.1) (seS (erV (dt h0) L) (dt h0 0 0).toNat E G i).1 (dt h0 0 0).toNat (dt h0 0 0).toNat).2.2) := rfl
    generalize scP (erV (dt h0) L (seS (erV (dt h0) L) (dt h0 0 0).toNat E G i).2.1) (seS (erV (dt h0) L) (dt h0 0 0).toNat E G i).1 (dt h0 0 0).toNat (dt h0 0 0).toNat = r at p3 st ⊢
    have nx := fun h' a1 a2 a3 a4 => ih n (i + 1) h' (by omega) (by omega) a1 a2 a3 a4
    rw [st] at nx
    generalize seS (erV (dt h0) L) (dt h0 0 0).toNat E G i = Z at x1 x2 x3 s1 p2 nx
    simp only at nx
    rw [p3] at nx ⊢
    rw [Int.toNat_natCast] at nx
    have y1 : wr h1 247 p r.2.1 = sr h1 247 (up Z.2.1 p r.2.1) := by rw [wr_sr, x1]
    have sh2 : Sh (sr h1 247 (up Z.2.1 p r.2.1)) := Sh_sr sh1 (by decide) (by decide)
    have y2 : wr (sr h1 247 (up Z.2.1 p r.2.1)) 248 p r.2.2 = sr (sr h1 247 (up Z.2.1 p r.2.1)) 248 (up Z.2.2 p r.2.2) := by rw [wr_sr, rd_sr_ne (by decide), x2]
    have sh3 : Sh (sr (sr h1 247 (up Z.2.1 p r.2.1)) 248 (up Z.2.2 p r.2.2)) := Sh_sr sh2 (by decide) (by decide)
    rw [gM77 sh1, sM77 sh1 (by omega) (by omega), y1, gM78 sh2, sM78 sh2 (by omega) (by omega), y2, gM79 sh3, rd_sr_ne (by decide), rd_sr_ne (by decide), x3, ior_p (by omega) (by omega), pM79 sh3, w32_nat (by omega)]
    refine nx _ (Fr_f (Fr_sr (Fr_sr f1 (by decide)) (by decide)) (sh79 sh3 _) (by decide)) ?_ ?_ ?_
    · rw [rd_wr_ne (by decide), rd_sr_ne (by decide), rd_sr]
    · rw [rd_wr_ne (by decide), rd_sr]
    · rw [rd_same]
theorem m_settles {F : Nat} {h : Hp} {L : Lw} (hF : 1000 ≤ F) (m : MT h) (pk : pegOk (dt h)) (g : RLw h 3 L) : ∃ h', Fr h h' ∧ Mod_settles F 194 h = some (0, h') ∧ rd h' 247 = (seS (erV (dt h) L) (dt h 0 0).toNat (rd h 247) (rd h 248) (dt h 0 0).toNat).2.1 ∧ rd h' 248 = (seS (erV (dt h) L) (dt h 0 0).toNat (rd h 247) (rd h 248) (dt h 0 0).toNat).2.2 := by
  have hd := m.1.1.2.2.1
  unfold Mod_settles
  rw [pM79 m.1.1.1]
  exact m_se_L7 hF m pk g (dt h 0 0).toNat F 0 _ (by omega) (by omega) (Fr_f (Fr_refl m) (sh79 m.1.1.1 _) (by decide)) (by rw [rd_wr_ne (by decide)]; rfl) (by rw [rd_wr_ne (by decide)]; rfl) (by rw [rd_same]; rfl)
/-- errors do not depend on what stood there before -/
theorem scO_congr {f f' : Int → Int} {S : Nat} {p : Int} (h0 : f (-2) = f' (-2)) (h : ∀ o : Nat, S.testBit o = true → f o = f' o) {q : Int × Int × Int} : ∀ n, scO f S p q n = scO f' S p q n
  | 0 => rfl
  | n + 1 => by
    have ih := scO_congr h0 h (p := p) (q := q) n
    unfold scO
    rw [ih]
    split
    · rfl
    · rename_i c
      have e : f ((n : Int) - 2) = f' ((n : Int) - 2) := by
        by_cases n0 : n = 0
        · subst n0; exact h0
        · have hb : S.testBit (n - 2) = true := by
            by_cases hb : S.testBit (n - 2) = true
            · exact hb
            · exact absurd (Or.inr ⟨by omega, by simpa using hb⟩) c
          rw [show (n : Int) - 2 = ((n - 2 : Nat) : Int) by omega]
          exact h _ hb
      rw [e]
theorem scP_congr {g g' : Int → Int → Int} {S m : Nat} (h0 : ∀ p, g p (-2) = g' p (-2)) (h : ∀ p, ∀ o : Nat, S.testBit o = true → g p o = g' p o) : ∀ n, scP g S m n = scP g' S m n
  | 0 => rfl
  | n + 1 => by
    unfold scP
    rw [scP_congr h0 h n, scO_congr (h0 n) (h n)]
theorem erV_congr {D : Nat → Int → Int} {L : Lw} {E E' : Int → Int} {p o : Int} (h : 0 ≤ o → E o = E' o) : erV D L E p o = erV D L E' p o := by
  unfold erV
  split
  · rfl
  · rw [h (by omega)]
theorem seS_congr {D : Nat → Int → Int} {L : Lw} {m : Nat} (hm : m ≤ 8) (E G E' G' : Int → Int) : ∀ k, k ≤ m → (seS (erV D L) m E G k).1 = (seS (erV D L) m E' G' k).1 ∧ (∀ p : Nat, (seS (erV D L) m E G k).1.testBit p = true → (seS (erV D L) m E G k).2.1 p = (seS (erV D L) m E' G' k).2.1 p ∧ (seS (erV D L) m E G k).2.2 p = (seS (erV D L) m E' G' k).2.2 p)
  | 0, _ => ⟨rfl, fun p hp => by
    have e : (seS (erV D L) m E G 0).1 = 0 := rfl
    rw [e, Nat.zero_testBit] at hp
    exact absurd hp (by decide)⟩
  | k + 1, hk => by
    obtain ⟨a, b⟩ := seS_congr (D := D) (L := L) hm E G E' G' k (by omega)
    obtain ⟨p, p1, p2, p3⟩ := (seS_in (erV D L) hm E G k (by omega)).2.2 (by omega)
    have e : scP (erV D L (seS (erV D L) m E G k).2.1) (seS (erV D L) m E G k).1 m m = scP (erV D L (seS (erV D L) m E' G' k).2.1) (seS (erV D L) m E' G' k).1 m m := by
      rw [← a]
      exact scP_congr (fun p => erV_congr (fun q => by omega)) (fun p o ho => erV_congr (fun _ => (b o ho).1)) m
    unfold seS
    rw [← e, ← a]
    refine ⟨rfl, fun o ho => ?_⟩
    simp only at ho ⊢
    rw [p3] at ho ⊢
    rw [Int.toNat_natCast, Nat.testBit_or, Nat.testBit_two_pow] at ho
    by_cases ep : o = p
    · subst ep
      rw [up_s, up_s, up_s, up_s]
      exact ⟨rfl, rfl⟩
    · rw [up_n (by omega), up_n (by omega), up_n (by omega), up_n (by omega)]
      refine b o ?_
      simpa [show ¬ p = o by omega] using ho
def erF (D : Nat → Int → Int) (L : Lw) : (Int → Int) × (Int → Int) := (seS (erV D L) (D 0 0).toNat (fun _ => 0) (fun _ => 0) (D 0 0).toNat).2
theorem full_bit {s m : Nat} (hm : m ≤ 8) (hs : s < 2 ^ m) (hc : pcN s 8 = m) {p : Nat} (hp : p < m) : s.testBit p = true := by
  have h256 := two8 hm
  by_cases hb : s.testBit p = true
  · exact hb
  · have key : ∀ m : Nat, m ≤ 8 → ∀ s : Nat, s < 256 → s < 2 ^ m → pcN s 8 ≤ m := by decide +kernel
    have c := pcN_or s (by omega) p (by omega) (by simpa using hb)
    have l := or_lt hs hp
    have := key m hm _ (by omega) l
    omega
theorem seS_erF {D : Nat → Int → Int} {L : Lw} (hm : (D 0 0).toNat ≤ 8) (E G : Int → Int) {p : Nat} (hp : p < (D 0 0).toNat) : (seS (erV D L) (D 0 0).toNat E G (D 0 0).toNat).2.1 p = (erF D L).1 p ∧ (seS (erV D L) (D 0 0).toNat E G (D 0 0).toNat).2.2 p = (erF D L).2 p := by
  obtain ⟨s1, s2, -⟩ := seS_in (erV D L) hm E G (D 0 0).toNat (Nat.le_refl _)
  exact (seS_congr (D := D) (L := L) hm E G (fun _ => 0) (fun _ => 0) (D 0 0).toNat (Nat.le_refl _)).2 p (full_bit hm s1 s2 hp)
def errA (h : Hp) (L : Lw) (p f : Int) : Int := if ¬ (0 ≤ p ∧ p < dt h 0 0) then -1 else if f = 0 then (erF (dt h) L).1 p else (erF (dt h) L).2 p
theorem m_error {F : Nat} {h : Hp} {L : Lw} {p f : Int} (hF : 1000 ≤ F) (m : MT h) (pk : pegOk (dt h)) (g : RLw h 3 L) : ∃ h', Mod_error F 194 p f h = some (errA h L p f, h') ∧ Fr h h' := by
  have mo := m.1.1
  have hd := mo.2.2.1
  unfold Mod_error errA
  rw [ivM mo.1, m_isPart mo, cl_some]
  by_cases hp : 0 ≤ p ∧ p < dt h 0 0
  · obtain ⟨h', fr, e, e1, e2⟩ := m_settles (F := F) hF m pk g
    have sf := seS_erF (D := dt h) (L := L) (D8 mo) (rd h 247) (rd h 248) (p := p.toNat) (by omega)
    rw [show ((p.toNat : Nat) : Int) = p by omega] at sf
    refine ⟨h', ?_, fr⟩
    rw [if_pos hp, if_neg (by decide), if_neg (not_not_intro hp), ivM mo.1, e, cl_some]
    by_cases hf : f = 0
    · rw [if_pos hf, if_pos hf, gM77 fr.2.1, aM77 fr.2.1 hp.1 (by omega), e1, sf.1]
    · rw [if_neg hf, if_neg hf, gM78 fr.2.1, aM78 fr.2.1 hp.1 (by omega), e2, sf.2]
  · rw [if_neg hp, if_pos rfl, if_pos hp]; exact ⟨h, rfl, Fr_refl m⟩
def flsA (h : Hp) (L : Lw) (v : Int) : Int := if v < 0 then -1 else ((setN (fun p => decide (v < (erF (dt h) L).1 p)) (dt h 0 0).toNat : Nat) : Int)
theorem m_fails {F : Nat} {h : Hp} {L : Lw} {v : Int} (hF : 1000 ≤ F) (m : MT h) (pk : pegOk (dt h)) (g : RLw h 3 L) : ∃ h', Mod_fails F 194 v h = some (flsA h L v, h') ∧ Fr h h' := by
  have mo := m.1.1
  have hd := mo.2.2.1
  unfold Mod_fails flsA
  by_cases hv : v < 0
  · rw [if_pos hv, if_pos hv]; exact ⟨h, rfl, Fr_refl m⟩
  · obtain ⟨h', fr, e, e1, e2⟩ := m_settles (F := F) hF m pk g
    have mo' := (Fr_MT m fr).1.1
    have hl := mo'.2.1
    have e0 : rd h' 203 (rd h' 194 18) = dt h 0 0 := by rw [← Fr_dt fr]; rfl
    refine ⟨h', ?_, fr⟩
    rw [if_neg hv, if_neg hv, ivM mo.1, e, cl_some]
    refine loop0 (fun n i => Mod_fails_L14 F n 194 v ((setN (fun p => decide (v < (erF (dt h) L).1 p)) i : Nat) : Int) (i : Nat) h') (dt h 0 0).toNat F _ (by omega) (fun n i hi => ?_) (fun n => ?_)
    · show Mod_fails_L14s F (Mod_fails_L14 F n) 194 v _ _ h' = _
      have sf := seS_erF (D := dt h) (L := L) (D8 mo) (rd h 247) (rd h 248) (p := i) hi
      have s8 := setN_8 (fun p => decide (v < (erF (dt h) L).1 p)) i (by omega)
      have st : setN (fun p => decide (v < (erF (dt h) L).1 p)) (i + 1) = if decide (v < (erF (dt h) L).1 i) then setN (fun p => decide (v < (erF (dt h) L).1 p)) i ||| 2 ^ i else setN (fun p => decide (v < (erF (dt h) L).1 p)) i := rfl
      unfold Mod_fails_L14s
      rw [gM22 mo'.1, gM18 mo'.1, aM22 mo'.1 (by omega) (by omega), e0, if_pos (by omega), gM77 mo'.1, aM77 mo'.1 (by omega) (by omega), e1, sf.1, w32_nat (by omega), st]
      by_cases hc : v < (erF (dt h) L).1 i
      · rw [if_pos hc, lt_eq, ior_p s8 (by omega), if_pos (by simpa using hc)]
      · rw [if_neg hc, if_neg (by simpa using hc)]
    · show Mod_fails_L14s F (Mod_fails_L14 F n) 194 v _ _ h' = _
      unfold Mod_fails_L14s
      rw [gM22 mo'.1, gM18 mo'.1, aM22 mo'.1 (by omega) (by omega), e0, if_neg (by omega)]
