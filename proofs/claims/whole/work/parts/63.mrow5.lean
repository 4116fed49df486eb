/-! planAt, after -/
theorem plS_I {h : Hp} {w a : Int} {s al : Nat} {A : Int → Int} (m : Mo h) (hg : Gok (dt h) (Pg h)) {T : Int → Int} (ht : ∀ i, Vok (T i)) (hw : 0 ≤ w ∧ w < dt h 1 0) (hl : al < 256) (hx : Fix (dt h) (Pg h) w T al) (hs : s < 2 ^ (dt h 0 0).toNat) (ha : s &&& al = s) : ∀ i, i ≤ pcN s 8 → plI (dt h) al s (pcN s 8) i (plS (dt h) (Pg h) w T a s (pcN s 8) A i)
  | 0, _ => ⟨hs, ha, by show pcN s 8 + 0 = pcN s 8; omega, Or.inl ⟨rfl, rfl, rfl⟩⟩
  | i + 1, hi => plI_step m hg ht hw hl hx (plS_I m hg ht hw hl hx hs ha i (by omega)) (by omega)
theorem plS_in {h : Hp} {w a : Int} {s al : Nat} {A : Int → Int} (m : Mo h) (hg : Gok (dt h) (Pg h)) {T : Int → Int} (ht : ∀ i, Vok (T i)) (hw : 0 ≤ w ∧ w < dt h 1 0) (hl : al < 256) (hx : Fix (dt h) (Pg h) w T al) (hs : s < 2 ^ (dt h 0 0).toNat) (ha : s &&& al = s) : ∀ i, i ≤ pcN s 8 → ∀ j : Int, (pcN s 8 : Int) - i ≤ j → j < pcN s 8 → 0 ≤ (plS (dt h) (Pg h) w T a s (pcN s 8) A i).2.2 j ∧ (plS (dt h) (Pg h) w T a s (pcN s 8) A i).2.2 j < dt h 0 0
  | 0, _, j, h1, h2 => by omega
  | i + 1, hi, j, h1, h2 => by
    have I := plS_I (a := a) (A := A) m hg ht hw hl hx hs ha i (by omega)
    obtain ⟨-, b1, b2, b3⟩ := plX_in (a := a) m hg ht hw hx I (by omega)
    rw [plS]
    show 0 ≤ up _ _ _ j ∧ up _ _ _ j < _
    by_cases hj : j = (pcN s 8 : Int) - 1 - i
    · rw [hj, up_s]; omega
    · rw [up_n hj]
      exact plS_in m hg ht hw hl hx hs ha i (by omega) j (by omega) h2
theorem tabF_fix {D : Nat → Int → Int} {G : Nat → Int} {w : Int} {T : Int → Int} {al : Nat} (h8 : (D 0 0).toNat ≤ 8) : Fix D G w (tabF D G w T al) al := fun s p h1 h2 h3 h4 h5 => tabS_fix h1 (by omega) h3 h4 h5
/-- the row of a plan as things stand -/
def prow (D : Nat → Int → Int) (N : Int → Int) (w b : Int) : Int → Int := plA D (plG N w 0 0) w (CT D (plG N w 0 0) w (nevN D N)) (N (38 + w) + 0) (plSet D N w 0 b) (fun _ => 0)
theorem plX_congr {D : Nat → Int → Int} {G : Nat → Int} {w a : Int} {T U : Int → Int} {al s l : Nat} {p : Int} (h8 : (D 0 0).toNat ≤ 8) (hs : s < 2 ^ (D 0 0).toNat) (ha : s &&& al = s) (e : ∀ s p : Nat, 1 ≤ s → s < 2 ^ (D 0 0).toNat → s &&& al = s → p < 8 → s.testBit p = true → T (8 * (s : Int) + p) = U (8 * (s : Int) + p)) (hl : l < 2 ^ (D 0 0).toNat) (hla : l &&& al = l) (h0 : l ≠ 0)
    (hp : p = -1 ∨ (0 ≤ p ∧ p < D 0 0 ∧ (l ||| 2 ^ p.toNat) < 2 ^ (D 0 0).toNat ∧ (l ||| 2 ^ p.toNat) &&& al = (l ||| 2 ^ p.toNat))) : plX D G w T a s l p = plX D G w U a s l p := by
  have h256 := two8 h8
  have e1 : plD T a s l p = plD U a s l p := by
    unfold plD
    rcases hp with hp | ⟨p0, p1, p2, p3⟩
    · rw [if_pos (by omega), if_pos (by omega)]
      unfold lrV
      refine mnB_congr 8 (fun o ho hb => ?_)
      have hs0 : s ≠ 0 := fun q => by rw [q, Nat.zero_testBit] at hb; exact absurd hb (by decide)
      exact e s o (by omega) hs ha ho hb
    · rw [if_neg (by omega), if_neg (by omega)]
      have := e (l ||| 2 ^ p.toNat) p.toNat (by have := Nat.left_le_or (n := l) (m := 2 ^ p.toNat); omega) p2 p3 (by omega) (by rw [Nat.testBit_or, Nat.testBit_two_pow_self, Bool.or_true])
      rw [show ((p.toNat : Nat) : Int) = p by omega] at this
      exact this
  unfold plX
  rw [e1]
  refine fsN_congr 8 0 (fun o h1 h2 => ?_)
  unfold plC
  by_cases hb : l.testBit o = true
  · rw [hb]
    congr 1
    have eo := e l o (by omega) hl hla (by omega) hb
    unfold rb1
    rw [eo]
  · rw [show l.testBit o = false by simpa using hb]; rfl
theorem plS_congr {h : Hp} {w a : Int} {s al : Nat} {A B : Int → Int} (m : Mo h) (hg : Gok (dt h) (Pg h)) {T U : Int → Int} (ht : ∀ i, Vok (T i)) (hw : 0 ≤ w ∧ w < dt h 1 0) (hl : al < 256) (hx : Fix (dt h) (Pg h) w T al) (hs : s < 2 ^ (dt h 0 0).toNat) (ha : s &&& al = s)
    (e : ∀ s p : Nat, 1 ≤ s → s < 2 ^ (dt h 0 0).toNat → s &&& al = s → p < 8 → s.testBit p = true → T (8 * (s : Int) + p) = U (8 * (s : Int) + p)) :
    ∀ i, i ≤ pcN s 8 → (plS (dt h) (Pg h) w T a s (pcN s 8) A i).1 = (plS (dt h) (Pg h) w U a s (pcN s 8) B i).1 ∧ (plS (dt h) (Pg h) w T a s (pcN s 8) A i).2.1 = (plS (dt h) (Pg h) w U a s (pcN s 8) B i).2.1 ∧ ∀ j : Int, (pcN s 8 : Int) - i ≤ j → j < pcN s 8 → (plS (dt h) (Pg h) w T a s (pcN s 8) A i).2.2 j = (plS (dt h) (Pg h) w U a s (pcN s 8) B i).2.2 j
  | 0, _ => ⟨rfl, rfl, fun j h1 h2 => by omega⟩
  | i + 1, hi => by
    obtain ⟨e1, e2, e3⟩ := plS_congr (a := a) (A := A) (B := B) m hg ht hw hl hx hs ha e i (by omega)
    obtain ⟨i1, i2, i3, i4⟩ := plS_I (a := a) (A := A) m hg ht hw hl hx hs ha i (by omega)
    have h0 : (plS (dt h) (Pg h) w T a s (pcN s 8) A i).1 ≠ 0 := fun q => by
      rw [q] at i3
      have : pcN 0 8 = 0 := by decide
      omega
    have ex := plX_congr (G := Pg h) (w := w) (a := a) (D8 m) hs ha e i1 i2 h0 (p := (plS (dt h) (Pg h) w T a s (pcN s 8) A i).2.1) (by
      rcases i4 with ⟨_, q, _⟩ | ⟨_, q1, q2, q3, q4, _⟩
      · exact Or.inl q
      · exact Or.inr ⟨q1, q2, q3, q4⟩)
    rw [plS, plS, ← e1, ← e2, ← ex]
    refine ⟨rfl, rfl, fun j h1 h2 => ?_⟩
    show up _ _ _ j = up _ _ _ j
    by_cases hj : j = (pcN s 8 : Int) - 1 - i
    · rw [hj, up_s, up_s]
    · rw [up_n hj, up_n hj]
      exact e3 j (by omega) h2
/-- what planAt and after have before them -/
theorem m_planRow {F : Nat} {h : Hp} {w b : Int} (hF : 1000 ≤ F) (m : MT h) (hw : 0 ≤ w ∧ w < dt h 1 0) :
    ∃ h1 h2, Mod_planNow F 194 w b 0 h = some (((plSet (dt h) (rd h 239) w 0 b : Nat) : Int), h1) ∧ Fr h h1 ∧ Mod_fillsPlan F 194 w ((plSet (dt h) (rd h 239) w 0 b : Nat) : Int) h1 = some (0, h2) ∧ Fr h h2 ∧ rd h2 240 = rd h 239 ∧ rd h2 194 73 = ((pcN (plSet (dt h) (rd h 239) w 0 b) 8 : Nat) : Int) ∧ (∀ j : Int, 0 ≤ j → j < ((pcN (plSet (dt h) (rd h 239) w 0 b) 8 : Nat) : Int) → rd h2 243 j = prow (dt h) (rd h 239) w b j ∧ 0 ≤ prow (dt h) (rd h 239) w b j ∧ prow (dt h) (rd h 239) w b j < dt h 0 0) := by
  have mo := m.1.1
  obtain ⟨h1, e1, f1, t1, g1, r1⟩ := m_planNow' (b := b) (d := 0) hF m hw (by decide)
  have m1 := Fr_MT m f1
  have ed := Fr_dt f1
  have gk := G_pl mo m.1.2.2.2.1 (e := 0) (d := 0) hw (by decide)
  have tok := tabF_ok mo gk m.2 (al := nevN (dt h) (rd h 239)) hw
  have hlt : plSet (dt h) (rd h 239) w 0 b < 2 ^ (dt h 0 0).toNat := plSet_lt
  have hsub : plSet (dt h) (rd h 239) w 0 b &&& nevN (dt h) (rd h 239) = plSet (dt h) (rd h 239) w 0 b := plSet_sub
  have fx : Fix (dt h) (plG (rd h 239) w 0 0) w (tabF (dt h) (plG (rd h 239) w 0 0) w (rd h 242) (nevN (dt h) (rd h 239))) (nevN (dt h) (rd h 239)) := tabF_fix (D8 mo)
  have fp := m_fillsPlan (F := F) (h := h1) (w := w) (s := plSet (dt h) (rd h 239) w 0 b) (al := nevN (dt h) (rd h 239)) hF m1.1.1 (by rw [ed, g1]; exact gk) m1.2 (by rw [ed]; exact hw) (nev8 mo _) (by rw [ed, g1, t1]; exact fx) (by rw [ed]; exact hlt) hsub
  have e69 : rd h1 194 69 = rd h 239 (38 + w) + 0 := congrFun g1 2
  rw [ed, g1, t1, e69] at fp
  refine ⟨h1, _, e1, f1, fp, Fr_sr (Fr_f f1 (sh73 f1.2.1 _) (by decide)) (by decide), ?_, ?_, fun j j0 j1 => ?_⟩
  · rw [rd_sr_ne (by decide), rd_wr_ne (by decide)]; exact r1
  · rw [rd_sr_ne (by decide), rd_same]
  · rw [rd_sr]
    have eP : Pg h1 = plG (rd h 239) w 0 0 := g1
    have mo1 : Mo h1 := m1.1.1
    have c := plS_congr (h := h1) (w := w) (a := rd h 239 (38 + w) + 0) (s := plSet (dt h) (rd h 239) w 0 b) (al := nevN (dt h) (rd h 239)) (A := rd h1 243) (B := fun _ => 0) mo1 (by rw [ed, eP]; exact gk) tok (by rw [ed]; exact hw) (nev8 mo _) (by rw [ed, eP]; exact fx) (by rw [ed]; exact hlt) hsub
      (U := CT (dt h) (plG (rd h 239) w 0 0) w (nevN (dt h) (rd h 239))) (fun s p a1 a2 a3 a4 a5 => by rw [ed] at a2; exact tabF_CT (D8 mo) (nev8 mo _) a1 a2 a3 a4 a5) (pcN (plSet (dt h) (rd h 239) w 0 b) 8) (Nat.le_refl _)
    have i := plS_in (h := h1) (w := w) (a := rd h 239 (38 + w) + 0) (s := plSet (dt h) (rd h 239) w 0 b) (al := nevN (dt h) (rd h 239)) (A := rd h1 243) mo1 (by rw [ed, eP]; exact gk) tok (by rw [ed]; exact hw) (nev8 mo _) (by rw [ed, eP]; exact fx) (by rw [ed]; exact hlt) hsub (pcN (plSet (dt h) (rd h 239) w 0 b) 8) (Nat.le_refl _) j (by omega) j1
    have c3 := c.2.2 j (by omega) j1
    rw [ed, eP] at c3 i
    have ee : plA (dt h) (plG (rd h 239) w 0 0) w (tabF (dt h) (plG (rd h 239) w 0 0) w (rd h 242) (nevN (dt h) (rd h 239))) (rd h 239 (38 + w) + 0) (plSet (dt h) (rd h 239) w 0 b) (rd h1 243) j = prow (dt h) (rd h 239) w b j := c3
    rw [← ee]
    exact ⟨rfl, i⟩
def plaA (h : Hp) (w b i : Int) : Int := if ¬ ((0 ≤ w ∧ w < dt h 1 0) ∧ (0 ≤ b ∧ b ≤ 600) ∧ 0 ≤ i) then -1 else if i < ((pcN (plSet (dt h) (rd h 239) w 0 b) 8 : Nat) : Int) then prow (dt h) (rd h 239) w b i else -2
theorem m_planAt {F : Nat} {h : Hp} {w b i : Int} (hF : 1000 ≤ F) (m : MT h) : ∃ h', Mod_planAt F 194 w b i h = some (plaA h w b i, h') ∧ Fr h h' := by
  have mo := m.1.1
  have s := mo.1
  unfold Mod_planAt plaA
  rw [ivM s, m_isWorker mo, cl_some]
  by_cases hw : 0 ≤ w ∧ w < dt h 1 0
  · rw [if_pos hw, if_neg (by decide), m_isBy, cl_some]
    by_cases hb : 0 ≤ b ∧ b ≤ 600
    · rw [if_pos hb, if_neg (by decide)]
      by_cases hi : 0 ≤ i
      · obtain ⟨h1, h2, a1, a2, a3, a4, a5, a6, a7⟩ := m_planRow (b := b) hF m hw
        have hpc := pcN_le (plSet (dt h) (rd h 239) w 0 b) 8
        refine ⟨h2, ?_, a4⟩
        rw [if_neg (by omega), if_neg (not_not_intro ⟨hw, hb, hi⟩), ivM s, a1, cl_some, ivM a2.2.1, a3, cl_some, gM73 a4.2.1, a6]
        by_cases hl : i < ((pcN (plSet (dt h) (rd h 239) w 0 b) 8 : Nat) : Int)
        · rw [if_pos hl, if_pos hl, gM72 a4.2.1, aM72 a4.2.1 hi (by omega), (a7 i hi hl).1]
        · rw [if_neg hl, if_neg hl]
      · rw [if_pos (by omega), if_pos (fun q => hi q.2.2)]; exact ⟨h, rfl, Fr_refl m⟩
    · rw [if_neg hb, if_pos rfl, if_pos (fun q => hb q.2.1)]; exact ⟨h, rfl, Fr_refl m⟩
  · rw [if_neg hw, if_pos rfl, if_pos (fun q => hw q.1)]; exact ⟨h, rfl, Fr_refl m⟩
/-- the acts of a row of parts -/
def afR (D : Nat → Int → Int) (w : Int) (A R : Int → Int) : Nat → Int → Int
  | 0 => R
  | i + 1 => actS D (afR D w A R i) 0 w (A i)
theorem afR_ok {h : Hp} (m : Mo h) {w : Int} {A R : Int → Int} {n : Nat} (hw : 0 ≤ w ∧ w < dt h 1 0) (hr : Rok (dt h) R) (z : Zo 140 R) (hA : ∀ j : Int, 0 ≤ j → j < n → 0 ≤ A j ∧ A j < dt h 0 0) : ∀ i : Nat, i ≤ n → Rok (dt h) (afR (dt h) w A R i) ∧ Zo 140 (afR (dt h) w A R i)
  | 0, _ => ⟨hr, z⟩
  | i + 1, hi => by
    obtain ⟨a, b⟩ := afR_ok m hw hr z hA i (by omega)
    have := hA i (by omega) (by omega)
    exact ⟨actS_ok m a (Or.inr hw) this, Zo_actS m b (Or.inr hw) this⟩
def aftA (h : Hp) (w b t : Int) : Int := if ¬ ((0 ≤ w ∧ w < dt h 1 0) ∧ (0 ≤ b ∧ b ≤ 600) ∧ (0 ≤ t ∧ t < 600)) then -1 else phS (dt h) (afR (dt h) w (prow (dt h) (rd h 239) w b) (rd h 239) (pcN (plSet (dt h) (rd h 239) w 0 b) 8)) t (dt h 0 0).toNat * dt h 14 t
theorem m_after {F : Nat} {h : Hp} {w b t : Int} (hF : 1000 ≤ F) (m : MT h) : ∃ h', Mod_after F 194 w b t h = some (aftA h w b t, h') ∧ Fr h h' := by
  have mo := m.1.1
  have s := mo.1
  unfold Mod_after aftA
  rw [ivM s, m_isWorker mo, cl_some]
  by_cases hw : 0 ≤ w ∧ w < dt h 1 0
  · rw [if_pos hw, if_neg (by decide), m_isBy, cl_some]
    by_cases hb : 0 ≤ b ∧ b ≤ 600
    · rw [if_pos hb, if_neg (by decide), m_isMinute, cl_some]
      by_cases ht : 0 ≤ t ∧ t < 600
      · obtain ⟨h1, h2, a1, a2, a3, a4, a5, a6, a7⟩ := m_planRow (b := b) hF m hw
        have hpc := pcN_le (plSet (dt h) (rd h 239) w 0 b) 8
        rw [if_pos ht, if_neg (by decide), if_neg (not_not_intro ⟨hw, hb, ht⟩), ivM s, a1, cl_some, ivM a2.2.1, a3, cl_some]
        generalize pcN (plSet (dt h) (rd h 239) w 0 b) 8 = n at a6 a7 hpc ⊢
        have m2 := Fr_MT m a4
        have ed := Fr_dt a4
        have ok := afR_ok mo hw m.1.2.2.2.1 m.1.2.1 (A := prow (dt h) (rd h 239) w b) (n := n) (fun j j0 j1 => (a7 j j0 j1).2)
        have rw0 : ∀ R, Mo (sr h2 240 R) ∧ dt (sr h2 240 R) = dt h ∧ rd (sr h2 240 R) 240 = R ∧ rd (sr h2 240 R) 194 = rd h2 194 ∧ rd (sr h2 240 R) 243 = rd h2 243 := fun R => ⟨Mo_sr m2.1.1 (by decide) (by decide), by rw [dt_sr (by decide) (by decide) (by decide), ed], rd_sr _ _ _, rd_sr_ne (by decide), rd_sr_ne (by decide)⟩
        refine ⟨sr h2 240 (afR (dt h) w (prow (dt h) (rd h 239) w b) (rd h 239) n), ?_, Fr_240 a4 (ok n (Nat.le_refl n)).2⟩
        have key := loop0 (fun q i => Mod_after_L39 F q 194 w t (i : Nat) (sr h2 240 (afR (dt h) w (prow (dt h) (rd h 239) w b) (rd h 239) i))) n F (some (phS (dt h) (afR (dt h) w (prow (dt h) (rd h 239) w b) (rd h 239) n) t (dt h 0 0).toNat * dt h 14 t, sr h2 240 (afR (dt h) w (prow (dt h) (rd h 239) w b) (rd h 239) n))) (by omega) (fun q i hi => ?_) (fun q => ?_)
        · rw [show afR (dt h) w (prow (dt h) (rd h 239) w b) (rd h 239) 0 = rd h2 240 from a5.symm, sr_self] at key
          exact key
        · show Mod_after_L39s F (Mod_after_L39 F q) 194 w t _ _ = _
          have aj := a7 i (by omega) (by omega)
          obtain ⟨b1, b2, b3, b4, b5⟩ := rw0 (afR (dt h) w (prow (dt h) (rd h 239) w b) (rd h 239) i)
          have sn := m_sends (F := F) (w := w) (p := prow (dt h) (rd h 239) w b i) (h := sr h2 240 (afR (dt h) w (prow (dt h) (rd h 239) w b) (rd h 239) i)) hF b1 (by rw [b2, b3]; exact (ok i (by omega)).1) (by rw [b2]; exact hw) (by rw [b2]; exact aj.2)
          rw [b2, b3] at sn
          unfold Mod_after_L39s
          rw [gM73 b1.1, b4, a6, if_pos (by omega), gM72 b1.1, aM72 b1.1 (by omega) (by omega), b5, aj.1, ivM b1.1, sn, cl_some, w32_nat (by omega), sr_sr]
          congr 1
          show _ = sr h2 240 (actS (dt h) (afR (dt h) w (prow (dt h) (rd h 239) w b) (rd h 239) i) 0 w (prow (dt h) (rd h 239) w b i))
          unfold actS
          rw [if_pos rfl]
          split <;> rfl
        · show Mod_after_L39s F (Mod_after_L39 F q) 194 w t _ _ = _
          obtain ⟨b1, b2, b3, b4, b5⟩ := rw0 (afR (dt h) w (prow (dt h) (rd h 239) w b) (rd h 239) n)
          have ph := m_photoOf (F := F) (t := t) (h := sr h2 240 (afR (dt h) w (prow (dt h) (rd h 239) w b) (rd h 239) n)) hF b1 (by rw [b2, b3]; exact (ok n (Nat.le_refl n)).1) ht
          rw [b2, b3] at ph
          unfold Mod_after_L39s Mod_after_B67
          rw [gM73 b1.1, b4, a6, if_neg (by omega), ivM b1.1, ph, cl_some]
      · rw [if_neg ht, if_pos rfl, if_pos (fun q => ht q.2.2)]; exact ⟨h, rfl, Fr_refl m⟩
    · rw [if_neg hb, if_pos rfl, if_pos (fun q => hb q.2.1)]; exact ⟨h, rfl, Fr_refl m⟩
  · rw [if_neg hw, if_pos rfl, if_pos (fun q => hw q.1)]; exact ⟨h, rfl, Fr_refl m⟩
