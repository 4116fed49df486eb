/-! the reference reads a law's sides: the cursor, codes, what waits -/
def phi (k : Int) : Int := if 0 ≤ k ∧ k ≤ 17 then 20 + k else if k = 18 then 1 else if k = 19 then 2 else if k = 20 then 0 else if k = 59 then 4 else if k = 61 then 5 else if k = 40 then 6 else if k = 41 then 7 else if k = 43 then 8 else if k = 45 then 9 else if k = 42 then 10 else if k = 47 then 15 else if k = 60 then 13 else 3
def KdOk (k : Int) : Prop := (0 ≤ k ∧ k ≤ 21) ∨ k = 59 ∨ k = 61 ∨ k = 40 ∨ k = 41 ∨ k = 43 ∨ k = 45 ∨ k = 42 ∨ k = 47 ∨ k = 60
def psi (c : Int) : Int := if 20 ≤ c then c - 20 else if c = 1 then 18 else if c = 2 then 19 else if c = 0 then 20 else if c = 4 then 59 else if c = 5 then 61 else if c = 6 then 40 else if c = 7 then 41 else if c = 8 then 43 else if c = 9 then 45 else if c = 10 then 42 else if c = 15 then 47 else if c = 13 then 60 else 21
theorem psi_phi {k : Int} (h : KdOk k) : psi (phi k) = k := by
  unfold KdOk at h
  rcases h with h | h | h | h | h | h | h | h | h | h
  · by_cases h1 : k ≤ 17
    · unfold phi
      rw [if_pos ⟨h.1, h1⟩]
      unfold psi
      rw [if_pos (by omega)]
      omega
    · obtain rfl | rfl | rfl | rfl : k = 18 ∨ k = 19 ∨ k = 20 ∨ k = 21 := by omega
      all_goals rfl
  all_goals (subst h; rfl)
theorem phi_iff {k c d : Int} (h : KdOk k) (hd : KdOk d) (e : phi d = c) : phi k = c ↔ k = d := by
  constructor
  · intro q
    rw [← e] at q
    rw [← psi_phi h, q, psi_phi hd]
  · intro q; rw [q, e]
/-- the TOKENS as the reference has them -/
def RTk (h : Hp) (K V P M : Nat → Int) : Prop := (∀ t : Nat, t ≤ 400 → rd h 197 t = phi (K t) ∧ rd h 198 t = P t ∧ (K t = 19 → rd h 199 t = V t) ∧ KdOk (K t)) ∧ ∀ t u : Nat, t ≤ 400 → u ≤ 400 → K t = 18 → K u = 18 → (rd h 200 t = rd h 200 u ↔ M t = M u)
/-- what an expression leaves: codes from c on (of side s), the cursor, what waits -/
def Fe (hb h : Hp) : Prop := (hsz h = hsz hb ∧ hus h = hus hb ∧ hkd h = hkd hb ∧ hln h = hln hb) ∧ Sh h ∧ (∀ a : Int, a ≠ 194 → ¬ (224 ≤ a ∧ a ≤ 226) → rd h a = rd hb a) ∧ (∀ a j : Int, 224 ≤ a → a ≤ 225 → (j < rd hb 194 44 ∨ 420 * (rd hb 194 19 + 1) ≤ j) → rd h a j = rd hb a j) ∧ ∀ k : Int, ¬ ((11 ≤ k ∧ k ≤ 14) ∨ k = 44 ∨ k = 48) → rd h 194 k = rd hb 194 k
theorem Fe_refl {h : Hp} (s : Sh h) : Fe h h := ⟨⟨rfl, rfl, rfl, rfl⟩, s, fun _ _ _ => rfl, fun _ _ _ _ _ => rfl, fun _ _ => rfl⟩
theorem Fe_f {hb h : Hp} (f : Fe hb h) {k v : Int} (hs : Sh (wr h 194 k v)) (hk : (11 ≤ k ∧ k ≤ 14) ∨ k = 44 ∨ k = 48) : Fe hb (wr h 194 k v) := by
  obtain ⟨a, -, c, d, e⟩ := f
  refine ⟨a, hs, fun b h1 h2 => by rw [rd_wr_ne h1]; exact c b h1 h2, fun b j h1 h2 h3 => by rw [rd_wr_ne (by omega)]; exact d b j h1 h2 h3, fun j hj => by rw [rd_i (by omega)]; exact e j hj⟩
theorem Fe_226 {hb h : Hp} (f : Fe hb h) {i v : Int} : Fe hb (wr h 226 i v) := by
  obtain ⟨a, b, c, d, e⟩ := f
  exact ⟨a, shA b (by decide) (by decide), fun x h1 h2 => by rw [rd_wr_ne (by omega)]; exact c x h1 h2, fun x j h1 h2 h3 => by rw [rd_wr_ne (by omega)]; exact d x j h1 h2 h3, fun j hj => by rw [rd_wr_ne (by decide)]; exact e j hj⟩
theorem Fe_cd {hb h : Hp} (f : Fe hb h) {a i v : Int} (ha : 224 ≤ a ∧ a ≤ 225) (hi : rd hb 194 44 ≤ i ∧ i < 420 * (rd hb 194 19 + 1)) : Fe hb (wr h a i v) := by
  obtain ⟨a1, b, c, d, e⟩ := f
  refine ⟨a1, shA b (by omega) (by omega), fun x h1 h2 => by rw [rd_wr_ne (by omega)]; exact c x h1 h2, fun x j h1 h2 h3 => ?_, fun j hj => by rw [rd_wr_ne (by omega)]; exact e j hj⟩
  rw [rd_wr, if_neg (by omega)]; exact d x j h1 h2 h3
def opn (W : List Int) : Nat := W.count 6
/-- an expression is being read: from hb on, at TOKEN t, W waits (the last one first), o is told -/
def EZ (z : Int × Int) (hb h : Hp) (t : Nat) (W : List Int) (o : Cds) : Prop := Fe hb h ∧ rd h 194 11 = t ∧ (rd h 194 13 = z.1 ∧ (z.1 ≠ 0 → rd h 194 14 = z.2)) ∧ rd h 194 12 = opn W ∧ rd h 194 44 = rd hb 194 44 + o.length ∧ rd h 194 48 = W.length ∧ rpS (rd h 226) W ∧ cdA (rd h 224) (rd h 225) (rd hb 194 44) o
abbrev ES : Hp → Hp → Nat → List Int → Cds → Prop := EZ (0, 0)
/-- it ended in a FAULT -/
def EF (hb h : Hp) (c p : Int) : Prop := Fe hb h ∧ rd h 194 13 = c ∧ rd h 194 14 = p
theorem cdA_app {C I : Int → Int} : ∀ (a b : Cds) (c : Int), cdA C I c (a ++ b) ↔ cdA C I c a ∧ cdA C I (c + a.length) b
  | [], b, c => by simp [cdA]
  | q :: a, b, c => by
    have ih := cdA_app (C := C) (I := I) a b (c + 1)
    have e : c + ((q :: a).length : Int) = c + 1 + (a.length : Int) := by simp only [List.length_cons]; omega
    rw [e]
    show (C c = q.1 ∧ I c = q.2 ∧ cdA C I (c + 1) (a ++ b)) ↔ (C c = q.1 ∧ I c = q.2 ∧ cdA C I (c + 1) a) ∧ _
    rw [ih, and_assoc, and_assoc]
theorem cdA_up {C I : Int → Int} {i x y : Int} : ∀ (a : Cds) (c : Int), c + a.length ≤ i → cdA C I c a → cdA (up C i x) (up I i y) c a
  | [], _, _, _ => trivial
  | q :: a, c, h, ⟨h1, h2, h3⟩ => by
    have e : ((q :: a).length : Int) = (a.length : Int) + 1 := by simp
    refine ⟨?_, ?_, cdA_up a (c + 1) (by omega) h3⟩
    · rw [up_n (by omega)]; exact h1
    · rw [up_n (by omega)]; exact h2
theorem m_is {F : Nat} {h : Hp} {K V P M : Nat → Int} {t : Nat} {c d : Int} (s : Sh h) (tk : RTk h K V P M) (ht : t ≤ 400) (h11 : rd h 194 11 = t) (hd : KdOk d) (e : phi d = c) : Mod_is F 194 c h = some (if rd h 194 13 = 0 ∧ K t = d then 1 else 0, h) := by
  obtain ⟨k1, k2, k3, k4⟩ := tk.1 t ht
  unfold Mod_is
  rw [gM13 s]
  by_cases h0 : rd h 194 13 = 0
  · rw [if_pos h0, gM5 s, gM11 s, h11, aM5 s (by omega) (by omega), k1]
    by_cases hk : K t = d
    · rw [if_pos ((phi_iff k4 hd e).mpr hk), if_pos ⟨h0, hk⟩]; rfl
    · rw [if_neg (fun q => hk ((phi_iff k4 hd e).mp q)), if_neg (fun q => hk q.2)]; rfl
  · rw [if_neg h0, if_neg (fun q => h0 q.1)]; rfl
def flH (h : Hp) (c p : Int) : Hp := wr (wr h 194 13 c) 194 14 p
theorem flH_sh {h : Hp} (s : Sh h) (c p : Int) : Sh (flH h c p) := sh14 (sh13 s c) p
theorem flH_13 (h : Hp) (c p : Int) : rd (flH h c p) 194 13 = c := by unfold flH; rw [rd_i (by decide), rd_same]
theorem flH_14 (h : Hp) (c p : Int) : rd (flH h c p) 194 14 = p := by unfold flH; rw [rd_same]
theorem flH_f {h : Hp} {c p k : Int} (hk : k ≠ 13 ∧ k ≠ 14) : rd (flH h c p) 194 k = rd h 194 k := by unfold flH; rw [rd_i hk.2, rd_i hk.1]
theorem flH_ne {h : Hp} {c p a : Int} (ha : a ≠ 194) : rd (flH h c p) a = rd h a := by unfold flH; rw [rd_wr_ne ha, rd_wr_ne ha]
theorem Fe_fl {hb h : Hp} (f : Fe hb h) (c p : Int) : Fe hb (flH h c p) := Fe_f (Fe_f f (sh13 f.2.1 c) (by decide)) (flH_sh f.2.1 c p) (by decide)
theorem m_fail {F : Nat} {h : Hp} {K V P M : Nat → Int} {t : Nat} {c : Int} (s : Sh h) (tk : RTk h K V P M) (ht : t ≤ 400) (h11 : rd h 194 11 = t) (h0 : rd h 194 13 = 0) : Mod_fail F 194 c h = some (0, flH h c (P t)) := by
  have k2 := (tk.1 t ht).2.1
  unfold Mod_fail
  have s1 := sh13 s c
  rw [gM13 s, h0, if_neg (by decide), pM13 s, gM6 s1, gM11 s1, rd_i (by decide), h11, aM6 s1 (by omega) (by omega), rd_wr_ne (by decide), k2, pM14 s1]
  rfl
theorem m_fail' {F : Nat} {h : Hp} {c : Int} (s : Sh h) (h0 : 0 < rd h 194 13) : Mod_fail F 194 c h = some (0, h) := by
  unfold Mod_fail
  rw [gM13 s, if_pos h0]
theorem m_goesOn {F : Nat} {h : Hp} {K V P M : Nat → Int} {t : Nat} (s : Sh h) (tk : RTk h K V P M) (ht : t ≤ 400) (h11 : rd h 194 11 = t) (h0 : rd h 194 13 = 0) : Mod_goesOn F 194 h = some (0, if t < 400 then wr h 194 11 ((t + 1 : Nat) : Int) else flH h 2 (P t)) := by
  unfold Mod_goesOn
  rw [gM11 s, h11]
  by_cases h4 : t < 400
  · rw [if_neg (by omega), if_pos h4, gM11 s, h11, w32_nat (by omega), pM11 s]
  · rw [if_pos (by omega), if_neg h4, ivM s, m_fail s tk ht h11 h0, cl_some]
/-- goes on though there is a FAULT already -/
theorem m_goesOn' {F : Nat} {h : Hp} {t : Nat} (s : Sh h) (ht : t ≤ 400) (h11 : rd h 194 11 = t) (h0 : 0 < rd h 194 13) : ∃ u : Nat, u ≤ 400 ∧ Mod_goesOn F 194 h = some (0, wr h 194 11 (u : Int)) := by
  unfold Mod_goesOn
  rw [gM11 s, h11]
  by_cases h4 : t < 400
  · refine ⟨t + 1, by omega, ?_⟩
    rw [if_neg (by omega), gM11 s, h11, w32_nat (by omega), pM11 s]
  · refine ⟨t, ht, ?_⟩
    rw [if_pos (by omega), ivM s, m_fail' s h0, cl_some]
    congr 2
    refine hp_ext rfl rfl rfl rfl (fun b j => ?_)
    rw [rd_wr]
    split
    · rename_i q; rw [q.1, q.2, h11]
    · rfl
def emH (h : Hp) (k v : Int) : Hp := wr (wr (wr h 224 (rd h 194 44) k) 225 (rd h 194 44) v) 194 44 (rd h 194 44 + 1)
theorem m_emit {F : Nat} {h : Hp} {k v : Int} (s : Sh h) (hc : 0 ≤ rd h 194 44 ∧ rd h 194 44 < 840) : Mod_emit F 194 k v h = some (0, emH h k v) := by
  unfold Mod_emit emH
  have s1 : Sh (wr h 224 (rd h 194 44) k) := shA s (by decide) (by decide)
  have s2 : Sh (wr (wr h 224 (rd h 194 44) k) 225 (rd h 194 44) v) := shA s1 (by decide) (by decide)
  have e1 : rd (wr h 224 (rd h 194 44) k) 194 44 = rd h 194 44 := rd_a (by decide)
  have e2 : rd (wr (wr h 224 (rd h 194 44) k) 225 (rd h 194 44) v) 194 44 = rd h 194 44 := by rw [rd_a (by decide)]; exact e1
  rw [gM45 s, gM44 s, sM45 s hc.1 hc.2, gM46 s1, gM44 s1, e1, sM46 s1 hc.1 hc.2, gM44 s2, e2, w32_id (by omega) (by omega), pM44 s2]
theorem ES_emit {z : Int × Int} {hb h : Hp} {t : Nat} {W : List Int} {o : Cds} {k v : Int} (e : EZ z hb h t W o) (h0 : 0 ≤ rd hb 194 44) (hc : rd hb 194 44 + o.length < 420 * (rd hb 194 19 + 1)) : EZ z hb (emH h k v) t W (o ++ [(k, v)]) := by
  obtain ⟨f, e11, e13, e12, e44, e48, ew, ec⟩ := e
  have g : ∀ j, j ≠ 44 → rd (emH h k v) 194 j = rd h 194 j := fun j hj => by unfold emH; rw [rd_i hj, rd_wr_ne (by decide), rd_wr_ne (by decide)]
  have g4 : rd (emH h k v) 224 = up (rd h 224) (rd h 194 44) k := by unfold emH; rw [rd_wr_ne (by decide), rd_wr_ne (by decide), wr_sr, rd_sr]
  have g5 : rd (emH h k v) 225 = up (rd h 225) (rd h 194 44) v := by unfold emH; rw [rd_wr_ne (by decide), wr_sr, rd_sr, rd_wr_ne (by decide)]
  have ff : Fe hb (emH h k v) := by
    have f1 : Fe hb (wr h 224 (rd h 194 44) k) := Fe_cd f (by decide) (by omega)
    have f2 : Fe hb (wr (wr h 224 (rd h 194 44) k) 225 (rd h 194 44) v) := Fe_cd f1 (by decide) (by omega)
    exact Fe_f f2 (sh44 f2.2.1 _) (by decide)
  refine ⟨ff, by rw [g _ (by decide)]; exact e11, by rw [g _ (by decide), g _ (by decide)]; exact e13, by rw [g _ (by decide)]; exact e12, ?_, by rw [g _ (by decide)]; exact e48, ?_, ?_⟩
  · unfold emH
    rw [rd_same, e44, List.length_append, List.length_singleton]; omega
  · have : rd (emH h k v) 226 = rd h 226 := by unfold emH; rw [rd_wr_ne (by decide), rd_wr_ne (by decide), rd_wr_ne (by decide)]
    rw [this]; exact ew
  · rw [g4, g5, cdA_app]
    refine ⟨cdA_up o _ (by omega) ec, ?_, ?_, trivial⟩
    · rw [← e44, up_s]
    · rw [← e44, up_s]
/-- ops come out till an open ( or, if strong, a weaker one -/
def opr (w : Int) : Int := if w = 8 then 2 else if w = 9 then 3 else if w = 10 then 4 else 5
def popW (st : Bool) : List Int → List Int × Cds
  | [] => ([], [])
  | w :: W => if w = 6 ∨ (st = true ∧ (w = 8 ∨ w = 9)) then (w :: W, []) else ((popW st W).1, (opr w, 0) :: (popW st W).2)
theorem popW_len (st : Bool) : ∀ W : List Int, (popW st W).1.length + (popW st W).2.length = W.length
  | [] => rfl
  | w :: W => by
    have := popW_len st W
    unfold popW
    split
    · rfl
    · simp only [List.length_cons]; omega
theorem popW_opn (st : Bool) : ∀ W : List Int, opn (popW st W).1 = opn W
  | [] => rfl
  | w :: W => by
    have := popW_opn st W
    unfold popW
    split
    · rfl
    · rename_i h
      show opn (popW st W).1 = opn (w :: W)
      rw [this]
      unfold opn
      rw [List.count_cons_of_ne (fun e => h (Or.inl e))]
theorem m_comesOut_L {F : Nat} {z : Int × Int} {hb : Hp} {t : Nat} (b : Bool) (h0 : 0 ≤ rd hb 194 44) : ∀ (W : List Int) (n : Nat) (h : Hp) (o : Cds), EZ z hb h t W o → W.length < n → W.length ≤ 60 → rd hb 194 44 + o.length + W.length < 420 * (rd hb 194 19 + 1) → rd hb 194 19 ≤ 1 → ∃ h', Mod_comesOut_L0 F n 194 (if b then 1 else 0) h = some (0, h') ∧ EZ z hb h' t (popW b W).1 (o ++ (popW b W).2) := by
  intro W
  induction W with
  | nil =>
    intro n h o e hn _ _ _
    obtain ⟨n, rfl⟩ : ∃ j, n = j + 1 := ⟨n - 1, by omega⟩
    refine ⟨h, ?_, by show EZ z hb h t [] (o ++ []); rw [List.append_nil]; exact e⟩
    show Mod_comesOut_L0s F _ 194 _ h = _
    unfold Mod_comesOut_L0s
    rw [gM48 e.1.2.1, e.2.2.2.2.2.1, if_neg (by simp)]
  | cons w W ih =>
    intro n h o e hn h60 hc hs1
    obtain ⟨n, rfl⟩ : ∃ j, n = j + 1 := ⟨n - 1, by omega⟩
    have s := e.1.2.1
    have hl : (w :: W).length = W.length + 1 := rfl
    have hl' : ((w :: W).length : Int) = (W.length : Int) + 1 := by rw [hl]; omega
    have e48 : rd h 194 48 = (W.length : Int) + 1 := by rw [e.2.2.2.2.2.1]; exact hl'
    have ew := e.2.2.2.2.2.2.1.1
    show ∃ h', Mod_comesOut_L0s F (Mod_comesOut_L0 F n) 194 _ h = _ ∧ _
    unfold Mod_comesOut_L0s
    rw [gM48 s, e48, if_pos (by omega), gM47 s, gM48 s, e48, w32_id (x := (W.length : Int) + 1 - 1) (by omega) (by omega), show (W.length : Int) + 1 - 1 = W.length by omega, aM47 s (by omega) (by omega), ew]
    have stay : (w = 6 ∨ (b = true ∧ (w = 8 ∨ w = 9))) → ∃ h', some ((0 : Int), h) = some (0, h') ∧ EZ z hb h' t (popW b (w :: W)).1 (o ++ (popW b (w :: W)).2) := by
      intro c
      refine ⟨h, rfl, ?_⟩
      unfold popW
      rw [if_pos c]
      show EZ z hb h t (w :: W) (o ++ [])
      rw [List.append_nil]; exact e
    have go : ¬ (w = 6 ∨ (b = true ∧ (w = 8 ∨ w = 9))) → ∃ h', Mod_comesOut_B42 F (Mod_comesOut_L0 F n) 194 (if b then 1 else 0) w h = some (0, h') ∧ EZ z hb h' t (popW b (w :: W)).1 (o ++ (popW b (w :: W)).2) := by
      intro c
      -- what waits is taken off
      have s1 := sh48 s (W.length : Int)
      have e1 : EZ z hb (wr h 194 48 (W.length : Int)) t W o := by
        obtain ⟨f, e11, e13, e12, e44, e48, ew, ec⟩ := e
        refine ⟨Fe_f f s1 (by decide), by rw [rd_i (by decide)]; exact e11, by rw [rd_i (by decide), rd_i (by decide)]; exact e13, ?_, by rw [rd_i (by decide)]; exact e44, rd_same _ _ _ _, by rw [rd_wr_ne (by decide)]; exact ew.2, by rw [rd_wr_ne (by decide), rd_wr_ne (by decide)]; exact ec⟩
        rw [rd_i (by decide), e12]
        unfold opn
        rw [List.count_cons_of_ne (fun e => c (Or.inl e))]
      have em := ES_emit (k := opr w) (v := 0) e1 h0 (by omega)
      have e44 := e1.2.2.2.2.1
      have me := m_emit (F := F) (h := wr h 194 48 (W.length : Int)) (k := opr w) (v := 0) s1 (by omega)
      obtain ⟨h', q, r⟩ := ih n _ _ em (by omega) (by omega) (by rw [List.length_append, List.length_singleton]; omega) hs1
      refine ⟨h', ?_, ?_⟩
      · unfold Mod_comesOut_B42 Mod_comesOut_B84
        rw [gM48 s, e48, w32_id (x := (W.length : Int) + 1 - 1) (by omega) (by omega), show (W.length : Int) + 1 - 1 = W.length by omega, pM48 s]
        unfold opr at me q
        by_cases w8 : w = 8
        · rw [if_pos w8] at me q ⊢
          rw [ivM s1, me, cl_some]; exact q
        · rw [if_neg w8] at me q ⊢
          by_cases w9 : w = 9
          · rw [if_pos w9] at me q ⊢
            rw [ivM s1, me, cl_some]; exact q
          · rw [if_neg w9] at me q ⊢
            by_cases w10 : w = 10
            · rw [if_pos w10] at me q ⊢
              rw [ivM s1, me, cl_some]; exact q
            · rw [if_neg w10] at me q ⊢
              rw [ivM s1, me, cl_some]; exact q
      · unfold popW
        rw [if_neg c]
        rw [List.append_assoc] at r
        exact r
    by_cases w6 : w = 6
    · rw [if_pos w6]; exact stay (Or.inl w6)
    · rw [if_neg w6]
      cases b with
      | false =>
        have := go (by simp [w6])
        exact this
      | true =>
        have g2 := go
        simp only [if_true] at g2 ⊢
        rw [if_neg (by decide)]
        by_cases w8 : w = 8
        · rw [if_pos w8]; exact stay (Or.inr ⟨rfl, Or.inl w8⟩)
        · rw [if_neg w8]
          by_cases w9 : w = 9
          · rw [if_pos w9]; exact stay (Or.inr ⟨rfl, Or.inr w9⟩)
          · rw [if_neg w9]
            exact g2 (by simp [w6, w8, w9])
