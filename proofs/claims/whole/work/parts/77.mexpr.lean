/-! the reference's expression reads as the grammar says -/
def rkW : List Int → Nat
  | [] => 0
  | w :: _ => if w = 6 then 0 else if w = 8 ∨ w = 9 then 1 else 2
theorem rk_cons (w : Int) (W : List Int) : rkW (w :: W) = if w = 6 then 0 else if w = 8 ∨ w = 9 then 1 else 2 := rfl
def WOk : List Int → Prop
  | [] => True
  | w :: W => WOk W ∧ (w = 6 ∨ ((w = 8 ∨ w = 9) ∧ rkW W = 0) ∨ ((w = 10 ∨ w = 15) ∧ rkW W ≤ 1))
theorem rkW_2 (W : List Int) : rkW W ≤ 2 := by
  cases W with
  | nil => decide
  | cons w W => rw [rk_cons]; (repeat' split) <;> omega
theorem opn_6 (W : List Int) : opn (6 :: W) = opn W + 1 := by unfold opn; rw [List.count_cons_self]
theorem opn_n {w : Int} {W : List Int} (h : w ≠ 6) : opn (w :: W) = opn W := by unfold opn; rw [List.count_cons_of_ne h]
theorem WOk_len : ∀ W : List Int, WOk W → W.length ≤ 3 * opn W + rkW W
  | [], _ => Nat.zero_le _
  | w :: W, h => by
    have ih := WOk_len W h.1
    have r2 := rkW_2 W
    have hl : (w :: W).length = W.length + 1 := rfl
    rcases h.2 with e | ⟨e, r⟩ | ⟨e, r⟩
    · subst e
      rw [opn_6, hl]
      omega
    · rw [opn_n (by omega), hl]
      rw [rk_cons, if_neg (by omega), if_pos e]
      omega
    · rw [opn_n (by omega), hl]
      rw [rk_cons, if_neg (by omega), if_neg (by omega)]
      omega
theorem popW_ok (b : Bool) : ∀ W : List Int, WOk W → WOk (popW b W).1
  | [], _ => trivial
  | w :: W, h => by
    have ih := popW_ok b W h.1
    unfold popW
    split
    · exact h
    · exact ih
/-- what stands on top when nothing weaker may come out -/
theorem popW_id {b : Bool} {W : List Int} (h : rkW W = 0 ∨ (b = true ∧ rkW W ≤ 1)) : popW b W = (W, []) := by
  cases W with
  | nil => rfl
  | cons w W =>
    rw [rk_cons] at h
    unfold popW
    rw [if_pos]
    by_cases h6 : w = 6
    · exact Or.inl h6
    · rw [if_neg h6] at h
      by_cases h8 : w = 8 ∨ w = 9
      · rw [if_pos h8] at h
        rcases h with h | h
        · omega
        · exact Or.inr ⟨h.1, h8⟩
      · rw [if_neg h8] at h
        omega
theorem popW_top : ∀ W : List Int, 0 < opn W → ∃ U, (popW false W).1 = 6 :: U ∧ opn U + 1 = opn W
  | [], h => by simp [opn] at h
  | w :: W, h => by
    unfold popW
    by_cases h6 : w = 6
    · rw [if_pos (Or.inl h6)]
      subst h6
      exact ⟨W, rfl, (opn_6 W).symm⟩
    · rw [if_neg (by simp [h6])]
      rw [opn_n h6] at h ⊢
      exact popW_top W h
theorem popW_nil : ∀ W : List Int, opn W = 0 → (popW false W).1 = []
  | [], _ => rfl
  | w :: W, h => by
    by_cases h6 : w = 6
    · subst h6; rw [opn_6] at h; omega
    · rw [opn_n h6] at h
      unfold popW
      rw [if_neg (by simp [h6])]
      exact popW_nil W h
/-- what is fixed while an expression is read -/
def Cx (F : Nat) (hb : Hp) (K V P M : Nat → Int) : Prop := 1000 ≤ F ∧ Sh hb ∧ RTk hb K V P M ∧ 0 ≤ rd hb 194 44 ∧ (rd hb 194 19 = 0 ∨ rd hb 194 19 = 1)
theorem Fe_tk {hb h : Hp} {K V P M : Nat → Int} (f : Fe hb h) (tk : RTk hb K V P M) : RTk h K V P M := by
  unfold RTk
  rw [f.2.2.1 197 (by decide) (by decide), f.2.2.1 198 (by decide) (by decide), f.2.2.1 199 (by decide) (by decide), f.2.2.1 200 (by decide) (by decide)]
  exact tk
def Cn (hb : Hp) (t : Nat) (W : List Int) (o : Cds) : Prop := rd hb 194 44 + o.length + W.length ≤ 420 * rd hb 194 19 + t
def OKU (F : Nat) (hb : Hp) (Q : Int → Hp → Prop) (t : Nat) (W : List Int) (o : Cds) : Prop := ∀ n m h, 410 ≤ n + t → 410 ≤ m + t → ES hb h t W o → T (Mod_expression_L23 F (Mod_expression_L12 F n) m 194 0 h) Q
def OKP (F : Nat) (hb : Hp) (Q : Int → Hp → Prop) (t : Nat) (W : List Int) (o : Cds) : Prop := ∀ n m h, 410 ≤ n + t → 410 ≤ m + t → ES hb h t W o → T (Mod_expression_L96 F (Mod_expression_L12 F n) m 194 0 h) Q
def FqQ (hb : Hp) (Q : Int → Hp → Prop) (c p : Int) : Prop := ∀ h, EF hb h c p → Q 0 h
def DqQ (hb : Hp) (Q : Int → Hp → Prop) (t : Nat) (o : Cds) : Prop := ∀ h, ES hb h t [] o → Q 0 h
theorem m_isY {F : Nat} {h : Hp} {K V P M : Nat → Int} {t : Nat} (c d : Int) (s : Sh h) (tk : RTk h K V P M) (ht : t ≤ 400) (h11 : rd h 194 11 = t) (hd : KdOk d) (e : phi d = c) (h0 : rd h 194 13 = 0) (hk : K t = d) : Mod_is F 194 c h = some (1, h) := by rw [m_is s tk ht h11 hd e, if_pos ⟨h0, hk⟩]
theorem m_isN {F : Nat} {h : Hp} {K V P M : Nat → Int} {t : Nat} (c d : Int) (s : Sh h) (tk : RTk h K V P M) (ht : t ≤ 400) (h11 : rd h 194 11 = t) (hd : KdOk d) (e : phi d = c) (hn : ¬ (rd h 194 13 = 0 ∧ K t = d)) : Mod_is F 194 c h = some (0, h) := by rw [m_is s tk ht h11 hd e, if_neg hn]
theorem m_unit' {F : Nat} {h : Hp} {K V P M : Nat → Int} {t : Nat} (s : Sh h) (tk : RTk h K V P M) (ht : t ≤ 400) (h11 : rd h 194 11 = t) (h0 : 0 < rd h 194 13) : Mod_unit F 194 h = some (0, h) := by
  unfold Mod_unit Mod_unit_B88
  rw [ivM s, m_isN 2 19 s tk ht h11 (by unfold KdOk; decide) rfl (by omega), cl_some, if_pos rfl, gM13 s, if_neg (by omega), ivM s, m_fail' s h0, cl_some]
theorem bad_L23 {F : Nat} {h : Hp} {K V P M : Nat → Int} {t m : Nat} (R : Int → Int → Int → Hp → Option (Int × Hp)) (s : Sh h) (tk : RTk h K V P M) (ht : t ≤ 400) (h11 : rd h 194 11 = t) (h0 : 0 < rd h 194 13) : Mod_expression_L23 F R (m + 1) 194 0 h = some (0, h) := by
  show Mod_expression_L23s F R _ 194 0 h = _
  unfold Mod_expression_L23s Mod_expression_B84
  rw [ivM s, m_isN 6 40 s tk ht h11 (by unfold KdOk; decide) rfl (by omega), cl_some, if_pos rfl, ivM s, m_unit' s tk ht h11 h0, cl_some, gM13 s, if_pos h0]
theorem bad_L96 {F : Nat} {hb h : Hp} {K V P M : Nat → Int} {t m : Nat} {z : Int × Int} {W : List Int} {o : Cds} (R : Int → Int → Int → Hp → Option (Int × Hp)) (cx : Cx F hb K V P M) (ht : t ≤ 400) (hz : 0 < z.1) (e : EZ z hb h t W o) (hw : WOk W) (ho : opn W ≤ 7) (hc : rd hb 194 44 + o.length + W.length < 420 * (rd hb 194 19 + 1)) : T (Mod_expression_L96 F R (m + 1) 194 0 h) (fun r h' => r = 0 ∧ EF hb h' z.1 z.2) := by
  obtain ⟨hF, -, tk0, c0, hs⟩ := cx
  have s := e.1.2.1
  have tk := Fe_tk e.1 tk0
  have h11 := e.2.1
  have h0 : 0 < rd h 194 13 := by rw [e.2.2.1.1]; exact hz
  have hl := WOk_len W hw
  have r2 := rkW_2 W
  have is0 : ∀ c d, KdOk d → phi d = c → Mod_is F 194 c h = some (0, h) := fun c d hd hp => by
    rw [m_is s tk ht h11 hd hp, if_neg (by omega)]
  have fin : T (Mod_expression_B204 F 194 h) (fun r h' => r = 0 ∧ EF hb h' z.1 z.2) := by
    obtain ⟨h', q, r⟩ := m_comesOut_L (F := F) (t := t) (z := z) false c0 W F h o e (by omega) (by omega) hc (by omega)
    unfold Mod_expression_B204 Mod_comesOut
    rw [ivM s]
    have q' : Mod_comesOut_L0 F F 194 0 h = some (0, h') := q
    rw [q', cl_some]
    exact T_some ⟨rfl, r.1, r.2.2.1.1, r.2.2.1.2 (by omega)⟩
  show T (Mod_expression_L96s F R _ 194 0 h) _
  unfold Mod_expression_L96s Mod_expression_B145 Mod_expression_B186 Mod_expression_B191
  rw [ivM s, is0 7 41 (by unfold KdOk; decide) rfl, cl_some, if_pos rfl, ivM s, is0 8 43 (by unfold KdOk; decide) rfl, cl_some, if_pos rfl, ivM s, is0 9 45 (by unfold KdOk; decide) rfl, cl_some, if_pos rfl, ivM s, is0 10 42 (by unfold KdOk; decide) rfl, cl_some, if_pos rfl, ivM s, is0 15 47 (by unfold KdOk; decide) rfl, cl_some, if_pos rfl, if_pos rfl, gM12 s]
  split
  · rw [ivM s, m_fail' s h0, cl_some]; exact fin
  · exact fin
/-- a piece is read: what comes next -/
theorem OKU_of {F : Nat} {hb : Hp} {K V P M : Nat → Int} {Q : Int → Hp → Prop} {t : Nat} {W : List Int} {o : Cds} (cx : Cx F hb K V P M) (ht : t ≤ 400) (hw : WOk W) (ho : opn W ≤ 6) (hc : Cn hb t W o)
    (h40 : K t = 40 → (opn W = 6 → FqQ hb Q 2 (P t)) ∧ (opn W < 6 → (t < 400 → OKU F hb Q (t + 1) (6 :: W) o) ∧ (¬ t < 400 → FqQ hb Q 2 (P t))))
    (h19 : K t = 19 → (t < 400 → OKP F hb Q (t + 1) W (o ++ [(0, V t)])) ∧ (¬ t < 400 → FqQ hb Q 2 (P t)))
    (hv : 13 ≤ K t ∧ K t ≤ 17 → (t < 400 → OKP F hb Q (t + 1) W (o ++ [(1, K t - 13)])) ∧ (¬ t < 400 → FqQ hb Q 2 (P t)))
    (hx : ¬ K t = 40 → ¬ K t = 19 → ¬ (13 ≤ K t ∧ K t ≤ 17) → FqQ hb Q 1 (P t)) : OKU F hb Q t W o := by
  intro n m h hn hm e
  obtain ⟨hF, -, tk0, c0, hs⟩ := cx
  unfold Cn at hc
  have s := e.1.2.1
  have tk := Fe_tk e.1 tk0
  have h11 := e.2.1
  have h13 : rd h 194 13 = 0 := e.2.2.1.1
  have h12 : rd h 194 12 = opn W := e.2.2.2.1
  have h44 := e.2.2.2.2.1
  have h48 := e.2.2.2.2.2.1
  have hl := WOk_len W hw
  have r2 := rkW_2 W
  obtain ⟨m, rfl⟩ : ∃ j, m = j + 1 := ⟨m - 1, by omega⟩
  obtain ⟨kk, kp, kv, ko⟩ := tk.1 t ht
  show T (Mod_expression_L23s F (Mod_expression_L12 F n) (Mod_expression_L23 F (Mod_expression_L12 F n) m) 194 0 h) Q
  unfold Mod_expression_L23s
  -- after an emission: the cursor goes on
  have unit_end : ∀ k v, T (cl (Mod_goesOn F 194 (emH h k v)) (fun _ h' => some (0, h'))) (fun r h1 => r = 0 ∧ if t < 400 then ES hb h1 (t + 1) W (o ++ [(k, v)]) else EF hb h1 2 (P t)) := by
    intro k v
    have em := ES_emit (k := k) (v := v) e c0 (by omega)
    have se := em.1.2.1
    rw [m_goesOn (F := F) se (Fe_tk em.1 tk0) ht em.2.1 em.2.2.1.1, cl_some]
    refine T_some ⟨rfl, ?_⟩
    by_cases h4 : t < 400
    · rw [if_pos h4, if_pos h4]
      obtain ⟨f, e11, e13, e12, e44, e48, ew, ec⟩ := em
      exact ⟨Fe_f f (sh11 se _) (by decide), rd_same _ _ _ _, by rw [rd_i (by decide), rd_i (by decide)]; exact e13, by rw [rd_i (by decide)]; exact e12, by rw [rd_i (by decide)]; exact e44, by rw [rd_i (by decide)]; exact e48, by rw [rd_wr_ne (by decide)]; exact ew, by rw [rd_wr_ne (by decide), rd_wr_ne (by decide)]; exact ec⟩
    · rw [if_neg h4, if_neg h4]
      exact ⟨Fe_fl em.1 _ _, flH_13 _ _ _, flH_14 _ _ _⟩
  by_cases k40 : K t = 40
  · rw [ivM s, m_isY 6 40 s tk ht h11 (by unfold KdOk; decide) rfl h13 k40, cl_some, if_neg (by decide), gM12 s, h12]
    obtain ⟨a1, a2⟩ := h40 k40
    by_cases o6 : opn W = 6
    · rw [if_pos (by omega), ivM s, m_fail s tk ht h11 h13, cl_some]
      -- too deep
      have s1 := flH_sh s 2 (P t)
      have f1 := Fe_fl e.1 2 (P t)
      unfold Mod_expression_B46
      rw [gM12 s1, flH_f (by decide), h12, pM12 s1]
      have s2 := sh12 s1 (w32 ((opn W : Int) + 1))
      obtain ⟨u, hu, q⟩ := m_goesOn' (F := F) (h := wr (flH h 2 (P t)) 194 12 (w32 ((opn W : Int) + 1))) (t := t) s2 ht (by rw [rd_i (by decide), flH_f (by decide)]; exact h11) (by rw [rd_i (by decide), flH_13]; decide)
      have s3 := sh11 s2 (u : Int)
      have x48 : rd (wr (wr (flH h 2 (P t)) 194 12 (w32 ((opn W : Int) + 1))) 194 11 (u : Int)) 194 48 = W.length := by rw [rd_i (by decide), rd_i (by decide), flH_f (by decide)]; exact h48
      have s4 : Sh (wr (wr (wr (flH h 2 (P t)) 194 12 (w32 ((opn W : Int) + 1))) 194 11 (u : Int)) 226 W.length 6) := shA s3 (by decide) (by decide)
      rw [ivM s2, q, cl_some, gM47 s3, gM48 s3, x48, sM47 s3 (by omega) (by omega), gM48 s4, pM48 s4]
      have s5 := sh48 s4 (w32 (rd (wr (wr (wr (flH h 2 (P t)) 194 12 (w32 ((opn W : Int) + 1))) 194 11 (u : Int)) 226 W.length 6) 194 48 + 1))
      have f5 := Fe_f (Fe_226 (Fe_f (Fe_f f1 s2 (by decide)) s3 (by decide)) (i := W.length) (v := 6)) s5 (by decide)
      obtain ⟨m, rfl⟩ : ∃ j, m = j + 1 := ⟨m - 1, by omega⟩
      rw [bad_L23 (t := u) _ s5 (Fe_tk f5 tk0) hu (by rw [rd_i (by decide), rd_wr_ne (by decide), rd_same]) (by rw [rd_i (by decide), rd_wr_ne (by decide), rd_i (by decide), rd_i (by decide), flH_13]; decide)]
      refine T_some (a1 o6 _ ⟨f5, ?_, ?_⟩)
      · rw [rd_i (by decide), rd_wr_ne (by decide), rd_i (by decide), rd_i (by decide), flH_13]
      · rw [rd_i (by decide), rd_wr_ne (by decide), rd_i (by decide), rd_i (by decide), flH_14]
    · rw [if_neg (by omega)]
      obtain ⟨b1, b2⟩ := a2 (by omega)
      unfold Mod_expression_B46
      have s2 := sh12 s ((opn W + 1 : Nat) : Int)
      rw [gM12 s, h12, w32_nat (by omega), pM12 s, ivM s2, m_goesOn (t := t) s2 (Fe_tk (Fe_f e.1 s2 (by decide)) tk0) ht (by rw [rd_i (by decide)]; exact h11) (by rw [rd_i (by decide)]; exact h13), cl_some]
      by_cases h4 : t < 400
      · rw [if_pos h4]
        have s3 := sh11 s2 ((t + 1 : Nat) : Int)
        have x48 : rd (wr (wr h 194 12 ((opn W + 1 : Nat) : Int)) 194 11 ((t + 1 : Nat) : Int)) 194 48 = W.length := by rw [rd_i (by decide), rd_i (by decide)]; exact h48
        have s4 : Sh (wr (wr (wr h 194 12 ((opn W + 1 : Nat) : Int)) 194 11 ((t + 1 : Nat) : Int)) 226 W.length 6) := shA s3 (by decide) (by decide)
        have x48' : rd (wr (wr (wr h 194 12 ((opn W + 1 : Nat) : Int)) 194 11 ((t + 1 : Nat) : Int)) 226 W.length 6) 194 48 = W.length := by rw [rd_wr_ne (by decide)]; exact x48
        rw [gM47 s3, gM48 s3, x48, sM47 s3 (by omega) (by omega), gM48 s4, x48', w32_nat (by omega), pM48 s4]
        refine b1 h4 n m _ (by omega) (by omega) ?_
        obtain ⟨f, e11, e13, e12, e44, e48, ew, ec⟩ := e
        refine ⟨Fe_f (Fe_226 (Fe_f (Fe_f f s2 (by decide)) s3 (by decide))) (sh48 s4 _) (by decide), by rw [rd_i (by decide), rd_wr_ne (by decide), rd_same], ⟨by rw [rd_i (by decide), rd_wr_ne (by decide), rd_i (by decide), rd_i (by decide)]; exact h13, fun q => absurd rfl q⟩, by rw [rd_i (by decide), rd_wr_ne (by decide), rd_i (by decide), rd_same, opn_6], by rw [rd_i (by decide), rd_wr_ne (by decide), rd_i (by decide), rd_i (by decide)]; exact e44, by rw [rd_same]; rfl, ?_, by rw [rd_wr_ne (by decide), rd_wr_ne (by decide), rd_wr_ne (by decide), rd_wr_ne (by decide), rd_wr_ne (by decide), rd_wr_ne (by decide), rd_wr_ne (by decide), rd_wr_ne (by decide)]; exact ec⟩
        rw [rd_wr_ne (by decide), wr_sr, rd_sr, rd_wr_ne (by decide), rd_wr_ne (by decide)]
        exact ⟨up_s _ _ _, rpS_up W (by omega) ew⟩
      · rw [if_neg h4]
        have f2 := Fe_f e.1 s2 (by decide)
        have s3 := flH_sh s2 2 (P t)
        have f3 := Fe_fl f2 2 (P t)
        have x48 : rd (flH (wr h 194 12 ((opn W + 1 : Nat) : Int)) 2 (P t)) 194 48 = W.length := by rw [flH_f (by decide), rd_i (by decide)]; exact h48
        have s4 : Sh (wr (flH (wr h 194 12 ((opn W + 1 : Nat) : Int)) 2 (P t)) 226 W.length 6) := shA s3 (by decide) (by decide)
        rw [gM47 s3, gM48 s3, x48, sM47 s3 (by omega) (by omega), gM48 s4, pM48 s4]
        have s5 := sh48 s4 (w32 (rd (wr (flH (wr h 194 12 ((opn W + 1 : Nat) : Int)) 2 (P t)) 226 W.length 6) 194 48 + 1))
        have f5 := Fe_f (Fe_226 f3 (i := W.length) (v := 6)) s5 (by decide)
        obtain ⟨m, rfl⟩ : ∃ j, m = j + 1 := ⟨m - 1, by omega⟩
        rw [bad_L23 (t := t) _ s5 (Fe_tk f5 tk0) ht (by rw [rd_i (by decide), rd_wr_ne (by decide), flH_f (by decide), rd_i (by decide)]; exact h11) (by rw [rd_i (by decide), rd_wr_ne (by decide), flH_13]; decide)]
        refine T_some (b2 h4 _ ⟨f5, ?_, ?_⟩)
        · rw [rd_i (by decide), rd_wr_ne (by decide), flH_13]
        · rw [rd_i (by decide), rd_wr_ne (by decide), flH_14]
  · rw [ivM s, m_isN 6 40 s tk ht h11 (by unfold KdOk; decide) rfl (fun q => k40 q.2), cl_some, if_pos rfl]
    unfold Mod_expression_B84 Mod_unit
    rw [ivM s, ivM s]
    -- the piece's end: on, or out
    have go : ∀ k v, ((t < 400 → OKP F hb Q (t + 1) W (o ++ [(k, v)])) ∧ (¬ t < 400 → FqQ hb Q 2 (P t))) → T (cl (iv (emH h k v) 194 112 (Mod_goesOn F 194 (emH h k v)) fun _ h23 => some (0, h23)) fun _ h10 => gf h10 194 112 13 fun v11 => if 0 < v11 then some (0, h10) else Mod_expression_L96 F (Mod_expression_L12 F n) F 194 0 h10) Q := by
      intro k v ⟨g1, g2⟩
      have em := ES_emit (k := k) (v := v) e c0 (by omega)
      rw [ivM em.1.2.1]
      refine T_cl (unit_end k v) (fun r h1 hq => ?_)
      obtain ⟨-, hq⟩ := hq
      by_cases h4 : t < 400
      · rw [if_pos h4] at hq
        rw [gM13 hq.1.2.1, hq.2.2.1.1, if_neg (by decide)]
        exact g1 h4 n F h1 (by omega) (by omega) hq
      · rw [if_neg h4] at hq
        rw [gM13 hq.1.2.1, hq.2.1, if_pos (by decide)]
        exact T_some (g2 h4 h1 hq)
    have bad : FqQ hb Q 1 (P t) → T (cl (Mod_unit_B88 F 194 h) fun _ h10 => gf h10 194 112 13 fun v11 => if 0 < v11 then some (0, h10) else Mod_expression_L96 F (Mod_expression_L12 F n) F 194 0 h10) Q := by
      intro g
      unfold Mod_unit_B88
      rw [ivM s, m_fail s tk ht h11 h13, cl_some, cl_some, gM13 (flH_sh s _ _), flH_13, if_pos (by decide)]
      exact T_some (g _ ⟨Fe_fl e.1 _ _, flH_13 _ _ _, flH_14 _ _ _⟩)
    by_cases k19 : K t = 19
    · rw [m_isY 2 19 s tk ht h11 (by unfold KdOk; decide) rfl h13 k19, cl_some, if_neg (by decide), gM7 s, gM11 s, h11, aM7 s (by omega) (by omega), kv k19, ivM s, m_emit s (by omega), cl_some]
      exact go 0 (V t) (h19 k19)
    · rw [m_isN 2 19 s tk ht h11 (by unfold KdOk; decide) rfl (fun q => k19 q.2), cl_some, if_pos rfl, gM13 s, h13, if_pos rfl, gM5 s, gM11 s, h11, aM5 s (by omega) (by omega), kk]
      by_cases kvr : 13 ≤ K t ∧ K t ≤ 17
      · have ph : phi (K t) = 20 + K t := by unfold phi; rw [if_pos (by omega)]
        rw [ph, if_neg (by omega), gM5 s, gM11 s, h11, aM5 s (by omega) (by omega), kk, ph, if_neg (by omega), gM5 s, gM11 s, h11, aM5 s (by omega) (by omega), kk, ph, w32_id (x := 20 + K t - 33) (by omega) (by omega), show 20 + K t - 33 = K t - 13 by omega, ivM s, m_emit s (by omega), cl_some]
        exact go 1 (K t - 13) (hv kvr)
      · have hxx := hx k40 k19 kvr
        by_cases p33 : phi (K t) < 33
        · rw [if_pos p33]; exact bad hxx
        · rw [if_neg p33, gM5 s, gM11 s, h11, aM5 s (by omega) (by omega), kk]
          have : ¬ phi (K t) ≤ 37 := by
            intro q
            have := psi_phi ko
            unfold psi at this
            rw [if_pos (by omega)] at this
            omega
          rw [if_pos (by omega)]; exact bad hxx
