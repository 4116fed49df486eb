/-! the reference's laws -/
def pil (h : Hp) (P : Int → Int) : Hp := sr h 228 P
theorem pil_sh {h : Hp} (s : Sh h) (P : Int → Int) : Sh (pil h P) := Sh_sr s (by decide) (by decide)
theorem pil_ne {h : Hp} {P : Int → Int} {a : Int} (ha : a ≠ 228) : rd (pil h P) a = rd h a := rd_sr_ne ha
theorem pil_at (h : Hp) (P : Int → Int) : rd (pil h P) 228 = P := rd_sr _ _ _
theorem pil_wr (h : Hp) (P : Int → Int) (i x : Int) : wr (pil h P) 228 i x = pil h (up P i x) := wr_up _ _ _ _ _
theorem m_termOf_B {F : Nat} {h : Hp} {b c k x y : Int} {n : Nat} {P : Int → Int} (R5 : Int → Int → Int → Int → Hp → Option (Int × Hp)) (s : Sh h) (hn : n < 400) (hc : 0 ≤ c ∧ c < 840) (hk : 2 ≤ k ∧ k ≤ 5) (hy : ¬ (k = 5 ∧ y = 0)) :
    Mod_termOf_B104 F R5 194 b ((n : Int) + 1) c k x y (pil h P) = R5 194 b ((n : Int) + 1) (c + 1) (pil h (up P n (opV k x y))) := by
  have sp := pil_sh s P
  unfold Mod_termOf_B104 opV
  rw [gM50 sp, w32_id (x := (n : Int) + 1 - 1) (by omega) (by omega), show (n : Int) + 1 - 1 = n by omega, w32_id (x := c + 1) (by omega) (by omega)]
  by_cases h2 : k = 2
  · rw [if_pos h2, if_pos h2, sM50 sp (by omega) (by omega), pil_wr]
  · rw [if_neg h2, if_neg h2]
    by_cases h3 : k = 3
    · rw [if_pos h3, if_pos h3, sM50 sp (by omega) (by omega), pil_wr]
    · rw [if_neg h3, if_neg h3]
      by_cases h4 : k = 4
      · rw [if_pos h4, if_pos h4, sM50 sp (by omega) (by omega), pil_wr]
      · rw [if_neg h4, if_neg h4, dv_ok (by omega), sM50 sp (by omega) (by omega), pil_wr]
theorem m_termOf_L {F : Nat} {h : Hp} {b : Int} (s : Sh h) (hb : b ≤ 840) : ∀ (cs : List (Int × Int)) (n : Nat) (c : Int) (st : List Int) (P : Int → Int), 0 ≤ c → c + cs.length = b → cs.length < n → cdA (rd h 224) (rd h 225) c cs → okH cs st.length 400 → st.length ≤ 400 → rpS P st →
    ∃ P', Mod_termOf_L5 F n 194 b st.length c (pil h P) = (match exS (rd h 227) cs st with | some _ => some (P' 0, pil h P') | none => some (0, wr (pil h P') 194 51 1)) ∧ ∀ st', exS (rd h 227) cs st = some st' → rpS P' st' := by
  intro cs
  induction cs with
  | nil =>
    intro n c st P hc hcb hn _ _ _ hr
    obtain ⟨n, rfl⟩ : ∃ j, n = j + 1 := ⟨n - 1, by omega⟩
    refine ⟨P, ?_, fun st' e => ?_⟩
    · show Mod_termOf_L5s F _ 194 b _ c _ = _
      have sp := pil_sh s P
      simp only [List.length_nil, Int.natCast_zero, Int.add_zero, Int.cast_ofNat_Int] at hcb
      unfold Mod_termOf_L5s
      rw [if_neg (by omega), gM50 sp, aM50 sp (by decide) (by decide), pil_at]
      rfl
    · cases e; exact hr
  | cons q cs ih =>
    intro n c st P hc hcb hn hcd ho hst hr
    have hlen : ((q :: cs).length : Int) = (cs.length : Int) + 1 := by simp
    have hlen' : (q :: cs).length = cs.length + 1 := by simp
    obtain ⟨n, rfl⟩ : ∃ j, n = j + 1 := ⟨n - 1, by omega⟩
    obtain ⟨c1, c2, c3⟩ := hcd
    have sp := pil_sh s P
    have e0 : Mod_termOf_L5 F (n + 1) 194 b st.length c (pil h P) = Mod_termOf_L5s F (Mod_termOf_L5 F n) 194 b st.length c (pil h P) := rfl
    unfold Mod_termOf_L5s at e0
    rw [if_pos (by omega), gM45 sp, aM45 sp hc (by omega), pil_ne (by decide), c1] at e0
    rw [e0]
    unfold okH at ho
    unfold exS
    by_cases k2 : q.1 < 2
    · rw [if_pos k2] at ho ⊢
      rw [if_pos k2, gM50 sp]
      have hl : ((x : Int) → (((x :: st).length : Nat) : Int) = (st.length : Int) + 1) := fun x => by simp
      by_cases k0 : q.1 = 0
      · rw [if_pos k0, if_pos k0, gM46 sp, aM46 sp hc (by omega), pil_ne (by decide), c2, sM50 sp (by omega) (by omega), pil_wr, w32_id (x := (st.length : Int) + 1) (by omega) (by omega), w32_id (x := c + 1) (by omega) (by omega), ← hl q.2]
        exact ih n (c + 1) (q.2 :: st) _ (by omega) (by omega) (by omega) c3 ho.2.2 (by show st.length + 1 ≤ 400; omega) ⟨up_s _ _ _, rpS_up st (by omega) hr⟩
      · have hv : 0 ≤ q.2 ∧ q.2 < 5 := by omega
        rw [if_neg k0, if_neg k0, gM49 sp, gM46 sp, aM46 sp hc (by omega), pil_ne (a := 225) (by decide), c2, aM49 sp hv.1 hv.2, pil_ne (by decide), sM50 sp (by omega) (by omega), pil_wr, w32_id (x := (st.length : Int) + 1) (by omega) (by omega), w32_id (x := c + 1) (by omega) (by omega), ← hl (rd h 227 q.2)]
        exact ih n (c + 1) (rd h 227 q.2 :: st) _ (by omega) (by omega) (by omega) c3 ho.2.2 (by show st.length + 1 ≤ 400; omega) ⟨up_s _ _ _, rpS_up st (by omega) hr⟩
    · rw [if_neg k2] at ho ⊢
      rw [if_neg k2]
      rcases st with _ | ⟨y, _ | ⟨x, st⟩⟩
      · exact absurd ho.1 (by simp)
      · exact absurd ho.1 (by simp)
      · obtain ⟨r1, r2, r3⟩ := hr
        have hl1 : ((y :: x :: st).length : Int) = (st.length : Int) + 2 := by simp; omega
        have hl2 : ((x :: st).length : Int) = (st.length : Int) + 1 := by simp
        have hl3 : (y :: x :: st).length = st.length + 2 := by simp
        have hl4 : ((opV q.1 x y :: st).length : Int) = (st.length : Int) + 1 := by simp
        have ho2 : okH cs (opV q.1 x y :: st).length 400 := ho.2.2
        rw [hl2] at r1
        have B := m_termOf_B (F := F) (h := h) (b := b) (c := c) (k := q.1) (x := x) (y := y) (n := st.length) (P := P) (Mod_termOf_L5 F n) s (by omega) (by omega) (by omega)
        have nx := ih n (c + 1) (opV q.1 x y :: st) (up P st.length (opV q.1 x y)) (by omega) (by omega) (by omega) c3 ho2 (by show st.length + 1 ≤ 400; omega) ⟨up_s _ _ _, rpS_up st (by omega) r3⟩
        rw [hl4] at nx
        rw [hl1, gM50 sp, w32_id (x := (st.length : Int) + 2 + -1) (by omega) (by omega), show (st.length : Int) + 2 + -1 = (st.length : Int) + 1 by omega, w32_id (x := (st.length : Int) + 1 - 1) (by omega) (by omega), show (st.length : Int) + 1 - 1 = (st.length : Int) by omega, aM50 sp (by omega) (by omega), gM50 sp, aM50 sp (by omega) (by omega), pil_at, r1, r2]
        by_cases hy : q.1 = 5 ∧ y = 0
        · rw [if_pos hy.1, if_pos hy.2, pM51 sp (Or.inr rfl)]
          simp only
          rw [if_pos hy]
          exact ⟨P, rfl, fun _ e => by cases e⟩
        · have eq : (if q.1 = 5 then if y = 0 then pz (pil h P) 194 112 51 1 fun h16 => some (0, h16) else Mod_termOf_B104 F (Mod_termOf_L5 F n) 194 b ((st.length : Int) + 1) c q.1 x y (pil h P) else Mod_termOf_B104 F (Mod_termOf_L5 F n) 194 b ((st.length : Int) + 1) c q.1 x y (pil h P)) = Mod_termOf_B104 F (Mod_termOf_L5 F n) 194 b ((st.length : Int) + 1) c q.1 x y (pil h P) := by
            split
            · rw [if_neg (by omega)]
            · rfl
          rw [eq, B hy]
          simp only
          rw [if_neg hy]
          exact nx
/-- a run of codes between two places -/
def seg (h : Hp) (a b : Int) (cs : List (Int × Int)) : Prop := 0 ≤ a ∧ b = a + cs.length ∧ b ≤ 840 ∧ cdA (rd h 224) (rd h 225) a cs ∧ Ex 15 cs
/-- the heap after laws were looked at: pile and flag alone -/
def evH (h : Hp) (P : Int → Int) (z : Int) : Hp := wr (pil h P) 194 51 z
theorem evH_sh {h : Hp} (s : Sh h) (P : Int → Int) (z : Int) : Sh (evH h P z) := sh51 (pil_sh s P) z
theorem evH_ne {h : Hp} {P : Int → Int} {z a : Int} (h1 : a ≠ 228) (h2 : a ≠ 194) : rd (evH h P z) a = rd h a := by
  show rd (wr (pil h P) 194 51 z) a = _
  rw [rd_wr_ne h2, pil_ne h1]
theorem evH_f {h : Hp} {P : Int → Int} {z k : Int} (hk : k ≠ 51) : rd (evH h P z) 194 k = rd h 194 k := by
  show rd (wr (pil h P) 194 51 z) 194 k = _
  rw [rd_i hk, pil_ne (by decide)]
theorem evH_51 (h : Hp) (P : Int → Int) (z : Int) : rd (evH h P z) 194 51 = z := rd_same _ _ _ _
theorem evH_self (h : Hp) : evH h (rd h 228) (rd h 194 51) = h := by
  show wr (sr h 228 (rd h 228)) 194 51 (rd h 194 51) = h
  rw [sr_self]
  refine hp_ext rfl rfl rfl rfl (fun b j => ?_)
  rw [rd_wr]
  split
  · rename_i q; rw [q.1, q.2]
  · rfl
theorem evH_evH (h : Hp) (P P' : Int → Int) (z z' : Int) : evH (evH h P z) P' z' = evH h P' z' := by
  refine hp_ext rfl rfl rfl rfl (fun b j => ?_)
  show rd (wr (sr (wr (sr h 228 P) 194 51 z) 228 P') 194 51 z') b j = rd (wr (sr h 228 P') 194 51 z') b j
  rw [rd_wr, rd_wr]
  split
  · rfl
  · rename_i q
    by_cases hb : b = 228
    · subst hb; rw [rd_sr, rd_sr]
    · rw [rd_sr_ne hb, rd_sr_ne hb, rd_wr, if_neg q, rd_sr_ne hb]
theorem m_termOf {F : Nat} {h : Hp} {a b : Int} {cs : List (Int × Int)} (hF : 1000 ≤ F) (s : Sh h) (g : seg h a b cs) : ∃ P, Mod_termOf F 194 a b h = some ((evV (rd h 227) cs).getD 0, evH h P (if evV (rd h 227) cs = none then 1 else rd h 194 51)) := by
  obtain ⟨g1, g2, g3, g4, g5⟩ := g
  obtain ⟨P, e, r⟩ := m_termOf_L (F := F) (b := b) s g3 cs F a [] (rd h 228) g1 (by omega) (by omega) g4 (okH_mono (by decide) cs 0 (g5.2.2 0)) (by simp) trivial
  refine ⟨P, ?_⟩
  unfold Mod_termOf
  rw [show pil h (rd h 228) = h from sr_self _ _] at e
  show Mod_termOf_L5 F F 194 b ((([] : List Int).length : Nat) : Int) a h = _
  rw [e]
  have e1 := g5.1 (rd h 227) []
  rw [e1] at r ⊢
  cases hv : evV (rd h 227) cs with
  | none => rfl
  | some x =>
    rw [hv] at r
    have := r [x] rfl
    simp only [Option.map_some, Option.getD_some]
    rw [show P 0 = x from this.1, if_neg (by simp)]
    congr 2
    refine hp_ext rfl rfl rfl rfl (fun b j => ?_)
    show rd (pil h P) b j = rd (wr (pil h P) 194 51 (rd h 194 51)) b j
    rw [rd_wr]
    split
    · rename_i q; rw [q.1, q.2, pil_ne (by decide)]
    · rfl
def RB (h : Hp) (b : Int) (q : Option (List (Int × Int) × List (Int × Int)) × List (Int × Int)) : Prop := seg h (rd h 222 b) (rd h 223 b) q.2 ∧ match q.1 with
  | none => rd h 219 b = 0
  | some t => rd h 219 b = 1 ∧ seg h (rd h 220 b) (rd h 221 b) t.1 ∧ seg h (rd h 221 b) (rd h 222 b) t.2
def RBs (h : Hp) : Int → Lw → Prop
  | _, [] => True
  | b, q :: r => RB h b q ∧ RBs h (b + 1) r
def RLw (h : Hp) (k : Int) (L : Lw) : Prop := 0 ≤ rd h 217 (5 * rd h 194 18 + k) ∧ rd h 218 (5 * rd h 194 18 + k) = rd h 217 (5 * rd h 194 18 + k) + L.length ∧ rd h 218 (5 * rd h 194 18 + k) ≤ 260 ∧ RBs h (rd h 217 (5 * rd h 194 18 + k)) L
theorem RBs_ok {h : Hp} : ∀ (L : Lw) (b : Int), RBs h b L → LwOk L
  | [], _, _ => fun q hq => by cases hq
  | q :: r, b, hb => fun u hu => by
    rcases List.mem_cons.mp hu with e | e
    · subst e
      obtain ⟨⟨g, g'⟩, -⟩ := hb
      refine ⟨g.2.2.2.2, fun t ht => ?_⟩
      rw [ht] at g'
      exact ⟨g'.2.1.2.2.2.2, g'.2.2.2.2.2.2⟩
    · exact RBs_ok r (b + 1) hb.2 u e
theorem seg_ev {h : Hp} {P : Int → Int} {z a b : Int} {cs : List (Int × Int)} (g : seg h a b cs) : seg (evH h P z) a b cs := by
  unfold seg at g ⊢
  rw [evH_ne (by decide) (by decide), evH_ne (by decide) (by decide)]
  exact g
theorem RB_ev {h : Hp} {P : Int → Int} {z b : Int} {q : Option (List (Int × Int) × List (Int × Int)) × List (Int × Int)} (g : RB h b q) : RB (evH h P z) b q := by
  have e : ∀ a : Int, 219 ≤ a → a ≤ 223 → rd (evH h P z) a = rd h a := fun a h1 h2 => evH_ne (by omega) (by omega)
  unfold RB at g ⊢
  rw [e 222 (by decide) (by decide), e 223 (by decide) (by decide)]
  refine ⟨seg_ev g.1, ?_⟩
  have g2 := g.2
  cases hq : q.1 with
  | none => rw [hq] at g2; simp only at g2 ⊢; rw [e 219 (by decide) (by decide)]; exact g2
  | some t =>
    rw [hq] at g2
    simp only at g2 ⊢
    rw [e 219 (by decide) (by decide), e 220 (by decide) (by decide), e 221 (by decide) (by decide)]
    exact ⟨g2.1, seg_ev g2.2.1, seg_ev g2.2.2⟩
theorem RBs_ev {h : Hp} {P : Int → Int} {z : Int} : ∀ (L : Lw) (b : Int), RBs h b L → RBs (evH h P z) b L
  | [], _, _ => trivial
  | _ :: r, b, g => ⟨RB_ev g.1, RBs_ev r (b + 1) g.2⟩
theorem m_tells_B {F : Nat} {h : Hp} {lo hi b : Int} {q : Option (List (Int × Int) × List (Int × Int)) × List (Int × Int)} (hF : 1000 ≤ F) (s : Sh h) (hb : 0 ≤ b ∧ b < 260) (hl : lo ≤ 0 ∧ 0 ≤ hi) (g : RB h b q) (hz : rd h 194 51 = 0) :
    ∃ P z, Mod_tells_B144 F 194 lo hi b h = some (clm lo hi ((evV (rd h 227) q.2).getD 0), evH h P z) := by
  obtain ⟨P, e⟩ := m_termOf (F := F) hF s g.1
  refine ⟨P, if evV (rd h 227) q.2 = none then 1 else rd h 194 51, ?_⟩
  unfold Mod_tells_B144
  rw [gM42 s, aM42 s hb.1 hb.2, gM43 s, aM43 s hb.1 hb.2, ivM s, e, cl_some, gM51 (evH_sh s _ _), evH_51]
  cases hv : evV (rd h 227) q.2 with
  | none => simp [clm_0 hl]
  | some x =>
    rw [show (if (some x : Option Int) = none then (1 : Int) else rd h 194 51) = rd h 194 51 from rfl, hz, if_pos rfl]
    unfold clm
    simp only [Option.getD_some]
    split
    · rfl
    · split <;> rfl
theorem m_tells_L {F : Nat} {h : Hp} {lo hi i : Int} (hF : 1000 ≤ F) (s : Sh h) (hi5 : 0 ≤ i ∧ i < 10) (hl : lo ≤ 0 ∧ 0 ≤ hi) : ∀ (L : Lw) (n : Nat) (b : Int) (P : Int → Int), 0 ≤ b → rd h 218 i = b + L.length → rd h 218 i ≤ 260 → L.length < n → RBs h b L →
    ∃ P' z', Mod_tells_L63 F n 194 lo hi i b (evH h P 0) = some (clm lo hi (lawB (rd h 227) L), evH h P' z') := by
  intro L
  induction L with
  | nil =>
    intro n b P hb hq h260 hn _
    obtain ⟨n, rfl⟩ : ∃ j, n = j + 1 := ⟨n - 1, by omega⟩
    refine ⟨P, 0, ?_⟩
    show Mod_tells_L63s F _ 194 lo hi i b _ = _
    have sp := evH_sh s P 0
    simp only [List.length_nil, Int.natCast_zero, Int.add_zero, Int.cast_ofNat_Int] at hq
    unfold Mod_tells_L63s
    rw [gM37 sp, aM37 sp hi5.1 hi5.2, evH_ne (by decide) (by decide), if_neg (by omega)]
    unfold lawB
    rw [clm_0 hl]
  | cons q r ih =>
    intro n b P hb hq h260 hn hr
    have hlen : ((q :: r).length : Int) = (r.length : Int) + 1 := by simp
    have hlen' : (q :: r).length = r.length + 1 := by simp
    obtain ⟨n, rfl⟩ : ∃ j, n = j + 1 := ⟨n - 1, by omega⟩
    have sp := evH_sh s P 0
    obtain ⟨rb, rr⟩ := hr
    have e0 : Mod_tells_L63 F (n + 1) 194 lo hi i b (evH h P 0) = Mod_tells_L63s F (Mod_tells_L63 F n) 194 lo hi i b (evH h P 0) := rfl
    unfold Mod_tells_L63s at e0
    rw [gM37 sp, aM37 sp hi5.1 hi5.2, evH_ne (by decide) (by decide), if_pos (by omega), gM39 sp, aM39 sp hb (by omega), evH_ne (by decide) (by decide)] at e0
    rw [e0]
    have rb0 := rb
    obtain ⟨sg, tt⟩ := rb
    have fin : ∀ P, ∃ P' z', Mod_tells_B144 F 194 lo hi b (evH h P 0) = some (clm lo hi ((evV (rd h 227) q.2).getD 0), evH h P' z') := by
      intro P
      obtain ⟨P', z', e⟩ := m_tells_B (F := F) (h := evH h P 0) (lo := lo) (hi := hi) (b := b) hF (evH_sh s P 0) (by omega) hl (RB_ev rb0) (evH_51 _ _ _)
      rw [evH_ne (by decide) (by decide), evH_evH] at e
      exact ⟨P', z', e⟩
    unfold lawB
    cases hq1 : q.1 with
    | none =>
      rw [hq1] at tt
      simp only at tt ⊢
      rw [tt, if_pos rfl]
      exact fin P
    | some t =>
      rw [hq1] at tt
      simp only at tt ⊢
      obtain ⟨t1, t2, t3⟩ := tt
      rw [t1, if_neg (by decide), gM40 sp, aM40 sp hb (by omega), gM41 sp, aM41 sp hb (by omega), evH_ne (by decide) (by decide), evH_ne (by decide) (by decide)]
      obtain ⟨P1, e1⟩ := m_termOf (F := F) (h := evH h P 0) hF sp (seg_ev t2)
      rw [evH_ne (by decide) (by decide), evH_evH, evH_51] at e1
      rw [ivM sp, e1, cl_some]
      have sp1 := evH_sh s P1 (if evV (rd h 227) t.1 = none then 1 else 0)
      rw [gM41 sp1, aM41 sp1 hb (by omega), gM42 sp1, aM42 sp1 hb (by omega), evH_ne (by decide) (by decide), evH_ne (by decide) (by decide)]
      obtain ⟨P2, e2⟩ := m_termOf (F := F) (h := evH h P1 (if evV (rd h 227) t.1 = none then 1 else 0)) hF sp1 (seg_ev t3)
      rw [evH_ne (by decide) (by decide), evH_evH, evH_51] at e2
      rw [ivM sp1, e2, cl_some, gM51 (evH_sh s _ _), evH_51]
      cases hx : evV (rd h 227) t.1 with
      | none =>
        simp only [if_pos, ite_self]
        rw [if_neg (by decide), clm_0 hl]
        exact ⟨_, _, rfl⟩
      | some x =>
        cases hy : evV (rd h 227) t.2 with
        | none =>
          simp only [if_pos]
          rw [if_neg (by decide), clm_0 hl]
          exact ⟨_, _, rfl⟩
        | some y =>
          rw [show (if (some y : Option Int) = none then (1 : Int) else if (some x : Option Int) = none then 1 else 0) = 0 from rfl, if_pos rfl]
          simp only [Option.getD_some]
          by_cases hxy : x < y
          · rw [if_pos hxy, if_pos hxy]
            exact fin P2
          · rw [if_neg hxy, if_neg hxy, w32_id (x := b + 1) (by omega) (by omega)]
            exact ih n (b + 1) P2 (by omega) (by omega) h260 (by omega) rr
theorem m_tells {F : Nat} {h : Hp} {k pl lo hi : Int} {L : Lw} (hF : 1000 ≤ F) (s : Sh h) (hlv : rd h 194 18 = 0 ∨ rd h 194 18 = 1) (hk : 0 ≤ k ∧ k < 5) (hl : lo ≤ 0 ∧ 0 ≤ hi) (g : RLw h k L) : ∃ P z, Mod_tells F 194 k pl lo hi h = some (clm lo hi (lawV pl L (rd h 227)), evH h P z) := by
  obtain ⟨g1, g2, g3, g4⟩ := g
  unfold Mod_tells
  rw [gM18 s, w32_id (x := 5 * rd h 194 18) (by omega) (by omega), w32_id (x := 5 * rd h 194 18 + k) (by omega) (by omega), lt_eq, gM36 s, aM36 s (by omega) (by omega), gM37 s, aM37 s (by omega) (by omega)]
  unfold lawV
  by_cases hL : L = []
  · subst hL
    simp only [List.length_nil, Int.natCast_zero, Int.add_zero, Int.cast_ofNat_Int] at g2
    rw [if_pos g2.symm, if_pos rfl]
    refine ⟨rd h 228, rd h 194 51, ?_⟩
    rw [evH_self]
    unfold clm
    split
    · rfl
    · split <;> rfl
  · have : 0 < L.length := List.length_pos_iff.mpr hL
    rw [if_neg (by omega), if_neg hL, pM51 s (Or.inl rfl)]
    have e : wr h 194 51 0 = evH h (rd h 228) 0 := by show _ = wr (sr h 228 (rd h 228)) 194 51 0; rw [sr_self]
    rw [e, gM36 (evH_sh s _ _), aM36 (evH_sh s _ _) (by omega) (by omega), evH_ne (by decide) (by decide)]
    exact m_tells_L hF s (by omega) hl L F _ _ g1 g2 g3 (by omega) g4
