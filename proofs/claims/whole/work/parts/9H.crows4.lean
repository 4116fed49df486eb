/-! the class's rows: filled from nothing; the best set -/
def Own (a k : Int) : Prop := (isSd a ∧ (k = 4 ∨ k = 5)) ∨ (isRw a ∧ (k = 5 ∨ k = 6))
/-- what a filling of rows leaves as it was -/
def FrF (r : Int) (h h' : Hp) : Prop := Sh h' ∧ hsz h ≤ hsz h' ∧ (∀ b, b < hsz h → hkd h' b = hkd h b ∧ hln h' b = hln h b) ∧ ∀ b, b < hsz h → b ≠ r → b ≠ r + 2 → b ≠ r + 3 → b ≠ rd h r 5 → b ≠ rd h r 6 → rd h' b = rd h b
theorem imin_n {n : Int} (hn : n ≤ 8) : imin n (imin 8 8) = n := by
  have e : imin 8 8 = 8 := by decide
  rw [e]
  unfold imin
  rw [if_neg (by omega)]
theorem c_fill_old {F : Nat} {h g : Hp} {r k w sa rkd : Int} {G : Nat → Int} {al a8 : Nat} (hF : 1000 ≤ F) (m : Mo g) (hg : Gok (dt g) G) (mn : MnD (dt g) (G 3)) (hM : G 4 = 0 ∨ G 4 = 1) (hw : 0 ≤ w ∧ w < dt g 1 0) (sh : Sh h) (ir : isRw r) (hsa : G 3 = 0 ∧ sa = 38 ∨ G 3 = 8 ∧ sa = 95) (sd : ∀ p, 0 ≤ p → p < dt g 0 0 → SdE h (sdA (G 3) p) (dt g) (G 3 + p)) (wk : WkE h k (G 0) (G 1) (dt g 3 w) (G 2) rkd) (ve : vA h (rd h r 5) 2048) (vs : vA h (rd h r 6) 256) (hes : rd h r 5 ≠ rd h r 6) (hd : ∀ p, 0 ≤ p → p < dt g 0 0 → rd h (sdA (G 3) p) 5 ≠ rd h r 5 ∧ rd h (sdA (G 3) p) 5 ≠ rd h r 6) (hl : al < 256) (hl8 : a8 < 256) (h8a : ∀ s : Nat, s < 2 ^ (dt g 0 0).toNat → (s &&& a8 = s ↔ s &&& al = s)) :
    ∃ h', Rows_fill F r sa (dt g 0 0) a8 k (G 4) h = some (0, h') ∧ (hsz h' = hsz h ∧ hus h' = hus h) ∧ (rd h' r 5 = rd h r 5 ∧ rd h' r 6 = rd h r 6) ∧ FrF r h h' ∧ RwE h' r (dt g) G w (G 2) al := by
  have h8' : dt g 0 0 ≤ 8 := m.2.2.1.2
  have hr := rw_cases ir
  have he := ve.1.1
  have hso := vs.1.1
  have hkr : k ≠ r := by have := wk.1; unfold isWk at this; unfold isRw at ir; omega
  have s1 : Sh (wr h r 0 sa) := shOk sh (okQ0 ir)
  have s2 : Sh (wr (wr h r 0 sa) r 1 (dt g 0 0)) := shOk s1 (okQ1 ir)
  have s3 : Sh (wr (wr (wr h r 0 sa) r 1 (dt g 0 0)) r 2 (G 4)) := shOk s2 (okQ2 ir)
  have ne : ∀ b, b ≠ r → rd (wr (wr (wr h r 0 sa) r 1 (dt g 0 0)) r 2 (G 4)) b = rd h b := fun b hb => by rw [rd_wr_ne hb, rd_wr_ne hb, rd_wr_ne hb]
  have r5 : rd (wr (wr (wr h r 0 sa) r 1 (dt g 0 0)) r 2 (G 4)) r 5 = rd h r 5 := by rw [rd_i (by decide), rd_i (by decide), rd_i (by decide)]
  have r6 : rd (wr (wr (wr h r 0 sa) r 1 (dt g 0 0)) r 2 (G 4)) r 6 = rd h r 6 := by rw [rd_i (by decide), rd_i (by decide), rd_i (by decide)]
  have sne : ∀ p, 0 ≤ p → p < 8 → sdA (G 3) p ≠ r := fun p p0 p1 => by have := sdA_in (L := G 3) ⟨p0, p1⟩; unfold isRw at ir; omega
  have rc : RwC (wr (wr (wr h r 0 sa) r 1 (dt g 0 0)) r 2 (G 4)) r (dt g) (G 3) (G 4) := by
    refine ⟨ir, ?_, ?_, rd_same _ _ _ _, fun p p0 p1 => ?_⟩
    · rw [rd_i (by decide), rd_i (by decide), rd_same]; exact hsa
    · rw [rd_i (by decide), rd_same]
    · have e := sd p p0 p1
      refine SdE_ne (h := h) rfl rfl rfl (ne _ (sne p p0 (by omega))) (ne _ ?_) e
      have := e.2.2.2.2.1.1.1
      omega
  obtain ⟨h', k1, k2, k3, k4, k5⟩ := c_fillB (F := F) (h := wr (wr (wr h r 0 sa) r 1 (dt g 0 0)) r 2 (G 4)) hF m hg mn hw s3 rc (k := k) (rkd := rkd) (by obtain ⟨w1, w2⟩ := wk; exact ⟨w1, by rw [ne k hkr]; exact w2⟩) r5 r6 (vA_eq rfl rfl rfl ve) (vA_eq rfl rfl rfl vs) hes (fun p p0 p1 => by rw [ne _ (sne p p0 (by omega))]; exact hd p p0 p1) hl hl8 h8a
  have hrr : rd h' r = rd (wr (wr (wr h r 0 sa) r 1 (dt g 0 0)) r 2 (G 4)) r := k4 r (by omega) (by omega) (by omega) (by omega)
  refine ⟨h', ?_, ⟨k2.1, k2.2.1⟩, ⟨by rw [hrr]; exact r5, by rw [hrr]; exact r6⟩, ⟨k3, by rw [k2.1]; exact Int.le_refl _, fun b _ => ⟨by rw [k2.2.2.1]; rfl, by rw [k2.2.2.2]; rfl⟩, fun b _ b0 b2 b3 b5 b6 => ?_⟩, k5⟩
  · unfold Rows_fill
    rw [pQ0 sh ir]
    have hln8 : ∀ f : Int → Option (Int × Hp), aln (wr h r 0 sa) sa 5 f = f 8 := fun f => by
      rcases hsa with ⟨_, e⟩ | ⟨_, e⟩
      · rw [e]; exact nH3 (e ▸ s1) f
      · rw [e]; exact nN8 (e ▸ s1) f
    rw [hln8, lt_eq, lt_eq, imin_n h8', pQ1 s1 ir, pQ2 s2 ir hM, gQ5 s3 ir, r5, aln_ok (h := wr (wr (wr h r 0 sa) r 1 (dt g 0 0)) r 2 (G 4)) (κ := 0) (n := 2048) (vA_eq rfl rfl rfl ve).1.2 (vA_eq rfl rfl rfl ve).2, if_neg (by decide)]
    exact k1
  · rw [k4 b b2 b3 b5 b6, ne b b0]
theorem c_fill_new {F : Nat} {h g : Hp} {r k w sa rkd : Int} {G : Nat → Int} {al a8 : Nat} (hF : 1000 ≤ F) (m : Mo g) (hg : Gok (dt g) G) (mn : MnD (dt g) (G 3)) (hM : G 4 = 0 ∨ G 4 = 1) (hw : 0 ≤ w ∧ w < dt g 1 0) (sh : Sh h) (ir : isRw r) (hsa : G 3 = 0 ∧ sa = 38 ∨ G 3 = 8 ∧ sa = 95) (sd : ∀ p, 0 ≤ p → p < dt g 0 0 → SdE h (sdA (G 3) p) (dt g) (G 3 + p)) (wk : WkE h k (G 0) (G 1) (dt g 3 w) (G 2) rkd) (ve : vo h (rd h r 5) 0) (vl : hln h (rd h r 5) = 0) (hl : al < 256) (hl8 : a8 < 256) (h8a : ∀ s : Nat, s < 2 ^ (dt g 0 0).toNat → (s &&& a8 = s ↔ s &&& al = s)) :
    ∃ h', Rows_fill F r sa (dt g 0 0) a8 k (G 4) h = some (0, h') ∧ (hsz h' = hsz h + 2 ∧ hus h' = hus h + 2304) ∧ (rd h' r 5 = hsz h ∧ rd h' r 6 = hsz h + 1) ∧ FrF r h h' ∧ RwE h' r (dt g) G w (G 2) al ∧ ∀ b, b < hsz h → b ≠ r → b ≠ r + 2 → b ≠ r + 3 → rd h' b = rd h b := by
  have h8' : dt g 0 0 ≤ 8 := m.2.2.1.2
  have hr := rw_cases ir
  have hz := sh.1
  have hkw := wk.1
  have hkr : k ≠ r ∧ k < 254 := by unfold isWk at hkw; unfold isRw at ir; omega
  have s1 : Sh (wr h r 0 sa) := shOk sh (okQ0 ir)
  have s2 : Sh (wr (wr h r 0 sa) r 1 (dt g 0 0)) := shOk s1 (okQ1 ir)
  have s3 : Sh (wr (wr (wr h r 0 sa) r 1 (dt g 0 0)) r 2 (G 4)) := shOk s2 (okQ2 ir)
  have s4 : Sh (nw (wr (wr (wr h r 0 sa) r 1 (dt g 0 0)) r 2 (G 4)) 0 2048 2048) := Sh_nw s3
  have s5 : Sh (wr (nw (wr (wr (wr h r 0 sa) r 1 (dt g 0 0)) r 2 (G 4)) 0 2048 2048) r 5 (hsz h)) := shOk s4 (okQ5 ir)
  have s6 : Sh (nw (wr (nw (wr (wr (wr h r 0 sa) r 1 (dt g 0 0)) r 2 (G 4)) 0 2048 2048) r 5 (hsz h)) 0 256 256) := Sh_nw s5
  have s7 : Sh (wr (nw (wr (nw (wr (wr (wr h r 0 sa) r 1 (dt g 0 0)) r 2 (G 4)) 0 2048 2048) r 5 (hsz h)) 0 256 256) r 6 (hsz h + 1)) := shOk s6 (okQ6 ir)
  have hR : ∀ b j, rd (wr (nw (wr (nw (wr (wr (wr h r 0 sa) r 1 (dt g 0 0)) r 2 (G 4)) 0 2048 2048) r 5 (hsz h)) 0 256 256) r 6 (hsz h + 1)) b j = if b = r ∧ j = 6 then hsz h + 1 else if b = hsz h + 1 then 0 else if b = r ∧ j = 5 then hsz h else if b = hsz h then 0 else if b = r ∧ j = 2 then G 4 else if b = r ∧ j = 1 then dt g 0 0 else if b = r ∧ j = 0 then sa else rd h b j := fun b j => rfl
  have hK : ∀ b, hkd (wr (nw (wr (nw (wr (wr (wr h r 0 sa) r 1 (dt g 0 0)) r 2 (G 4)) 0 2048 2048) r 5 (hsz h)) 0 256 256) r 6 (hsz h + 1)) b = if b = hsz h + 1 then 0 else if b = hsz h then 0 else hkd h b := fun b => rfl
  have hL : ∀ b, hln (wr (nw (wr (nw (wr (wr (wr h r 0 sa) r 1 (dt g 0 0)) r 2 (G 4)) 0 2048 2048) r 5 (hsz h)) 0 256 256) r 6 (hsz h + 1)) b = if b = hsz h + 1 then 256 else if b = hsz h then 2048 else hln h b := fun b => rfl
  have hS : hsz (wr (nw (wr (nw (wr (wr (wr h r 0 sa) r 1 (dt g 0 0)) r 2 (G 4)) 0 2048 2048) r 5 (hsz h)) 0 256 256) r 6 (hsz h + 1)) = hsz h + 1 + 1 := rfl
  have hU : hus (wr (nw (wr (nw (wr (wr (wr h r 0 sa) r 1 (dt g 0 0)) r 2 (G 4)) 0 2048 2048) r 5 (hsz h)) 0 256 256) r 6 (hsz h + 1)) = hus h + 2048 + 256 := rfl
  have start : Rows_fill F r sa (dt g 0 0) a8 k (G 4) h = Rows_fill_B55 F r a8 k (wr (nw (wr (nw (wr (wr (wr h r 0 sa) r 1 (dt g 0 0)) r 2 (G 4)) 0 2048 2048) r 5 (hsz h)) 0 256 256) r 6 (hsz h + 1)) := by
    have r5 : rd (wr (wr (wr h r 0 sa) r 1 (dt g 0 0)) r 2 (G 4)) r 5 = rd h r 5 := by rw [rd_i (by decide), rd_i (by decide), rd_i (by decide)]
    unfold Rows_fill
    rw [pQ0 sh ir]
    have hln8 : ∀ f : Int → Option (Int × Hp), aln (wr h r 0 sa) sa 5 f = f 8 := fun f => by
      rcases hsa with ⟨_, e⟩ | ⟨_, e⟩
      · rw [e]; exact nH3 (e ▸ s1) f
      · rw [e]; exact nN8 (e ▸ s1) f
    have na1 : ∀ (q : Hp) (f : Int → Hp → Option (Int × Hp)), na q 0 2048 f = f (hsz q) (nw q 0 2048 2048) := fun q f => if_pos (by decide)
    have na2 : ∀ (q : Hp) (f : Int → Hp → Option (Int × Hp)), na q 0 256 f = f (hsz q) (nw q 0 256 256) := fun q f => if_pos (by decide)
    rw [hln8, lt_eq, lt_eq, imin_n h8', pQ1 s1 ir, pQ2 s2 ir hM, gQ5 s3 ir, r5, aln_ok (h := wr (wr (wr h r 0 sa) r 1 (dt g 0 0)) r 2 (G 4)) (κ := 0) (n := 0) (vo_eq rfl rfl ve) vl, if_pos (by decide), na1]
    show pf (nw (wr (wr (wr h r 0 sa) r 1 (dt g 0 0)) r 2 (G 4)) 0 2048 2048) r 104 5 (hsz h) _ = _
    rw [pQ5 s4 ir, na2]
    show pf (nw (wr (nw (wr (wr (wr h r 0 sa) r 1 (dt g 0 0)) r 2 (G 4)) 0 2048 2048) r 5 (hsz h)) 0 256 256) r 104 6 (hsz h + 1) _ = _
    rw [pQ6 s6 ir]
  generalize wr (nw (wr (nw (wr (wr (wr h r 0 sa) r 1 (dt g 0 0)) r 2 (G 4)) 0 2048 2048) r 5 (hsz h)) 0 256 256) r 6 (hsz h + 1) = q at *
  have ne : ∀ b, b ≠ r → b < hsz h → rd q b = rd h b := fun b hb hb2 => by
    funext j
    rw [hR, if_neg (fun z => hb z.1), if_neg (by omega), if_neg (fun z => hb z.1), if_neg (by omega), if_neg (fun z => hb z.1), if_neg (fun z => hb z.1), if_neg (fun z => hb z.1)]
  have kd : ∀ b, b < hsz h → hkd q b = hkd h b ∧ hln q b = hln h b := fun b hb => ⟨by rw [hK, if_neg (by omega), if_neg (by omega)], by rw [hL, if_neg (by omega), if_neg (by omega)]⟩
  have r5 : rd q r 5 = hsz h := by rw [hR, if_neg (by omega), if_neg (by omega), if_pos ⟨rfl, rfl⟩]
  have r6 : rd q r 6 = hsz h + 1 := by rw [hR, if_pos ⟨rfl, rfl⟩]
  have vE : vA q (hsz h) 2048 := ⟨⟨hz, by omega, by rw [hS]; omega, by rw [hK, if_neg (by omega), if_pos rfl]⟩, by rw [hL, if_neg (by omega), if_pos rfl]⟩
  have vS : vA q (hsz h + 1) 256 := ⟨⟨by omega, by omega, by rw [hS]; omega, by rw [hK, if_pos rfl]⟩, by rw [hL, if_pos rfl]⟩
  have sne : ∀ p, 0 ≤ p → p < 8 → sdA (G 3) p ≠ r ∧ sdA (G 3) p < 254 := fun p p0 p1 => by have := sdA_in (L := G 3) ⟨p0, p1⟩; unfold isRw at ir; omega
  have rc : RwC q r (dt g) (G 3) (G 4) := by
    refine ⟨ir, ?_, ?_, ?_, fun p p0 p1 => ?_⟩
    · rw [hR, if_neg (by omega), if_neg (by omega), if_neg (by omega), if_neg (by omega), if_neg (by omega), if_neg (by omega), if_pos ⟨rfl, rfl⟩]; exact hsa
    · rw [hR, if_neg (by omega), if_neg (by omega), if_neg (by omega), if_neg (by omega), if_neg (by omega), if_pos ⟨rfl, rfl⟩]
    · rw [hR, if_neg (by omega), if_neg (by omega), if_neg (by omega), if_neg (by omega), if_pos ⟨rfl, rfl⟩]
    · obtain ⟨a1, a2, a3, a4, ⟨⟨a5, a6, a7, a8⟩, a9⟩, aA⟩ := sd p p0 p1
      have e := sne p p0 (by omega)
      have ea := ne _ e.1 (by omega)
      refine ⟨a1, by rw [ea]; exact a2, by rw [ea]; exact a3, by rw [ea]; exact a4, ?_, fun t t0 t1 => ?_⟩
      · rw [ea]; exact ⟨⟨a5, a6, by rw [hS]; omega, by rw [(kd _ a7).1]; exact a8⟩, by rw [(kd _ a7).2]; exact a9⟩
      · rw [ea, ne _ (by omega) a7]; exact aA t t0 t1
  obtain ⟨h', k1, k2, k3, k4, k5⟩ := c_fillB (F := F) (h := q) hF m hg mn hw s7 rc (k := k) (rkd := rkd) (by obtain ⟨w1, w2⟩ := wk; exact ⟨w1, by rw [ne k hkr.1 (by omega)]; exact w2⟩) r5 r6 vE vS (by omega) (fun p p0 p1 => by
    obtain ⟨-, -, -, -, ⟨⟨a5, a6, a7, -⟩, -⟩, -⟩ := sd p p0 p1
    have e := sne p p0 (by omega)
    rw [ne _ e.1 (by omega)]
    omega) hl hl8 h8a
  have hrr : rd h' r = rd q r := k4 r (by omega) (by omega) (by omega) (by omega)
  refine ⟨h', by rw [start]; exact k1, ⟨by rw [k2.1, hS]; omega, by rw [k2.2.1, hU]; omega⟩, ⟨by rw [hrr]; exact r5, by rw [hrr]; exact r6⟩, ⟨k3, by rw [k2.1, hS]; omega, fun b hb => ⟨by rw [k2.2.2.1]; exact (kd b hb).1, by rw [k2.2.2.2]; exact (kd b hb).2⟩, fun b hb b0 b2 b3 b5 b6 => by rw [k4 b b2 b3 (by omega) (by omega), ne b b0 hb]⟩, k5, fun b hb b0 b2 b3 => by rw [k4 b b2 b3 (by omega) (by omega), ne b b0 hb]⟩
theorem sn_le {g : Hp} (m : Mo g) {G : Nat → Int} (hg : Gok (dt g) G) {w a b : Int} (hw : 0 ≤ w ∧ w < dt g 1 0) {al s : Nat} (hs : s ≠ 0) (hb : b ≤ 600) : snC (dt g) G w a al s ≤ b ↔ s &&& al = s ∧ lrV (CT (dt g) G w al) a s ≤ b := by
  have hv := lr_ok (a := a) m hg hw (al := al) hs
  unfold snC
  rw [if_neg hs]
  by_cases c : s &&& al = s
  · rw [if_pos c]
    unfold cap
    unfold Vok at hv
    by_cases c2 : lrV (CT (dt g) G w al) a s = 100000
    · rw [if_pos c2]; exact ⟨fun q => absurd q (by omega), fun q => absurd q.2 (by omega)⟩
    · rw [if_neg c2]; exact ⟨fun q => ⟨c, q⟩, fun q => q.2⟩
  · rw [if_neg c]; exact ⟨fun q => absurd q (by omega), fun q => absurd q.1 c⟩
theorem lr_0 (T : Int → Int) (a : Int) : lrV T a 0 = a := by
  unfold lrV
  rw [if_pos rfl]
  exact mnB_st (k := 0) (by decide) 8 (by decide)
/-- the soonest of a set that can be done by then -/
theorem sn_eq {g : Hp} {G : Nat → Int} {w a b : Int} {al s : Nat} (hb : b ≤ 600) (hs : s = 0 ∨ (s &&& al = s ∧ lrV (CT (dt g) G w al) a s ≤ b)) : snC (dt g) G w a al s = lrV (CT (dt g) G w al) a s := by
  unfold snC
  by_cases c : s = 0
  · subst c; rw [if_pos rfl, lr_0]
  · rw [if_neg c]
    rcases hs with e | e
    · exact absurd e c
    · rw [if_pos e.1]
      unfold cap
      rw [if_neg (by omega)]
theorem bsR_can {D : Nat → Int → Int} {T : Int → Int} {a b : Int} {al : Nat} : ∀ n, bsR D T a b al n = 0 ∨ (bsR D T a b al n &&& al = bsR D T a b al n ∧ lrV T a (bsR D T a b al n) ≤ b) := by
  intro n
  induction n with
  | zero => exact Or.inl rfl
  | succ n ih =>
    unfold bsR
    split
    · rename_i c; exact Or.inr c.1
    · exact ih
theorem c_bestSet {F : Nat} {h g : Hp} {r w a b : Int} {G : Nat → Int} {al : Nat} (hF : 1000 ≤ F) (m : Mo g) (hg : Gok (dt g) G) (hw : 0 ≤ w ∧ w < dt g 1 0) (sh : Sh h) (re : RwE h r (dt g) G w a al) (wo : ∀ s : Nat, s < 2 ^ (dt g 0 0).toNat → rd h 39 s = wbV (dt g) s) (hb : 0 ≤ b ∧ b ≤ 600) :
    Rows_bestSet F r 39 b h = some (((bstF (dt g) (CT (dt g) G w al) a b al : Nat) : Int), h) := by
  obtain ⟨rc, ⟨ve, vs⟩, -, rb⟩ := re
  have ir := rc.1
  have h8 := D8 m
  have t8 := two8 h8
  have t1 : 1 ≤ 2 ^ (dt g 0 0).toNat := Nat.one_le_two_pow
  have hd0 : dt g 0 0 = ((dt g 0 0).toNat : Int) := by have := m.2.2.1.1; omega
  unfold Rows_bestSet
  have key := loop0 (fun n i => Rows_bestSet_L5 F n r 39 b ((bsR (dt g) (CT (dt g) G w al) a b al i : Nat) : Int) ((i + 1 : Nat) : Int) h) (2 ^ (dt g 0 0).toNat - 1) F (some (((bstF (dt g) (CT (dt g) G w al) a b al : Nat) : Int), h)) (by omega) (fun n i hi => ?_) (fun n => ?_)
  · exact key
  · have hle := bsR_le (dt g) (CT (dt g) G w al) a b al i
    have hcan := bsR_can (D := dt g) (T := CT (dt g) G w al) (a := a) (b := b) (al := al) i
    have hsn := sn_le (a := a) m hg hw (al := al) (s := i + 1) (by omega) hb.2
    have e1 : bsR (dt g) (CT (dt g) G w al) a b al (i + 1) = if ((i + 1) &&& al = i + 1 ∧ lrV (CT (dt g) G w al) a (i + 1) ≤ b) ∧ (wbV (dt g) (bsR (dt g) (CT (dt g) G w al) a b al i) < wbV (dt g) (i + 1) ∨ (wbV (dt g) (i + 1) = wbV (dt g) (bsR (dt g) (CT (dt g) G w al) a b al i) ∧ lrV (CT (dt g) G w al) a (i + 1) < lrV (CT (dt g) G w al) a (bsR (dt g) (CT (dt g) G w al) a b al i))) then i + 1 else bsR (dt g) (CT (dt g) G w al) a b al i := rfl
    have es := sn_eq (g := g) (G := G) (w := w) (a := a) (al := al) hb.2 hcan
    have en : snC (dt g) G w a al (i + 1) ≤ b → snC (dt g) G w a al (i + 1) = lrV (CT (dt g) G w al) a (i + 1) := fun q => sn_eq (b := b) hb.2 (Or.inr (hsn.1 q))
    have ws := wo (i + 1) (by omega)
    have wB := wo (bsR (dt g) (CT (dt g) G w al) a b al i) (by omega)
    have ss := (rb (i + 1) (by omega)).1
    have sB := (rb (bsR (dt g) (CT (dt g) G w al) a b al i) (by omega)).1
    generalize hB : bsR (dt g) (CT (dt g) G w al) a b al i = B at *
    show Rows_bestSet_L5s F (Rows_bestSet_L5 F n) r 39 b (B : Nat) ((i + 1 : Nat) : Int) h = Rows_bestSet_L5 F n r 39 b ((bsR (dt g) (CT (dt g) G w al) a b al (i + 1) : Nat) : Int) ((i + 1 + 1 : Nat) : Int) h
    unfold Rows_bestSet_L5s
    rw [e1, gQ1 sh ir, rc.2.2.1, hd0, ishl_1 _ (by omega), if_pos (by omega), gQ6 sh ir, al_ok vs.1.2 vs.2 (by omega) (by omega), ss, w32_nat (by omega)]
    by_cases c1 : b < snC (dt g) G w a al (i + 1)
    · rw [if_pos c1, if_neg (fun q => by have := hsn.2 q.1; omega)]
    · have c1' := hsn.1 (by omega)
      rw [if_neg c1, aH4 sh (by omega) (by omega), aH4 sh (by omega) (by omega), ws, wB]
      by_cases c2 : wbV (dt g) (i + 1) < wbV (dt g) B
      · rw [if_pos c2, if_neg (fun q => by omega)]
      · rw [if_neg c2, aH4 sh (by omega) (by omega), aH4 sh (by omega) (by omega), ws, wB]
        by_cases c3 : wbV (dt g) B < wbV (dt g) (i + 1)
        · rw [if_pos c3, if_pos ⟨c1', Or.inl c3⟩]
        · rw [if_neg c3, gQ6 sh ir, al_ok vs.1.2 vs.2 (by omega) (by omega), ss, gQ6 sh ir, al_ok vs.1.2 vs.2 (by omega) (by omega), sB, es, en (by omega)]
          by_cases c4 : lrV (CT (dt g) G w al) a (i + 1) < lrV (CT (dt g) G w al) a B
          · rw [if_pos c4, if_pos ⟨c1', Or.inr ⟨by omega, c4⟩⟩]
          · rw [if_neg c4, if_neg (fun q => by rcases q.2 with z | z <;> omega)]
  · show Rows_bestSet_L5s F (Rows_bestSet_L5 F n) r 39 b _ ((2 ^ (dt g 0 0).toNat - 1 + 1 : Nat) : Int) h = _
    unfold Rows_bestSet_L5s
    rw [gQ1 sh ir, rc.2.2.1, hd0, ishl_1 _ (by omega), if_neg (by simp only [Int.toNat_natCast]; omega)]
    rfl
theorem c_isBy {F : Nat} {h g : Hp} {r w a b : Int} {G : Nat → Int} {al s : Nat} (m : Mo g) (hg : Gok (dt g) G) (hw : 0 ≤ w ∧ w < dt g 1 0) (sh : Sh h) (re : RwE h r (dt g) G w a al) (hb : 0 ≤ b ∧ b ≤ 600) (hs : s < 2 ^ (dt g 0 0).toNat) :
    Rows_isBy F r s b h = some (canV (CT (dt g) G w al) a b al s, h) := by
  obtain ⟨rc, ⟨ve, vs⟩, -, rb⟩ := re
  have ir := rc.1
  have h8 := D8 m
  have t8 := two8 h8
  unfold Rows_isBy canV
  by_cases c : s = 0
  · subst c
    rw [if_pos (show ((0 : Nat) : Int) = 0 from rfl), if_pos ⟨by rw [Nat.zero_and], Or.inl rfl⟩, rz_1]
  · have hsn := sn_le (a := a) m hg hw (al := al) c hb.2
    rw [if_neg (by omega), gQ6 sh ir, al_ok vs.1.2 vs.2 (by omega) (by omega), (rb s hs).1]
    by_cases c1 : b < snC (dt g) G w a al s
    · rw [if_pos c1, if_neg (fun q => by
        rcases q.2 with z | z
        · exact c z
        · have := hsn.2 ⟨q.1, z⟩; omega), rz_0]
    · have := hsn.1 (by omega)
      rw [if_neg c1, if_pos ⟨this.1, Or.inr this.2⟩, rz_1]
