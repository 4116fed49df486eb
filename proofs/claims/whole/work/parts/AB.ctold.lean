/-! both sides, where something is written -/
def Xw (b : Int) : Prop := b < 194 ∧ ¬ (3 ≤ b ∧ b ≤ 65) ∧ ¬ (97 ≤ b ∧ b ≤ 138) ∧ b ≠ 85
theorem JJ_mk {X : Int → Prop} {n : Int} {h h1 h2 : Hp} {Λ : Nat → Lw} (hn : n < 900) (j : JJ n h Λ) (f : FrX X h h1) (z1 : hsz h1 = hsz h ∧ hus h1 = hus h ∧ hkd h1 = hkd h ∧ hln h1 = hln h) (w : RfW h1 h2)
    (ea : ∀ a, 194 < a → a < 254 → ¬ (a = 195 ∨ a = 239 ∨ a = 240 ∨ a = 241 ∨ (249 ≤ a ∧ a ≤ 253)) → rd h2 a = rd h1 a) (ek : ∀ k, ¬ (k = 2 ∨ k = 17 ∨ k = 64 ∨ k = 80) → rd h2 194 k = rd h1 194 k)
    (hX : ∀ b, X b → Xw b) (r1 : Zo 140 (rd h2 239)) (r2 : Zo 140 (rd h2 240)) (rw' : RwN (n + 1) (dt h) (rd h2 239)) (b80 : 0 ≤ rd h2 194 80 ∧ rd h2 194 80 ≤ 20) (bt : BytI h2) (td : Tdk h2)
    (tp : JTape h2 (rd h2 195) (rd h2 194 2) (rd h2 194 17)) (st : StE h2 66 (dt h) (rd h2 239)) (ps : PsI (n + 1) h2 (dt h) (rd h2 194 64) (rd h2 239) (rd h2 241)) (hd : JHeld (n + 1) h2 (dt h) (rd h2 252) (rd h2 253)) (jt : JTold h2 (rd h2 194 80) (rd h2 249) (rd h2 250) (rd h2 251)) (pl : JPl h2 (dt h) (rd h2 239) (fun k b => lgB h (Λ 0) k b)) : JJ (n + 1) h2 Λ ∧ dt h2 = dt h := by
  have e := RfE_X f (fun b hb => (hX b hb).1)
  have jm1 := RfE_JM e j.1
  have d1 := RfE_dt e
  have dk : Dok (dt h) := jD j
  have ed1 : dt h2 = dt h1 := dt_eq ⟨ek 18 (by decide), fun a q1 q2 => ea a (by omega) (by omega) (by omega), fun a q1 q2 => ea a (by omega) (by omega) (by omega)⟩
  have ed : dt h2 = dt h := ed1.trans d1
  refine ⟨?_, ed⟩
  obtain ⟨⟨⟨⟨s, l, d⟩, m2, m3, m4, m5, m6, m7⟩, m8⟩, j2, j3, j4, j5, j6, j7, j8, j9⟩ := jm1
  have hl : (fun k b => lgB h2 (Λ 0) k b) = (fun k b => lgB h (Λ 0) k b) := by funext k b; exact lgB_dt ed _ _ _
  have F := RfW_X w
  refine ⟨⟨⟨⟨⟨w.2.1, by rw [ek 18 (by decide)]; exact l, by rw [ed]; exact dk⟩, r1, r2, by rw [ed]; exact rw'.1.1, ⟨rw'.2.2.2.1.1, by have := rw'.2.2.2.1.2; omega⟩, ps.2.1, b80⟩, by rw [ea 242 (by decide) (by decide) (by decide)]; exact m8⟩, by rw [ed, ← d1]; exact j2, by rw [ed, ← d1]; exact j3, fun k hk => RLr_eq (ek 18 (by decide)) (fun a q1 q2 => ea a (by omega) (by omega) (by omega)) (j4 k hk), ?_, ?_, bt, td, by rw [ed]; exact rw'⟩, ?_, by rw [ed, hl]; exact pl, RfW_Dy w (Dy_X z1 f (fun a k o q => by have := own_in o; have := hX a q; unfold Xw at this; omega) j.2.2.2)⟩
  · unfold Keys; rw [ea 201 (by decide) (by decide) (by decide)]; exact j5
  · unfold TkI; rw [ea 197 (by decide) (by decide) (by decide), ea 198 (by decide) (by decide) (by decide)]; exact j6
  · have g2 := j.2.1.2.1
    have g3 := j.2.1.2.2.1
    unfold JK
    rw [ed]
    have q3 : ∀ b, X b → ¬ (3 ≤ b ∧ b ≤ 65) := fun b hb => (hX b hb).2.1
    refine ⟨tp, JRead_X F (by unfold Xr; omega) (JRead_X f ⟨fun q => q3 _ q (by decide), fun q => q3 _ q (by decide), fun q => q3 _ q (by decide), fun q => q3 _ q (by decide), fun q => q3 _ q (by decide)⟩ g2), JShore_X dk F (fun b hb => by unfold Xr at hb; omega) (JShore_X dk f (fun b hb => by have := q3 b hb; omega) g3), st, ps, hd, jt⟩
/-- what is not touched stays -/
theorem tp_k {X : Int → Prop} {n : Int} {h h1 h2 : Hp} {Λ : Nat → Lw} (j : JJ n h Λ) (f : FrX X h h1) (w : RfW h1 h2) (hX : ∀ b, X b → b < 194) (hx : ¬ X 1 ∧ ¬ X 2) (e1 : rd h2 195 = rd h1 195) (e2 : rd h2 194 2 = rd h1 194 2) (e3 : rd h2 194 17 = rd h1 194 17) : JTape h2 (rd h2 195) (rd h2 194 2) (rd h2 194 17) := by
  have e := RfE_X f hX
  rw [e1, e2, e3, e.2 195 (by decide) (by decide), e.2 194 (by decide) (by decide)]
  exact JTape_X (RfW_X w) (by unfold Xr; omega) (JTape_X f hx j.2.1.1)
theorem st_k {X : Int → Prop} {n : Int} {h h1 h2 : Hp} {Λ : Nat → Lw} (j : JJ n h Λ) (f : FrX X h h1) (w : RfW h1 h2) (hX : ∀ b, X b → b < 194) (hx : ∀ b, X b → ¬ (66 ≤ b ∧ b ≤ 77)) (e1 : rd h2 239 = rd h1 239) : StE h2 66 (dt h) (rd h2 239) := by
  have e := RfE_X f hX
  have dk := jD j
  rw [e1, e.2 239 (by decide) (by decide)]
  exact StE_X dk.2.1.2 (RfW_X w) (fun a q1 q2 => by unfold Xr; omega) (StE_X dk.2.1.2 f (fun a q1 q2 q => hx a q ⟨q1, by omega⟩) j.2.1.2.2.2.1)
theorem ps_k {X : Int → Prop} {n : Int} {h h1 h2 : Hp} {Λ : Nat → Lw} (j : JJ n h Λ) (f : FrX X h h1) (w : RfW h1 h2) (hX : ∀ b, X b → b < 194) (hx : ¬ X 78 ∧ ¬ X 79) (e1 : rd h2 239 = rd h1 239) (e2 : rd h2 241 = rd h1 241) (e3 : rd h2 194 64 = rd h1 194 64) : PsI (n + 1) h2 (dt h) (rd h2 194 64) (rd h2 239) (rd h2 241) := by
  have e := RfE_X f hX
  rw [e1, e2, e3, e.2 239 (by decide) (by decide), e.2 241 (by decide) (by decide), e.2 194 (by decide) (by decide)]
  exact PsI_X (RfW_X w) (by unfold Xr; omega) (PsI_X f hx (PsI_mono (by omega) j.2.1.2.2.2.2.1))
theorem hd_k {X : Int → Prop} {n : Int} {h h1 h2 : Hp} {Λ : Nat → Lw} (j : JJ n h Λ) (f : FrX X h h1) (w : RfW h1 h2) (hX : ∀ b, X b → b < 194) (hx : ∀ b, X b → b ≠ 81 ∧ ¬ (158 ≤ b ∧ b ≤ 193)) (e1 : rd h2 252 = rd h1 252) (e2 : rd h2 253 = rd h1 253) : JHeld (n + 1) h2 (dt h) (rd h2 252) (rd h2 253) := by
  have e := RfE_X f hX
  have dk := jD j
  rw [e1, e2, e.2 252 (by decide) (by decide), e.2 253 (by decide) (by decide)]
  exact JHeld_X dk (RfW_X w) (fun b hb => by unfold Xr at hb; omega) (JHeld_X dk f hx (JHeld_mono (by omega) j.2.1.2.2.2.2.2.1))
theorem jt_k {X : Int → Prop} {n : Int} {h h1 h2 : Hp} {Λ : Nat → Lw} (j : JJ n h Λ) (f : FrX X h h1) (w : RfW h1 h2) (hX : ∀ b, X b → b < 194) (hx : ∀ b, X b → ¬ (139 ≤ b ∧ b ≤ 142)) (e1 : rd h2 194 80 = rd h1 194 80) (e2 : ∀ a, 249 ≤ a → a ≤ 251 → rd h2 a = rd h1 a) : JTold h2 (rd h2 194 80) (rd h2 249) (rd h2 250) (rd h2 251) := by
  have e := RfE_X f hX
  rw [e1, e2 249 (by decide) (by decide), e2 250 (by decide) (by decide), e2 251 (by decide) (by decide), e.2 194 (by decide) (by decide), e.2 249 (by decide) (by decide), e.2 250 (by decide) (by decide), e.2 251 (by decide) (by decide)]
  exact JTold_X (RfW_X w) (fun b hb => by unfold Xr at hb; omega) (JTold_X f hx j.2.1.2.2.2.2.2.2)
theorem pl_k {X : Int → Prop} {n : Int} {h h1 h2 : Hp} {Λ : Nat → Lw} (j : JJ n h Λ) (f : FrX X h h1) (w : RfW h1 h2) (hX : ∀ b, X b → b < 194) (hx : ∀ b, X b → b ≠ 82 ∧ b ≠ 84 ∧ b ≠ 93 ∧ b ≠ 96 ∧ ¬ (97 ≤ b ∧ b ≤ 111) ∧ ¬ (42 ≤ b ∧ b ≤ 63)) (e1 : rd h2 239 = rd h1 239) : JPl h2 (dt h) (rd h2 239) (fun k b => lgB h (Λ 0) k b) := by
  have e := RfE_X f hX
  have dk := jD j
  rw [e1, e.2 239 (by decide) (by decide)]
  exact JPl_X dk.1.2 (RfW_X w) (fun b hb => by unfold Xr at hb; omega) (JPl_X dk.1.2 f hx j.2.2.1)
theorem bt_k {X : Int → Prop} {n : Int} {h h1 h2 : Hp} {Λ : Nat → Lw} (j : JJ n h Λ) (f : FrX X h h1) (hX : ∀ b, X b → b < 194) (e1 : rd h2 195 = rd h1 195) (e2 : rd h2 196 = rd h1 196) (e3 : rd h2 194 2 = rd h1 194 2) : BytI h2 := by
  have e := RfE_X f hX
  have b := j.1.2.2.2.2.2.2.1
  unfold BytI at b ⊢
  rw [e1, e2, e3, e.2 195 (by decide) (by decide), e.2 196 (by decide) (by decide), e.2 194 (by decide) (by decide)]
  exact b
theorem rd_cg {h g : Hp} {a i v : Int} (e : rd h a = rd g a) : rd (wr h a i v) a = rd (wr g a i v) a := by funext j; rw [rd_wr, rd_wr, e]
theorem okD {a i : Int} (ha : a = 140 ∨ a = 141 ∨ a = 142) : okW a i = true := by rcases ha with e | e | e <;> subst e <;> exact okW_arr (by decide) (fun _ => by decide)
theorem k_tell {F : Nat} {n p t b : Int} {h : Hp} {Λ : Nat → Lw} (hn : n < 900) (j : JJ n h Λ) (hb : b = 0 ∨ b = 1) : Okc n h (Tide_tell F 1 p t b h) (fun h1 => Mod_tell F 194 p t b h1) := by
  have s := jS j
  have cd := jCD j
  have ms := j.1.1.1
  obtain ⟨⟨t1, t2⟩, t3⟩ := j.2.1.2.2.2.2.2.2
  by_cases cp : 0 ≤ p ∧ p < dt h 0 0
  rotate_left
  · refine okc_q0 j (r := -1) ?_ ⟨h, ?_, Fr_refl j.1.1⟩
    · unfold Tide_tell
      rw [ivT s, c_isPart s cd, cl_some, if_neg cp, if_pos rfl]
    · have : ¬ telD h p t := fun q => cp q.2.1
      rw [m_tell ms hb, if_neg this]
      unfold telH
      rw [if_neg this]
  by_cases ct : 0 ≤ t ∧ t < 600
  rotate_left
  · refine okc_q0 j (r := -1) ?_ ⟨h, ?_, Fr_refl j.1.1⟩
    · unfold Tide_tell
      rw [ivT s, c_isPart s cd, cl_some, if_pos cp, if_neg (by decide), c_isMinute, cl_some, if_neg ct, if_pos rfl]
    · have : ¬ telD h p t := fun q => ct q.2.2
      rw [m_tell ms hb, if_neg this]
      unfold telH
      rw [if_neg this]
  by_cases c20 : rd h 194 80 = 20
  · refine okc_q0 j (r := -1) ?_ ⟨h, ?_, Fr_refl j.1.1⟩
    · unfold Tide_tell Told_add
      rw [ivT s, c_isPart s cd, cl_some, if_pos cp, if_neg (by decide), c_isMinute, cl_some, if_pos ct, if_neg (by decide), gT10 s, ivD s, gD4 s, t1, if_neg (by omega), cl_some]
    · have : ¬ telD h p t := fun q => q.1 c20
      rw [m_tell ms hb, if_neg this]
      unfold telH
      rw [if_neg this]
  obtain ⟨u, hu⟩ : ∃ u, u = rd h 194 80 := ⟨_, rfl⟩
  rw [← hu] at t1 t2 t3
  have s1 : Sh (wr h 140 u p) := shOk s (okD (by decide))
  have s2 : Sh (wr (wr h 140 u p) 141 u t) := shOk s1 (okD (by decide))
  have s3 : Sh (wr (wr (wr h 140 u p) 141 u t) 142 u b) := shOk s2 (okD (by decide))
  have s4 : Sh (wr (wr (wr (wr h 140 u p) 141 u t) 142 u b) 139 4 (u + 1)) := shOk s3 ok139
  have f1 : FrX (fun b => 139 ≤ b ∧ b ≤ 142) h (wr (wr (wr (wr h 140 u p) 141 u t) 142 u b) 139 4 (u + 1)) :=
    FrX_trans (FrX_trans (FrX_trans (FrX_wr s (okD (by decide)) (by decide) (by decide)) (FrX_wr s1 (okD (by decide)) (by decide) (by decide))) (FrX_wr s2 (okD (by decide)) (by decide) (by decide))) (FrX_wr s3 ok139 (by decide) (by decide))
  have c1 : rd (wr (wr (wr (wr h 140 u p) 141 u t) 142 u b) 139 4 (u + 1)) 139 4 = u + 1 := rd_same _ _ _ _
  have c140 : rd (wr (wr (wr (wr h 140 u p) 141 u t) 142 u b) 139 4 (u + 1)) 140 = rd (wr h 140 u p) 140 := by rw [rd_wr_ne (by decide), rd_wr_ne (by decide), rd_wr_ne (by decide)]
  have c141 : rd (wr (wr (wr (wr h 140 u p) 141 u t) 142 u b) 139 4 (u + 1)) 141 = rd (wr h 141 u t) 141 := by rw [rd_wr_ne (by decide), rd_wr_ne (by decide)]; exact rd_cg (rd_wr_ne (by decide))
  have c142 : rd (wr (wr (wr (wr h 140 u p) 141 u t) 142 u b) 139 4 (u + 1)) 142 = rd (wr h 142 u b) 142 := by rw [rd_wr_ne (by decide)]; exact rd_cg (by rw [rd_wr_ne (by decide), rd_wr_ne (by decide)])
  have a1 : Tide_tell F 1 p t b h = some (u, wr (wr (wr (wr h 140 u p) 141 u t) 142 u b) 139 4 (u + 1)) := by
    unfold Tide_tell Told_add
    rw [ivT s, c_isPart s cd, cl_some, if_pos cp, if_neg (by decide), c_isMinute, cl_some, if_pos ct, if_neg (by decide), gT10 s, ivD s, gD4 s, t1, if_pos (by omega), gD0 s, gD4 s, t1, sD0 s (by omega) (by omega), gD1 s1, gD4 s1, rd_a (by decide), t1, sD1 s1 (by omega) (by omega), gD2 s2, gD4 s2, rd_a (by decide), rd_a (by decide), t1, sD2 s2 (by omega) (by omega) hb, gD4 s3, rd_a (by decide), rd_a (by decide), rd_a (by decide), t1, w32_id (by omega) (by omega), pD4 s3, gD4 s4, rd_same, w32_id (by omega) (by omega), cl_some, show u + 1 - 1 = u by omega]
  have z1 : hsz (wr (wr (wr (wr h 140 u p) 141 u t) 142 u b) 139 4 (u + 1)) = hsz h ∧ hus (wr (wr (wr (wr h 140 u p) 141 u t) 142 u b) 139 4 (u + 1)) = hus h ∧ hkd (wr (wr (wr (wr h 140 u p) 141 u t) 142 u b) 139 4 (u + 1)) = hkd h ∧ hln (wr (wr (wr (wr h 140 u p) 141 u t) 142 u b) 139 4 (u + 1)) = hln h := ⟨rfl, rfl, rfl, rfl⟩
  generalize wr (wr (wr (wr h 140 u p) 141 u t) 142 u b) 139 4 (u + 1) = h1 at *
  have hX : ∀ b : Int, (139 ≤ b ∧ b ≤ 142) → b < 194 := fun b hb => by omega
  have e := RfE_X f1 hX
  have e80 : rd h1 194 80 = u := by rw [e.2 194 (by decide) (by decide), hu]
  have ed := RfE_dt e
  have ms1 := (RfE_JM e j.1).1.1
  have tD : telD h1 p t := ⟨by rw [e80]; omega, by rw [ed]; exact cp, ct⟩
  have q1 : Sh (wr h1 249 u p) := shOk f1.1 (okW_arr (by decide) (fun _ => by decide))
  have q2 : Sh (wr (wr h1 249 u p) 250 u t) := shOk q1 (okW_arr (by decide) (fun _ => by decide))
  have q3 : Sh (wr (wr (wr h1 249 u p) 250 u t) 251 u b) := shOk q2 (okW_arr (by decide) (fun _ => by decide))
  have q4 : Sh (wr (wr (wr (wr h1 249 u p) 250 u t) 251 u b) 194 80 (u + 1)) := sh80 q3 _
  have w : RfW h1 (wr (wr (wr (wr h1 249 u p) 250 u t) 251 u b) 194 80 (u + 1)) := ⟨⟨rfl, rfl, rfl, rfl⟩, q4, fun x hx => by
    unfold Xr at hx
    rw [rd_wr_ne (by omega), rd_wr_ne (by omega), rd_wr_ne (by omega), rd_wr_ne (by omega)]⟩
  have n80 : rd (wr (wr (wr (wr h1 249 u p) 250 u t) 251 u b) 194 80 (u + 1)) 194 80 = u + 1 := rd_same _ _ _ _
  have n249 : rd (wr (wr (wr (wr h1 249 u p) 250 u t) 251 u b) 194 80 (u + 1)) 249 = rd (wr h1 249 u p) 249 := by rw [rd_wr_ne (by decide), rd_wr_ne (by decide), rd_wr_ne (by decide)]
  have n250 : rd (wr (wr (wr (wr h1 249 u p) 250 u t) 251 u b) 194 80 (u + 1)) 250 = rd (wr h1 250 u t) 250 := by rw [rd_wr_ne (by decide), rd_wr_ne (by decide)]; exact rd_cg (rd_wr_ne (by decide))
  have n251 : rd (wr (wr (wr (wr h1 249 u p) 250 u t) 251 u b) 194 80 (u + 1)) 251 = rd (wr h1 251 u b) 251 := by rw [rd_wr_ne (by decide)]; exact rd_cg (by rw [rd_wr_ne (by decide), rd_wr_ne (by decide)])
  have nk : ∀ k, k ≠ 80 → rd (wr (wr (wr (wr h1 249 u p) 250 u t) 251 u b) 194 80 (u + 1)) 194 k = rd h1 194 k := fun k hk => by rw [rd_i hk, rd_a (by decide), rd_a (by decide), rd_a (by decide)]
  have na : ∀ a, a ≠ 194 → ¬ (249 ≤ a ∧ a ≤ 251) → rd (wr (wr (wr (wr h1 249 u p) 250 u t) 251 u b) 194 80 (u + 1)) a = rd h1 a := fun a q1 q2 => by
    rw [rd_wr_ne (by omega), rd_wr_ne (by omega), rd_wr_ne (by omega), rd_wr_ne (by omega)]
  have eh : telH h1 p t b = wr (wr (wr (wr h1 249 u p) 250 u t) 251 u b) 194 80 (u + 1) := by unfold telH; rw [if_pos tD, e80]
  refine ⟨u, h1, wr (wr (wr (wr h1 249 u p) 250 u t) 251 u b) 194 80 (u + 1), Λ, a1, f1.1, ?_, ?_, Sc_X s f1 (by omega), Sc_W w⟩
  · show Mod_tell F 194 p t b h1 = _
    rw [m_tell ms1 hb, if_pos tD, e80, eh]
  · generalize wr (wr (wr (wr h1 249 u p) 250 u t) 251 u b) 194 80 (u + 1) = h2 at *
    refine (JJ_mk hn j f1 ?_ w (fun a x1 x2 x3 => na a (by omega) (by omega)) (fun k hk => nk k (by omega)) (fun b hb => by unfold Xw; omega) ?_ ?_ ?_ (by rw [n80]; omega) ?_ ?_ ?_ ?_ ?_ ?_ ?_ ?_).1
    · exact z1
    · rw [na 239 (by decide) (by decide)]; exact ms1.2.1
    · rw [na 240 (by decide) (by decide)]; exact ms1.2.2.1
    · rw [na 239 (by decide) (by decide), e.2 239 (by decide) (by decide)]; exact RwN_mono (by omega) (jRw j)
    · exact bt_k j f1 hX (na 195 (by decide) (by decide)) (na 196 (by decide) (by decide)) (nk 2 (by decide))
    · intro i i0 i1
      rw [n80] at i1
      have hd2 : dt h2 = dt h1 := dt_eq ⟨nk 18 (by decide), fun a q1 q2 => na a (by omega) (by omega), fun a q1 q2 => na a (by omega) (by omega)⟩
      rw [n249, n251, rd_wr, rd_wr, hd2, ed]
      by_cases c : i = u
      · rw [if_pos ⟨rfl, c⟩, if_pos ⟨rfl, c⟩]; exact ⟨cp, hb⟩
      · have := j.1.2.2.2.2.2.2.2.1 i i0 (by omega)
        rw [if_neg (fun q => c q.2), if_neg (fun q => c q.2), e.2 249 (by decide) (by decide), e.2 251 (by decide) (by decide)]
        exact this
    · exact tp_k j f1 w hX (by omega) (na 195 (by decide) (by decide)) (nk 2 (by decide)) (nk 17 (by decide))
    · exact st_k j f1 w hX (fun b hb => by omega) (na 239 (by decide) (by decide))
    · exact ps_k j f1 w hX (by omega) (na 239 (by decide) (by decide)) (na 241 (by decide) (by decide)) (nk 64 (by decide))
    · exact hd_k j f1 w hX (fun b hb => by omega) (na 252 (by decide) (by decide)) (na 253 (by decide) (by decide))
    · refine ⟨⟨by rw [n80, w.2.2 139 (by unfold Xr; omega), c1], by rw [n80]; omega⟩, fun i i0 i1 => ?_⟩
      rw [n80] at i1
      rw [w.2.2 140 (by unfold Xr; omega), w.2.2 141 (by unfold Xr; omega), w.2.2 142 (by unfold Xr; omega), c140, c141, c142, n249, n250, n251, rd_wr, rd_wr, rd_wr, rd_wr, rd_wr, rd_wr]
      by_cases c : i = u
      · rw [if_pos ⟨rfl, c⟩, if_pos ⟨rfl, c⟩, if_pos ⟨rfl, c⟩, if_pos ⟨rfl, c⟩, if_pos ⟨rfl, c⟩, if_pos ⟨rfl, c⟩]
        exact ⟨rfl, rfl, rfl, ct⟩
      · rw [if_neg (fun q => c q.2), if_neg (fun q => c q.2), if_neg (fun q => c q.2), if_neg (fun q => c q.2), if_neg (fun q => c q.2), if_neg (fun q => c q.2), e.2 249 (by decide) (by decide), e.2 250 (by decide) (by decide), e.2 251 (by decide) (by decide)]
        exact t3 i i0 (by omega)
    · exact pl_k j f1 w hX (fun b hb => by omega) (na 239 (by decide) (by decide))
