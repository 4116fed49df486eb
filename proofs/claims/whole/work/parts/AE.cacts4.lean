/-! send, cross, mend, undo -/
theorem c_keepIf {F : Nat} {r : Int} {h : Hp} (hF : 6000 ≤ F) (s : Sh h) (hr : ¬ r < 0) (h1 : 0 ≤ rd h 78 1 ∧ rd h 78 1 < 41) (h2 : 0 ≤ rd h 78 2 ∧ rd h 78 2 ≤ 40) : ∃ h', Tide_keepIfDone F 1 r h = some (r, h') ∧ FrX (fun b => b = 78 ∨ b = 84 ∨ b = 82) h h' ∧ (hsz h' = hsz h ∧ hus h' = hus h ∧ hkd h' = hkd h ∧ hln h' = hln h) ∧ rd h' 78 1 = (rd h 78 1 + 1) % 41 ∧ rd h' 78 2 = undA (rd h 78 2) + 1 ∧ (∀ w, 0 ≤ w → w < 3 → rd h' 84 w = 0) ∧ rd h' 82 6 = 0 := by
  have s1 : Sh (wr h 78 1 ((rd h 78 1 + 1) % 41)) := shOk s (ok78 (by decide))
  have s2 : Sh (wr (wr h 78 1 ((rd h 78 1 + 1) % 41)) 78 2 (undA (rd h 78 2) + 1)) := shOk s1 (ok78 (by decide))
  obtain ⟨fc, g1, g2⟩ := fgR s2
  refine ⟨_, ?_, FrX_trans (FrX_trans (FrX_mono (X := fun b => b = 78) (fun b hb => Or.inl hb) (FrX_wr s (ok78 (by decide)) (by decide) rfl)) (FrX_wr s1 (ok78 (by decide)) (by decide) (Or.inl rfl))) (FrX_mono (fun b hb => Or.inr hb) fc), ⟨rfl, rfl, rfl, rfl⟩, ?_, ?_, g1, g2⟩
  · have em : imin (w32 (rd h 78 2 + 1)) 40 = undA (rd h 78 2) + 1 := by
      rw [w32_id (by omega) (by omega)]
      unfold imin undA
      split <;> split <;> omega
    unfold Tide_keepIfDone Past_keep
    rw [if_neg hr, gT6 s, ivP s, gP1 s, dm_ok (by decide), w32_id (by omega) (by omega), irem_e (by omega) (by omega) (by decide) (by decide), pP1 s, gP2 s1, rd_i (by decide), lt_eq, em, pP2 s1, cl_some, gT9 s2, ivN s2, c_forgetRows (by omega) s2, cl_some]
  · rw [rd_a (by decide), rd_a (by decide), rd_a (by decide), rd_a (by decide), rd_i (by decide), rd_same]
  · rw [rd_a (by decide), rd_a (by decide), rd_a (by decide), rd_a (by decide), rd_same]
theorem act_no {n : Int} {h h1 : Hp} {Λ : Nat → Lw} (hn : n < 900) (j : JJ n h Λ) (fa : FrA 79 h h1) (sl : ∀ i, ¬ (10 * rd h 78 1 ≤ i ∧ i < 10 * rd h 78 1 + 10) → rd h1 79 i = rd h 79 i) : RfE h h1 ∧ JJ (n + 1) (cpH h1) Λ := by
  have f1 := FrX_FrA (by decide) fa
  have hX : ∀ b : Int, b = 79 → b < 194 := fun b hb => by omega
  have e := RfE_X f1 hX
  have jm1 := RfE_JM e j.1
  have ms1 := jm1.1.1
  refine ⟨e, ?_⟩
  have w : RfW h1 (cpH h1) := ⟨⟨rfl, rfl, rfl, rfl⟩, (cpH_mo ms1.1).1, fun x hx => cpH_ne (by unfold Xr at hx; omega)⟩
  have na : ∀ a, a ≠ 240 → rd (cpH h1) a = rd h1 a := fun a ha => cpH_ne ha
  have nk : ∀ i, rd (cpH h1) 194 i = rd h1 194 i := fun i => by rw [na 194 (by decide)]
  have n240 := cpH_240 h1
  have hd2 := cpH_dt h1
  generalize cpH h1 = h2 at *
  refine (JJ_mk hn j f1 fa.1 w (fun a x1 x2 x3 => na a (by omega)) (fun k hk => nk k) (fun b hb => by unfold Xw; omega) ?_ ?_ ?_ ?_ ?_ ?_ ?_ ?_ ?_ ?_ ?_ ?_).1
  · rw [na 239 (by decide)]; exact ms1.2.1
  · rw [n240]; exact ms1.2.1
  · rw [na 239 (by decide), e.2 239 (by decide) (by decide)]; exact RwN_mono (by omega) (jRw j)
  · rw [nk]; exact ms1.2.2.2.2.2.2
  · exact bt_k j f1 hX (na 195 (by decide)) (na 196 (by decide)) (nk 2)
  · have td := jm1.2.2.2.2.2.2.2.1
    unfold Tdk at td ⊢
    rw [nk, na 249 (by decide), na 251 (by decide), hd2]; exact td
  · exact tp_k j f1 w hX (by omega) (na 195 (by decide)) (nk 2) (nk 17)
  · exact st_k j f1 w hX (fun b hb => by omega) (na 239 (by decide))
  · rw [na 239 (by decide), na 241 (by decide), nk, e.2 239 (by decide) (by decide), e.2 241 (by decide) (by decide), e.2 194 (by decide) (by decide)]
    exact PsI_X (RfW_X w) (by unfold Xr; omega) (PsI_note (fa.2.2 78 (by decide)) sl (PsI_mono (by omega) j.2.1.2.2.2.2.1))
  · exact hd_k j f1 w hX (fun b hb => by omega) (na 252 (by decide)) (na 253 (by decide))
  · exact jt_k j f1 w hX (fun b hb => by omega) (nk 80) (fun a q1 q2 => na a (by omega))
  · exact pl_k j f1 w hX (fun b hb => by omega) (na 239 (by decide))
theorem Sc_act (h : Hp) (R : Int → Int) (k w p : Int) : Sc h (actH h R k w p) := by
  refine ⟨rfl, ?_⟩
  unfold actH kpsH
  rw [rd_sr_ne (by decide), rd_sr_ne (by decide), rd_wr_ne (by decide), rd_sr_ne (by decide), rd_sr_ne (by decide)]
theorem act_yes {F : Nat} {n r k w w' p : Int} {h ha hb : Hp} {R : Int → Int} {Λ : Nat → Lw} (hF : 6000 ≤ F) (hn : n < 900) (hr : ¬ r < 0) (j : JJ n h Λ) (fa : FrA 79 h ha) (sl : ∀ i, ¬ (10 * rd h 78 1 ≤ i ∧ i < 10 * rd h 78 1 + 10) → rd ha 79 i = rd h 79 i) (nt : NtC ha (dt h 1 0) (rd h 78 1) w p (rd h 239)) (hw : 0 ≤ w ∧ w < 3) (hp : 0 ≤ p ∧ p < 8) (fb : FrS 66 ha hb) (st : StE hb 66 (dt h) (actR R k w' p)) (rn : RwN (n + 1) (dt h) (actR R k w' p)) (zo : Zo 140 (actR R k w' p)) (lk : Lnk (rd h 239) (actR R k w' p) w p) : ∃ h1, Tide_keepIfDone F 1 r hb = some (r, h1) ∧ Sh h1 ∧ RfE h h1 ∧ JJ (n + 1) (actH h1 R k w' p) Λ ∧ Sc h h1 ∧ Sc h1 (actH h1 R k w' p) := by
  have dk := jD j
  have ps := j.2.1.2.2.2.2.1
  have b78 : rd hb 78 = rd h 78 := (fb.2.2 78 (by decide)).trans (fa.2.2 78 (by decide))
  have b79 : rd hb 79 = rd ha 79 := fb.2.2 79 (by decide)
  obtain ⟨h1, k1, k2, kz, k3, k4, k5, k6⟩ := c_keepIf (F := F) (r := r) hF fb.2.1 hr (by rw [b78]; exact ps.2.2.1) (by rw [b78, ps.1]; exact ps.2.1)
  have f1 : FrX (fun b => (66 ≤ b ∧ b ≤ 79) ∨ b = 84 ∨ b = 82) h h1 := FrX_trans (FrX_trans (FrX_mono (fun b hb => Or.inl (by omega)) (FrX_FrA (by decide) fa)) (FrX_mono (fun b hb => Or.inl ⟨hb.1, by omega⟩) (FrX_FrS (Or.inl rfl) fb))) (FrX_mono (fun b hb => by omega) k2)
  have z1 : hsz h1 = hsz h ∧ hus h1 = hus h ∧ hkd h1 = hkd h ∧ hln h1 = hln h := ⟨kz.1.trans (fb.1.1.trans fa.1.1), kz.2.1.trans (fb.1.2.1.trans fa.1.2.1), kz.2.2.1.trans (fb.1.2.2.1.trans fa.1.2.2.1), kz.2.2.2.trans (fb.1.2.2.2.trans fa.1.2.2.2)⟩
  have hX : ∀ b : Int, ((66 ≤ b ∧ b ≤ 79) ∨ b = 84 ∨ b = 82) → b < 194 := fun b hb => by omega
  have e := RfE_X f1 hX
  have jm1 := RfE_JM e j.1
  have ms1 := jm1.1.1
  refine ⟨h1, k1, k2.1, e, ?_, Sc_X (jS j) f1 (by omega), Sc_act _ _ _ _ _⟩
  have st1 : StE h1 66 (dt h) (actR R k w' p) := StE_X dk.2.1.2 k2 (fun a q1 q2 => by omega) st
  have pss : PsI (n + 1) h1 (dt h) (undA (rd h 194 64) + 1) (actR R k w' p) (hisB (hisA (rd h 241) (rd h 194 64)) (rd h 239) (undA (rd h 194 64))) := by
    have e1 : rd h1 79 = rd ha 79 := by rw [k2.2.2.2.1 79 (by decide) (by omega), b79]
    refine PsI_keep (h := ha) dk.2.1.2 dk.1.1 (PsI_note (fa.2.2 78 (by decide)) sl (PsI_mono (by omega) ps)) (RwN_mono (by omega) (jRw j)) (by rw [fa.2.2 78 (by decide)]; exact nt) hw hp lk e1 ?_ ?_
    · rw [k3, b78, fa.2.2 78 (by decide)]
    · rw [k4, b78, ps.1]
  unfold actH kpsH
  have x240 : rd (sr h1 240 R) 240 = R := rd_sr _ _ _
  have x241 : rd (sr h1 240 R) 241 = rd h1 241 := rd_sr_ne (by decide)
  have x239 : rd (sr h1 240 R) 239 = rd h1 239 := rd_sr_ne (by decide)
  have x194 : rd (sr h1 240 R) 194 = rd h1 194 := rd_sr_ne (by decide)
  rw [x240, x241, x239, x194, e.2 241 (by decide) (by decide), e.2 239 (by decide) (by decide), e.2 194 (by decide) (by decide)]
  have y1 : Sh (sr h1 240 R) := Sh_sr k2.1 (by decide) (by decide)
  have y2 : Sh (sr (sr h1 240 R) 241 (hisB (hisA (rd h 241) (rd h 194 64)) (rd h 239) (undA (rd h 194 64)))) := Sh_sr y1 (by decide) (by decide)
  have y3 : Sh (wr (sr (sr h1 240 R) 241 (hisB (hisA (rd h 241) (rd h 194 64)) (rd h 239) (undA (rd h 194 64)))) 194 64 (undA (rd h 194 64) + 1)) := sh64 y2 _
  have y4 : Sh (sr (sr (wr (sr (sr h1 240 R) 241 (hisB (hisA (rd h 241) (rd h 194 64)) (rd h 239) (undA (rd h 194 64)))) 194 64 (undA (rd h 194 64) + 1)) 240 (actR R k w' p)) 239 (actR R k w' p)) := Sh_sr (Sh_sr y3 (by decide) (by decide)) (by decide) (by decide)
  have na : ∀ a, a ≠ 194 → a ≠ 239 → a ≠ 240 → a ≠ 241 → rd (sr (sr (wr (sr (sr h1 240 R) 241 (hisB (hisA (rd h 241) (rd h 194 64)) (rd h 239) (undA (rd h 194 64)))) 194 64 (undA (rd h 194 64) + 1)) 240 (actR R k w' p)) 239 (actR R k w' p)) a = rd h1 a := fun a q1 q2 q3 q4 => by
    rw [rd_sr_ne q2, rd_sr_ne q3, rd_wr_ne q1, rd_sr_ne q4, rd_sr_ne q3]
  have nk : ∀ i, i ≠ 64 → rd (sr (sr (wr (sr (sr h1 240 R) 241 (hisB (hisA (rd h 241) (rd h 194 64)) (rd h 239) (undA (rd h 194 64)))) 194 64 (undA (rd h 194 64) + 1)) 240 (actR R k w' p)) 239 (actR R k w' p)) 194 i = rd h1 194 i := fun i hi => by
    rw [rd_sr_ne (by decide), rd_sr_ne (by decide), rd_i hi, rd_sr_ne (by decide), rd_sr_ne (by decide)]
  have n64 : rd (sr (sr (wr (sr (sr h1 240 R) 241 (hisB (hisA (rd h 241) (rd h 194 64)) (rd h 239) (undA (rd h 194 64)))) 194 64 (undA (rd h 194 64) + 1)) 240 (actR R k w' p)) 239 (actR R k w' p)) 194 64 = undA (rd h 194 64) + 1 := by
    rw [rd_sr_ne (by decide), rd_sr_ne (by decide), rd_same]
  have n239 : rd (sr (sr (wr (sr (sr h1 240 R) 241 (hisB (hisA (rd h 241) (rd h 194 64)) (rd h 239) (undA (rd h 194 64)))) 194 64 (undA (rd h 194 64) + 1)) 240 (actR R k w' p)) 239 (actR R k w' p)) 239 = actR R k w' p := rd_sr _ _ _
  have n240 : rd (sr (sr (wr (sr (sr h1 240 R) 241 (hisB (hisA (rd h 241) (rd h 194 64)) (rd h 239) (undA (rd h 194 64)))) 194 64 (undA (rd h 194 64) + 1)) 240 (actR R k w' p)) 239 (actR R k w' p)) 240 = actR R k w' p := by rw [rd_sr_ne (by decide), rd_sr]
  have n241 : rd (sr (sr (wr (sr (sr h1 240 R) 241 (hisB (hisA (rd h 241) (rd h 194 64)) (rd h 239) (undA (rd h 194 64)))) 194 64 (undA (rd h 194 64) + 1)) 240 (actR R k w' p)) 239 (actR R k w' p)) 241 = hisB (hisA (rd h 241) (rd h 194 64)) (rd h 239) (undA (rd h 194 64)) := by rw [rd_sr_ne (by decide), rd_sr_ne (by decide), rd_wr_ne (by decide), rd_sr]
  have w0 : RfW h1 (sr (sr (wr (sr (sr h1 240 R) 241 (hisB (hisA (rd h 241) (rd h 194 64)) (rd h 239) (undA (rd h 194 64)))) 194 64 (undA (rd h 194 64) + 1)) 240 (actR R k w' p)) 239 (actR R k w' p)) := ⟨⟨rfl, rfl, rfl, rfl⟩, y4, fun x hx => na x (by unfold Xr at hx; omega) (by unfold Xr at hx; omega) (by unfold Xr at hx; omega) (by unfold Xr at hx; omega)⟩
  generalize sr (sr (wr (sr (sr h1 240 R) 241 (hisB (hisA (rd h 241) (rd h 194 64)) (rd h 239) (undA (rd h 194 64)))) 194 64 (undA (rd h 194 64) + 1)) 240 (actR R k w' p)) 239 (actR R k w' p) = h2 at *
  refine (JJ_mk hn j f1 z1 w0 (fun a x1 x2 x3 => na a (by omega) (by omega) (by omega) (by omega)) (fun k hk => nk k (by omega)) (fun b hb => by unfold Xw; omega) ?_ ?_ ?_ ?_ ?_ ?_ ?_ ?_ ?_ ?_ ?_ ?_).1
  · rw [n239]; exact zo
  · rw [n240]; exact zo
  · rw [n239]; exact rn
  · rw [nk 80 (by decide)]; exact ms1.2.2.2.2.2.2
  · exact bt_k j f1 hX (na 195 (by decide) (by decide) (by decide) (by decide)) (na 196 (by decide) (by decide) (by decide) (by decide)) (nk 2 (by decide))
  · have td := jm1.2.2.2.2.2.2.2.1
    unfold Tdk at td ⊢
    have hd2 : dt h2 = dt h1 := dt_eq ⟨nk 18 (by decide), fun a q1 q2 => na a (by omega) (by omega) (by omega) (by omega), fun a q1 q2 => na a (by omega) (by omega) (by omega) (by omega)⟩
    rw [nk 80 (by decide), na 249 (by decide) (by decide) (by decide) (by decide), na 251 (by decide) (by decide) (by decide) (by decide), hd2]; exact td
  · exact tp_k j f1 w0 hX (by omega) (na 195 (by decide) (by decide) (by decide) (by decide)) (nk 2 (by decide)) (nk 17 (by decide))
  · rw [n239]; exact StE_X dk.2.1.2 (RfW_X w0) (fun a q1 q2 => by unfold Xr; omega) st1
  · rw [n239, n241, n64]; exact PsI_X (RfW_X w0) (by unfold Xr; omega) pss
  · exact hd_k j f1 w0 hX (fun b hb => by omega) (na 252 (by decide) (by decide) (by decide) (by decide)) (na 253 (by decide) (by decide) (by decide) (by decide))
  · exact jt_k j f1 w0 hX (fun b hb => by omega) (nk 80 (by decide)) (fun a q1 q2 => na a (by omega) (by omega) (by omega) (by omega))
  · exact pl_0 j (fun x x0 x1 => by rw [w0.2.2 84 (by unfold Xr; omega)]; exact k5 x x0 x1) (by rw [w0.2.2 82 (by unfold Xr; omega)]; exact k6) (by rw [w0.2.2 96 (by unfold Xr; omega)]; exact f1.2.2.2.1 96 (by decide) (by omega))
