/-! forget, hold, restore -/
theorem StE_cg {h : Hp} {b : Int} {D : Nat → Int → Int} {N M : Int → Int} (hw3 : D 1 0 ≤ 3) (e : ∀ i, 0 ≤ i → i < 140 → M i = N i) (g : StE h b D N) : StE h b D M := by
  obtain ⟨g1, g2, g3, g4, g5⟩ := g
  refine ⟨g1, fun w w0 w1 => ?_, fun p p0 p1 => ?_, ?_, fun i i0 i1 i2 => ?_⟩
  · rw [e _ (by omega) (by omega), e _ (by omega) (by omega), e _ (by omega) (by omega), e _ (by omega) (by omega)]; exact g2 w w0 w1
  · rw [e _ (by omega) (by omega), e _ (by omega) (by omega), e _ (by omega) (by omega), e _ (by omega) (by omega)]; exact g3 p p0 p1
  · rw [e _ (by omega) (by omega)]; exact g4
  · rw [e 44 (by omega) (by omega)] at i1
    rw [e _ (by omega) (by omega), e _ (by omega) (by omega), e _ (by omega) (by omega)]; exact g5 i i0 i1 i2
theorem RwN_cg {n : Int} {D : Nat → Int → Int} {N M : Int → Int} (hw3 : D 1 0 ≤ 3) (h0 : 0 ≤ D 0 0) (e : ∀ i, 0 ≤ i → i < 140 → M i = N i) (g : RwN n D N) : RwN n D M := by
  obtain ⟨⟨⟨g1, g2⟩, g3⟩, g4, g5, g6, g7⟩ := g
  refine ⟨⟨⟨fun w w0 w1 => ?_, fun p p0 p1 => ?_⟩, fun p p0 p1 => ?_⟩, fun i i1 i2 => ?_, fun i i1 i2 => ?_, ?_, fun p p0 p1 => ?_⟩
  · rw [e _ (by omega) (by omega), e _ (by omega) (by omega), e _ (by omega) (by omega)]; exact g1 w w0 w1
  · rw [e _ (by omega) (by omega)]; exact g2 p p0 p1
  · rw [e _ (by omega) (by omega), e _ (by omega) (by omega)]; exact g3 p p0 p1
  · rw [e 44 (by omega) (by omega)] at i1
    rw [e _ (by omega) (by omega), e _ (by omega) (by omega), e _ (by omega) (by omega)]; exact g4 i i1 i2
  · rw [e 44 (by omega) (by omega)] at i1
    rw [e _ (by omega) (by omega)]; exact g5 i i1 i2
  · rw [e 44 (by omega) (by omega)]; exact g6
  · rw [e _ (by omega) (by omega), e _ (by omega) (by omega)]; exact g7 p p0 p1
theorem pl_0 {n : Int} {h h2 : Hp} {N : Int → Int} {Λ : Nat → Lw} (j : JJ n h Λ) (e1 : ∀ w, 0 ≤ w → w < 3 → rd h2 84 w = 0) (e2 : rd h2 82 6 = 0) (e3 : rd h2 96 = rd h 96) : JPl h2 (dt h) N (fun k b => lgB h (Λ 0) k b) := ⟨fun w w0 w1 => Or.inl (e1 w w0 w1), Or.inl e2, by rw [e3]; exact j.2.2.1.2.2⟩
theorem k_forget {F : Nat} {n : Int} {h : Hp} {Λ : Nat → Lw} (hn : n < 900) (j : JJ n h Λ) : Okc n h (Tide_forget F 1 h) (fun h1 => Mod_forget F 194 h1) := by
  have s := jS j
  have ms := j.1.1.1
  obtain ⟨⟨t1, t2⟩, t3⟩ := j.2.1.2.2.2.2.2.2
  have s1 : Sh (wr h 139 4 0) := shOk s ok139
  have f1 : FrX (fun b => b = 139) h (wr h 139 4 0) := FrX_wr s ok139 (by decide) rfl
  have a1 : Tide_forget F 1 h = some (rd h 194 80, wr h 139 4 0) := by
    unfold Tide_forget
    rw [gT10 s, gD4 s, t1, gT10 s, pD4 s]
  have c1 : rd (wr h 139 4 0) 139 4 = 0 := rd_same _ _ _ _
  have z1 : hsz (wr h 139 4 0) = hsz h ∧ hus (wr h 139 4 0) = hus h ∧ hkd (wr h 139 4 0) = hkd h ∧ hln (wr h 139 4 0) = hln h := ⟨rfl, rfl, rfl, rfl⟩
  generalize wr h 139 4 0 = h1 at *
  have hX : ∀ b : Int, b = 139 → b < 194 := fun b hb => by omega
  have e := RfE_X f1 hX
  have ms1 := (RfE_JM e j.1).1.1
  have w : RfW h1 (wr h1 194 80 0) := ⟨⟨rfl, rfl, rfl, rfl⟩, sh80 s1 _, fun x hx => rd_wr_ne (by unfold Xr at hx; omega)⟩
  have n80 : rd (wr h1 194 80 0) 194 80 = 0 := rd_same _ _ _ _
  have nk : ∀ k, k ≠ 80 → rd (wr h1 194 80 0) 194 k = rd h1 194 k := fun k hk => rd_i hk
  have na : ∀ a, a ≠ 194 → rd (wr h1 194 80 0) a = rd h1 a := fun a hk => rd_wr_ne hk
  refine ⟨rd h 194 80, h1, wr h1 194 80 0, Λ, a1, s1, ?_, ?_, Sc_X s f1 (by omega), Sc_W w⟩
  · show Mod_forget F 194 h1 = _
    rw [m_forget s1, e.2 194 (by decide) (by decide)]
  · generalize wr h1 194 80 0 = h2 at *
    refine (JJ_mk hn j f1 z1 w (fun a x1 x2 x3 => na a (by omega)) (fun k hk => nk k (by omega)) (fun b hb => by unfold Xw; omega) ?_ ?_ ?_ (by rw [n80]; omega) ?_ ?_ ?_ ?_ ?_ ?_ ?_ ?_).1
    · rw [na 239 (by decide)]; exact ms1.2.1
    · rw [na 240 (by decide)]; exact ms1.2.2.1
    · rw [na 239 (by decide), e.2 239 (by decide) (by decide)]; exact RwN_mono (by omega) (jRw j)
    · exact bt_k j f1 hX (na 195 (by decide)) (na 196 (by decide)) (nk 2 (by decide))
    · intro i i0 i1
      rw [n80] at i1
      omega
    · exact tp_k j f1 w hX (by omega) (na 195 (by decide)) (nk 2 (by decide)) (nk 17 (by decide))
    · exact st_k j f1 w hX (fun b hb => by omega) (na 239 (by decide))
    · exact ps_k j f1 w hX (by omega) (na 239 (by decide)) (na 241 (by decide)) (nk 64 (by decide))
    · exact hd_k j f1 w hX (fun b hb => by omega) (na 252 (by decide)) (na 253 (by decide))
    · refine ⟨⟨by rw [n80, w.2.2 139 (by unfold Xr; omega), c1], by rw [n80]; omega⟩, fun i i0 i1 => ?_⟩
      rw [n80] at i1
      omega
    · exact pl_k j f1 w hX (fun b hb => by omega) (na 239 (by decide))
theorem Zo_fl {f g : Int → Int} (z : Zo 140 g) : Zo 140 (fl f g 140) := fun i hi => by
  unfold fl
  rw [if_neg (by omega)]
  exact z i hi
theorem isSt_s {k : Int} (hk : 0 ≤ k ∧ k < 3) : isSt (158 + 12 * k) := by unfold isSt; omega
theorem ok252 : ∀ i, okW 252 i = true := fun i => okW_arr (by decide) (fun _ => by decide)
theorem sh252 {h : Hp} (s : Sh h) (i v : Int) : Sh (wr h 252 i v) := shOk s (ok252 i)
theorem k_hold {F : Nat} {n k : Int} {h : Hp} {Λ : Nat → Lw} (hF : 6000 ≤ F) (hn : n < 900) (j : JJ n h Λ) : Okc n h (Tide_hold F 1 k h) (fun h1 => Mod_hold F 194 k h1) := by
  have s := jS j
  have ms := j.1.1.1
  have dk := jD j
  by_cases ck : 0 ≤ k ∧ k < 3
  rotate_left
  · refine okc_q0 j (r := 0) ?_ ⟨h, ?_, Fr_refl j.1.1⟩
    · unfold Tide_hold
      rw [c_isSlot, cl_some, if_neg ck, if_pos rfl, rz_0]
    · have : ¬ isS k := fun q => ck ⟨q.1, by have := q.2; omega⟩
      rw [m_hold (by omega) ms, if_neg this]
      unfold hldH
      rw [if_neg this]
  have iS : isS k := ⟨ck.1, by omega⟩
  have ist := isSt_s ck
  have rg := (jRw j).1
  obtain ⟨ha, b1, b2, b3⟩ := c_copy (F := F) (by omega) s ist (show (158 + 12 * k : Int) ≠ 66 by omega) dk.2.1.2 (jSt j) (fun p p0 p1 => (rg.2 p p0 p1).1)
  have fa := FrX_FrS ist b2
  have s1 : Sh (wr ha 81 k 1) := shOk b2.2.1 (ok81 k)
  have f1 : FrX (fun b => (158 + 12 * k ≤ b ∧ b ≤ 158 + 12 * k + 11) ∨ b = 81) h (wr ha 81 k 1) := FrX_trans (FrX_mono (fun b hb => Or.inl hb) fa) (FrX_wr b2.2.1 (ok81 k) (by decide) (Or.inr rfl))
  have a1 : Tide_hold F 1 k h = some (1, wr ha 81 k 1) := by
    unfold Tide_hold
    rw [c_isSlot, cl_some, if_pos ck, if_neg (by decide), gT7 s, aT7 s ck.1 ck.2, gT5 s, ivS s ist, b1, cl_some, gT8 b2.2.1, sT8 b2.2.1 ck.1 ck.2 (Or.inr rfl), rz_1]
  have c81 : rd (wr ha 81 k 1) 81 = rd (wr h 81 k 1) 81 := rd_cg (b2.2.2 81 (by omega))
  have st1 : StE (wr ha 81 k 1) (158 + 12 * k) (dt h) (rd h 239) := StE_X dk.2.1.2 (FrX_wr (X := fun b => b = 81) b2.2.1 (ok81 k) (by decide) rfl) (fun a q1 q2 => by omega) b3
  have z1 : hsz (wr ha 81 k 1) = hsz h ∧ hus (wr ha 81 k 1) = hus h ∧ hkd (wr ha 81 k 1) = hkd h ∧ hln (wr ha 81 k 1) = hln h := b2.1
  generalize wr ha 81 k 1 = h1 at *
  have hX : ∀ b : Int, ((158 + 12 * k ≤ b ∧ b ≤ 158 + 12 * k + 11) ∨ b = 81) → b < 194 := fun b hb => by omega
  have e := RfE_X f1 hX
  have ms1 := (RfE_JM e j.1).1.1
  have q1 : Sh (wr h1 252 k 1) := sh252 s1 _ _
  have e239 := e.2 239 (by decide) (by decide)
  have w : RfW h1 (sr (wr h1 252 k 1) 253 (hisB (rd h1 253) (rd h1 239) k)) := ⟨⟨rfl, rfl, rfl, rfl⟩, Sh_sr q1 (by decide) (by decide), fun x hx => by unfold Xr at hx; rw [rd_sr_ne (by omega), rd_wr_ne (by omega)]⟩
  have n252 : rd (sr (wr h1 252 k 1) 253 (hisB (rd h1 253) (rd h1 239) k)) 252 = rd (wr h1 252 k 1) 252 := rd_sr_ne (by decide)
  have n253 : rd (sr (wr h1 252 k 1) 253 (hisB (rd h1 253) (rd h1 239) k)) 253 = hisB (rd h1 253) (rd h1 239) k := rd_sr _ _ _
  have na : ∀ a, a ≠ 252 → a ≠ 253 → rd (sr (wr h1 252 k 1) 253 (hisB (rd h1 253) (rd h1 239) k)) a = rd h1 a := fun a q1 q2 => by rw [rd_sr_ne q2, rd_wr_ne q1]
  refine ⟨1, h1, sr (wr h1 252 k 1) 253 (hisB (rd h1 253) (rd h1 239) k), Λ, a1, s1, ?_, ?_, Sc_X s f1 (by omega), Sc_W w⟩
  · show Mod_hold F 194 k h1 = _
    rw [m_hold (by omega) ms1, if_pos iS]
    unfold hldH
    rw [if_pos iS]
  · generalize sr (wr h1 252 k 1) 253 (hisB (rd h1 253) (rd h1 239) k) = h2 at *
    have nk : ∀ i, rd h2 194 i = rd h1 194 i := fun i => by rw [na 194 (by decide) (by decide)]
    refine (JJ_mk hn j f1 z1 w (fun a x1 x2 x3 => na a (by omega) (by omega)) (fun k hk => nk k) (fun b hb => by unfold Xw; omega) ?_ ?_ ?_ ?_ ?_ ?_ ?_ ?_ ?_ ?_ ?_ ?_).1
    · rw [na 239 (by decide) (by decide)]; exact ms1.2.1
    · rw [na 240 (by decide) (by decide)]; exact ms1.2.2.1
    · rw [na 239 (by decide) (by decide), e239]; exact RwN_mono (by omega) (jRw j)
    · rw [nk]; exact ms1.2.2.2.2.2.2
    · exact bt_k j f1 hX (na 195 (by decide) (by decide)) (na 196 (by decide) (by decide)) (nk 2)
    · have td := (RfE_JM e j.1).2.2.2.2.2.2.2.1
      unfold Tdk at td ⊢
      have hd2 : dt h2 = dt h1 := dt_eq ⟨nk 18, fun a q1 q2 => na a (by omega) (by omega), fun a q1 q2 => na a (by omega) (by omega)⟩
      rw [nk, na 249 (by decide) (by decide), na 251 (by decide) (by decide), hd2]; exact td
    · exact tp_k j f1 w hX (by omega) (na 195 (by decide) (by decide)) (nk 2) (nk 17)
    · exact st_k j f1 w hX (fun b hb => by omega) (na 239 (by decide) (by decide))
    · exact ps_k j f1 w hX (by omega) (na 239 (by decide) (by decide)) (na 241 (by decide) (by decide)) (nk 64)
    · intro i i0 i1
      obtain ⟨d1, d2, d3⟩ := j.2.1.2.2.2.2.2.1 i i0 i1
      rw [w.2.2 81 (by unfold Xr; omega), c81, n252, n253, rd_wr, rd_wr]
      by_cases c : i = k
      · rw [if_pos ⟨rfl, c⟩, if_pos ⟨rfl, c⟩]
        refine ⟨rfl, Or.inr rfl, fun _ => ?_⟩
        have hr : ∀ x, 0 ≤ x → x < 140 → rowR (hisB (rd h1 253) (rd h1 239) k) i x = rd h 239 x := fun x x0 x1 => by
          unfold rowR hisB
          rw [if_pos (by omega), e239, show 140 * i + x - 140 * k = x by omega]
        refine ⟨StE_cg dk.2.1.2 hr ?_, RwN_cg dk.2.1.2 dk.1.1 hr (RwN_mono (by omega) (jRw j))⟩
        rw [c]
        exact StE_X dk.2.1.2 (RfW_X w) (fun a q1 q2 => by unfold Xr; omega) st1
      · rw [if_neg (fun q => c q.2), if_neg (fun q => c q.2), e.2 252 (by decide) (by decide)]
        refine ⟨d1, d2, fun q => ?_⟩
        have hr : ∀ x, 0 ≤ x → x < 140 → rowR (hisB (rd h1 253) (rd h1 239) k) i x = rowR (rd h 253) i x := fun x x0 x1 => by
          unfold rowR hisB
          rw [if_neg (by omega), e.2 253 (by decide) (by decide)]
        refine ⟨StE_cg dk.2.1.2 hr ?_, RwN_cg dk.2.1.2 dk.1.1 hr (RwN_mono (by omega) (d3 q).2)⟩
        exact StE_X dk.2.1.2 (RfW_X w) (fun a q1 q2 => by unfold Xr; omega) (StE_X dk.2.1.2 f1 (fun a q1 q2 => by omega) (d3 q).1)
    · exact jt_k j f1 w hX (fun b hb => by omega) (nk 80) (fun a q1 q2 => na a (by omega) (by omega))
    · exact pl_k j f1 w hX (fun b hb => by omega) (na 239 (by decide) (by decide))
theorem fgR {h : Hp} (s : Sh h) : FrX (fun b => b = 84 ∨ b = 82) h (wr (wr (wr (wr h 84 0 0) 84 1 0) 84 2 0) 82 6 0) ∧ (∀ w, 0 ≤ w → w < 3 → rd (wr (wr (wr (wr h 84 0 0) 84 1 0) 84 2 0) 82 6 0) 84 w = 0) ∧ rd (wr (wr (wr (wr h 84 0 0) 84 1 0) 84 2 0) 82 6 0) 82 6 = 0 := by
  have s1 : Sh (wr h 84 0 0) := shOk s (ok84 0)
  have s2 : Sh (wr (wr h 84 0 0) 84 1 0) := shOk s1 (ok84 1)
  have s3 : Sh (wr (wr (wr h 84 0 0) 84 1 0) 84 2 0) := shOk s2 (ok84 2)
  refine ⟨FrX_trans (FrX_trans (FrX_trans (FrX_wr s (ok84 0) (by decide) (Or.inl rfl)) (FrX_wr s1 (ok84 1) (by decide) (Or.inl rfl))) (FrX_wr s2 (ok84 2) (by decide) (Or.inl rfl))) (FrX_wr s3 (ok82 rfl) (by decide) (Or.inr rfl)), fun w w0 w1 => ?_, rd_same _ _ _ _⟩
  rw [rd_a (by decide), rd_wr, rd_wr, rd_wr]
  by_cases c2 : w = 2
  · rw [if_pos ⟨rfl, c2⟩]
  · rw [if_neg (fun q => c2 q.2)]
    by_cases c1 : w = 1
    · rw [if_pos ⟨rfl, c1⟩]
    · rw [if_neg (fun q => c1 q.2), if_pos ⟨rfl, by omega⟩]
theorem k_restore {F : Nat} {n k : Int} {h : Hp} {Λ : Nat → Lw} (hF : 6000 ≤ F) (hn : n < 900) (j : JJ n h Λ) : Okc n h (Tide_restore F 1 k h) (fun h1 => Mod_restore F 194 k h1) := by
  have s := jS j
  have ms := j.1.1.1
  have dk := jD j
  by_cases ck : 0 ≤ k ∧ k < 3
  rotate_left
  · refine okc_q0 j (r := 0) ?_ ⟨h, ?_, Fr_refl j.1.1⟩
    · unfold Tide_restore
      rw [c_isSlot, cl_some, if_neg ck, if_pos rfl, rz_0]
    · have : ¬ (isS k ∧ rd h 252 k ≠ 0) := fun q => ck ⟨q.1.1, by have := q.1.2; omega⟩
      rw [m_restore (by omega) ms, if_neg this]
      unfold rstH
      rw [if_neg this]
  obtain ⟨d1, d2, d3⟩ := j.2.1.2.2.2.2.2.1 k ck.1 ck.2
  by_cases cz : rd h 252 k = 0
  · refine okc_q0 j (r := 0) ?_ ⟨h, ?_, Fr_refl j.1.1⟩
    · unfold Tide_restore
      rw [c_isSlot, cl_some, if_pos ck, if_neg (by decide), gT8 s, aT8 s ck.1 ck.2, d1, if_pos cz, rz_0]
    · have : ¬ (isS k ∧ rd h 252 k ≠ 0) := fun q => q.2 cz
      rw [m_restore (by omega) ms, if_neg this]
      unfold rstH
      rw [if_neg this]
  have iS : isS k := ⟨ck.1, by omega⟩
  have ist := isSt_s ck
  have i66 : isSt 66 := (jSt j).1
  obtain ⟨st, rw0⟩ := d3 (by omega)
  obtain ⟨ha, b1, b2, b3⟩ := c_copy (F := F) (by omega) s i66 (show (66 : Int) ≠ 158 + 12 * k by omega) dk.2.1.2 st (fun p p0 p1 => (rw0.1.2 p p0 p1).1)
  have fa := FrX_FrS i66 b2
  have sb : Sh (wr ha 78 2 0) := shOk b2.2.1 (ok78 (by decide))
  have fb : FrX (fun b => b = 78) ha (wr ha 78 2 0) := FrX_wr b2.2.1 (ok78 (by decide)) (by decide) rfl
  obtain ⟨fc, g1, g2⟩ := fgR sb
  have f1 : FrX (fun b => (66 ≤ b ∧ b ≤ 78) ∨ b = 84 ∨ b = 82) h (wr (wr (wr (wr (wr ha 78 2 0) 84 0 0) 84 1 0) 84 2 0) 82 6 0) := FrX_trans (FrX_trans (FrX_mono (fun b hb => Or.inl ⟨hb.1, by omega⟩) fa) (FrX_mono (fun b hb => Or.inl (by omega)) fb)) (FrX_mono (fun b hb => Or.inr hb) fc)
  have st1 : StE (wr (wr (wr (wr (wr ha 78 2 0) 84 0 0) 84 1 0) 84 2 0) 82 6 0) 66 (dt h) (rowR (rd h 253) k) := StE_X dk.2.1.2 (FrX_trans (FrX_mono (Y := fun b => 78 ≤ b) (fun b hb => by omega) fb) (FrX_mono (fun b hb => by omega) fc)) (fun a q1 q2 => by omega) b3
  have a1 : Tide_restore F 1 k h = some (1, wr (wr (wr (wr (wr ha 78 2 0) 84 0 0) 84 1 0) 84 2 0) 82 6 0) := by
    unfold Tide_restore
    rw [c_isSlot, cl_some, if_pos ck, if_neg (by decide), gT8 s, aT8 s ck.1 ck.2, d1, if_neg cz, gT5 s, gT7 s, aT7 s ck.1 ck.2, ivS s i66, b1, cl_some, gT6 b2.2.1, pP2 b2.2.1, gT9 sb, ivN sb, c_forgetRows (by omega) sb, cl_some, rz_1]
  have z1 : hsz (wr (wr (wr (wr (wr ha 78 2 0) 84 0 0) 84 1 0) 84 2 0) 82 6 0) = hsz h ∧ hus (wr (wr (wr (wr (wr ha 78 2 0) 84 0 0) 84 1 0) 84 2 0) 82 6 0) = hus h ∧ hkd (wr (wr (wr (wr (wr ha 78 2 0) 84 0 0) 84 1 0) 84 2 0) 82 6 0) = hkd h ∧ hln (wr (wr (wr (wr (wr ha 78 2 0) 84 0 0) 84 1 0) 84 2 0) 82 6 0) = hln h := b2.1
  have c78 : rd (wr (wr (wr (wr (wr ha 78 2 0) 84 0 0) 84 1 0) 84 2 0) 82 6 0) 78 = rd (wr h 78 2 0) 78 := by
    rw [rd_wr_ne (by decide), rd_wr_ne (by decide), rd_wr_ne (by decide), rd_wr_ne (by decide)]; exact rd_cg (b2.2.2 78 (by decide))
  generalize wr (wr (wr (wr (wr ha 78 2 0) 84 0 0) 84 1 0) 84 2 0) 82 6 0 = h1 at *
  have s1 := f1.1
  have hX : ∀ b : Int, ((66 ≤ b ∧ b ≤ 78) ∨ b = 84 ∨ b = 82) → b < 194 := fun b hb => by omega
  have e := RfE_X f1 hX
  have ms1 := (RfE_JM e j.1).1.1
  have q1 : Sh (sr h1 239 (fl (fun i => rd h1 253 (140 * k + i)) (rd h1 239) 140)) := Sh_sr s1 (by decide) (by decide)
  have w : RfW h1 (wr (sr h1 239 (fl (fun i => rd h1 253 (140 * k + i)) (rd h1 239) 140)) 194 64 0) := ⟨⟨rfl, rfl, rfl, rfl⟩, sh64 q1 _, fun x hx => by unfold Xr at hx; rw [rd_wr_ne (by omega), rd_sr_ne (by omega)]⟩
  have n239 : rd (wr (sr h1 239 (fl (fun i => rd h1 253 (140 * k + i)) (rd h1 239) 140)) 194 64 0) 239 = fl (fun i => rd h1 253 (140 * k + i)) (rd h1 239) 140 := by rw [rd_wr_ne (by decide), rd_sr]
  have n64 : rd (wr (sr h1 239 (fl (fun i => rd h1 253 (140 * k + i)) (rd h1 239) 140)) 194 64 0) 194 64 = 0 := rd_same _ _ _ _
  have na : ∀ a, a ≠ 194 → a ≠ 239 → rd (wr (sr h1 239 (fl (fun i => rd h1 253 (140 * k + i)) (rd h1 239) 140)) 194 64 0) a = rd h1 a := fun a q1 q2 => by rw [rd_wr_ne q1, rd_sr_ne q2]
  have nk : ∀ i, i ≠ 64 → rd (wr (sr h1 239 (fl (fun i => rd h1 253 (140 * k + i)) (rd h1 239) 140)) 194 64 0) 194 i = rd h1 194 i := fun i hi => by rw [rd_i hi, rd_sr_ne (by decide)]
  have cnd : isS k ∧ rd h1 252 k ≠ 0 := ⟨iS, by rw [e.2 252 (by decide) (by decide)]; exact cz⟩
  refine ⟨1, h1, wr (sr h1 239 (fl (fun i => rd h1 253 (140 * k + i)) (rd h1 239) 140)) 194 64 0, Λ, a1, s1, ?_, ?_, Sc_X s f1 (by omega), Sc_W w⟩
  · show Mod_restore F 194 k h1 = _
    rw [m_restore (by omega) ms1, if_pos cnd]
    unfold rstH
    rw [if_pos cnd]
  · generalize wr (sr h1 239 (fl (fun i => rd h1 253 (140 * k + i)) (rd h1 239) 140)) 194 64 0 = h2 at *
    have hr : ∀ x, 0 ≤ x → x < 140 → rd h2 239 x = rowR (rd h 253) k x := fun x x0 x1 => by
      rw [n239, e.2 253 (by decide) (by decide)]
      unfold fl rowR
      rw [if_pos ⟨x0, x1⟩]
    refine (JJ_mk hn j f1 z1 w (fun a x1 x2 x3 => na a (by omega) (by omega)) (fun k hk => nk k (by omega)) (fun b hb => by unfold Xw; omega) ?_ ?_ ?_ ?_ ?_ ?_ ?_ ?_ ?_ ?_ ?_ ?_).1
    · rw [n239]; exact Zo_fl ms1.2.1
    · rw [na 240 (by decide) (by decide)]; exact ms1.2.2.1
    · exact RwN_cg dk.2.1.2 dk.1.1 hr (RwN_mono (by omega) rw0)
    · rw [nk 80 (by decide)]; exact ms1.2.2.2.2.2.2
    · exact bt_k j f1 hX (na 195 (by decide) (by decide)) (na 196 (by decide) (by decide)) (nk 2 (by decide))
    · have td := (RfE_JM e j.1).2.2.2.2.2.2.2.1
      unfold Tdk at td ⊢
      have hd2 : dt h2 = dt h1 := dt_eq ⟨nk 18 (by decide), fun a q1 q2 => na a (by omega) (by omega), fun a q1 q2 => na a (by omega) (by omega)⟩
      rw [nk 80 (by decide), na 249 (by decide) (by decide), na 251 (by decide) (by decide), hd2]; exact td
    · exact tp_k j f1 w hX (by omega) (na 195 (by decide) (by decide)) (nk 2 (by decide)) (nk 17 (by decide))
    · exact StE_cg dk.2.1.2 hr (StE_X dk.2.1.2 (RfW_X w) (fun a q1 q2 => by unfold Xr; omega) st1)
    · have p3 := j.2.1.2.2.2.2.1.2.2.1
      refine ⟨by rw [n64, w.2.2 78 (by unfold Xr; omega), c78]; exact rd_same _ _ _ _, by rw [n64]; omega, by rw [w.2.2 78 (by unfold Xr; omega), c78, rd_i (by decide)]; exact p3, fun x x0 x1 => ?_⟩
      rw [n64] at x1
      omega
    · exact hd_k j f1 w hX (fun b hb => by omega) (na 252 (by decide) (by decide)) (na 253 (by decide) (by decide))
    · exact jt_k j f1 w hX (fun b hb => by omega) (nk 80 (by decide)) (fun a q1 q2 => na a (by omega) (by omega))
    · exact pl_0 j (fun x x0 x1 => by rw [w.2.2 84 (by unfold Xr; omega)]; exact g1 x x0 x1) (by rw [w.2.2 82 (by unfold Xr; omega)]; exact g2) (by rw [w.2.2 96 (by unfold Xr; omega)]; exact f1.2.2.2.1 96 (by decide) (by omega))
