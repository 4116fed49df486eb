/-! the class's tape, tellings -/
theorem JM_w {n : Int} {h h2 : Hp} {Λ : Nat → Lw} (s2 : Sh h2) (ea : ∀ a, 194 < a → a < 254 → ¬ (a = 195 ∨ a = 241 ∨ (249 ≤ a ∧ a ≤ 253)) → rd h2 a = rd h a) (ek : ∀ k, ¬ (k = 2 ∨ k = 17 ∨ k = 64 ∨ k = 80) → rd h2 194 k = rd h 194 k) (b64 : 0 ≤ rd h2 194 64 ∧ rd h2 194 64 ≤ 40) (b80 : 0 ≤ rd h2 194 80 ∧ rd h2 194 80 ≤ 20) (bt : BytI h2) (td : Tdk h2) (j : JM n h Λ) : JM n h2 Λ := by
  obtain ⟨⟨⟨⟨s, l, d⟩, m2, m3, m4, m5, m6, m7⟩, m8⟩, j2, j3, j4, j5, j6, j7, j8, j9⟩ := j
  have ed : dt h2 = dt h := dt_eq ⟨ek 18 (by decide), fun a h1 h2 => ea a (by omega) (by omega) (by omega), fun a h1 h2 => ea a (by omega) (by omega) (by omega)⟩
  have e239 := ea 239 (by decide) (by decide) (by decide)
  refine ⟨⟨⟨⟨s2, by rw [ek 18 (by decide)]; exact l, by rw [ed]; exact d⟩, by rw [e239]; exact m2, by rw [ea 240 (by decide) (by decide) (by decide)]; exact m3, by rw [ed, e239]; exact m4, by rw [e239]; exact m5, b64, b80⟩, by rw [ea 242 (by decide) (by decide) (by decide)]; exact m8⟩, by rw [ed]; exact j2, by rw [ed]; exact j3, fun k hk => RLr_eq (ek 18 (by decide)) (fun a h1 h2 => ea a (by omega) (by omega) (by omega)) (j4 k hk), ?_, ?_, bt, td, by rw [ed, e239]; exact j9⟩
  · unfold Keys; rw [ea 201 (by decide) (by decide) (by decide)]; exact j5
  · unfold TkI; rw [ea 197 (by decide) (by decide) (by decide), ea 198 (by decide) (by decide) (by decide)]; exact j6
theorem dt_w {h h2 : Hp} (ea : ∀ a, 194 < a → a < 254 → ¬ (a = 195 ∨ a = 241 ∨ (249 ≤ a ∧ a ≤ 253)) → rd h2 a = rd h a) (ek : ∀ k, ¬ (k = 2 ∨ k = 17 ∨ k = 64 ∨ k = 80) → rd h2 194 k = rd h 194 k) : dt h2 = dt h := dt_eq ⟨ek 18 (by decide), fun a h1 h2 => ea a (by omega) (by omega) (by omega), fun a h1 h2 => ea a (by omega) (by omega) (by omega)⟩
theorem ok1 {k : Int} (hk : k = 1 ∨ k = 2) : okW 1 k = true := by rcases hk with e | e <;> subst e <;> decide +kernel
theorem ok2 : ∀ i, okW 2 i = true := fun i => okW_arr (by decide) (fun _ => by decide)
theorem Dy_X {X : Int → Prop} {h h' : Hp} (z : hsz h' = hsz h ∧ hus h' = hus h ∧ hkd h' = hkd h ∧ hln h' = hln h) (f : FrX X h h') (hX : ∀ a k, Own a k → ¬ X a) (d : Dy h) : Dy h' := Dy_eq z (fun a k o => by rw [f.2.2.2.1 a (own_lt o).2 (hX a k o)]) d
/-- a byte more, on both sides -/
def ptC (h : Hp) (v : Int) : Hp := wr (wr h 2 (rd h 1 1) v) 1 1 (rd h 1 1 + 1)
theorem ptC_f {h0 h : Hp} {v : Int} (f : FrX (fun b => b = 1 ∨ b = 2) h0 h) : FrX (fun b => b = 1 ∨ b = 2) h0 (ptC h v) := FrX_trans f (FrX_trans (h' := wr h 2 (rd h 1 1) v) (FrX_wr f.1 (ok2 _) (by decide) (Or.inr rfl)) (FrX_wr (shOk f.1 (ok2 _)) (ok1 (Or.inl rfl)) (by decide) (Or.inl rfl)))
def byT (w : Int) : List Int := [i2b (i2b (ishr w 24)), i2b (i2b (ishr w 16)), i2b (i2b (ishr w 8)), i2b (i2b (ishr w 0))]
theorem c_putBytes {F : Nat} {h : Hp} {w : Int} (hF : 6000 ≤ F) (s : Sh h) (hl : 0 ≤ rd h 1 1 ∧ rd h 1 1 ≤ 1996) : Tide_putBytes F 1 w h = some (0, (byT w).foldl ptC h) := by
  have step : ∀ (R : Int → Int → Int → Hp → Option (Int × Hp)) (x : Int) (q : Hp), Sh q → 0 ≤ rd q 1 1 → rd q 1 1 < 2000 → (x = 24 ∨ x = 16 ∨ x = 8 ∨ x = 0) → Tide_putBytes_L3s F R 1 w x q = R 1 w (x - 8) (ptC q (i2b (i2b (ishr w x)))) := by
    intro R x q sq q0 q1 hx
    have s1 : Sh (wr q 2 (rd q 1 1) (i2b (i2b (ishr w x)))) := shOk sq (ok2 _)
    unfold Tide_putBytes_L3s
    rw [if_neg (by omega), gT1 sq, if_pos q1, gT0 sq, gT1 sq, i2b_sh w hx, sT0 sq q0 q1, gT1 s1, rd_wr_ne (by decide), w32_id (by omega) (by omega), pT1 s1, w32_id (by omega) (by omega)]
    rfl
  obtain ⟨m, hm⟩ : ∃ m, F = m + 5 := ⟨F - 5, by omega⟩
  have L0 : ∀ (x : Int) (q : Hp), Tide_putBytes_L3 F F 1 w x q = Tide_putBytes_L3s F (Tide_putBytes_L3 F (m + 4)) 1 w x q := fun x q => by
    conv => lhs; arg 2; rw [hm]
    rfl
  have sh : ∀ (q : Hp) (v : Int), Sh q → Sh (ptC q v) := fun q v sq => shOk (shOk sq (ok2 _)) (ok1 (Or.inl rfl))
  have ln : ∀ (q : Hp) (v : Int), rd (ptC q v) 1 1 = rd q 1 1 + 1 := fun q v => rd_same _ _ _ _
  unfold Tide_putBytes
  have sa := sh h (i2b (i2b (ishr w 24))) s
  have sb := sh _ (i2b (i2b (ishr w 16))) sa
  have sc := sh _ (i2b (i2b (ishr w 8))) sb
  have la := ln h (i2b (i2b (ishr w 24)))
  have lb := ln (ptC h (i2b (i2b (ishr w 24)))) (i2b (i2b (ishr w 16)))
  have lc := ln (ptC (ptC h (i2b (i2b (ishr w 24)))) (i2b (i2b (ishr w 16)))) (i2b (i2b (ishr w 8)))
  rw [L0, step _ 24 h s (by omega) (by omega) (by omega), show (24 : Int) - 8 = 16 by decide]
  show Tide_putBytes_L3s F (Tide_putBytes_L3 F (m + 3)) 1 w 16 _ = _
  rw [step _ 16 _ sa (by omega) (by omega) (by omega), show (16 : Int) - 8 = 8 by decide]
  show Tide_putBytes_L3s F (Tide_putBytes_L3 F (m + 2)) 1 w 8 _ = _
  rw [step _ 8 _ sb (by omega) (by omega) (by omega), show (8 : Int) - 8 = 0 by decide]
  show Tide_putBytes_L3s F (Tide_putBytes_L3 F (m + 1)) 1 w 0 _ = _
  rw [step _ 0 _ sc (by omega) (by omega) (by omega)]
  show Tide_putBytes_L3s F (Tide_putBytes_L3 F m) 1 w (0 - 8) _ = _
  unfold Tide_putBytes_L3s
  rw [if_pos (by decide)]
  rfl
theorem bytes_fold {bs : List Int} : ∀ (h : Hp), FrX (fun b => b = 1 ∨ b = 2) h h → (∀ v ∈ bs, -128 ≤ v ∧ v ≤ 127) → 0 ≤ rd h 1 1 → rd h 1 1 + bs.length ≤ 2000 → BtC h → FrX (fun b => b = 1 ∨ b = 2) h (bs.foldl ptC h) ∧ rd (bs.foldl ptC h) 1 1 = rd h 1 1 + bs.length ∧ rd (bs.foldl ptC h) 1 2 = rd h 1 2 ∧ BtC (bs.foldl ptC h) ∧ (hsz (bs.foldl ptC h) = hsz h ∧ hus (bs.foldl ptC h) = hus h ∧ hkd (bs.foldl ptC h) = hkd h ∧ hln (bs.foldl ptC h) = hln h) := by
  induction bs with
  | nil => intro h f _ _ _ bt; exact ⟨f, by show rd h 1 1 = rd h 1 1 + ((0 : Nat) : Int); omega, rfl, bt, rfl, rfl, rfl, rfl⟩
  | cons v bs ih =>
    intro h f hv h0 hl bt
    have f1 := ptC_f (v := v) f
    have hlen : ((v :: bs).length : Int) = (bs.length : Int) + 1 := by simp
    have e1 : rd (ptC h v) 1 1 = rd h 1 1 + 1 := rd_same _ _ _ _
    have e2 : rd (ptC h v) 1 2 = rd h 1 2 := by show rd (wr (wr h 2 (rd h 1 1) v) 1 1 (rd h 1 1 + 1)) 1 2 = _; rw [rd_i (by decide), rd_wr_ne (by decide)]
    have bt1 : BtC (ptC h v) := fun i i0 i1 => by
      show -128 ≤ rd (wr (wr h 2 (rd h 1 1) v) 1 1 (rd h 1 1 + 1)) 2 i ∧ rd (wr (wr h 2 (rd h 1 1) v) 1 1 (rd h 1 1 + 1)) 2 i ≤ 127
      rw [rd_a (by decide)]
      by_cases c : i = rd h 1 1
      · rw [c, rd_same]; exact hv v (List.mem_cons_self ..)
      · rw [rd_i c]; exact bt i i0 i1
    obtain ⟨a1, a2, a3, a4, a5⟩ := ih (ptC h v) (FrX_refl f1.1) (fun x hx => hv x (List.mem_cons_of_mem _ hx)) (by omega) (by omega) bt1
    exact ⟨FrX_trans f1 a1, by show rd (bs.foldl ptC (ptC h v)) 1 1 = _; rw [a2, e1]; omega, a3.trans e2, a4, a5⟩
/-- the tapes stay alike -/
def TP (h g : Hp) : Prop := rd h 1 1 = rd g 194 2 ∧ ∀ i, 0 ≤ i → i < rd h 1 1 → rd h 2 i = rd g 195 i
theorem TP_pt {h g : Hp} {v : Int} (t : TP h g) : TP (ptC h v) (ptB g v) := by
  obtain ⟨t1, t2⟩ := t
  have e1 : rd (ptC h v) 1 1 = rd h 1 1 + 1 := rd_same _ _ _ _
  refine ⟨by rw [e1, ptB_2, t1], fun i i0 i1 => ?_⟩
  rw [e1] at i1
  have r1 : rd (ptC h v) 2 = rd (wr h 2 (rd h 1 1) v) 2 := rd_wr_ne (by decide)
  have r2 : rd (ptB g v) 195 = rd (wr g 195 (rd g 194 2) v) 195 := rd_wr_ne (by decide)
  rw [r1, r2, ← t1]
  by_cases c : i = rd h 1 1
  · rw [c, rd_same, rd_same]
  · rw [rd_i c, rd_i c]; exact t2 i i0 (by omega)
theorem TP_fold {bs : List Int} : ∀ (h g : Hp), TP h g → TP (bs.foldl ptC h) (bs.foldl ptB g) := by
  induction bs with
  | nil => intro h g t; exact t
  | cons v bs ih => intro h g t; exact ih _ _ (TP_pt t)
theorem pt_ref {bs : List Int} : ∀ (h : Hp), Sh h → (∀ v ∈ bs, -128 ≤ v ∧ v ≤ 127) → 0 ≤ rd h 194 2 → rd h 194 2 + bs.length ≤ 2000 → BytI h → (hsz (bs.foldl ptB h) = hsz h ∧ hus (bs.foldl ptB h) = hus h ∧ hkd (bs.foldl ptB h) = hkd h ∧ hln (bs.foldl ptB h) = hln h) ∧ Sh (bs.foldl ptB h) ∧ (∀ a, a ≠ 194 → a ≠ 195 → rd (bs.foldl ptB h) a = rd h a) ∧ (∀ k, k ≠ 2 → rd (bs.foldl ptB h) 194 k = rd h 194 k) ∧ rd (bs.foldl ptB h) 194 2 = rd h 194 2 + bs.length ∧ BytI (bs.foldl ptB h) := by
  induction bs with
  | nil => intro h s _ _ _ bt; exact ⟨⟨rfl, rfl, rfl, rfl⟩, s, fun _ _ _ => rfl, fun _ _ => rfl, by show rd h 194 2 = rd h 194 2 + ((0 : Nat) : Int); omega, bt⟩
  | cons v bs ih =>
    intro h s hv h0 hl bt
    have hlen : ((v :: bs).length : Int) = (bs.length : Int) + 1 := by simp
    have e1 := ptB_2 h v
    have bt1 : BytI (ptB h v) := by
      refine ⟨by rw [e1]; omega, fun i i0 i1 => ?_⟩
      have r1 : rd (ptB h v) 195 = rd (wr h 195 (rd h 194 2) v) 195 := rd_wr_ne (by decide)
      have r2 : rd (ptB h v) 196 = rd h 196 := by
        show rd (wr (wr h 195 (rd h 194 2) v) 194 2 (rd h 194 2 + 1)) 196 = _
        rw [rd_wr_ne (by decide), rd_wr_ne (by decide)]
      have b := bt.2 i i0 i1
      rw [r1, r2]
      by_cases c : i = rd h 194 2
      · rw [c, rd_same, ← c]; exact ⟨hv v (List.mem_cons_self ..), b.2⟩
      · rw [rd_i c]; exact b
    obtain ⟨a1, a2, a3, a4, a5, a6⟩ := ih (ptB h v) (ptB_sh s v) (fun x hx => hv x (List.mem_cons_of_mem _ hx)) (by omega) (by omega) bt1
    refine ⟨a1, a2, fun a q1 q2 => ?_, fun k hk => ?_, by show rd (bs.foldl ptB (ptB h v)) 194 2 = _; rw [a5, e1]; omega, a6⟩
    · show rd (bs.foldl ptB (ptB h v)) a = _
      rw [a3 a q1 q2]
      show rd (wr (wr h 195 (rd h 194 2) v) 194 2 (rd h 194 2 + 1)) a = _
      rw [rd_wr_ne q1, rd_wr_ne q2]
    · show rd (bs.foldl ptB (ptB h v)) 194 k = _
      rw [a4 k hk]
      show rd (wr (wr h 195 (rd h 194 2) v) 194 2 (rd h 194 2 + 1)) 194 k = _
      rw [rd_i hk, rd_wr_ne (by decide)]
theorem byT_in {w v : Int} (h : v ∈ byT w) : -128 ≤ v ∧ v ≤ 127 := by
  unfold byT at h
  simp only [List.mem_cons, List.not_mem_nil, or_false] at h
  rcases h with e | e | e | e <;> subst e <;> exact i2b_in _
/-- all is as it was but the tape -/
theorem JJ_tape {n : Int} {h h1 h2 : Hp} {Λ : Nat → Lw} (j : JJ n h Λ) (f : FrX (fun b => b = 1 ∨ b = 2) h h1) (z1 : hsz h1 = hsz h ∧ hus h1 = hus h ∧ hkd h1 = hkd h ∧ hln h1 = hln h) (w : RfW h1 h2) (ea : ∀ a, 194 < a → a < 254 → a ≠ 195 → rd h2 a = rd h1 a) (ek : ∀ k, k ≠ 2 → rd h2 194 k = rd h1 194 k) (bt : BytI h2) (tp : JTape h2 (rd h2 195) (rd h2 194 2) (rd h2 194 17)) : JJ (n + 1) h2 Λ := by
  obtain ⟨jm, jk, jp, dy⟩ := j
  have e := RfE_X f (fun b hb => by omega)
  have jm1 := RfE_JM e jm
  have dk : Dok (dt h) := jm.1.1.1.2.2
  have ea' : ∀ a, 194 < a → a < 254 → ¬ (a = 195 ∨ a = 241 ∨ (249 ≤ a ∧ a ≤ 253)) → rd h2 a = rd h1 a := fun a q1 q2 q3 => ea a q1 q2 (by omega)
  have ek' : ∀ k, ¬ (k = 2 ∨ k = 17 ∨ k = 64 ∨ k = 80) → rd h2 194 k = rd h1 194 k := fun k hk => ek k (by omega)
  have ed : dt h2 = dt h := (dt_w ea' ek').trans (RfE_dt e)
  have E : ∀ a, 194 < a → a < 254 → a ≠ 195 → rd h2 a = rd h a := fun a q1 q2 q3 => (ea a q1 q2 q3).trans (e.2 a (by omega) q2)
  have K : ∀ k, k ≠ 2 → rd h2 194 k = rd h 194 k := fun k hk => (ek k hk).trans (by rw [e.2 194 (by decide) (by decide)])
  have td : Tdk h2 := by
    unfold Tdk
    rw [ek 80 (by decide), ea 249 (by decide) (by decide) (by decide), ea 251 (by decide) (by decide) (by decide), dt_w ea' ek']
    exact jm1.2.2.2.2.2.2.2.1
  have ms := jm1.1.1
  refine ⟨JM_mono (by omega) (JM_w w.2.1 ea' ek' (by rw [ek 64 (by decide)]; exact ms.2.2.2.2.2.1) (by rw [ek 80 (by decide)]; exact ms.2.2.2.2.2.2) bt td jm1), ?_, ?_, RfW_Dy w (Dy_X z1 f (fun a k o => by have := own_in o; omega) dy)⟩
  · obtain ⟨-, g2, g3, g4, g5, g6, g7⟩ := JK0_mono (show n ≤ n + 1 by omega) jk
    have F := RfW_X w
    unfold JK
    refine ⟨tp, JRead_X F (by unfold Xr; omega) (JRead_X f (by omega) g2), ?_, ?_, ?_, ?_, ?_⟩
    · rw [ed]; exact JShore_X dk F (fun b hb => by unfold Xr at hb; omega) (JShore_X dk f (fun b hb => by omega) g3)
    · rw [ed, E 239 (by decide) (by decide) (by decide)]; exact StE_X dk.2.1.2 F (fun a q1 q2 => by unfold Xr; omega) (StE_X dk.2.1.2 f (fun a q1 q2 => by omega) g4)
    · rw [ed, E 239 (by decide) (by decide) (by decide), E 241 (by decide) (by decide) (by decide), K 64 (by decide)]; exact PsI_X F (by unfold Xr; omega) (PsI_X f (by omega) g5)
    · rw [ed, E 252 (by decide) (by decide) (by decide), E 253 (by decide) (by decide) (by decide)]; exact JHeld_X dk F (fun b hb => by unfold Xr at hb; omega) (JHeld_X dk f (fun b hb => by omega) g6)
    · rw [K 80 (by decide), E 249 (by decide) (by decide) (by decide), E 250 (by decide) (by decide) (by decide), E 251 (by decide) (by decide) (by decide)]; exact JTold_X F (fun b hb => by unfold Xr at hb; omega) (JTold_X f (fun b hb => by omega) g7)
  · have hl : (fun k b => lgB h2 (Λ 0) k b) = (fun k b => lgB h (Λ 0) k b) := by funext k b; exact lgB_dt ed _ _ _
    rw [ed, E 239 (by decide) (by decide) (by decide), hl]
    exact JPl_X dk.1.2 (RfW_X w) (fun b hb => by unfold Xr at hb; omega) (JPl_X dk.1.2 f (fun b hb => by omega) jp)
theorem k_feed {F : Nat} {n a b c d e : Int} {h : Hp} {Λ : Nat → Lw} (hF : 6000 ≤ F) (j : JJ n h Λ) : Okc n h (Tide_feed F 1 a b c d e h) (fun h1 => Mod_feed F 194 a b c d e h1) := by
  have s := jS j
  obtain ⟨⟨t1, tb⟩, t2, t3, t4⟩ := j.2.1.1
  by_cases cf : 2000 < rd h 194 2 + 20
  · refine okc_q0 j (r := -1) ?_ ⟨h, ?_, Fr_refl j.1.1⟩
    · unfold Tide_feed
      rw [gT1 s, t1, w32_id (by omega) (by omega), if_pos cf]
    · rw [m_feed (by omega) s tb]
      unfold fdA fdH
      rw [if_pos cf, if_pos cf]
  · have hv : ∀ v ∈ byT a ++ (byT b ++ (byT c ++ (byT d ++ byT e))), -128 ≤ v ∧ v ≤ 127 := fun v hv => by
      simp only [List.mem_append] at hv
      rcases hv with q | q | q | q | q <;> exact byT_in q
    have lb : (((byT a ++ (byT b ++ (byT c ++ (byT d ++ byT e)))).length : Nat) : Int) = 20 := by simp only [List.length_append]; rfl
    have FD : (byT a ++ (byT b ++ (byT c ++ (byT d ++ byT e)))).foldl ptC h = (byT e).foldl ptC ((byT d).foldl ptC ((byT c).foldl ptC ((byT b).foldl ptC ((byT a).foldl ptC h)))) := by
      rw [List.foldl_append, List.foldl_append, List.foldl_append, List.foldl_append]
    obtain ⟨f1, f2, f3, f4, f5⟩ := bytes_fold (bs := byT a ++ (byT b ++ (byT c ++ (byT d ++ byT e)))) h (FrX_refl s) hv (by omega) (by omega) t4
    have one : ∀ (w : Int) (q : Hp), Sh q → 0 ≤ rd q 1 1 → rd q 1 1 ≤ 1996 → BtC q → Tide_putBytes F 1 w q = some (0, (byT w).foldl ptC q) ∧ Sh ((byT w).foldl ptC q) ∧ rd ((byT w).foldl ptC q) 1 1 = rd q 1 1 + 4 ∧ BtC ((byT w).foldl ptC q) := fun w q sq q0 q1 bq => by
      obtain ⟨y1, y2, -, y4, -⟩ := bytes_fold (bs := byT w) q (FrX_refl sq) (fun v hv => byT_in hv) q0 (by show rd q 1 1 + ((4 : Nat) : Int) ≤ 2000; omega) bq
      exact ⟨c_putBytes hF sq ⟨q0, q1⟩, y1.1, y2, y4⟩
    obtain ⟨a1, a2, a3, a4⟩ := one a h s (by omega) (by omega) t4
    obtain ⟨b1, b2, b3, b4⟩ := one b _ a2 (by omega) (by omega) a4
    obtain ⟨c1, c2, c3, c4⟩ := one c _ b2 (by omega) (by omega) b4
    obtain ⟨d1, d2, d3, d4⟩ := one d _ c2 (by omega) (by omega) c4
    obtain ⟨e1, e2, e3, e4⟩ := one e _ d2 (by omega) (by omega) d4
    rw [FD] at f1 f2 f3 f4 f5
    generalize hH : (byT e).foldl ptC ((byT d).foldl ptC ((byT c).foldl ptC ((byT b).foldl ptC ((byT a).foldl ptC h)))) = H at *
    have er := RfE_X f1 (fun b hb => by omega)
    have e194 := er.2 194 (by decide) (by decide)
    have h2b : rd H 194 2 = rd h 194 2 := by rw [e194]
    have bt1 : BytI H := by unfold BytI; rw [e194, er.2 195 (by decide) (by decide), er.2 196 (by decide) (by decide)]; exact j.1.2.2.2.2.2.2.1
    obtain ⟨p1, p2, p3, p4, p5, p6⟩ := pt_ref (bs := byT a ++ (byT b ++ (byT c ++ (byT d ++ byT e)))) H f1.1 hv (by omega) (by omega) bt1
    have FR : fdH H a b c d e = (byT a ++ (byT b ++ (byT c ++ (byT d ++ byT e)))).foldl ptB H := by
      unfold fdH
      rw [if_neg (by rw [h2b]; exact cf)]
      rfl
    have tp0 : TP h H := ⟨by rw [h2b]; exact t1, fun i i0 i1 => by rw [er.2 195 (by decide) (by decide)]; exact t2 i i0 (by omega)⟩
    have tp := TP_fold (bs := byT a ++ (byT b ++ (byT c ++ (byT d ++ byT e)))) h H tp0
    rw [FD] at tp
    generalize hG : (byT a ++ (byT b ++ (byT c ++ (byT d ++ byT e)))).foldl ptB H = G at *
    have wG : RfW H G := ⟨p1, p2, fun x hx => p3 x (fun q => hx (by unfold Xr; omega)) (fun q => hx (by unfold Xr; omega))⟩
    refine ⟨rd h 194 2 + 20, H, G, Λ, ?_, f1.1, ?_, JJ_tape j f1 f5 wG (fun x q1 q2 q3 => p3 x (by omega) q3) p4 p6 ⟨⟨by rw [wG.2.2 1 (by unfold Xr; omega)]; exact tp.1, by rw [p5]; omega⟩, fun i i0 i1 => ?_, ?_, ?_⟩, Sc_X s f1 (by omega), Sc_W wG⟩
    · unfold Tide_feed
      rw [gT1 s, t1, w32_id (by omega) (by omega), if_neg cf, ivT s, a1, cl_some, ivT a2, b1, cl_some, ivT b2, c1, cl_some, ivT c2, d1, cl_some, ivT d2, e1, cl_some, gT1 f1.1, f2, lb, t1]
    · show Mod_feed F 194 a b c d e H = _
      rw [m_feed (by omega) f1.1 (by rw [h2b]; exact tb), FR]
      unfold fdA
      rw [if_neg (by rw [h2b]; exact cf), h2b]
    · have hw : rd G 1 = rd H 1 := wG.2.2 1 (by unfold Xr; omega)
      have hw2 : rd G 2 = rd H 2 := wG.2.2 2 (by unfold Xr; omega)
      rw [hw2]
      exact tp.2 i i0 (by rw [tp.1]; exact i1)
    · rw [wG.2.2 1 (by unfold Xr; omega), f3, p4 17 (by decide), t3, e194]
    · unfold BtC; rw [wG.2.2 2 (by unfold Xr; omega)]; exact f4
theorem k_back {F : Nat} {n m : Int} {h : Hp} {Λ : Nat → Lw} (j : JJ n h Λ) : Okc n h (Tide_back F 1 m h) (fun h1 => Mod_back F 194 m h1) := by
  have s := jS j
  obtain ⟨⟨t1, tb⟩, t2, t3, t4⟩ := j.2.1.1
  by_cases cb : bckD h m
  · have s1 : Sh (wr h 1 1 (rd h 194 2 - m)) := shOk s (ok1 (Or.inl rfl))
    have f1 : FrX (fun b => b = 1 ∨ b = 2) h (wr h 1 1 (rd h 194 2 - m)) := FrX_wr s (ok1 (Or.inl rfl)) (by decide) (Or.inl rfl)
    have e194 : rd (wr h 1 1 (rd h 194 2 - m)) 194 2 = rd h 194 2 := by rw [rd_wr_ne (by decide)]
    have s2 : Sh (wr (wr h 1 1 (rd h 194 2 - m)) 194 2 (rd h 194 2 - m)) := sh2 s1 _
    have wG : RfW (wr h 1 1 (rd h 194 2 - m)) (wr (wr h 1 1 (rd h 194 2 - m)) 194 2 (rd h 194 2 - m)) := ⟨⟨rfl, rfl, rfl, rfl⟩, s2, fun x hx => rd_wr_ne (fun q => hx (by unfold Xr; omega))⟩
    have r2 : rd (wr (wr h 1 1 (rd h 194 2 - m)) 194 2 (rd h 194 2 - m)) 194 2 = rd h 194 2 - m := rd_same _ _ _ _
    have hb := cb.1
    have hb2 := cb.2
    refine ⟨rd h 194 2 - m, _, _, Λ, ?_, s1, ?_, JJ_tape j f1 ⟨rfl, rfl, rfl, rfl⟩ wG (fun x q1 q2 q3 => rd_wr_ne (by omega)) (fun k hk => rd_i hk) ?_ ⟨⟨?_, by rw [r2]; omega⟩, fun i i0 i1 => ?_, ?_, ?_⟩, Sc_X s f1 (by omega), Sc_W wG⟩
    · unfold Tide_back
      rw [if_neg (by omega), gT1 s, t1, if_neg (by omega), gT1 s, t1, w32_id (by omega) (by omega), pT1 s, gT1 s1, rd_same]
    · show Mod_back F 194 m (wr h 1 1 (rd h 194 2 - m)) = _
      rw [m_back s1 (by rw [e194]; exact tb), if_pos (show bckD _ m by unfold bckD; rw [e194]; exact cb), if_pos (show bckD _ m by unfold bckD; rw [e194]; exact cb), e194]
    · refine ⟨by rw [r2]; omega, fun i i0 i1 => ?_⟩
      rw [rd_wr_ne (show (195 : Int) ≠ 194 by decide), rd_wr_ne (show (195 : Int) ≠ 1 by decide), rd_wr_ne (show (196 : Int) ≠ 194 by decide), rd_wr_ne (show (196 : Int) ≠ 1 by decide)]
      exact j.1.2.2.2.2.2.2.1.2 i i0 i1
    · rw [r2, rd_wr_ne (by decide), rd_same]
    · rw [r2] at i1
      rw [rd_wr_ne (show (2 : Int) ≠ 194 by decide), rd_wr_ne (show (2 : Int) ≠ 1 by decide), rd_wr_ne (show (195 : Int) ≠ 194 by decide), rd_wr_ne (show (195 : Int) ≠ 1 by decide)]
      exact t2 i i0 (by omega)
    · rw [rd_wr_ne (show (1 : Int) ≠ 194 by decide), rd_i (by decide), t3, rd_i (by decide), rd_wr_ne (by decide)]
    · unfold BtC
      rw [rd_wr_ne (show (2 : Int) ≠ 194 by decide), rd_wr_ne (show (2 : Int) ≠ 1 by decide)]
      exact t4
  · refine okc_q0 j (r := -1) ?_ ⟨h, ?_, Fr_refl j.1.1⟩
    · unfold Tide_back
      by_cases c : m < 0
      · rw [if_pos c]
      · rw [if_neg c, gT1 s, t1, if_pos (by unfold bckD at cb; omega)]
    · rw [m_back s tb, if_neg cb, if_neg cb]
