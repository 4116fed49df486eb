/-! the reference's day, whole -/
def DayP (D : Nat → Int → Int) (Λ : Nat → Lw) (p : Int) : Prop := D 6 p = D 22 p ∧ D 7 p = D 23 p ∧ D 8 p = D 16 p ∧ D 9 p = hgV (Λ 0) (D 6 p) (D 7 p) ∧ ∀ m, 0 ≤ m → m < 600 → D 10 (600 * p + m) = frI (D 13) (D 9 p) m ∧ D 11 (600 * p + m) = hoI (frI (D 13) (D 9 p)) (D 17 0) (D 18 0) m ∧ D 12 (601 * p + m) = nxI (frI (D 13) (D 9 p)) (D 17 0) (D 18 0) (D 8 p) m ∧ D 15 (600 * p + m) = dgV (Λ 4) (D 6 p) (D 7 p) m
def Day (D : Nat → Int → Int) (Λ : Nat → Lw) : Prop := (∀ m, 0 ≤ m → m < 600 → D 13 m = tdV (Λ 1) m ∧ D 14 m = snV (Λ 2) m) ∧ ∀ p, 0 ≤ p → p < D 0 0 → DayP D Λ p
/-- what does not change while the day is laid out -/
theorem Fy_txt {h h' : Hp} (f : Fy h h') : ∀ k : Nat, (k < 6 ∨ 16 ≤ k) → dt h' k = dt h k := by
  intro k hk
  have e18 := f.2.2.2 18 (by decide)
  have e : ∀ a : Int, 203 ≤ a → a ≤ 216 → rd h' a = rd h a := fun a h1 h2 => f.2.2.1 a (by omega) (by omega)
  funext i
  unfold dt
  split <;> first | rw [e _ (by decide) (by decide), e18] | omega
theorem m_lay_L60 {F : Nat} {h0 : Hp} {Λ : Nat → Lw} (hF : 1000 ≤ F) (s0 : Sh h0) (hl : rd h0 194 18 = 0 ∨ rd h0 194 18 = 1) (hd : 0 ≤ dt h0 0 0 ∧ dt h0 0 0 ≤ 8) (g0 : RLw h0 0 (Λ 0)) (g4 : RLw h0 4 (Λ 4)) :
    ∀ (j n i : Nat) (h : Hp), i + j = (dt h0 0 0).toNat → j < n → Fy h0 h → rd h 229 = rd h0 229 → rd h 230 = rd h0 230 → (∀ p, 0 ≤ p → p < (i : Int) → DayP (dt h) Λ p) →
    ∃ h', Fy h0 h' ∧ rd h' 229 = rd h0 229 ∧ rd h' 230 = rd h0 230 ∧ (∀ p, 0 ≤ p → p < dt h0 0 0 → DayP (dt h') Λ p) ∧ Mod_layOut_L60 F n 194 i h = some (0, h') := by
  intro j
  induction j with
  | zero =>
    intro n i h hi hn f e9 e30 ed
    obtain ⟨n, rfl⟩ : ∃ j, n = j + 1 := ⟨n - 1, by omega⟩
    have s := f.2.1
    have hl1 : rd h 194 18 = 0 ∨ rd h 194 18 = 1 := by rw [f.2.2.2 18 (by decide)]; exact hl
    have e0 : rd h 203 (rd h 194 18) = dt h0 0 0 := congrFun (Fy_txt f 0 (by decide)) 0
    refine ⟨h, f, e9, e30, fun p h1 h2 => ed p h1 (by omega), ?_⟩
    show Mod_layOut_L60s F _ 194 _ h = _
    unfold Mod_layOut_L60s
    rw [gM22 s, gM18 s, aM22 s (by omega) (by omega), e0, if_neg (by omega)]
  | succ j ih =>
    intro n i h hi hn f e9 e30 ed
    obtain ⟨n, rfl⟩ : ∃ j, n = j + 1 := ⟨n - 1, by omega⟩
    have s := f.2.1
    have e18 := f.2.2.2 18 (by decide)
    have hl1 : rd h 194 18 = 0 ∨ rd h 194 18 = 1 := by rw [e18]; exact hl
    have e0 : rd h 203 (rd h 194 18) = dt h0 0 0 := congrFun (Fy_txt f 0 (by decide)) 0
    -- the three cells of the part
    have f1 : Fy h0 (wr h 232 i (dt h0 22 i)) := Fy_wr f (by decide)
    have f2 : Fy h0 (wr (wr h 232 i (dt h0 22 i)) 233 i (dt h0 23 i)) := Fy_wr f1 (by decide)
    have f3 : Fy h0 (wr (wr (wr h 232 i (dt h0 22 i)) 233 i (dt h0 23 i)) 234 i (dt h0 16 i)) := Fy_wr f2 (by decide)
    have t22 : rd h 204 (8 * rd h 194 18 + i) = dt h0 22 i := congrFun (Fy_txt f 22 (by decide)) i
    have t23 : rd (wr h 232 i (dt h0 22 i)) 205 (8 * rd (wr h 232 i (dt h0 22 i)) 194 18 + i) = dt h0 23 i := congrFun (Fy_txt f1 23 (by decide)) i
    have t16 : rd (wr (wr h 232 i (dt h0 22 i)) 233 i (dt h0 23 i)) 207 (8 * rd (wr (wr h 232 i (dt h0 22 i)) 233 i (dt h0 23 i)) 194 18 + i) = dt h0 16 i := congrFun (Fy_txt f2 16 (by decide)) i
    have l1 : rd (wr h 232 i (dt h0 22 i)) 194 18 = rd h0 194 18 := f1.2.2.2 18 (by decide)
    have l2 : rd (wr (wr h 232 i (dt h0 22 i)) 233 i (dt h0 23 i)) 194 18 = rd h0 194 18 := f2.2.2.2 18 (by decide)
    have es : Mod_layOut_L60 F (n + 1) 194 i h = Mod_layOut_L60s F (Mod_layOut_L60 F n) 194 i h := rfl
    unfold Mod_layOut_L60s at es
    rw [gM22 s, gM18 s, aM22 s (by omega) (by omega), e0, if_pos (by omega), gM55 s, gM23 s, gM18 s, w32_id (x := 8 * rd h 194 18) (by omega) (by omega), w32_id (x := 8 * rd h 194 18 + (i : Int)) (by omega) (by omega), aM23 s (by omega) (by omega), t22, sM55 s (by omega) (by omega),
      gM56 f1.2.1, gM24 f1.2.1, gM18 f1.2.1, w32_id (x := 8 * rd (wr h 232 i (dt h0 22 i)) 194 18) (by rw [l1]; omega) (by rw [l1]; omega), w32_id (x := 8 * rd (wr h 232 i (dt h0 22 i)) 194 18 + (i : Int)) (by rw [l1]; omega) (by rw [l1]; omega), aM24 f1.2.1 (by rw [l1]; omega) (by rw [l1]; omega), t23, sM56 f1.2.1 (by omega) (by omega),
      gM57 f2.2.1, gM26 f2.2.1, gM18 f2.2.1, w32_id (x := 8 * rd (wr (wr h 232 i (dt h0 22 i)) 233 i (dt h0 23 i)) 194 18) (by rw [l2]; omega) (by rw [l2]; omega), w32_id (x := 8 * rd (wr (wr h 232 i (dt h0 22 i)) 233 i (dt h0 23 i)) 194 18 + (i : Int)) (by rw [l2]; omega) (by rw [l2]; omega), aM26 f2.2.1 (by rw [l2]; omega) (by rw [l2]; omega), t16, sM57 f2.2.1 (by omega) (by omega)] at es
    have r2 : ∀ a, a ≠ 232 → a ≠ 233 → a ≠ 234 → rd (wr (wr (wr h 232 i (dt h0 22 i)) 233 i (dt h0 23 i)) 234 i (dt h0 16 i)) a = rd h a := fun a q1 q2 q3 => by rw [rd_wr_ne q3, rd_wr_ne q2, rd_wr_ne q1]
    have r32 : rd (wr (wr (wr h 232 i (dt h0 22 i)) 233 i (dt h0 23 i)) 234 i (dt h0 16 i)) 232 = up (rd h 232) i (dt h0 22 i) := by rw [rd_wr_ne (by decide), rd_wr_ne (by decide), wr_sr, rd_sr]
    have r33 : rd (wr (wr (wr h 232 i (dt h0 22 i)) 233 i (dt h0 23 i)) 234 i (dt h0 16 i)) 233 = up (rd h 233) i (dt h0 23 i) := by rw [rd_wr_ne (by decide), wr_sr, rd_sr, rd_wr_ne (by decide)]
    have r34 : rd (wr (wr (wr h 232 i (dt h0 22 i)) 233 i (dt h0 23 i)) 234 i (dt h0 16 i)) 234 = up (rd h 234) i (dt h0 16 i) := by rw [wr_sr, rd_sr, rd_wr_ne (by decide), rd_wr_ne (by decide)]
    generalize wr (wr (wr h 232 i (dt h0 22 i)) 233 i (dt h0 23 i)) 234 i (dt h0 16 i) = h3 at es f3 r2 r32 r33 r34
    have hl3 : rd h3 194 18 = rd h0 194 18 := f3.2.2.2 18 (by decide)
    obtain ⟨h4, k4, q4⟩ := m_laysPart (F := F) (h := h3) (p := i) (L := Λ 0) hF f3.2.1 (by rw [hl3]; exact hl) (by omega) (Fy_RL f3 g0)
    have a12 : rd h3 212 (rd h3 194 18) = dt h0 17 0 := congrFun (Fy_txt f3 17 (by decide)) 0
    have a13 : rd h3 213 (rd h3 194 18) = dt h0 18 0 := congrFun (Fy_txt f3 18 (by decide)) 0
    rw [a12, a13, r32, r33, r34, up_s, up_s, up_s, r2 229 (by decide) (by decide) (by decide), e9, r2 236 (by decide) (by decide) (by decide), r2 237 (by decide) (by decide) (by decide), r2 238 (by decide) (by decide) (by decide)] at q4
    have f4 : Fy h0 (wr h4 235 i (hgV (Λ 0) (dt h0 22 i) (dt h0 23 i))) := Fy_wr (Fy_Lk f3 k4) (by decide)
    have f5 : ∀ A B C, Fy h0 (lyH (wr h4 235 i (hgV (Λ 0) (dt h0 22 i) (dt h0 23 i))) A B C) := fun A B C => Fy_sr (Fy_sr (Fy_sr f4 (by decide)) (by decide)) (by decide)
    have v5 : ∀ A B C a, 229 ≤ a → a ≤ 234 → rd (lyH (wr h4 235 i (hgV (Λ 0) (dt h0 22 i) (dt h0 23 i))) A B C) a = rd h3 a := fun A B C a q1 q2 => by rw [lyH_ne (by omega), rd_wr_ne (by omega), k4.2.2.1 a (by omega) (by omega)]
    have v35 : ∀ A B C, rd (lyH (wr h4 235 i (hgV (Λ 0) (dt h0 22 i) (dt h0 23 i))) A B C) 235 = up (rd h 235) i (hgV (Λ 0) (dt h0 22 i) (dt h0 23 i)) := fun A B C => by rw [lyH_ne (by decide), wr_sr, rd_sr, k4.2.2.1 235 (by decide) (by decide), r2 235 (by decide) (by decide) (by decide)]
    rw [ivM f3.2.1, q4, cl_some] at es
    have v6 := lyH_6 (wr h4 235 i (hgV (Λ 0) (dt h0 22 i) (dt h0 23 i))) (putA (rd h 236) (600 * (i : Int)) 600 (frI (rd h0 229) (hgV (Λ 0) (dt h0 22 i) (dt h0 23 i)))) (putA (rd h 237) (600 * (i : Int)) 600 (hoI (frI (rd h0 229) (hgV (Λ 0) (dt h0 22 i) (dt h0 23 i))) (dt h0 17 0) (dt h0 18 0))) (putA (rd h 238) (601 * (i : Int)) 601 (nxI (frI (rd h0 229) (hgV (Λ 0) (dt h0 22 i) (dt h0 23 i))) (dt h0 17 0) (dt h0 18 0) (dt h0 16 i)))
    have v7 := lyH_7 (wr h4 235 i (hgV (Λ 0) (dt h0 22 i) (dt h0 23 i))) (putA (rd h 236) (600 * (i : Int)) 600 (frI (rd h0 229) (hgV (Λ 0) (dt h0 22 i) (dt h0 23 i)))) (putA (rd h 237) (600 * (i : Int)) 600 (hoI (frI (rd h0 229) (hgV (Λ 0) (dt h0 22 i) (dt h0 23 i))) (dt h0 17 0) (dt h0 18 0))) (putA (rd h 238) (601 * (i : Int)) 601 (nxI (frI (rd h0 229) (hgV (Λ 0) (dt h0 22 i) (dt h0 23 i))) (dt h0 17 0) (dt h0 18 0) (dt h0 16 i)))
    have v8 := lyH_8 (wr h4 235 i (hgV (Λ 0) (dt h0 22 i) (dt h0 23 i))) (putA (rd h 236) (600 * (i : Int)) 600 (frI (rd h0 229) (hgV (Λ 0) (dt h0 22 i) (dt h0 23 i)))) (putA (rd h 237) (600 * (i : Int)) 600 (hoI (frI (rd h0 229) (hgV (Λ 0) (dt h0 22 i) (dt h0 23 i))) (dt h0 17 0) (dt h0 18 0))) (putA (rd h 238) (601 * (i : Int)) 601 (nxI (frI (rd h0 229) (hgV (Λ 0) (dt h0 22 i) (dt h0 23 i))) (dt h0 17 0) (dt h0 18 0) (dt h0 16 i)))
    have f5' := f5 (putA (rd h 236) (600 * (i : Int)) 600 (frI (rd h0 229) (hgV (Λ 0) (dt h0 22 i) (dt h0 23 i)))) (putA (rd h 237) (600 * (i : Int)) 600 (hoI (frI (rd h0 229) (hgV (Λ 0) (dt h0 22 i) (dt h0 23 i))) (dt h0 17 0) (dt h0 18 0))) (putA (rd h 238) (601 * (i : Int)) 601 (nxI (frI (rd h0 229) (hgV (Λ 0) (dt h0 22 i) (dt h0 23 i))) (dt h0 17 0) (dt h0 18 0) (dt h0 16 i)))
    have v5' := v5 (putA (rd h 236) (600 * (i : Int)) 600 (frI (rd h0 229) (hgV (Λ 0) (dt h0 22 i) (dt h0 23 i)))) (putA (rd h 237) (600 * (i : Int)) 600 (hoI (frI (rd h0 229) (hgV (Λ 0) (dt h0 22 i) (dt h0 23 i))) (dt h0 17 0) (dt h0 18 0))) (putA (rd h 238) (601 * (i : Int)) 601 (nxI (frI (rd h0 229) (hgV (Λ 0) (dt h0 22 i) (dt h0 23 i))) (dt h0 17 0) (dt h0 18 0) (dt h0 16 i)))
    have v35' := v35 (putA (rd h 236) (600 * (i : Int)) 600 (frI (rd h0 229) (hgV (Λ 0) (dt h0 22 i) (dt h0 23 i)))) (putA (rd h 237) (600 * (i : Int)) 600 (hoI (frI (rd h0 229) (hgV (Λ 0) (dt h0 22 i) (dt h0 23 i))) (dt h0 17 0) (dt h0 18 0))) (putA (rd h 238) (601 * (i : Int)) 601 (nxI (frI (rd h0 229) (hgV (Λ 0) (dt h0 22 i) (dt h0 23 i))) (dt h0 17 0) (dt h0 18 0) (dt h0 16 i)))
    generalize lyH (wr h4 235 i (hgV (Λ 0) (dt h0 22 i) (dt h0 23 i))) (putA (rd h 236) (600 * (i : Int)) 600 (frI (rd h0 229) (hgV (Λ 0) (dt h0 22 i) (dt h0 23 i)))) (putA (rd h 237) (600 * (i : Int)) 600 (hoI (frI (rd h0 229) (hgV (Λ 0) (dt h0 22 i) (dt h0 23 i))) (dt h0 17 0) (dt h0 18 0))) (putA (rd h 238) (601 * (i : Int)) 601 (nxI (frI (rd h0 229) (hgV (Λ 0) (dt h0 22 i) (dt h0 23 i))) (dt h0 17 0) (dt h0 18 0) (dt h0 16 i))) = h5 at es v6 v7 v8 f5' v5' v35'
    obtain ⟨h6, f6, u6, w6, q6⟩ := m_lay_L140 (F := F) (h0 := h5) (L := Λ 4) (p := i) hF (Mod_layOut_L60 F n) f5'.2.1 (by rw [f5'.2.2.2 18 (by decide)]; exact hl) (Fy_RL f5' g4) (by omega) 600 F 0 h5 (by omega) (by omega) (Fy_refl f5'.2.1) (fun _ _ _ _ => rfl) (by rw [show ((0 : Nat) : Int) = 0 from rfl, putA_0])
    have es2 : Mod_layOut_L60 F (n + 1) 194 i h = Mod_layOut_L60 F n 194 ((i : Int) + 1) h6 := es.trans q6
    rw [es2]
    have ff := Fy_trans f5' f6
    rw [show (i : Int) + 1 = ((i + 1 : Nat) : Int) by omega]
    have d6 : ∀ j, dt h6 6 j = up (rd h 232) i (dt h0 22 i) j := fun j => by show rd h6 232 j = _; rw [u6 232 (by decide) (by decide) (by decide), v5' 232 (by decide) (by decide), r32]
    have d7 : ∀ j, dt h6 7 j = up (rd h 233) i (dt h0 23 i) j := fun j => by show rd h6 233 j = _; rw [u6 233 (by decide) (by decide) (by decide), v5' 233 (by decide) (by decide), r33]
    have d8 : ∀ j, dt h6 8 j = up (rd h 234) i (dt h0 16 i) j := fun j => by show rd h6 234 j = _; rw [u6 234 (by decide) (by decide) (by decide), v5' 234 (by decide) (by decide), r34]
    have d9 : ∀ j, dt h6 9 j = up (rd h 235) i (hgV (Λ 0) (dt h0 22 i) (dt h0 23 i)) j := fun j => by show rd h6 235 j = _; rw [u6 235 (by decide) (by decide) (by decide), v35']
    have d13 : dt h6 13 = rd h0 229 := by
      funext j; show rd h6 229 j = _; rw [u6 229 (by decide) (by decide) (by decide), v5' 229 (by decide) (by decide), r2 229 (by decide) (by decide) (by decide), e9]
    have d13h : dt h 13 = rd h0 229 := by funext j; show rd h 229 j = _; rw [e9]
    have p232 : rd h5 232 i = dt h0 22 i := by rw [v5' 232 (by decide) (by decide), r32, up_s]
    have p233 : rd h5 233 i = dt h0 23 i := by rw [v5' 233 (by decide) (by decide), r33, up_s]
    have d15 : ∀ j, dt h6 15 j = putA (rd h 231) (600 * (i : Int)) 600 (dgV (Λ 4) (dt h0 22 i) (dt h0 23 i)) j := fun j => by
      show rd h6 231 j = _
      rw [w6, p232, p233, v5' 231 (by decide) (by decide), r2 231 (by decide) (by decide) (by decide)]
    have d10 : ∀ j, dt h6 10 j = putA (rd h 236) (600 * (i : Int)) 600 (frI (rd h0 229) (hgV (Λ 0) (dt h0 22 i) (dt h0 23 i))) j := fun j => by show rd h6 236 j = _; rw [u6 236 (by decide) (by decide) (by decide), v6]
    have d11 : ∀ j, dt h6 11 j = putA (rd h 237) (600 * (i : Int)) 600 (hoI (frI (rd h0 229) (hgV (Λ 0) (dt h0 22 i) (dt h0 23 i))) (dt h0 17 0) (dt h0 18 0)) j := fun j => by show rd h6 237 j = _; rw [u6 237 (by decide) (by decide) (by decide), v7]
    have d12 : ∀ j, dt h6 12 j = putA (rd h 238) (601 * (i : Int)) 601 (nxI (frI (rd h0 229) (hgV (Λ 0) (dt h0 22 i) (dt h0 23 i))) (dt h0 17 0) (dt h0 18 0) (dt h0 16 i)) j := fun j => by show rd h6 238 j = _; rw [u6 238 (by decide) (by decide) (by decide), v8]
    have tx := fun k hk => Fy_txt ff k hk
    have txh := fun k hk => Fy_txt f k hk
    refine ih n (i + 1) h6 (by omega) (by omega) ff (by rw [← d13]; rfl) ?_ (fun p p0 p1 => ?_)
    · rw [u6 230 (by decide) (by decide) (by decide), v5' 230 (by decide) (by decide), r2 230 (by decide) (by decide) (by decide), e30]
    · by_cases pe : p = i
      · subst pe
        unfold DayP
        rw [d6, d7, d8, d9, d13, up_s, up_s, up_s, up_s, tx 22 (by decide), tx 23 (by decide), tx 16 (by decide), tx 17 (by decide), tx 18 (by decide)]
        refine ⟨rfl, rfl, rfl, rfl, fun m m0 m1 => ?_⟩
        rw [d10, d11, d12, d15, putA_in (by omega), putA_in (by omega), putA_in (by omega), putA_in (by omega)]
        exact ⟨rfl, rfl, rfl, rfl⟩
      · have old := ed p p0 (by omega)
        unfold DayP at old ⊢
        rw [txh 22 (by decide), txh 23 (by decide), txh 16 (by decide), txh 17 (by decide), txh 18 (by decide), d13h] at old
        rw [d6, d7, d8, d9, d13, up_n pe, up_n pe, up_n pe, up_n pe, tx 22 (by decide), tx 23 (by decide), tx 16 (by decide), tx 17 (by decide), tx 18 (by decide)]
        refine ⟨old.1, old.2.1, old.2.2.1, old.2.2.2.1, fun m m0 m1 => ?_⟩
        rw [d10, d11, d12, d15, putA_out (by omega), putA_out (by omega), putA_out (by omega), putA_out (by omega)]
        exact old.2.2.2.2 m m0 m1
theorem m_layOut {F : Nat} {h : Hp} {Λ : Nat → Lw} (hF : 1000 ≤ F) (s : Sh h) (hl : rd h 194 18 = 0 ∨ rd h 194 18 = 1) (hd : 0 ≤ dt h 0 0 ∧ dt h 0 0 ≤ 8) (g : ∀ k : Nat, k < 5 → RLw h k (Λ k)) : ∃ h', Mod_layOut F 194 h = some (0, h') ∧ Fy h h' ∧ Day (dt h') Λ := by
  obtain ⟨h1, f1, -, e9, e30, q1⟩ := m_lay_L2 (F := F) (h0 := h) (Λ := Λ) hF s hl (g 1 (by decide)) (g 2 (by decide)) 600 F 0 h (by omega) (by omega) (Fy_refl s) (fun _ _ _ => rfl) (by rw [show ((0 : Nat) : Int) = 0 from rfl, putA_0]) (by rw [show ((0 : Nat) : Int) = 0 from rfl, putA_0])
  have t0 := congrFun (Fy_txt f1 0 (by decide)) 0
  obtain ⟨h2, f2, u9, u30, dy, q2⟩ := m_lay_L60 (F := F) (h0 := h1) (Λ := Λ) hF f1.2.1 (by rw [f1.2.2.2 18 (by decide)]; exact hl) (by rw [t0]; exact hd) (Fy_RL f1 (g 0 (by decide))) (Fy_RL f1 (g 4 (by decide))) (dt h1 0 0).toNat F 0 h1 (by omega) (by rw [t0]; omega) (Fy_refl f1.2.1) rfl rfl (fun p p0 p1 => by omega)
  refine ⟨h2, ?_, Fy_trans f1 f2, fun m m0 m1 => ?_, fun p p0 p1 => ?_⟩
  · unfold Mod_layOut
    exact q1.trans q2
  · show rd h2 229 m = _ ∧ rd h2 230 m = _
    have a : putA (rd h 229) 0 600 (tdV (Λ 1)) m = tdV (Λ 1) m := by
      have := putA_in (C := rd h 229) (g := tdV (Λ 1)) (o := 0) (i := 600) (j := m) ⟨m0, m1⟩
      rw [Int.zero_add] at this; exact this
    have b : putA (rd h 230) 0 600 (snV (Λ 2)) m = snV (Λ 2) m := by
      have := putA_in (C := rd h 230) (g := snV (Λ 2)) (o := 0) (i := 600) (j := m) ⟨m0, m1⟩
      rw [Int.zero_add] at this; exact this
    rw [u9, u30, e9, e30, a, b]
    exact ⟨rfl, rfl⟩
  · refine dy p p0 ?_
    rw [congrFun (Fy_txt f2 0 (by decide)) 0] at p1
    exact p1
