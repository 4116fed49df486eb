/-! the class reads a text, whole -/
/-- what stays when a text is read -/
def RdC (c : Int) (h h' : Hp) : Prop := (hsz h' = hsz h ∧ hus h' = hus h ∧ hkd h' = hkd h ∧ hln h' = hln h) ∧ Sh h' ∧ (∀ a, a ≠ 3 → ¬ (5 ≤ a ∧ a ≤ 8) → ¬ (c ≤ a ∧ a ≤ c + 10) → rd h' a = rd h a) ∧ rd h' 3 5 = rd h 3 5 ∧ CkI h'
theorem c_readText {F : Nat} {h : Hp} {c n : Int} (hF : 3000 ≤ F) (s : Sh h) (ic : isSc c) (h5 : rd h 3 5 = c) (bt : BtC h) (wd : WdI h) (ck : CkI h) (hn : 0 ≤ n ∧ n ≤ 2000) :
    ∃ v h', Read_readText F 3 2 n h = some (v, h') ∧ RdC c h h' ∧ (match rdR (rd h 2) n with | Sum.inl q => v = q.1 ∧ v ≠ 0 ∧ rd h' 3 9 = q.2 | Sum.inr q => v = q.2.2.2.1 ∧ (v ≠ 0 → rd h' 3 9 = q.2.2.2.2) ∧ (v = 0 → CxE h' c q.2.1 ∧ CLz h' c q.2.2.1)) := by
  have hcc : c = 9 ∨ c = 23 := ic
  have g0 : CIc h h [] := ⟨⟨rfl, rfl, rfl, rfl⟩, s, fun _ _ _ _ => rfl, fun t q hq => (by cases hq), ck⟩
  obtain ⟨r1, h1, e1, g1⟩ := c_split (F := F) hF bt wd hn 2001 F 0 h [] (Int.le_refl _) (by omega) (by decide) (by omega) g0 (by decide)
  rw [List.nil_append] at g1
  have g1' : CEc h h1 n (tsF (rd h 2) n) := g1
  have ag := CEc_Agr g1'
  obtain ⟨z1, s1, n1, -, -, ck1⟩ := g1
  have h51 : rd h1 3 5 = c := by rw [n1 3 (by decide) (by decide) (by decide)]; exact h5
  obtain ⟨h2, a1, a2, a3, a4, a5, a6, a7⟩ := c_sclear (F := F) (c := c) s1 ic
  have s3 : Sh (wr h2 3 6 0) := shOk a2 (ok3 (by decide))
  have s4 : Sh (wr (wr h2 3 6 0) 3 7 0) := shOk s3 (ok3 (by decide))
  have s5 : Sh (wr (wr (wr h2 3 6 0) 3 7 0) 3 8 0) := shOk s4 (ok3 (by decide))
  have s6 : Sh (wr (wr (wr (wr h2 3 6 0) 3 7 0) 3 8 0) 3 10 0) := shOk s5 (ok3 (by decide))
  have n6 : ∀ a, a ≠ 3 → rd (wr (wr (wr (wr h2 3 6 0) 3 7 0) 3 8 0) 3 10 0) a = rd h2 a := fun a ha => by rw [rd_wr_ne ha, rd_wr_ne ha, rd_wr_ne ha, rd_wr_ne ha]
  have k6 : ∀ k, k ≤ 5 → rd (wr (wr (wr (wr h2 3 6 0) 3 7 0) 3 8 0) 3 10 0) 3 k = rd h2 3 k := fun k hk => by rw [rd_i (by omega), rd_i (by omega), rd_i (by omega), rd_i (by omega)]
  have r7 : rd (wr (wr (wr (wr h2 3 6 0) 3 7 0) 3 8 0) 3 10 0) 3 7 = 0 := by rw [rd_i (by decide), rd_i (by decide), rd_same]
  have h56 : rd (wr (wr (wr (wr h2 3 6 0) 3 7 0) 3 8 0) 3 10 0) 3 5 = c := by rw [k6 5 (by decide), a4 3 (by omega) (by omega) (by omega) (by omega)]; exact h51
  have tk : TkC (wr (wr (wr (wr h2 3 6 0) 3 7 0) 3 8 0) 3 10 0) (fun t => rd h1 5 t) (fun t => w32 (rd h1 6 t)) (fun t => rd h1 7 t) := fun t ht => by
    rw [n6 5 (by decide), n6 6 (by decide), n6 7 (by decide), a4 5 (by omega) (by omega) (by omega) (by omega), a4 6 (by omega) (by omega) (by omega) (by omega), a4 7 (by omega) (by omega) (by omega) (by omega)]
    refine ⟨rfl, rfl, rfl, fun z => ?_⟩
    have := ck1 t (by omega) z
    show 0 ≤ w32 (rd h1 6 t) ∧ w32 (rd h1 6 t) < 100000
    rw [w32_id (by omega) (by omega)]
    omega
  have tm : ∀ t : Nat, t ≤ 400 → rd (wr (wr (wr (wr h2 3 6 0) 3 7 0) 3 8 0) 3 10 0) 6 t = rd h1 6 t := fun t ht => by rw [n6 6 (by decide), a4 6 (by omega) (by omega) (by omega) (by omega)]
  have cx : CxE (wr (wr (wr (wr h2 3 6 0) 3 7 0) 3 8 0) 3 10 0) c sg0.2.1 := CxE_eq (fun x q1 q2 => n6 x (by omega)) a7
  have cl : CLz (wr (wr (wr (wr h2 3 6 0) 3 7 0) 3 8 0) 3 10 0) c (fun _ => []) := CLz_eq (n6 _ (by omega)) (n6 _ (by omega)) (n6 _ (by omega)) a6
  have ts : TSc c (wr (wr (wr (wr h2 3 6 0) 3 7 0) 3 8 0) 3 10 0) (fun t => rd h1 6 t) sg0 := by
    refine ⟨⟨by rw [rd_i (by decide), rd_same], r7, by decide⟩, cx, cl, by rw [n6 _ (by omega), a5]; decide, ⟨rd_same _ _ _ _, fun z => absurd rfl z⟩, ⟨?_, fun i i0 i1 => absurd i1 (by show ¬ i < 0; omega)⟩, ⟨by decide, by decide⟩, ⟨by decide, by decide⟩, by decide⟩
    rw [rd_i (by decide), rd_i (by decide), rd_i (by decide), rd_same]
    rfl
  have fz : Fz c (wr (wr (wr (wr h2 3 6 0) 3 7 0) 3 8 0) 3 10 0) (wr (wr (wr (wr h2 3 6 0) 3 7 0) 3 8 0) 3 10 0) := Fz_refl s6 (by rw [r7]; decide)
  obtain ⟨v, h', e', q'⟩ := t_txt (F := F) (by omega) ic tk tm h56 401 F _ sg0 (Nat.le_refl _) (by omega) fz ts
  have hpt := (Txi_txt ag 401 sg0 Txi_0).1
  have hr : pTxt (fun t => rd h1 5 t) (fun t => w32 (rd h1 6 t)) (fun t => rd h1 7 t) (fun t => rd h1 6 t) 401 sg0 = rdR (rd h 2) n := hpt
  rw [hr] at q'
  have fz' : Fz c (wr (wr (wr (wr h2 3 6 0) 3 7 0) 3 8 0) 3 10 0) h' := by
    cases hq : rdR (rd h 2) n with
    | inl q => rw [hq] at q'; exact q'.2.2.1
    | inr q => rw [hq] at q'; exact q'.2.1
  refine ⟨v, h', ?_, ⟨⟨?_, ?_, ?_, ?_⟩, fz'.2.1, fun a q1 q2 q3 => ?_, ?_, fun t ht => ?_⟩, ?_⟩
  · unfold Read_readText Read_split
    rw [ivR s]
    have e1' : Read_split_L8 F F 3 2 n 0 0 h = some (r1, h1) := e1
    rw [e1', cl_some, gR5 s1, h51, ivC s1 ic, a1, cl_some, pR6 a2, pR7 s3, pR8 s4, pR10 s5]
    exact e'
  · exact fz'.1.1.trans (a3.1.trans z1.1)
  · exact fz'.1.2.1.trans (a3.2.1.trans z1.2.1)
  · exact fz'.1.2.2.1.trans (a3.2.2.1.trans z1.2.2.1)
  · exact fz'.1.2.2.2.trans (a3.2.2.2.trans z1.2.2.2)
  · rw [fz'.2.2.1 a q1 (by omega) (by omega), n6 a q1, a4 a (by omega) (by omega) (by omega) (by omega), n1 a (by omega) (by omega) (by omega)]
  · rw [fz'.2.2.2.1 5 (by decide), h56, h5]
  · rw [fz'.2.2.1 5 (by decide) (by decide) (by omega), fz'.2.2.1 6 (by decide) (by decide) (by omega), n6 5 (by decide), n6 6 (by decide), a4 5 (by omega) (by omega) (by omega) (by omega), a4 6 (by omega) (by omega) (by omega) (by omega)]
    exact ck1 t ht
  · cases hq : rdR (rd h 2) n with
    | inl q => rw [hq] at q'; exact ⟨q'.1, q'.2.1, q'.2.2.2⟩
    | inr q => rw [hq] at q'; exact ⟨q'.1, q'.2.2.2, fun z => ⟨(q'.2.2.1 z).2.1, (q'.2.2.1 z).2.2.1⟩⟩
theorem ok84 : ∀ i, okW 84 i = true := fun i => okW_arr (by decide) (fun _ => by decide)
theorem ok82 {k : Int} (hk : k = 6) : okW 82 k = true := by subst hk; decide +kernel
theorem c_forgetRows {F : Nat} {h : Hp} (hF : 1000 ≤ F) (s : Sh h) : Plan_forgetRows F 82 h = some (0, wr (wr (wr (wr h 84 0 0) 84 1 0) 84 2 0) 82 6 0) := by
  have s1 : Sh (wr h 84 0 0) := shOk s (ok84 _)
  have s2 : Sh (wr (wr h 84 0 0) 84 1 0) := shOk s1 (ok84 _)
  have s3 : Sh (wr (wr (wr h 84 0 0) 84 1 0) 84 2 0) := shOk s2 (ok84 _)
  obtain ⟨n, rfl⟩ : ∃ n, F = n + 4 := ⟨F - 4, by omega⟩
  unfold Plan_forgetRows
  show Plan_forgetRows_L2s (n + 4) (Plan_forgetRows_L2 (n + 4) (n + 3)) 82 0 h = _
  unfold Plan_forgetRows_L2s
  rw [if_pos (by decide), gN1 s, sN1 s (by decide) (by decide) (Or.inl rfl), show w32 (0 + 1) = 1 by decide]
  show Plan_forgetRows_L2s (n + 4) (Plan_forgetRows_L2 (n + 4) (n + 2)) 82 1 _ = _
  unfold Plan_forgetRows_L2s
  rw [if_pos (by decide), gN1 s1, sN1 s1 (by decide) (by decide) (Or.inl rfl), show w32 (1 + 1) = 2 by decide]
  show Plan_forgetRows_L2s (n + 4) (Plan_forgetRows_L2 (n + 4) (n + 1)) 82 2 _ = _
  unfold Plan_forgetRows_L2s
  rw [if_pos (by decide), gN1 s2, sN1 s2 (by decide) (by decide) (Or.inl rfl), show w32 (2 + 1) = 3 by decide]
  show Plan_forgetRows_L2s (n + 4) (Plan_forgetRows_L2 (n + 4) n) 82 3 _ = _
  unfold Plan_forgetRows_L2s
  rw [if_neg (by decide), pN6 s3 (Or.inl rfl)]
