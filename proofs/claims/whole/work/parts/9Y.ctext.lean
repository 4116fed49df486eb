/-! the class reads laws as tells, and a text -/
theorem Fz_Fq {c : Int} {hb h : Hp} (f : Fq c hb h) : Fz c hb h := ⟨f.1, f.2.1, fun a h1 _ h3 => f.2.2.1 a h1 (by omega) (by omega), fun k hk => f.2.2.2.1 k (by omega), f.2.2.2.2.2.2.1⟩
theorem DZ_ED {c : Int} {hb h : Hp} {e p : Int} (g : ED c hb h e p) : DZ c hb h e p := ⟨Fz_Fq g.1, g.2⟩
theorem DZ_trans {c : Int} {hb h h' : Hp} {e p : Int} (a : Fz c hb h) (b : DZ c h h' e p) : DZ c hb h' e p := ⟨Fz_trans a b.1, b.2⟩
theorem lw_dead {F : Nat} {c : Int} {K V P : Nat → Int} (hF : 1000 ≤ F) (ic : isSc c) {hb : Hp} (tk : TkC hb K V P) (h5 : rd hb 3 5 = c) (N : Nat) (l3 : Int) (h : Hp) (e p : Int) (hN : 0 < N) (g : ED c hb h e p) : T (Read_takeLaw_L30 F N 3 (c + 8) l3 h) (fun _ h' => ED c hb h' e p) := by
  obtain ⟨ua, ub⟩ := sp_E (F := F) (K := K) (V := V) (P := P) hF ic hb tk h5
  obtain ⟨n, rfl⟩ : ∃ n, N = n + 1 := ⟨N - 1, by omega⟩
  have B : T (Read_takeLaw_B137 F 3 (c + 8) h) (fun _ h' => ED c hb h' e p) := by
    unfold Read_takeLaw_B137
    refine T_iv g.1.2.1 (ub h e p g) (fun _ h1 g1 => ?_)
    exact T_ivL g1.1.2.1 ic (t_emit_d ic (by decide) (by decide) g1) (fun _ h2 g2 => T_some g2.1)
  show T (Read_takeLaw_L30s F (Read_takeLaw_L30 F n) 3 (c + 8) l3 h) _
  unfold Read_takeLaw_L30s
  by_cases c4 : 4 < l3
  · rw [if_pos c4]; exact B
  · rw [if_neg c4, gR8 g.1.2.1, if_neg (by rw [g.2.2.1]; exact g.2.1)]; exact B
theorem c_lbegin {F : Nat} {h : Hp} {c k : Int} (s : Sh h) (ic : isSc c) (hk : 0 ≤ k ∧ k < 5) : Laws_begin F (c + 8) k h = some (0, wr h (c + 10) k (rd h (c + 8) 4)) := by
  unfold Laws_begin
  rw [if_neg (by omega), if_pos hk.2, gL1 s ic, gL4 s ic, sL1 s ic hk.1 hk.2]
theorem okT {c : Int} (ic : isSc c) {i : Int} : okW (c + 10) i = true := okC ic (Or.inr (by decide))
/-- a law that begins here -/
theorem Fz_bg {c : Int} (ic : isSc c) {hb h : Hp} (f : Fz c hb h) {i v : Int} : Fz c hb (wr h (c + 10) i v) := Fz_wr f (okT ic) (Or.inr (by omega)) ic
theorem t_law {F : Nat} {c : Int} (hF : 1000 ≤ F) (ic : isSc c) {h : Hp} {K V P M : Nat → Int} {s : Sg} (sh : Sh h) (tk : TkC h K V P) (h5 : rd h 3 5 = c) (g : TSc c h M s) (hk : 2 ≤ K s.1 ∧ K s.1 ≤ 6) : T (iv h 3 103 (Read_takeLaw F 3 (K s.1) h) fun _ h5 => Read_takeTell_B175 F 3 h5) (fun _ h' => QT c M h h' (pLaw K V P s)) := by
  have hcc : c = 9 ∨ c = 23 := ic
  obtain ⟨ga, cx, clz, gu, gm, gn, g0, g1, g25⟩ := g
  have f0 : Fq c h h := Fq_refl sh clz.1 (by rw [ga.2.1]; omega)
  have e0 : EC c 10 h h s.1 [] := EC_here f0 ga gu
  have kd : 0 ≤ K s.1 - 2 ∧ K s.1 - 2 < 5 := by omega
  have deadB : ∀ (h1 : Hp) (e p : Int), DZ c h h1 e p → T (Read_takeTell_B175 F 3 h1) (fun _ h' => DZ c h h' e p) := fun h1 e p z => st_semi (r := Sum.inl (e, p)) (W := fun _ => h) ic tk z
  have dead : ∀ (h2 : Hp) (e p : Int), ED c h h2 e p → T (iv h2 (c + 8) 100 (Laws_begin F (c + 8) (w32 (K s.1 - 2)) h2) fun _ h8 => Read_takeLaw_L30 F F 3 (c + 8) 0 h8) (fun _ h' => DZ c h h' e p) := by
    intro h2 e p z
    have s2 := z.1.2.1
    have f6 := z.1.2.2.2.2.2.1
    rw [w32_id (by omega) (by omega), ivL s2 ic, c_lbegin s2 ic kd, cl_some]
    have Z3 : Fz c h (wr h2 (c + 10) (K s.1 - 2) (rd h2 (c + 8) 4)) := Fz_bg ic (Fz_Fq z.1)
    have s3 := Z3.2.1
    have z3 : ED c (wr h2 (c + 10) (K s.1 - 2) (rd h2 (c + 8) 4)) (wr h2 (c + 10) (K s.1 - 2) (rd h2 (c + 8) 4)) e p := ⟨Fq_refl s3 (by rw [rd_wr_ne (by omega)]; omega) Z3.2.2.2.2, z.2.1, by rw [rd_wr_ne (by omega)]; exact z.2.2.1, by rw [rd_wr_ne (by omega)]; exact z.2.2.2⟩
    refine T_mono (lw_dead hF ic (TkC_Fz ic Z3 tk) ((Z3.2.2.2.1 5 (by decide)).trans h5) F 0 _ e p (by omega) z3) (fun _ h' q => DZ_trans Z3 (DZ_ED q))
  have body : T (Read_takeLaw F 3 (K s.1) h) (fun _ h' => match rbd (pAcc K P (K s.1) s.1) (fun t1 => rbd (pAcc K P 61 t1) (fun t2 => pIf K V P 4 t2 [])) with | Sum.inl q => DZ c h h' q.1 q.2 | Sum.inr q => ∃ h2, Fq c h h2 ∧ rd h2 (c + 8) 4 = rd h (c + 8) 4 ∧ LwOk q.2 ∧ s.1 ≤ q.1 ∧ LEz c 9 (wr h2 (c + 10) (K s.1 - 2) (rd h2 (c + 8) 4)) h' q.1 q.2) := by
    unfold Read_takeLaw
    rw [gR5 sh, h5, gC14 sh ic]
    refine T_iv sh (t_acc ic tk e0) (fun _ h1 z1 => ?_)
    cases p1 : pAcc K P (K s.1) s.1 with
    | inl q =>
      rw [p1] at z1
      refine T_iv z1.2.1.2.1 (t_acc_d z1.2) (fun _ h2 z2 => ?_)
      exact dead h2 q.1 q.2 z2.2
    | inr t1 =>
      rw [p1] at z1
      refine T_iv z1.2.1.2.1 (t_acc ic tk z1.2) (fun _ h2 z2 => ?_)
      show T _ (fun _ h' => match rbd (pAcc K P 61 t1) (fun t2 => pIf K V P 4 t2 []) with | Sum.inl q => DZ c h h' q.1 q.2 | Sum.inr q => ∃ h2, Fq c h h2 ∧ rd h2 (c + 8) 4 = rd h (c + 8) 4 ∧ LwOk q.2 ∧ s.1 ≤ q.1 ∧ LEz c 9 (wr h2 (c + 10) (K s.1 - 2) (rd h2 (c + 8) 4)) h' q.1 q.2)
      cases p2 : pAcc K P 61 t1 with
      | inl q => rw [p2] at z2; exact dead h2 q.1 q.2 z2.2
      | inr t2 =>
        rw [p2] at z2
        obtain ⟨f2, a2, u2, -, b2⟩ := z2.2
        have s2 := f2.2.1
        have f6 := f2.2.2.2.2.2.1
        have hu2 : rd h2 (c + 8) 4 = rd h (c + 8) 4 := by rw [u2]; show _ + ((0 : Nat) : Int) = _; omega
        have Z3 : Fz c h (wr h2 (c + 10) (K s.1 - 2) (rd h2 (c + 8) 4)) := Fz_bg ic (Fz_Fq f2)
        have s3 := Z3.2.1
        rw [w32_id (by omega) (by omega), ivL s2 ic, c_lbegin s2 ic kd, cl_some]
        have L0 : LZ c 8 (wr h2 (c + 10) (K s.1 - 2) (rd h2 (c + 8) 4)) (wr h2 (c + 10) (K s.1 - 2) (rd h2 (c + 8) 4)) t2 [] := ⟨Fq_refl s3 (by rw [rd_wr_ne (by omega)]; omega) Z3.2.2.2.2, by rw [rd_wr_ne (by omega)]; exact a2, rfl, by rw [rd_wr_ne (by omega)]; omega⟩
        have key := t_ifs (F := F) hF ic (TkC_Fz ic Z3 tk) ((Z3.2.2.2.1 5 (by decide)).trans h5) (show (8 : Int) ≤ 20 by decide) 4 F _ t2 [] (by decide) (by omega) L0
        refine T_mono key (fun _ h' q => ?_)
        obtain ⟨pa, pb, pc⟩ := pAcc_inr p1
        obtain ⟨pd, pe, pf⟩ := pAcc_inr p2
        show match pIf K V P 4 t2 [] with | Sum.inl q => DZ c h h' q.1 q.2 | Sum.inr q => ∃ h2, Fq c h h2 ∧ rd h2 (c + 8) 4 = rd h (c + 8) 4 ∧ LwOk q.2 ∧ s.1 ≤ q.1 ∧ LEz c 9 (wr h2 (c + 10) (K s.1 - 2) (rd h2 (c + 8) 4)) h' q.1 q.2
        cases p3 : pIf K V P 4 t2 [] with
        | inl z => rw [p3] at q; exact DZ_trans Z3 (DZ_ED q)
        | inr z =>
          rw [p3] at q
          refine ⟨h2, f2, hu2, pIf_ok 4 t2 [] z (by omega) (fun _ hq => absurd hq (by simp)) p3, ?_, q⟩
          have := (pIf_t 4 t2 [] z (by omega) p3).1
          omega
  unfold pLaw
  refine T_iv sh body (fun _ h4 z4 => ?_)
  cases p1 : pAcc K P (K s.1) s.1 with
  | inl q => rw [p1] at z4; exact deadB h4 q.1 q.2 z4
  | inr t1 =>
    rw [p1] at z4
    show T _ (fun _ h' => QT c M h h' (rbd (pAcc K P 61 t1) (fun t2 => rbd (pIf K V P 4 t2 []) (fun q => rbd (pAcc K P 59 q.1) (fun t' => Sum.inr (t', s.2.1, (fun k => if (k : Int) = K s.1 - 2 then q.2 else s.2.2.1 k), s.2.2.2))))))
    replace z4 : match rbd (pAcc K P 61 t1) (fun t2 => pIf K V P 4 t2 []) with | Sum.inl q => DZ c h h4 q.1 q.2 | Sum.inr q => ∃ h2, Fq c h h2 ∧ rd h2 (c + 8) 4 = rd h (c + 8) 4 ∧ LwOk q.2 ∧ s.1 ≤ q.1 ∧ LEz c 9 (wr h2 (c + 10) (K s.1 - 2) (rd h2 (c + 8) 4)) h4 q.1 q.2 := z4
    cases p2 : pAcc K P 61 t1 with
    | inl q => rw [p2] at z4; exact deadB h4 q.1 q.2 z4
    | inr t2 =>
      rw [p2] at z4
      replace z4 : match pIf K V P 4 t2 [] with | Sum.inl q => DZ c h h4 q.1 q.2 | Sum.inr q => ∃ h2, Fq c h h2 ∧ rd h2 (c + 8) 4 = rd h (c + 8) 4 ∧ LwOk q.2 ∧ s.1 ≤ q.1 ∧ LEz c 9 (wr h2 (c + 10) (K s.1 - 2) (rd h2 (c + 8) 4)) h4 q.1 q.2 := z4
      show T _ (fun _ h' => QT c M h h' (rbd (pIf K V P 4 t2 []) (fun q => rbd (pAcc K P 59 q.1) (fun t' => Sum.inr (t', s.2.1, (fun k => if (k : Int) = K s.1 - 2 then q.2 else s.2.2.1 k), s.2.2.2)))))
      cases p3 : pIf K V P 4 t2 [] with
      | inl q => rw [p3] at z4; exact deadB h4 q.1 q.2 z4
      | inr q =>
        rw [p3] at z4
        obtain ⟨h2, f2, hu2, lok, hge, ⟨f4, a4, w4, b4⟩⟩ := z4
        have Z3 : Fz c h (wr h2 (c + 10) (K s.1 - 2) (rd h2 (c + 8) 4)) := Fz_bg ic (Fz_Fq f2)
        have Z4 := Fz_trans Z3 (Fz_Fq f4)
        have s4 := Z4.2.1
        show T _ (fun _ h' => QT c M h h' (rbd (pAcc K P 59 q.1) (fun t' => Sum.inr (t', s.2.1, (fun k => if (k : Int) = K s.1 - 2 then q.2 else s.2.2.1 k), s.2.2.2))))
        unfold Read_takeTell_B175
        rw [ivR s4, c_accept s4 (TkC_Fz ic Z4 tk) a4.2.2 a4.2.1 a4.1]
        cases p4 : pAcc K P 59 q.1 with
        | inl z =>
          rw [cl_some]
          exact T_some ⟨Fz_3 (Fz_3 Z4 (by decide) (fun q => absurd q (by decide))) (by decide) (fun q => absurd q (by decide)), pAcc_e p4, by rw [rd_i (by decide), rd_same], rd_same _ _ _ _⟩
        | inr t' =>
          obtain ⟨pa, pb, pc⟩ := pAcc_inr p4
          have n4 : ∀ a, a ≠ 3 → a ≠ c + 8 → a ≠ c + 9 → a ≠ c + 10 → rd (wr h4 3 7 (t' : Nat)) a = rd h a := fun a q1 q2 q3 q4 => by rw [rd_wr_ne q1, f4.2.2.1 a q1 q2 q3, rd_wr_ne q4, f2.2.2.1 a q1 q2 q3]
          have k4 : ∀ k, ¬ (7 ≤ k ∧ k ≤ 9) → rd (wr h4 3 7 (t' : Nat)) 3 k = rd h 3 k := fun k hk => by rw [rd_i (by omega), f4.2.2.2.1 k hk, rd_wr_ne (by omega), f2.2.2.2.1 k hk]
          have u8 : rd (wr h4 3 7 (t' : Nat)) (c + 8) = rd h4 (c + 8) := rd_wr_ne (by omega)
          have u9 : rd (wr h4 3 7 (t' : Nat)) (c + 9) = rd h4 (c + 9) := rd_wr_ne (by omega)
          have u10 : ∀ j, rd (wr h4 3 7 (t' : Nat)) (c + 10) j = if j = K s.1 - 2 then rd h (c + 8) 4 else rd h (c + 10) j := fun j => by
            rw [rd_wr_ne (by omega), f4.2.2.1 (c + 10) (by omega) (by omega) (by omega)]
            by_cases e : j = K s.1 - 2
            · subst e; rw [rd_same, if_pos rfl, hu2]
            · rw [rd_i e, if_neg e, f2.2.2.1 (c + 10) (by omega) (by omega) (by omega)]
          have F4 := f4.2.2.2.2.2.1
          have uw : rd (wr h2 (c + 10) (K s.1 - 2) (rd h2 (c + 8) 4)) (c + 8) 4 = rd h (c + 8) 4 := by rw [rd_wr_ne (by omega)]; exact hu2
          rw [uw] at F4 w4
          have S4 : ∀ j, j < rd h (c + 8) 4 → rd h4 (c + 9) j = rd h (c + 9) j := fun j hj => by
            rw [f4.2.2.2.2.2.2.2 j (by rw [uw]; exact hj), rd_wr_ne (by omega)]
            exact f2.2.2.2.2.2.2.2 j hj
          rw [cl_some]
          refine T_some ⟨Fz_3 Z4 (by decide) (fun _ => ⟨by omega, by omega⟩), ⟨by rw [rd_i (by decide)]; exact a4.1, rd_same _ _ _ _, by show t' ≤ 400; omega⟩, CxE_eq (fun x q1 q2 => n4 x (by omega) (by omega) (by omega) (by omega)) cx, ⟨⟨?_, ?_⟩, fun k hk5 => ?_⟩, ?_, ⟨?_, fun z => ?_⟩, ⟨?_, fun i i0 il => ?_⟩, g0, g1, g25⟩
          · rw [u8]; omega
          · rw [u8]; omega
          · rw [u8, u9, u10]
            obtain ⟨l1, l2, l3⟩ := clz.2 k hk5
            by_cases e : (k : Int) = K s.1 - 2
            · rw [if_pos e]
              have hne : q.2 ≠ [] := fun z => by rw [z] at w4; exact absurd w4 (by simp [CLw])
              show 0 ≤ _ ∧ CLw _ _ _ (cLw k (if (k : Int) = K s.1 - 2 then q.2 else s.2.2.1 k)) ∧ LwOk (if (k : Int) = K s.1 - 2 then q.2 else s.2.2.1 k)
              rw [if_pos e]
              refine ⟨clz.1.1, ?_, lok⟩
              unfold cLw
              rw [if_neg hne]
              exact w4
            · rw [if_neg e]
              show 0 ≤ _ ∧ CLw _ _ _ (cLw k (if (k : Int) = K s.1 - 2 then q.2 else s.2.2.1 k)) ∧ LwOk (if (k : Int) = K s.1 - 2 then q.2 else s.2.2.1 k)
              rw [if_neg e]
              exact ⟨l1, CLw_mono F4.2.1 _ _ (fun j j0 j1 => S4 j j1) l2, l3⟩
          · rw [u8]; show _ ≤ 10 + (t' : Int); omega
          · rw [k4 10 (by omega)]; exact gm.1
          · rw [k4 11 (by omega)]; exact gm.2 z
          · rw [k4 6 (by omega)]; exact gn.1
          · rw [n4 8 (by decide) (by omega) (by omega) (by omega)]; exact gn.2 i i0 il
