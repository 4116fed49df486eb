/-! the class reads a law's sides -/
def TkC (h : Hp) (K V P : Nat → Int) : Prop := ∀ t : Nat, t ≤ 400 → rd h 5 t = K t ∧ rd h 7 t = P t ∧ w32 (rd h 6 t) = V t ∧ (K t = 19 → 0 ≤ V t ∧ V t < 100000)
/-- what reading a piece of a law may change -/
def Fq (c : Int) (hb h : Hp) : Prop := (hsz h = hsz hb ∧ hus h = hus hb ∧ hkd h = hkd hb ∧ hln h = hln hb) ∧ Sh h ∧ (∀ a, a ≠ 3 → a ≠ c + 8 → a ≠ c + 9 → rd h a = rd hb a) ∧ (∀ k, ¬ (7 ≤ k ∧ k ≤ 9) → rd h 3 k = rd hb 3 k) ∧ (∀ k, k ≠ 4 → rd h (c + 8) k = rd hb (c + 8) k) ∧ (0 ≤ rd hb (c + 8) 4 ∧ rd hb (c + 8) 4 ≤ rd h (c + 8) 4 ∧ rd h (c + 8) 4 ≤ 450) ∧ (0 ≤ rd h 3 7 ∧ rd h 3 7 ≤ 400) ∧ ∀ j, j < rd hb (c + 8) 4 → rd h (c + 9) j = rd hb (c + 9) j
def EC (c b : Int) (hb h : Hp) (t : Nat) (o : Cds) : Prop := Fq c hb h ∧ (rd h 3 8 = 0 ∧ rd h 3 7 = t ∧ t ≤ 400) ∧ rd h (c + 8) 4 = rd hb (c + 8) 4 + o.length ∧ clA (rd h (c + 9)) (rd hb (c + 8) 4) o ∧ rd h (c + 8) 4 ≤ b + t
def ED (c : Int) (hb h : Hp) (e p : Int) : Prop := Fq c hb h ∧ e ≠ 0 ∧ rd h 3 8 = e ∧ rd h 3 9 = p
theorem EC_mono {c b b' : Int} {hb h : Hp} {t : Nat} {o : Cds} (g : EC c b hb h t o) (hbb : b ≤ b') : EC c b' hb h t o := ⟨g.1, g.2.1, g.2.2.1, g.2.2.2.1, by have := g.2.2.2.2; omega⟩
theorem clA_app {S : Int → Int} : ∀ (a b : Cds) (c : Int), clA S c (a ++ b) ↔ clA S c a ∧ clA S (c + a.length) b
  | [], b, c => by
    show clA S c b ↔ True ∧ clA S (c + ((0 : Nat) : Int)) b
    rw [Int.natCast_zero, Int.add_zero]; exact ⟨fun h => ⟨trivial, h⟩, fun h => h.2⟩
  | q :: a, b, c => by
    show (S c = csc q ∧ _ ∧ clA S (c + 1) (a ++ b)) ↔ (S c = csc q ∧ _ ∧ clA S (c + 1) a) ∧ clA S (c + ((a.length + 1 : Nat) : Int)) b
    rw [clA_app a b (c + 1), show c + 1 + (a.length : Int) = c + ((a.length + 1 : Nat) : Int) by omega]
    exact ⟨fun ⟨h1, h2, h3, h4⟩ => ⟨⟨h1, h2, h3⟩, h4⟩, fun ⟨⟨h1, h2, h3⟩, h4⟩ => ⟨h1, h2, h3, h4⟩⟩
theorem clA_eq {S S' : Int → Int} : ∀ (a : Cds) (c : Int), (∀ j, c ≤ j → j < c + a.length → S' j = S j) → clA S c a → clA S' c a
  | [], _, _, _ => trivial
  | q :: a, c, h, g => by
    obtain ⟨g1, g2, g3⟩ := g
    have hl : ((q :: a).length : Int) = (a.length : Int) + 1 := by simp
    exact ⟨by rw [h c (by omega) (by omega)]; exact g1, g2, clA_eq a (c + 1) (fun j j0 j1 => h j (by omega) (by omega)) g3⟩
theorem ok3 {k : Int} (hk : 6 ≤ k) : okW 3 k = true := by
  unfold okW
  rw [Bool.not_eq_true', List.any_eq_false]
  intro q hq
  have := (show ∀ q ∈ refL, q.1 = 3 → q.2.1 < 6 by decide +kernel) q hq
  intro e
  rw [Bool.and_eq_true, beq_iff_eq, beq_iff_eq] at e
  have := this e.1
  omega
theorem Fq_3 {c : Int} (ic : isSc c) {hb h : Hp} (f : Fq c hb h) {k v : Int} (hk : k = 8 ∨ k = 9 ∨ (k = 7 ∧ 0 ≤ v ∧ v ≤ 400)) : Fq c hb (wr h 3 k v) := by
  have hcc : c = 9 ∨ c = 23 := ic
  obtain ⟨f1, f2, f3, f4, f5, f6, f7, f8⟩ := f
  refine ⟨f1, shOk f2 (ok3 (by omega)), fun a h1 h2 h3 => by rw [rd_wr_ne h1]; exact f3 a h1 h2 h3, fun j hj => by rw [rd_i (by omega)]; exact f4 j hj, fun j hj => by rw [rd_wr_ne (by omega)]; exact f5 j hj, by rw [rd_wr_ne (by omega)]; exact f6, ?_, fun j hj => by rw [rd_wr_ne (by omega)]; exact f8 j hj⟩
  by_cases e : k = 7
  · subst e; rw [rd_same]; omega
  · rw [rd_i (by omega)]; exact f7
theorem TkC_Fq {c : Int} (ic : isSc c) {hb h : Hp} {K V P : Nat → Int} (f : Fq c hb h) (tk : TkC hb K V P) : TkC h K V P := fun t ht => by
  have hcc : c = 9 ∨ c = 23 := ic
  rw [f.2.2.1 5 (by decide) (by omega) (by omega), f.2.2.1 6 (by decide) (by omega) (by omega), f.2.2.1 7 (by decide) (by omega) (by omega)]
  exact tk t ht
theorem c_accept {F : Nat} {h : Hp} {K V P : Nat → Int} {k : Int} {t : Nat} (s : Sh h) (tk : TkC h K V P) (ht : t ≤ 400) (h7 : rd h 3 7 = t) (h8 : rd h 3 8 = 0) : Read_accept F 3 k h = (match pAcc K P k t with | Sum.inr t' => some (1, wr h 3 7 (t' : Nat)) | Sum.inl q => some (0, wr (wr h 3 8 q.1) 3 9 q.2)) := by
  obtain ⟨t1, t2, t3, t4⟩ := tk t ht
  have B63 : ∀ e, Read_accept_B63 F 3 e 3 h = some (0, wr (wr h 3 8 e) 3 9 (P t)) := by
    intro e
    have s1 : Sh (wr h 3 8 e) := shOk s (ok3 (by decide))
    unfold Read_accept_B63
    rw [pR8 s, gR3 s1, gR7 s1, rd_i (by decide), h7, aR3 s1 (by omega) (by omega), rd_wr_ne (by decide), t2, pR9 s1, rz_0]
  unfold Read_accept pAcc
  rw [gR8 s, h8, if_pos rfl, gR1 s, gR7 s, h7, aR1 s (by omega) (by omega), t1]
  by_cases c1 : K t = k
  · rw [if_pos c1, if_pos c1, gR7 s, h7]
    by_cases c2 : t < 400
    · rw [if_pos (by omega), if_pos c2, gR7 s, h7, pR7 s, w32_nat (by omega), rz_1]
    · rw [if_neg (by omega), if_neg c2]
      unfold Read_accept_B44
      rw [gR1 s, gR7 s, h7, aR1 s (by omega) (by omega), t1, if_pos c1]
      exact B63 2
  · rw [if_neg c1, if_neg c1]
    unfold Read_accept_B44
    rw [gR1 s, gR7 s, h7, aR1 s (by omega) (by omega), t1, if_neg c1]
    exact B63 1
theorem c_accept_d {F : Nat} {h : Hp} {k : Int} (s : Sh h) (h8 : rd h 3 8 ≠ 0) : Read_accept F 3 k h = some (0, h) := by
  unfold Read_accept
  rw [gR8 s, if_neg h8, rz_0]
theorem c_failR {F : Nat} {h : Hp} {K V P : Nat → Int} {n : Int} {t : Nat} (s : Sh h) (tk : TkC h K V P) (ht : t ≤ 400) (h7 : rd h 3 7 = t) (h8 : rd h 3 8 = 0) : Read_fail F 3 n h = some (0, wr (wr h 3 8 n) 3 9 (P t)) := by
  obtain ⟨t1, t2, t3, t4⟩ := tk t ht
  have s1 : Sh (wr h 3 8 n) := shOk s (ok3 (by decide))
  unfold Read_fail
  rw [gR8 s, h8, if_pos rfl, pR8 s, gR3 s1, gR7 s1, rd_i (by decide), h7, aR3 s1 (by omega) (by omega), rd_wr_ne (by decide), t2, pR9 s1]
theorem c_fail_d {F : Nat} {h : Hp} {n : Int} (s : Sh h) (h8 : rd h 3 8 ≠ 0) : Read_fail F 3 n h = some (0, h) := by
  unfold Read_fail
  rw [gR8 s, if_neg h8]
theorem ED_fl {c : Int} (ic : isSc c) {hb h : Hp} (f : Fq c hb h) {e p : Int} (he : e ≠ 0) : ED c hb (wr (wr h 3 8 e) 3 9 p) e p := ⟨Fq_3 ic (Fq_3 ic f (Or.inl rfl)) (Or.inr (Or.inl rfl)), he, by rw [rd_i (by decide), rd_same], rd_same _ _ _ _⟩
theorem pAcc_e {K P : Nat → Int} {k : Int} {t : Nat} {q : Int × Int} (h : pAcc K P k t = Sum.inl q) : q.1 ≠ 0 := by
  unfold pAcc at h
  split at h
  · split at h
    · cases h
    · cases h; show (2 : Int) ≠ 0; decide
  · cases h; show (1 : Int) ≠ 0; decide
theorem t_acc {F : Nat} {c b : Int} (ic : isSc c) {hb h : Hp} {K V P : Nat → Int} {k : Int} {t : Nat} {o : Cds} (tk : TkC hb K V P) (g : EC c b hb h t o) : T (Read_accept F 3 k h) (fun r h' => match pAcc K P k t with | Sum.inr t' => r = 1 ∧ EC c (b - 1) hb h' t' o | Sum.inl q => r = 0 ∧ ED c hb h' q.1 q.2) := by
  have hcc : c = 9 ∨ c = 23 := ic
  obtain ⟨f, ⟨g8, g7, gt⟩, g4, g9, gb⟩ := g
  rw [c_accept f.2.1 (TkC_Fq ic f tk) gt g7 g8]
  cases hp : pAcc K P k t with
  | inl q => exact T_some ⟨rfl, ED_fl ic f (pAcc_e hp)⟩
  | inr t' =>
    obtain ⟨p1, p2, p3⟩ := pAcc_inr hp
    refine T_some ⟨rfl, Fq_3 ic f (Or.inr (Or.inr ⟨rfl, by omega, by omega⟩)), ⟨by rw [rd_i (by decide)]; exact g8, rd_same _ _ _ _, by omega⟩, by rw [rd_wr_ne (by omega)]; exact g4, by rw [rd_wr_ne (by omega)]; exact g9, by rw [rd_wr_ne (by omega)]; omega⟩
theorem t_acc_d {F : Nat} {c : Int} {hb h : Hp} {k e p : Int} (g : ED c hb h e p) : T (Read_accept F 3 k h) (fun r h' => r = 0 ∧ ED c hb h' e p) := by
  rw [c_accept_d g.1.2.1 (by rw [g.2.2.1]; exact g.2.1)]
  exact T_some ⟨rfl, g⟩
theorem t_fail {F : Nat} {c b : Int} (ic : isSc c) {hb h : Hp} {K V P : Nat → Int} {n : Int} {t : Nat} {o : Cds} (hn : n ≠ 0) (tk : TkC hb K V P) (g : EC c b hb h t o) : T (Read_fail F 3 n h) (fun _ h' => ED c hb h' n (P t)) := by
  rw [c_failR g.1.2.1 (TkC_Fq ic g.1 tk) g.2.1.2.2 g.2.1.2.1 g.2.1.1]
  exact T_some (ED_fl ic g.1 hn)
theorem t_fail_d {F : Nat} {c : Int} {hb h : Hp} {n e p : Int} (g : ED c hb h e p) : T (Read_fail F 3 n h) (fun _ h' => ED c hb h' e p) := by
  rw [c_fail_d g.1.2.1 (by rw [g.2.2.1]; exact g.2.1)]
  exact T_some g
/-- a step is told -/
theorem c_emit {F : Nat} {h : Hp} {c st ar : Int} (s : Sh h) (ic : isSc c) (hu : 0 ≤ rd h (c + 8) 4) (ha : 0 ≤ ar ∧ ar < 1000000) (hs : 0 ≤ st ∧ st < 256) : Laws_emit F (c + 8) st ar h = some (rd h (c + 8) 4, if rd h (c + 8) 4 < 450 then wr (wr h (c + 9) (rd h (c + 8) 4) (ar * 256 + st)) (c + 8) 4 (rd h (c + 8) 4 + 1) else h) := by
  unfold Laws_emit
  rw [gL4 s ic]
  by_cases q : rd h (c + 8) 4 < 450
  · have s1 : Sh (wr h (c + 9) (rd h (c + 8) 4) (ar * 256 + st)) := shOk s (okC ic (Or.inr (by decide)))
    rw [if_pos q, if_pos q, gL0 s ic, w32_id (x := ar * 256) (by omega) (by omega), w32_id (x := ar * 256 + st) (by omega) (by omega), sL0 s ic hu q, gL4 s1 ic, rd_wr_ne (by omega), pL4 s1 ic, w32_id (by omega) (by omega)]
  · rw [if_neg q, if_neg q]
theorem Fq_em {c : Int} (ic : isSc c) {hb h : Hp} (f : Fq c hb h) {x : Int} (hu : rd h (c + 8) 4 < 450) : Fq c hb (wr (wr h (c + 9) (rd h (c + 8) 4) x) (c + 8) 4 (rd h (c + 8) 4 + 1)) := by
  have hcc : c = 9 ∨ c = 23 := ic
  obtain ⟨f1, f2, f3, f4, f5, f6, f7, f8⟩ := f
  refine ⟨f1, shOk (shOk f2 (okC ic (Or.inr (by decide)))) (okL4 ic), fun a h1 h2 h3 => by rw [rd_wr_ne h2, rd_wr_ne h3]; exact f3 a h1 h2 h3, fun j hj => by rw [rd_wr_ne (by omega), rd_wr_ne (by omega)]; exact f4 j hj, fun j hj => by rw [rd_i hj, rd_wr_ne (by omega)]; exact f5 j hj, ?_, by rw [rd_wr_ne (by omega), rd_wr_ne (by omega)]; exact f7, fun j hj => by rw [rd_wr_ne (by omega), rd_i (by omega)]; exact f8 j hj⟩
  rw [rd_same]
  omega
theorem t_emit {F : Nat} {c b : Int} (ic : isSc c) {hb h : Hp} {st ar : Int} {q : Int × Int} {t : Nat} {o : Cds} (hb40 : b ≤ 40) (ha : 0 ≤ ar ∧ ar < 100000) (hs : 0 ≤ st ∧ st < 256) (eq : csc q = ar * 256 + st) (hq : q.1 = 0 → 0 ≤ q.2 ∧ q.2 < 100000) (g : EC c b hb h t o) : T (Laws_emit F (c + 8) st ar h) (fun _ h' => EC c (b + 1) hb h' t (o ++ [q])) := by
  have hcc : c = 9 ∨ c = 23 := ic
  obtain ⟨f, ⟨g8, g7, gt⟩, g4, g9, gb⟩ := g
  have f6 := f.2.2.2.2.2.1
  rw [c_emit f.2.1 ic (by omega) (by omega) hs, if_pos (by omega)]
  have hl : (((o ++ [q]).length : Nat) : Int) = (o.length : Int) + 1 := by simp
  refine T_some ⟨Fq_em ic f (by omega), ⟨by rw [rd_wr_ne (by omega), rd_wr_ne (by omega)]; exact g8, by rw [rd_wr_ne (by omega), rd_wr_ne (by omega)]; exact g7, gt⟩, by rw [rd_same, hl]; omega, ?_, by rw [rd_same]; omega⟩
  rw [clA_app, rd_wr_ne (show c + 9 ≠ c + 8 by omega)]
  refine ⟨clA_eq o _ (fun j j0 j1 => rd_i (by omega)) g9, ⟨?_, hq, trivial⟩⟩
  rw [g4, rd_same, eq]
theorem t_emit_d {F : Nat} {c : Int} (ic : isSc c) {hb h : Hp} {st ar e p : Int} (ha : 0 ≤ ar ∧ ar < 1000000) (hs : 0 ≤ st ∧ st < 256) (g : ED c hb h e p) : T (Laws_emit F (c + 8) st ar h) (fun r h' => ED c hb h' e p ∧ rd hb (c + 8) 4 ≤ r) := by
  have hcc : c = 9 ∨ c = 23 := ic
  obtain ⟨f, he, e8, e9⟩ := g
  have f6 := f.2.2.2.2.2.1
  rw [c_emit f.2.1 ic (by omega) ha hs]
  by_cases q : rd h (c + 8) 4 < 450
  · rw [if_pos q]
    exact T_some ⟨⟨Fq_em ic f q, he, by rw [rd_wr_ne (by omega), rd_wr_ne (by omega)]; exact e8, by rw [rd_wr_ne (by omega), rd_wr_ne (by omega)]; exact e9⟩, f6.2.1⟩
  · rw [if_neg q]
    exact T_some ⟨⟨f, he, e8, e9⟩, f6.2.1⟩
