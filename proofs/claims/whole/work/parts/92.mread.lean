/-! the reference's read: TOKENS from the tape -/
theorem i2b_id {v : Int} (h : -128 ≤ v ∧ v ≤ 127) : i2b v = v := by
  have key : ∀ k : Nat, k < 256 → i2b ((k : Int) - 128) = (k : Int) - 128 := by decide +kernel
  have := key (v + 128).toNat (by omega)
  rw [show (((v + 128).toNat : Nat) : Int) - 128 = v by omega] at this
  exact this
theorem run_congr {p : Int → Bool} {B B' : Int → Int} : ∀ (n : Nat) (i : Int), (∀ j, i ≤ j → j < i + n → B' j = B j) → run p B' n i = run p B n i
  | 0, _, _ => rfl
  | n + 1, i, h => by
    unfold run
    rw [h i (by omega) (by omega), run_congr n (i + 1) (fun j h1 h2 => h j (by omega) (by omega))]
theorem ltr_congr {B B' : Int → Int} {i : Int} : ∀ (k : Nat), (∀ j, i ≤ j → j < i + k → B' j = B j) → ltr B' i k = ltr B i k
  | 0, _ => rfl
  | k + 1, h => by
    unfold ltr
    rw [h (i + k) (by omega) (by omega), ltr_congr k (fun j h1 h2 => h j h1 (by omega))]
theorem vlD_congr {B B' : Int → Int} {i : Int} : ∀ (k : Nat), (∀ j, i ≤ j → j < i + k → B' j = B j) → vlD B' i k = vlD B i k
  | 0, _ => rfl
  | k + 1, h => by
    unfold vlD
    rw [h (i + k) (by omega) (by omega), vlD_congr k (fun j h1 h2 => h j h1 (by omega))]
theorem lx_congr {B B' : Int → Int} {n : Int} (h : ∀ j, 0 ≤ j → j < n → B' j = B j) : ∀ (f : Nat) (i : Int), 0 ≤ i → lx B' n f i = lx B n f i
  | 0, _, _ => rfl
  | f + 1, i, hi => by
    unfold lx
    by_cases hn : n ≤ i
    · rw [if_pos hn, if_pos hn]
    · have rc : ∀ p, run p B' (n - i).toNat i = run p B (n - i).toNat i := fun p => run_congr _ i (fun j h1 h2 => h j (by omega) (by omega))
      have l1 := run_le isL B (n - i).toNat i
      have l2 := run_le isD B (n - i).toNat i
      rw [if_neg hn, if_neg hn, h i hi (by omega), rc isL, rc isD, ltr_congr _ (fun j h1 h2 => h j (by omega) (by omega)), vlD_congr _ (fun j h1 h2 => h j (by omega) (by omega)), lx_congr h f (i + 1) (by omega), lx_congr h f _ (by omega), lx_congr h f _ (by omega)]
/-- the TOKENS of a tape, by number -/
def tsF (B : Int → Int) (n : Int) : List Tkn := lx B n 2001 0
def KF (B : Int → Int) (n : Int) (t : Nat) : Int := (tkAt (tsF B n) n t).1
def PF (B : Int → Int) (n : Int) (t : Nat) : Int := (tkAt (tsF B n) n t).2.1
def VF (B : Int → Int) (n : Int) (t : Nat) : Int := (tkAt (tsF B n) n t).2.2.1
def MF (B : Int → Int) (n : Int) (t : Nat) : Int := enc 32 (tkAt (tsF B n) n t).2.2.2
def rdR (B : Int → Int) (n : Int) : (Int × Int) ⊕ Sg := pTxt (KF B n) (VF B n) (PF B n) (MF B n) 401 sg0
def lstT (ts : List Tkn) : Nat := if ts.length ≤ 400 then ts.length else 400
theorem tkAt_some {ts : List Tkn} {n : Int} {t : Nat} {q : Tkn} (h : ts[t]? = some q) : tkAt ts n t = q := by unfold tkAt; rw [List.getD_eq_getElem?_getD, h]; rfl
theorem tkAt_end {ts : List Tkn} {n : Int} {t : Nat} (h : ts.length ≤ t) : tkAt ts n t = (20, n, 0, []) := by unfold tkAt; rw [List.getD_eq_getElem?_getD, List.getElem?_eq_none h]; rfl
theorem lxOk_at {n : Int} : ∀ (ts : List Tkn) (i : Int) (t : Nat) (q : Tkn), lxOk n i ts → ts[t]? = some q → KdOk q.1 ∧ q.1 ≠ 20 ∧ i ≤ q.2.1 ∧ q.2.1 < n ∧ (q.1 = 18 → dOk q.2.2.2 ∧ q.2.2.2.length ≤ 8 ∧ q.2.2.2 ≠ []) ∧ ∀ q', ts[t + 1]? = some q' → q.2.1 < q'.2.1
  | [], _, t, q, _, h => by simp at h
  | u :: r, i, 0, q, ⟨⟨a, b, c, d, e⟩, g⟩, h => by
    rw [List.getElem?_cons_zero] at h
    cases h
    refine ⟨a, b, c, d, e, fun q' h' => ?_⟩
    rw [List.getElem?_cons_succ] at h'
    have := (lxOk_at r _ 0 q' g h').2.2.1
    omega
  | u :: r, i, t + 1, q, ⟨⟨a, b, c, d, e⟩, g⟩, h => by
    rw [List.getElem?_cons_succ] at h
    obtain ⟨g1, g2, g3, g4, g5, g6⟩ := lxOk_at r _ t q g h
    exact ⟨g1, g2, by omega, g4, g5, fun q' h' => by rw [List.getElem?_cons_succ] at h'; exact g6 q' h'⟩
/-- the reference's rows of TOKENS, of all texts so far -/
def TkI (h : Hp) : Prop := ∀ t : Nat, t ≤ 400 → (∃ k, KdOk k ∧ rd h 197 t = phi k) ∧ (t < 400 → rd h 197 t ≠ 0 → rd h 198 t < rd h 198 ((t + 1 : Nat) : Int))
theorem CE_TkI {h0 h : Hp} {n : Int} {ts : List Tkn} (i0 : TkI h0) (g : CE h0 h n ts) (ok : lxOk n 0 ts) : TkI h := by
  obtain ⟨-, -, -, -, g5, g6, g7⟩ := g
  have cases3 : ∀ t : Nat, t ≤ 400 → (∃ q, ts[t]? = some q) ∨ t = ts.length ∨ ts.length < t := fun t ht => by
    by_cases c : t < ts.length
    · exact Or.inl ⟨ts[t], List.getElem?_eq_getElem c⟩
    · omega
  intro t ht
  rcases cases3 t ht with ⟨q, hq⟩ | e | e
  · obtain ⟨a1, a2, -, -⟩ := g5 t ht q hq
    obtain ⟨b1, b2, b3, b4, -, b6⟩ := lxOk_at ts 0 t q ok hq
    refine ⟨⟨q.1, b1, a1⟩, fun h4 _ => ?_⟩
    rw [a2]
    rcases cases3 (t + 1) (by omega) with ⟨q', hq'⟩ | e | e
    · rw [(g5 (t + 1) (by omega) q' hq').2.1]
      exact b6 q' hq'
    · have := (g6 (by omega)).2
      rw [← e] at this
      rw [this]; exact b4
    · have : t < ts.length := by
        by_cases c : t < ts.length
        · exact c
        · rw [List.getElem?_eq_none (by omega)] at hq; cases hq
      omega
  · have z := g6 (by omega)
    rw [← e] at z
    exact ⟨⟨20, by unfold KdOk; decide, by rw [z.1]; rfl⟩, fun _ h => absurd z.1 h⟩
  · rw [g7 197 t (by decide) (by decide) (by omega), g7 198 t (by decide) (by decide) (by omega), g7 198 ((t + 1 : Nat) : Int) (by decide) (by decide) (by omega)]
    exact i0 t ht
def KR (h : Hp) (t : Nat) : Int := psi (rd h 197 t)
theorem TkI_RTk {h : Hp} (i : TkI h) : RTk h (KR h) (fun t => rd h 199 t) (fun t => rd h 198 t) (fun t => rd h 200 t) := by
  refine ⟨fun t ht => ?_, fun t u _ _ _ _ => Iff.rfl⟩
  obtain ⟨⟨k, k1, k2⟩, -⟩ := i t ht
  have e : KR h t = k := by unfold KR; rw [k2, psi_phi k1]
  rw [e]
  exact ⟨k2, rfl, fun _ => rfl, k1⟩
theorem TkI_Mn {h : Hp} (i : TkI h) : Mn (KR h) (fun t => rd h 198 t) := by
  intro t ht hk
  obtain ⟨⟨k, k1, k2⟩, i2⟩ := i t (by omega)
  refine i2 ht (fun z => hk ?_)
  unfold KR
  rw [z]; rfl
theorem CE_Agr {h0 h : Hp} {B : Int → Int} {n : Int} (g : CE h0 h n (tsF B n)) : Agr (KF B n) (VF B n) (PF B n) (MF B n) (KR h) (fun t => rd h 199 t) (fun t => rd h 198 t) (fun t => rd h 200 t) (lstT (tsF B n)) := by
  have ok : lxOk n 0 (tsF B n) := lx_ok B n 2001 0
  obtain ⟨-, -, -, -, g5, g6, -⟩ := g
  have le : lstT (tsF B n) ≤ 400 := by unfold lstT; split <;> omega
  refine ⟨le, ?_, fun t ht => ?_⟩
  · unfold lstT
    split
    · left
      unfold KF
      rw [tkAt_end (Nat.le_refl _)]
    · exact Or.inr rfl
  · by_cases c : t < (tsF B n).length
    · have hq : (tsF B n)[t]? = some (tsF B n)[t] := List.getElem?_eq_getElem c
      obtain ⟨a1, a2, a3, a4⟩ := g5 t (by omega) _ hq
      obtain ⟨b1, -⟩ := lxOk_at _ 0 t _ ok hq
      unfold KR KF PF VF MF
      rw [a1, psi_phi b1, tkAt_some hq]
      refine ⟨rfl, a2, a3, fun u hu k1 k2 => ?_⟩
      by_cases cu : u < (tsF B n).length
      · have hqu : (tsF B n)[u]? = some (tsF B n)[u] := List.getElem?_eq_getElem cu
        rw [tkAt_some hqu] at k2 ⊢
        obtain ⟨-, -, -, c4⟩ := g5 u (by omega) _ hqu
        obtain ⟨-, -, -, -, d1, -⟩ := lxOk_at _ 0 t _ ok hq
        obtain ⟨-, -, -, -, d2, -⟩ := lxOk_at _ 0 u _ ok hqu
        show rd h 200 t = rd h 200 u ↔ _
        rw [a4 k1, c4 k2]
        exact ⟨fun q => congrArg (enc 32) (enc_inj (b := 27) (by decide) _ _ (d1 k1).1 (d2 k2).1 q), fun q => congrArg (enc 27) (enc_inj (b := 32) (by decide) _ _ (d1 k1).1 (d2 k2).1 q)⟩
      · rw [tkAt_end (by omega)] at k2
        exact absurd k2 (by show ¬ (20 : Int) = 18; decide)
    · have e : t = (tsF B n).length ∧ (tsF B n).length ≤ 400 := by
        unfold lstT at ht
        split at ht <;> omega
      obtain ⟨z1, z2⟩ := g6 e.2
      rw [← e.1] at z1 z2
      unfold KR KF PF VF MF
      rw [z1, tkAt_end (by omega)]
      refine ⟨rfl, z2, fun h => absurd h (by show ¬ (20 : Int) = 19; decide), fun u hu k1 => absurd k1 (by show ¬ (20 : Int) = 18; decide)⟩
