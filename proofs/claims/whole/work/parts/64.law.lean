/-! laws: codes one behind the other, and what they tell -/
def opV (k a b : Int) : Int := if k = 2 then w32 (a + b) else if k = 3 then w32 (a - b) else if k = 4 then w32 (a * b) else w32 (a.tdiv b)
def exS (v : Int → Int) : List (Int × Int) → List Int → Option (List Int)
  | [], st => some st
  | q :: cs, st => if q.1 < 2 then exS v cs ((if q.1 = 0 then q.2 else v q.2) :: st) else (match st with
    | b :: a :: st' => if q.1 = 5 ∧ b = 0 then none else exS v cs (opV q.1 a b :: st')
    | _ => none)
def okH : List (Int × Int) → Nat → Nat → Prop
  | [], _, _ => True
  | q :: cs, n, L => if q.1 < 2 then n < L ∧ (q.1 = 0 ∨ (q.1 = 1 ∧ 0 ≤ q.2 ∧ q.2 < 5)) ∧ okH cs (n + 1) L else 2 ≤ n ∧ q.1 ≤ 5 ∧ okH cs (n - 1) L
def ntH : List (Int × Int) → Nat → Nat
  | [], n => n
  | q :: cs, n => if q.1 < 2 then ntH cs (n + 1) else ntH cs (n - 1)
def evV (v : Int → Int) (cs : List (Int × Int)) : Option Int := (exS v cs []).bind List.head?
def Ex (H : Nat) (cs : List (Int × Int)) : Prop := (∀ v st, exS v cs st = (evV v cs).map (fun x => x :: st)) ∧ (∀ n, ntH cs n = n + 1) ∧ ∀ n, okH cs n (n + H)
theorem exS_app (v : Int → Int) (b : List (Int × Int)) : ∀ (a : List (Int × Int)) (st : List Int), exS v (a ++ b) st = (exS v a st).bind (exS v b)
  | [], st => rfl
  | q :: a, st => by
    show exS v (q :: (a ++ b)) st = _
    unfold exS
    split
    · exact exS_app v b a _
    · split
      · split
        · rfl
        · exact exS_app v b a _
      · rfl
theorem ntH_app (b : List (Int × Int)) : ∀ (a : List (Int × Int)) (n : Nat), ntH (a ++ b) n = ntH b (ntH a n)
  | [], n => rfl
  | q :: a, n => by
    show (if q.1 < 2 then ntH (a ++ b) (n + 1) else ntH (a ++ b) (n - 1)) = ntH b (if q.1 < 2 then ntH a (n + 1) else ntH a (n - 1))
    split <;> exact ntH_app b a _
theorem okH_app {L : Nat} (b : List (Int × Int)) : ∀ (a : List (Int × Int)) (n : Nat), okH a n L → okH b (ntH a n) L → okH (a ++ b) n L
  | [], n, _, h2 => h2
  | q :: a, n, h1, h2 => by
    show okH (q :: (a ++ b)) n L
    unfold okH at h1 ⊢
    unfold ntH at h2
    split
    · rename_i c
      rw [if_pos c] at h1 h2
      exact ⟨h1.1, h1.2.1, okH_app b a _ h1.2.2 h2⟩
    · rename_i c
      rw [if_neg c] at h1 h2
      exact ⟨h1.1, h1.2.1, okH_app b a _ h1.2.2 h2⟩
theorem okH_mono {L M : Nat} (hLM : L ≤ M) : ∀ (a : List (Int × Int)) (n : Nat), okH a n L → okH a n M
  | [], n, _ => trivial
  | q :: a, n, h1 => by
    unfold okH at h1 ⊢
    split
    · rename_i c
      rw [if_pos c] at h1
      exact ⟨by omega, h1.2.1, okH_mono hLM a _ h1.2.2⟩
    · rename_i c
      rw [if_neg c] at h1
      exact ⟨h1.1, h1.2.1, okH_mono hLM a _ h1.2.2⟩
theorem Ex_mono {H K : Nat} {cs : List (Int × Int)} (h : Ex H cs) (hk : H ≤ K) : Ex K cs := ⟨h.1, h.2.1, fun n => okH_mono (by omega) cs n (h.2.2 n)⟩
theorem Ex_num (x : Int) : Ex 1 [(0, x)] := ⟨fun _ _ => rfl, fun _ => rfl, fun n => ⟨by omega, Or.inl rfl, trivial⟩⟩
theorem Ex_var {x : Int} (h : 0 ≤ x ∧ x < 5) : Ex 1 [(1, x)] := ⟨fun _ _ => rfl, fun _ => rfl, fun n => ⟨by omega, Or.inr ⟨rfl, h⟩, trivial⟩⟩
theorem Ex_bin {H K : Nat} {a b : List (Int × Int)} {k z : Int} (ha : Ex H a) (hb : Ex K b) (hk : 2 ≤ k ∧ k ≤ 5) : Ex (max H (K + 1)) (a ++ (b ++ [(k, z)])) := by
  have e : ∀ v st, exS v (a ++ (b ++ [(k, z)])) st = ((evV v a).bind fun x => (evV v b).bind fun y => if k = 5 ∧ y = 0 then none else some (opV k x y)).map (fun x => x :: st) := by
    intro v st
    rw [exS_app, ha.1 v st]
    cases evV v a with
    | none => rfl
    | some x =>
      show exS v (b ++ [(k, z)]) (x :: st) = _
      rw [exS_app, hb.1 v (x :: st)]
      show _ = ((evV v b).bind fun y => if k = 5 ∧ y = 0 then none else some (opV k x y)).map (fun x => x :: st)
      cases evV v b with
      | none => rfl
      | some y =>
        show exS v [(k, z)] (y :: x :: st) = (if k = 5 ∧ y = 0 then none else some (opV k x y)).map (fun x => x :: st)
        show (if k < 2 then _ else (if k = 5 ∧ y = 0 then none else exS v [] (opV k x y :: st))) = _
        rw [if_neg (by omega)]
        split
        · rfl
        · rfl
  refine ⟨fun v st => ?_, fun n => ?_, fun n => ?_⟩
  · have e2 : evV v (a ++ (b ++ [(k, z)])) = ((evV v a).bind fun x => (evV v b).bind fun y => if k = 5 ∧ y = 0 then none else some (opV k x y)) := by
      show (exS v _ []).bind List.head? = _
      rw [e v []]
      generalize ((evV v a).bind fun x => (evV v b).bind fun y => if k = 5 ∧ y = 0 then none else some (opV k x y)) = o
      cases o <;> rfl
    rw [e2, e]
  · rw [ntH_app, ntH_app, ha.2.1, hb.2.1]
    show (if k < 2 then _ else _) = _
    rw [if_neg (by omega)]
    show n + 1 + 1 - 1 = n + 1
    omega
  · refine okH_app _ a n (okH_mono (by omega) a n (ha.2.2 n)) ?_
    rw [ha.2.1]
    refine okH_app _ b (n + 1) (okH_mono (by omega) b (n + 1) (hb.2.2 (n + 1))) ?_
    rw [hb.2.1]
    show if k < 2 then _ else _
    rw [if_neg (by omega)]
    exact ⟨by omega, by omega, trivial⟩
theorem exS_congr {v v' : Int → Int} (hv : ∀ i, 0 ≤ i → i < 5 → v i = v' i) {L : Nat} : ∀ (cs : List (Int × Int)) (n : Nat) (st : List Int), okH cs n L → exS v cs st = exS v' cs st
  | [], _, _, _ => rfl
  | q :: cs, n, st, h => by
    unfold okH at h
    unfold exS
    by_cases c : q.1 < 2
    · rw [if_pos c] at h ⊢
      rw [if_pos c]
      have e : (if q.1 = 0 then q.2 else v q.2) = (if q.1 = 0 then q.2 else v' q.2) := by
        rcases h.2.1 with h0 | h0
        · rw [if_pos h0, if_pos h0]
        · rw [if_neg (by omega), if_neg (by omega), hv q.2 h0.2.1 h0.2.2]
      rw [e]
      exact exS_congr hv cs _ _ h.2.2
    · rw [if_neg c] at h ⊢
      rw [if_neg c]
      split
      · split
        · rfl
        · exact exS_congr hv cs _ _ h.2.2
      · rfl
theorem evV_congr {v v' : Int → Int} (hv : ∀ i, 0 ≤ i → i < 5 → v i = v' i) {H : Nat} {cs : List (Int × Int)} (h : Ex H cs) : evV v cs = evV v' cs := by
  unfold evV
  rw [exS_congr hv cs 0 [] (h.2.2 0)]
/-- a law: its branches, each with a test or without -/
abbrev Lw : Type := List (Option (List (Int × Int) × List (Int × Int)) × List (Int × Int))
def lawB (v : Int → Int) : Lw → Int
  | [] => 0
  | q :: r => match q.1 with
    | none => (evV v q.2).getD 0
    | some t => match evV v t.1, evV v t.2 with
      | some x, some y => if x < y then (evV v q.2).getD 0 else lawB v r
      | _, _ => 0
def lawV (pl : Int) (L : Lw) (v : Int → Int) : Int := if L = [] then pl else lawB v L
def LwOk (L : Lw) : Prop := ∀ q ∈ L, Ex 15 q.2 ∧ ∀ t, q.1 = some t → Ex 15 t.1 ∧ Ex 15 t.2
theorem lawB_congr {v v' : Int → Int} (hv : ∀ i, 0 ≤ i → i < 5 → v i = v' i) : ∀ (L : Lw), LwOk L → lawB v L = lawB v' L
  | [], _ => rfl
  | q :: r, h => by
    obtain ⟨h1, h2⟩ := h q (List.mem_cons_self ..)
    have ih := lawB_congr hv r (fun q hq => h q (List.mem_cons_of_mem _ hq))
    unfold lawB
    rw [evV_congr hv h1, ih]
    cases e : q.1 with
    | none => rfl
    | some t =>
      obtain ⟨h3, h4⟩ := h2 t e
      simp only
      rw [evV_congr hv h3, evV_congr hv h4]
theorem lawV_congr {v v' : Int → Int} (hv : ∀ i, 0 ≤ i → i < 5 → v i = v' i) {L : Lw} {pl : Int} (h : LwOk L) : lawV pl L v = lawV pl L v' := by
  unfold lawV
  rw [lawB_congr hv L h]
def clm (a b x : Int) : Int := if x < a then a else if b < x then b else x
theorem clm_in {a b x : Int} (h : a ≤ b) : a ≤ clm a b x ∧ clm a b x ≤ b := by unfold clm; split <;> (try split) <;> omega
theorem clm_0 {a b : Int} (h : a ≤ 0 ∧ 0 ≤ b) : clm a b 0 = 0 := by unfold clm; rw [if_neg (by omega), if_neg (by omega)]
/-- a run of codes in two arrays; a pile in one -/
def cdA (C I : Int → Int) : Int → List (Int × Int) → Prop
  | _, [] => True
  | c, q :: cs => C c = q.1 ∧ I c = q.2 ∧ cdA C I (c + 1) cs
def rpS (P : Int → Int) : List Int → Prop
  | [] => True
  | x :: st => P (st.length : Int) = x ∧ rpS P st
theorem rpS_up {P : Int → Int} {i x : Int} : ∀ (st : List Int), (st.length : Int) ≤ i → rpS P st → rpS (up P i x) st
  | [], _, _ => trivial
  | y :: st, h, hr => by
    have hl : ((y :: st).length : Int) = (st.length : Int) + 1 := by simp
    refine ⟨?_, rpS_up st (by omega) hr.2⟩
    rw [up_n (by omega)]
    exact hr.1
