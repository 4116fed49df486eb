/-! what a text tells does not depend on what stands behind its end -/
def Agr (K V P M K' V' P' M' : Nat → Int) (e : Nat) : Prop := e ≤ 400 ∧ (K e = 20 ∨ e = 400) ∧ ∀ t, t ≤ e → K' t = K t ∧ P' t = P t ∧ (K t = 19 → V' t = V t) ∧ ∀ u, u ≤ e → K t = 18 → K u = 18 → (M' t = M' u ↔ M t = M u)
theorem Agr_acc {K V P M K' V' P' M' : Nat → Int} {e : Nat} (a : Agr K V P M K' V' P' M' e) {t : Nat} {k : Int} (ht : t ≤ e) (hk : k ≠ 20) : pAcc K' P' k t = pAcc K P k t ∧ ∀ t', pAcc K P k t = Sum.inr t' → t' ≤ e := by
  obtain ⟨e4, ee, ag⟩ := a
  obtain ⟨a1, a2, -⟩ := ag t ht
  refine ⟨by unfold pAcc; rw [a1, a2], fun t' h => ?_⟩
  obtain ⟨k1, k2, k3⟩ := pAcc_inr h
  rcases ee with q | q
  · by_cases c : t = e
    · subst c; omega
    · omega
  · omega
def AgU (U U' : Pr) (e : Nat) : Prop := ∀ t o, t ≤ e → U' t o = U t o ∧ ∀ q, U t o = Sum.inr q → q.1 ≤ e
theorem rbd_congr {α β : Type} {r r' : (Int × Int) ⊕ α} {f f' : α → (Int × Int) ⊕ β} (h : r' = r) (hf : ∀ a, r = Sum.inr a → f' a = f a) : rbd r' f' = rbd r f := by
  subst h
  cases r' with
  | inl e => rfl
  | inr a => exact hf a rfl
theorem AgU_U {K V P M K' V' P' M' : Nat → Int} {e : Nat} (a : Agr K V P M K' V' P' M' e) {S S' : Option Pr} (hS : (S = none ∧ S' = none) ∨ ∃ U U', S = some U ∧ S' = some U' ∧ AgU U U' e) : AgU (pU K V P S) (pU K' V' P' S') e := by
  intro t o ht
  obtain ⟨a1, a2, a3, -⟩ := a.2.2 t ht
  unfold pU
  rw [a1, a2]
  by_cases k19 : K t = 19
  · obtain ⟨b1, b2⟩ := Agr_acc a (k := 19) ht (by decide)
    rw [if_pos k19, if_pos k19, b1, a3 k19]
    refine ⟨rfl, fun q h => ?_⟩
    obtain ⟨c, h1, h2⟩ := rbd_inr h
    cases h2
    exact b2 c h1
  · rw [if_neg k19, if_neg k19]
    by_cases kv : 13 ≤ K t ∧ K t ≤ 17
    · obtain ⟨b1, b2⟩ := Agr_acc a (k := K t) ht (by omega)
      rw [if_pos kv, if_pos kv, b1]
      refine ⟨rfl, fun q h => ?_⟩
      obtain ⟨c, h1, h2⟩ := rbd_inr h
      cases h2
      exact b2 c h1
    · rw [if_neg kv, if_neg kv]
      by_cases k40 : K t = 40
      · rw [if_pos k40, if_pos k40]
        rcases hS with ⟨e1, e2⟩ | ⟨U, U', e1, e2, ag⟩
        · subst e1 e2
          exact ⟨rfl, fun q h => by cases h⟩
        · subst e1 e2
          simp only
          obtain ⟨b1, b2⟩ := Agr_acc a (k := 40) ht (by decide)
          refine ⟨rbd_congr b1 (fun t1 h1 => rbd_congr (ag t1 o (b2 t1 h1)).1 (fun q hq => ?_)), fun q h => ?_⟩
          · have := (ag t1 o (b2 t1 h1)).2 q hq
            rw [(Agr_acc a (k := 41) this (by decide)).1]
          · obtain ⟨t1, h1, h2⟩ := rbd_inr h
            obtain ⟨r, h3, h4⟩ := rbd_inr h2
            obtain ⟨t3, h5, h6⟩ := rbd_inr h4
            cases h6
            exact (Agr_acc a (k := 41) ((ag t1 o (b2 t1 h1)).2 r h3) (by decide)).2 t3 h5
      · rw [if_neg k40, if_neg k40]
        exact ⟨rfl, fun q h => by cases h⟩
theorem AgU_L {K V P M K' V' P' M' : Nat → Int} {e : Nat} (a : Agr K V P M K' V' P' M' e) {x y : Int} (hx : x ≠ 20 ∧ y ≠ 20) {U U' : Pr} (ag : AgU U U' e) : ∀ n, AgU (pL K P x y U n) (pL K' P' x y U' n) e := by
  intro n
  induction n with
  | zero => intro t o ht; exact ⟨rfl, fun q h => by cases h; exact ht⟩
  | succ n ih =>
    intro t o ht
    obtain ⟨a1, a2, a3, -⟩ := a.2.2 t ht
    unfold pL
    rw [a1]
    by_cases hk : K t = x ∨ K t = y
    · have hk20 : K t ≠ 20 := hk.elim (fun q => by rw [q]; exact hx.1) (fun q => by rw [q]; exact hx.2)
      obtain ⟨b1, b2⟩ := Agr_acc a (k := K t) ht hk20
      rw [if_pos hk, if_pos hk]
      refine ⟨rbd_congr b1 (fun t1 h1 => rbd_congr (ag t1 o (b2 t1 h1)).1 (fun q hq => (ih q.1 _ ((ag t1 o (b2 t1 h1)).2 q hq)).1)), fun q h => ?_⟩
      obtain ⟨t1, h1, h2⟩ := rbd_inr h
      obtain ⟨r, h3, h4⟩ := rbd_inr h2
      exact (ih r.1 _ ((ag t1 o (b2 t1 h1)).2 r h3)).2 q h4
    · rw [if_neg hk, if_neg hk]
      exact ⟨rfl, fun q h => by cases h; exact ht⟩
theorem AgU_Q {K V P M K' V' P' M' : Nat → Int} {e : Nat} (a : Agr K V P M K' V' P' M' e) {x y : Int} (hx : x ≠ 20 ∧ y ≠ 20) {U U' : Pr} (ag : AgU U U' e) : AgU (pQ K P x y U) (pQ K' P' x y U') e := by
  intro t o ht
  unfold pQ
  refine ⟨rbd_congr (ag t o ht).1 (fun q hq => (AgU_L a hx ag 401 q.1 q.2 ((ag t o ht).2 q hq)).1), fun q h => ?_⟩
  obtain ⟨r, h3, h4⟩ := rbd_inr h
  exact (AgU_L a hx ag 401 r.1 r.2 ((ag t o ht).2 r h3)).2 q h4
theorem AgU_S {K V P M K' V' P' M' : Nat → Int} {e : Nat} (a : Agr K V P M K' V' P' M' e) : ∀ n, AgU (pS K V P n) (pS K' V' P' n) e
  | 0 => AgU_Q a (by decide) (AgU_Q a (by decide) (AgU_U a (Or.inl ⟨rfl, rfl⟩)))
  | n + 1 => AgU_Q a (by decide) (AgU_Q a (by decide) (AgU_U a (Or.inr ⟨_, _, rfl, rfl, AgU_S a n⟩)))
theorem Ag_If {K V P M K' V' P' M' : Nat → Int} {e : Nat} (a : Agr K V P M K' V' P' M' e) : ∀ n t L, t ≤ e → pIf K' V' P' n t L = pIf K V P n t L ∧ ∀ q, pIf K V P n t L = Sum.inr q → q.1 ≤ e := by
  have E := AgU_S a 6
  have acc := fun (k : Int) (t : Nat) (ht : t ≤ e) (hk : k ≠ 20) => Agr_acc a (k := k) ht hk
  have last : ∀ t L, t ≤ e → rbd (pE K' V' P' t []) (fun q => (Sum.inr (q.1, L ++ [(none, q.2)]) : (Int × Int) ⊕ (Nat × Lw))) = rbd (pE K V P t []) (fun q => Sum.inr (q.1, L ++ [(none, q.2)])) ∧ ∀ q, rbd (pE K V P t []) (fun q => (Sum.inr (q.1, L ++ [(none, q.2)]) : (Int × Int) ⊕ (Nat × Lw))) = Sum.inr q → q.1 ≤ e := by
    intro t L ht
    refine ⟨rbd_congr (E t [] ht).1 (fun _ _ => rfl), fun q h => ?_⟩
    obtain ⟨r, h1, h2⟩ := rbd_inr h
    cases h2
    exact (E t [] ht).2 r h1
  intro n
  induction n with
  | zero =>
    intro t L ht
    obtain ⟨a1, a2, -⟩ := a.2.2 t ht
    unfold pIf
    rw [a1, a2]
    by_cases k : K t = 10
    · rw [if_pos k, if_pos k]; exact ⟨rfl, fun q h => by cases h⟩
    · rw [if_neg k, if_neg k]; exact last t L ht
  | succ n ih =>
    intro t L ht
    obtain ⟨a1, a2, -⟩ := a.2.2 t ht
    unfold pIf
    rw [a1]
    by_cases k : K t = 10
    · rw [if_pos k, if_pos k]
      refine ⟨rbd_congr (acc 10 t ht (by decide)).1 (fun t1 h1 => ?_), fun q h => ?_⟩
      · have t1e := (acc 10 t ht (by decide)).2 t1 h1
        refine rbd_congr (E t1 [] t1e).1 (fun A hA => ?_)
        have Ae := (E t1 [] t1e).2 A hA
        refine rbd_congr (acc 60 A.1 Ae (by decide)).1 (fun t2 h2 => ?_)
        have t2e := (acc 60 A.1 Ae (by decide)).2 t2 h2
        refine rbd_congr (E t2 [] t2e).1 (fun B hB => ?_)
        have Be := (E t2 [] t2e).2 B hB
        refine rbd_congr (acc 11 B.1 Be (by decide)).1 (fun t3 h3 => ?_)
        have t3e := (acc 11 B.1 Be (by decide)).2 t3 h3
        refine rbd_congr (E t3 [] t3e).1 (fun C hC => ?_)
        have Ce := (E t3 [] t3e).2 C hC
        refine rbd_congr (acc 12 C.1 Ce (by decide)).1 (fun t4 h4 => ?_)
        exact (ih t4 _ ((acc 12 C.1 Ce (by decide)).2 t4 h4)).1
      · obtain ⟨t1, h1, h⟩ := rbd_inr h
        have t1e := (acc 10 t ht (by decide)).2 t1 h1
        obtain ⟨A, hA, h⟩ := rbd_inr h
        have Ae := (E t1 [] t1e).2 A hA
        obtain ⟨t2, h2, h⟩ := rbd_inr h
        have t2e := (acc 60 A.1 Ae (by decide)).2 t2 h2
        obtain ⟨B, hB, h⟩ := rbd_inr h
        have Be := (E t2 [] t2e).2 B hB
        obtain ⟨t3, h3, h⟩ := rbd_inr h
        have t3e := (acc 11 B.1 Be (by decide)).2 t3 h3
        obtain ⟨C, hC, h⟩ := rbd_inr h
        have Ce := (E t3 [] t3e).2 C hC
        obtain ⟨t4, h4, h⟩ := rbd_inr h
        exact (ih t4 _ ((acc 12 C.1 Ce (by decide)).2 t4 h4)).2 q h
    · rw [if_neg k, if_neg k]; exact last t L ht
/-- rows of TOKENS in a tell -/
def Cle (r : Ch) (e : Nat) : Prop := ∀ q, r = Sum.inr q → q.1 ≤ e
theorem Ag_cAcc {K V P M K' V' P' M' : Nat → Int} {e : Nat} (a : Agr K V P M K' V' P' M' e) {k : Int} (hk : k ≠ 20) {r : Ch} (hr : Cle r e) : cAcc K' P' k r = cAcc K P k r ∧ Cle (cAcc K P k r) e := by
  unfold cAcc
  refine ⟨rbd_congr rfl (fun q hq => rbd_congr (Agr_acc a (hr q hq) hk).1 (fun _ _ => rfl)), fun q h => ?_⟩
  obtain ⟨q0, h1, h2⟩ := rbd_inr h
  obtain ⟨t, h3, h4⟩ := rbd_inr h2
  cases h4
  exact (Agr_acc a (hr q0 h1) hk).2 t h3
theorem Ag_cNum {K V P M K' V' P' M' : Nat → Int} {e : Nat} (a : Agr K V P M K' V' P' M' e) {lo hi : Int} {r : Ch} (hr : Cle r e) : cNum K' V' P' lo hi r = cNum K V P lo hi r ∧ Cle (cNum K V P lo hi r) e := by
  unfold cNum
  refine ⟨rbd_congr rfl (fun q hq => rbd_congr (Agr_acc a (hr q hq) (by decide)).1 (fun t ht => ?_)), fun q h => ?_⟩
  · obtain ⟨a1, a2, a3, -⟩ := a.2.2 q.1 (hr q hq)
    rw [a2, a3 (pAcc_inr ht).1]
  · obtain ⟨q0, h1, h2⟩ := rbd_inr h
    obtain ⟨t, h3, h4⟩ := rbd_inr h2
    cases h4
    exact (Agr_acc a (hr q0 h1) (by decide)).2 t h3
def nmI (K : Nat → Int) (X : Nat → Int → Int) (e : Nat) : Prop := ∀ i, 0 ≤ i → i < X 25 0 → (X 24 i).toNat ≤ e ∧ K (X 24 i).toNat = 18
theorem exN_congr {g g' : Int → Bool} : ∀ (n : Nat) (a : Int), (∀ i, a ≤ i → i < a + n → g' i = g i) → exN g' a n = exN g a n
  | 0, _, _ => rfl
  | n + 1, a, h => by
    unfold exN
    rw [h a (by omega) (by omega), exN_congr n (a + 1) (fun i h1 h2 => h i (by omega) (by omega))]
theorem Ag_cName {K V P M K' V' P' M' : Nat → Int} {e : Nat} (a : Agr K V P M K' V' P' M' e) {X : Nat → Int → Int} (hX : nmI K X e) {r : Ch} (hr : Cle r e) : cName K' P' M' X r = cName K P M X r ∧ Cle (cName K P M X r) e := by
  unfold cName
  refine ⟨rbd_congr rfl (fun q hq => rbd_congr (Agr_acc a (hr q hq) (by decide)).1 (fun t ht => ?_)), fun q h => ?_⟩
  · obtain ⟨a1, a2, a3, a4⟩ := a.2.2 q.1 (hr q hq)
    have k18 := (pAcc_inr ht).1
    have ex : exN (fun i => decide (M' (X 24 i).toNat = M' q.1)) 0 (X 25 0).toNat = exN (fun i => decide (M (X 24 i).toNat = M q.1)) 0 (X 25 0).toNat := by
      refine exN_congr _ 0 (fun i h1 h2 => ?_)
      obtain ⟨x1, x2⟩ := hX i h1 (by omega)
      have := (a.2.2 (X 24 i).toNat x1).2.2.2 q.1 (hr q hq) x2 k18
      exact decide_eq_decide.mpr this
    rw [a2, ex]
  · obtain ⟨q0, h1, h2⟩ := rbd_inr h
    obtain ⟨t, h3, h4⟩ := rbd_inr h2
    cases h4
    exact (Agr_acc a (hr q0 h1) (by decide)).2 t h3
theorem Ag_Tell {K V P M K' V' P' M' : Nat → Int} {e : Nat} (a : Agr K V P M K' V' P' M' e) {s : Sg} (hs : s.1 ≤ e) (hX : nmI K s.2.1 e) : pTell K' V' P' M' s = pTell K V P M s := by
  obtain ⟨a1, a2, a3, a4⟩ := a.2.2 s.1 hs
  have c0 : Cle (cBeg s) e := fun q h => by cases h; exact hs
  have A := fun (k : Int) (hk : k ≠ 20) (r : Ch) (hr : Cle r e) => Ag_cAcc a (k := k) hk hr
  have N := fun (lo hi : Int) (r : Ch) (hr : Cle r e) => Ag_cNum a (lo := lo) (hi := hi) hr
  have M1 := fun (r : Ch) (hr : Cle r e) => Ag_cName a hX hr
  unfold pTell
  rw [a1, a2]
  split
  · unfold pPart
    rw [a2]
    split
    · rfl
    · refine rbd_congr ?_ (fun _ _ => rfl)
      obtain ⟨e1, l1⟩ := A 0 (by decide) _ c0
      obtain ⟨e2, l2⟩ := M1 _ l1
      obtain ⟨e3, l3⟩ := N 0 99 _ l2
      obtain ⟨e4, l4⟩ := N 0 99 _ l3
      obtain ⟨e5, l5⟩ := N 0 99 _ l4
      obtain ⟨e6, l6⟩ := N 1 60 _ l5
      rw [e1, e2, e3, e4, e5, e6]
      exact (A 59 (by decide) _ l6).1
  · split
    · unfold pWork
      rw [a2]
      split
      · rfl
      · refine rbd_congr ?_ (fun _ _ => rfl)
        obtain ⟨e1, l1⟩ := A 1 (by decide) _ c0
        obtain ⟨e2, l2⟩ := M1 _ l1
        obtain ⟨e3, l3⟩ := N 0 99 _ l2
        obtain ⟨e4, l4⟩ := N 0 99 _ l3
        obtain ⟨e5, l5⟩ := N 1 20 _ l4
        rw [e1, e2, e3, e4, e5]
        exact (A 59 (by decide) _ l5).1
    · split
      · rename_i hk
        unfold pLaw
        rw [a1]
        refine rbd_congr (Agr_acc a hs (by omega)).1 (fun t1 h1 => ?_)
        have t1e := (Agr_acc a hs (by omega)).2 t1 h1
        refine rbd_congr (Agr_acc a t1e (by decide)).1 (fun t2 h2 => ?_)
        have t2e := (Agr_acc a t1e (by decide)).2 t2 h2
        refine rbd_congr (Ag_If a 4 t2 [] t2e).1 (fun q hq => ?_)
        have qe := (Ag_If a 4 t2 [] t2e).2 q hq
        exact rbd_congr (Agr_acc a qe (by decide)).1 (fun _ _ => rfl)
      · split
        · unfold pTwo
          refine rbd_congr ?_ (fun _ _ => rfl)
          obtain ⟨e1, l1⟩ := A 7 (by decide) _ c0
          obtain ⟨e3, l3⟩ := N 1 600 _ l1
          obtain ⟨e4, l4⟩ := N 1 600 _ l3
          rw [e1, e3, e4]
          exact (A 59 (by decide) _ l4).1
        · split
          · unfold pTwo
            refine rbd_congr ?_ (fun _ _ => rfl)
            obtain ⟨e1, l1⟩ := A 8 (by decide) _ c0
            obtain ⟨e3, l3⟩ := N 0 99 _ l1
            obtain ⟨e4, l4⟩ := N 0 99 _ l3
            rw [e1, e3, e4]
            exact (A 59 (by decide) _ l4).1
          · split
            · unfold pOne
              refine rbd_congr ?_ (fun _ _ => rfl)
              obtain ⟨e1, l1⟩ := A 9 (by decide) _ c0
              obtain ⟨e3, l3⟩ := N 0 9999 _ l1
              rw [e1, e3]
              exact (A 59 (by decide) _ l3).1
            · rfl
