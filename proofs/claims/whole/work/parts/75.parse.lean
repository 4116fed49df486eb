/-! reading a text, by what the document says of TOKENS; kinds: 0 .. 17 words, 18 a name, 19 an int, 20 the end, 21 none, else a sign's byte -/
def rbd {α β : Type} (r : (Int × Int) ⊕ α) (f : α → (Int × Int) ⊕ β) : (Int × Int) ⊕ β := match r with
  | Sum.inl e => Sum.inl e
  | Sum.inr a => f a
theorem rbd_inr {α β : Type} {r : (Int × Int) ⊕ α} {f : α → (Int × Int) ⊕ β} {b : β} (h : rbd r f = Sum.inr b) : ∃ a, r = Sum.inr a ∧ f a = Sum.inr b := by
  cases r with
  | inl e => exact absurd h (by simp [rbd])
  | inr a => exact ⟨a, rfl, h⟩
abbrev Cds : Type := List (Int × Int)
abbrev Pr : Type := Nat → Cds → (Int × Int) ⊕ (Nat × Cds)
def pAcc (K P : Nat → Int) (k : Int) (t : Nat) : (Int × Int) ⊕ Nat := if K t = k then (if t < 400 then Sum.inr (t + 1) else Sum.inl (2, P t)) else Sum.inl (1, P t)
theorem pAcc_inr {K P : Nat → Int} {k : Int} {t t' : Nat} (h : pAcc K P k t = Sum.inr t') : K t = k ∧ t < 400 ∧ t' = t + 1 := by
  unfold pAcc at h
  split at h
  · split at h
    · cases h; exact ⟨by assumption, by assumption, rfl⟩
    · cases h
  · cases h
def opk (k : Int) : Int := if k = 43 then 2 else if k = 45 then 3 else if k = 42 then 4 else 5
theorem opk_in (k : Int) : 2 ≤ opk k ∧ opk k ≤ 5 := by unfold opk; (repeat' split) <;> omega
def pU (K V P : Nat → Int) (S : Option Pr) (t : Nat) (o : Cds) : (Int × Int) ⊕ (Nat × Cds) :=
  if K t = 19 then rbd (pAcc K P 19 t) (fun t' => Sum.inr (t', o ++ [(0, V t)]))
  else if 13 ≤ K t ∧ K t ≤ 17 then rbd (pAcc K P (K t) t) (fun t' => Sum.inr (t', o ++ [(1, K t - 13)]))
  else if K t = 40 then (match S with
    | none => Sum.inl (2, P t)
    | some S => rbd (pAcc K P 40 t) (fun t1 => rbd (S t1 o) (fun q => rbd (pAcc K P 41 q.1) (fun t3 => Sum.inr (t3, q.2)))))
  else Sum.inl (1, P t)
def pL (K P : Nat → Int) (a b : Int) (U : Pr) : Nat → Nat → Cds → (Int × Int) ⊕ (Nat × Cds)
  | 0, t, o => Sum.inr (t, o)
  | n + 1, t, o => if K t = a ∨ K t = b then rbd (pAcc K P (K t) t) (fun t1 => rbd (U t1 o) (fun q => pL K P a b U n q.1 (q.2 ++ [(opk (K t), 0)]))) else Sum.inr (t, o)
def pQ (K P : Nat → Int) (a b : Int) (U : Pr) : Pr := fun t o => rbd (U t o) (fun q => pL K P a b U 401 q.1 q.2)
def pT (K V P : Nat → Int) (S : Option Pr) : Pr := pQ K P 43 45 (pQ K P 42 47 (pU K V P S))
def pS (K V P : Nat → Int) : Nat → Pr
  | 0 => pT K V P none
  | n + 1 => pT K V P (some (pS K V P n))
/-- what a reader of a piece of a law gives: a code that tells one number -/
def Gd (H : Nat) (U : Pr) : Prop := ∀ t o t' o', t ≤ 400 → U t o = Sum.inr (t', o') → t < t' ∧ t' ≤ 400 ∧ ∃ e, o' = o ++ e ∧ Ex H e ∧ e.length ≤ t' - t
theorem Gd_U {K V P : Nat → Int} {S : Option Pr} {H : Nat} (hH : 1 ≤ H) (hS : ∀ U, S = some U → Gd H U) : Gd H (pU K V P S) := by
  intro t o t' o' ht h
  unfold pU at h
  split at h
  · obtain ⟨a, h1, h2⟩ := rbd_inr h
    obtain ⟨-, h3, rfl⟩ := pAcc_inr h1
    cases h2
    exact ⟨by omega, by omega, _, rfl, Ex_mono (Ex_num _) hH, by simp⟩
  · split at h
    · rename_i hk
      obtain ⟨a, h1, h2⟩ := rbd_inr h
      obtain ⟨-, h3, rfl⟩ := pAcc_inr h1
      cases h2
      exact ⟨by omega, by omega, _, rfl, Ex_mono (Ex_var (by omega)) hH, by simp⟩
    · split at h
      · cases S with
        | none => cases h
        | some U =>
          simp only at h
          obtain ⟨a, h1, h2⟩ := rbd_inr h
          obtain ⟨-, h3, rfl⟩ := pAcc_inr h1
          obtain ⟨q, h4, h5⟩ := rbd_inr h2
          obtain ⟨b, h6, h7⟩ := rbd_inr h5
          obtain ⟨-, h8, rfl⟩ := pAcc_inr h6
          cases h7
          obtain ⟨g1, g2, e, g3, g4, g5⟩ := hS U rfl (t + 1) o q.1 q.2 (by omega) h4
          exact ⟨by omega, by omega, e, g3, g4, by omega⟩
      · cases h
theorem Gd_L {K P : Nat → Int} {a b : Int} {U : Pr} {H : Nat} (hU : Gd H U) : ∀ n t o t' o' e0, t ≤ 400 → Ex (H + 1) e0 → pL K P a b U n t (o ++ e0) = Sum.inr (t', o') → t ≤ t' ∧ t' ≤ 400 ∧ ∃ e, o' = o ++ e ∧ Ex (H + 1) e ∧ e.length ≤ t' - t + e0.length := by
  intro n
  induction n with
  | zero =>
    intro t o t' o' e0 ht h0 h
    cases h
    exact ⟨Nat.le_refl _, ht, e0, rfl, h0, by omega⟩
  | succ n ih =>
    intro t o t' o' e0 ht h0 h
    unfold pL at h
    split at h
    · obtain ⟨c, h1, h2⟩ := rbd_inr h
      obtain ⟨-, h3, rfl⟩ := pAcc_inr h1
      obtain ⟨q, h4, h5⟩ := rbd_inr h2
      obtain ⟨g1, g2, e, g3, g4, g5⟩ := hU (t + 1) (o ++ e0) q.1 q.2 (by omega) h4
      rw [g3, List.append_assoc, List.append_assoc] at h5
      have hb := Ex_bin (z := 0) h0 g4 (opk_in (K t))
      have hm : max (H + 1) (H + 1) = H + 1 := Nat.max_self _
      rw [hm] at hb
      obtain ⟨k1, k2, e', k3, k4, k5⟩ := ih q.1 o t' o' _ g2 hb h5
      refine ⟨by omega, k2, e', k3, k4, ?_⟩
      simp only [List.length_append, List.length_singleton] at k5
      omega
    · cases h
      exact ⟨Nat.le_refl _, ht, e0, rfl, h0, by omega⟩
theorem Gd_Q {K P : Nat → Int} {a b : Int} {U : Pr} {H : Nat} (hU : Gd H U) : Gd (H + 1) (pQ K P a b U) := by
  intro t o t' o' ht h
  unfold pQ at h
  obtain ⟨q, h1, h2⟩ := rbd_inr h
  obtain ⟨g1, g2, e, g3, g4, g5⟩ := hU t o q.1 q.2 ht h1
  rw [g3] at h2
  obtain ⟨k1, k2, e', k3, k4, k5⟩ := Gd_L hU 401 q.1 o t' o' e g2 (Ex_mono g4 (by omega)) h2
  exact ⟨by omega, k2, e', k3, k4, by omega⟩
theorem Gd_S (K V P : Nat → Int) : ∀ n, Gd (2 * n + 3) (pS K V P n)
  | 0 => Gd_Q (Gd_Q (Gd_U (Nat.le_refl 1) (fun U h => by cases h)))
  | n + 1 => by
    have ih := Gd_S K V P n
    have := Gd_Q (K := K) (P := P) (a := 43) (b := 45) (Gd_Q (K := K) (P := P) (a := 42) (b := 47) (Gd_U (K := K) (V := V) (P := P) (S := some (pS K V P n)) (H := 2 * n + 3) (by omega) (fun U h => by cases h; exact ih)))
    exact this
/-- where a piece ends no sign of its kind stands -/
theorem pL_end {K P : Nat → Int} {a b : Int} {U : Pr} {H : Nat} (hU : Gd H U) : ∀ n t o t' o', t ≤ 400 → 401 ≤ n + t → pL K P a b U n t o = Sum.inr (t', o') → ¬ (K t' = a ∨ K t' = b) := by
  intro n
  induction n with
  | zero => intro t o t' o' ht hn; omega
  | succ n ih =>
    intro t o t' o' ht hn h
    unfold pL at h
    split at h
    · obtain ⟨c, h1, h2⟩ := rbd_inr h
      obtain ⟨-, h3, rfl⟩ := pAcc_inr h1
      obtain ⟨q, h4, h5⟩ := rbd_inr h2
      obtain ⟨g1, g2, -⟩ := hU (t + 1) o q.1 q.2 (by omega) h4
      exact ih q.1 _ t' o' g2 (by omega) h5
    · cases h; assumption
abbrev pE (K V P : Nat → Int) : Pr := pS K V P 6
/-- a law behind its = -/
def pIf (K V P : Nat → Int) : Nat → Nat → Lw → (Int × Int) ⊕ (Nat × Lw)
  | 0, t, L => if K t = 10 then Sum.inl (2, P t) else rbd (pE K V P t []) (fun q => Sum.inr (q.1, L ++ [(none, q.2)]))
  | n + 1, t, L => if K t = 10 then rbd (pAcc K P 10 t) (fun t1 => rbd (pE K V P t1 []) (fun a => rbd (pAcc K P 60 a.1) (fun t2 => rbd (pE K V P t2 []) (fun b => rbd (pAcc K P 11 b.1) (fun t3 => rbd (pE K V P t3 []) (fun c => rbd (pAcc K P 12 c.1) (fun t4 => pIf K V P n t4 (L ++ [(some (a.2, b.2), c.2)])))))))) else rbd (pE K V P t []) (fun q => Sum.inr (q.1, L ++ [(none, q.2)]))
def up2 (X : Nat → Int → Int) (k : Nat) (i v : Int) : Nat → Int → Int := fun k' i' => if k' = k ∧ i' = i then v else X k' i'
theorem up2_s (X : Nat → Int → Int) (k : Nat) (i v : Int) : up2 X k i v k i = v := if_pos ⟨rfl, rfl⟩
theorem up2_k {X : Nat → Int → Int} {k : Nat} {i v : Int} {k' : Nat} {i' : Int} (h : k' ≠ k) : up2 X k i v k' i' = X k' i' := if_neg (fun q => h q.1)
theorem up2_i {X : Nat → Int → Int} {k : Nat} {i v : Int} {k' : Nat} {i' : Int} (h : i' ≠ i) : up2 X k i v k' i' = X k' i' := if_neg (fun q => h q.2)
/-- what is being told: the next TOKEN, the data (as numbered for dt; 24 the names' TOKENS, 25 how many), the laws, the first milder FAULT -/
abbrev Sg : Type := Nat × (Nat → Int → Int) × (Nat → Lw) × (Int × Int)
/-- a row of TOKENS in a tell: where one is, the first milder FAULT, the numbers (the last one first) -/
abbrev Ch : Type := (Int × Int) ⊕ (Nat × (Int × Int) × List Int)
def cAcc (K P : Nat → Int) (k : Int) (r : Ch) : Ch := rbd r (fun q => rbd (pAcc K P k q.1) (fun t => Sum.inr (t, q.2)))
def cNum (K V P : Nat → Int) (lo hi : Int) (r : Ch) : Ch := rbd r (fun q => rbd (pAcc K P 19 q.1) (fun t => Sum.inr (t, (if (V q.1 < lo ∨ hi < V q.1) ∧ q.2.1.1 = 0 then (5, P q.1) else q.2.1), V q.1 :: q.2.2)))
def cName (K P M : Nat → Int) (X : Nat → Int → Int) (r : Ch) : Ch := rbd r (fun q => rbd (pAcc K P 18 q.1) (fun t => Sum.inr (t, (if exN (fun i => decide (M (X 24 i).toNat = M q.1)) 0 (X 25 0).toNat = true ∧ q.2.1.1 = 0 then (3, P q.1) else q.2.1), (q.1 : Int) :: q.2.2)))
def cBeg (s : Sg) : Ch := Sum.inr (s.1, s.2.2.2, [])
theorem cAcc_inr {K P : Nat → Int} {k : Int} {r : Ch} {q : Nat × (Int × Int) × List Int} (h : cAcc K P k r = Sum.inr q) : ∃ q0, r = Sum.inr q0 ∧ K q0.1 = k ∧ q0.1 < 400 ∧ q = (q0.1 + 1, q0.2) := by
  obtain ⟨a, h1, h2⟩ := rbd_inr h
  obtain ⟨t, h3, h4⟩ := rbd_inr h2
  obtain ⟨k1, k2, k3⟩ := pAcc_inr h3
  cases h4
  exact ⟨a, h1, k1, k2, by rw [k3]⟩
theorem cNum_inr {K V P : Nat → Int} {lo hi : Int} {r : Ch} {q : Nat × (Int × Int) × List Int} (h : cNum K V P lo hi r = Sum.inr q) : ∃ q0, r = Sum.inr q0 ∧ K q0.1 = 19 ∧ q0.1 < 400 ∧ q = (q0.1 + 1, (if (V q0.1 < lo ∨ hi < V q0.1) ∧ q0.2.1.1 = 0 then (5, P q0.1) else q0.2.1), V q0.1 :: q0.2.2) := by
  obtain ⟨a, h1, h2⟩ := rbd_inr h
  obtain ⟨t, h3, h4⟩ := rbd_inr h2
  obtain ⟨k1, k2, k3⟩ := pAcc_inr h3
  cases h4
  exact ⟨a, h1, k1, k2, by rw [k3]⟩
theorem cName_inr {K P M : Nat → Int} {X : Nat → Int → Int} {r : Ch} {q : Nat × (Int × Int) × List Int} (h : cName K P M X r = Sum.inr q) : ∃ q0, r = Sum.inr q0 ∧ K q0.1 = 18 ∧ q0.1 < 400 ∧ q = (q0.1 + 1, (if exN (fun i => decide (M (X 24 i).toNat = M q0.1)) 0 (X 25 0).toNat = true ∧ q0.2.1.1 = 0 then (3, P q0.1) else q0.2.1), (q0.1 : Int) :: q0.2.2) := by
  obtain ⟨a, h1, h2⟩ := rbd_inr h
  obtain ⟨t, h3, h4⟩ := rbd_inr h2
  obtain ⟨k1, k2, k3⟩ := pAcc_inr h3
  cases h4
  exact ⟨a, h1, k1, k2, by rw [k3]⟩
def pPart (K V P M : Nat → Int) (s : Sg) : (Int × Int) ⊕ Sg :=
  if 8 ≤ s.2.1 0 0 then Sum.inl (2, P s.1) else
  rbd (cAcc K P 59 (cNum K V P 1 60 (cNum K V P 0 99 (cNum K V P 0 99 (cNum K V P 0 99 (cName K P M s.2.1 (cAcc K P 0 (cBeg s)))))))) (fun q => match q.2.2 with
    | [m, w, y, x, n] => Sum.inr (q.1, up2 (up2 (up2 (up2 (up2 (up2 (up2 s.2.1 22 (s.2.1 0 0) x) 23 (s.2.1 0 0) y) 2 (s.2.1 0 0) w) 16 (s.2.1 0 0) m) 0 0 (s.2.1 0 0 + 1)) 24 (s.2.1 25 0) n) 25 0 (s.2.1 25 0 + 1), s.2.2.1, q.2.1)
    | _ => Sum.inl (0, 0))
def pWork (K V P M : Nat → Int) (s : Sg) : (Int × Int) ⊕ Sg :=
  if 3 ≤ s.2.1 1 0 then Sum.inl (2, P s.1) else
  rbd (cAcc K P 59 (cNum K V P 1 20 (cNum K V P 0 99 (cNum K V P 0 99 (cName K P M s.2.1 (cAcc K P 1 (cBeg s))))))) (fun q => match q.2.2 with
    | [m, y, x, n] => Sum.inr (q.1, up2 (up2 (up2 (up2 (up2 (up2 s.2.1 4 (s.2.1 1 0) x) 5 (s.2.1 1 0) y) 3 (s.2.1 1 0) m) 1 0 (s.2.1 1 0 + 1)) 24 (s.2.1 25 0) n) 25 0 (s.2.1 25 0 + 1), s.2.2.1, q.2.1)
    | _ => Sum.inl (0, 0))
/-- two numbers, or one -/
def pTwo (K V P : Nat → Int) (s : Sg) (k : Int) (a b : Nat) (lo hi : Int) : (Int × Int) ⊕ Sg := rbd (cAcc K P 59 (cNum K V P lo hi (cNum K V P lo hi (cAcc K P k (cBeg s))))) (fun q => match q.2.2 with
    | [y, x] => Sum.inr (q.1, up2 (up2 s.2.1 a 0 x) b 0 y, s.2.2.1, q.2.1)
    | _ => Sum.inl (0, 0))
def pOne (K V P : Nat → Int) (s : Sg) (k : Int) (a : Nat) (lo hi : Int) : (Int × Int) ⊕ Sg := rbd (cAcc K P 59 (cNum K V P lo hi (cAcc K P k (cBeg s)))) (fun q => match q.2.2 with
    | [x] => Sum.inr (q.1, up2 s.2.1 a 0 x, s.2.2.1, q.2.1)
    | _ => Sum.inl (0, 0))
def pLaw (K V P : Nat → Int) (s : Sg) : (Int × Int) ⊕ Sg := rbd (pAcc K P (K s.1) s.1) (fun t1 => rbd (pAcc K P 61 t1) (fun t2 => rbd (pIf K V P 4 t2 []) (fun q => rbd (pAcc K P 59 q.1) (fun t' => Sum.inr (t', s.2.1, (fun k => if (k : Int) = K s.1 - 2 then q.2 else s.2.2.1 k), s.2.2.2)))))
def pTell (K V P M : Nat → Int) (s : Sg) : (Int × Int) ⊕ Sg :=
  if K s.1 = 0 then pPart K V P M s
  else if K s.1 = 1 then pWork K V P M s
  else if 2 ≤ K s.1 ∧ K s.1 ≤ 6 then pLaw K V P s
  else if K s.1 = 7 then pTwo K V P s 7 17 18 1 600
  else if K s.1 = 8 then pTwo K V P s 8 20 21 0 99
  else if K s.1 = 9 then pOne K V P s 9 19 0 9999
  else Sum.inl (1, P s.1)
def pTxt (K V P M : Nat → Int) : Nat → Sg → (Int × Int) ⊕ Sg
  | 0, s => Sum.inr s
  | n + 1, s => if K s.1 = 20 then Sum.inr s else rbd (pTell K V P M s) (pTxt K V P M n)
/-- a text's beginning -/
def sg0 : Sg := (0, fun k _ => if k = 17 then 1 else if k = 18 then 600 else 0, fun _ => [], (0, 0))
/-- a judgement: it ends, and so -/
def T (o : Option (Int × Hp)) (Q : Int → Hp → Prop) : Prop := ∃ r h', o = some (r, h') ∧ Q r h'
theorem T_some {r : Int} {h : Hp} {Q : Int → Hp → Prop} (q : Q r h) : T (some (r, h)) Q := ⟨r, h, rfl, q⟩
theorem T_cl {o : Option (Int × Hp)} {f : Int → Hp → Option (Int × Hp)} {P Q : Int → Hp → Prop} (a : T o P) (b : ∀ r h, P r h → T (f r h) Q) : T (cl o f) Q := by
  obtain ⟨r, h', e, p⟩ := a
  rw [e, cl_some]
  exact b r h' p
theorem T_mono {o : Option (Int × Hp)} {P Q : Int → Hp → Prop} (a : T o P) (b : ∀ r h, P r h → Q r h) : T o Q := by
  obtain ⟨r, h', e, p⟩ := a
  exact ⟨r, h', e, b r h' p⟩
