/-! the reference reads a text: what stands between two pieces -/
def wdt (a : Int) : Int := if a = 203 ∨ a = 208 ∨ (212 ≤ a ∧ a ≤ 216) then 1 else if a ≤ 207 then 8 else if a ≤ 211 then 3 else if a ≤ 218 then 5 else if a ≤ 223 then 130 else 420
/-- only the side that is being told may differ -/
def Fp (hb h : Hp) : Prop := (hsz h = hsz hb ∧ hus h = hus hb ∧ hkd h = hkd hb ∧ hln h = hln hb) ∧ Sh h ∧ (∀ a : Int, a ≠ 194 → ¬ (202 ≤ a ∧ a ≤ 226) → rd h a = rd hb a) ∧ (∀ a j : Int, 203 ≤ a → a ≤ 225 → ¬ (wdt a * rd hb 194 19 ≤ j ∧ j < wdt a * rd hb 194 19 + wdt a) → rd h a j = rd hb a j) ∧ ∀ k : Int, ¬ ((11 ≤ k ∧ k ≤ 16) ∨ k = 20 ∨ k = 38 ∨ k = 44 ∨ k = 48) → rd h 194 k = rd hb 194 k
theorem Fp_refl {h : Hp} (s : Sh h) : Fp h h := ⟨⟨rfl, rfl, rfl, rfl⟩, s, fun _ _ _ => rfl, fun _ _ _ _ _ => rfl, fun _ _ => rfl⟩
theorem Fp_19 {hb h : Hp} (f : Fp hb h) : rd h 194 19 = rd hb 194 19 := f.2.2.2.2 19 (by decide)
theorem Fp_f {hb h : Hp} (f : Fp hb h) {k v : Int} (hs : Sh (wr h 194 k v)) (hk : (11 ≤ k ∧ k ≤ 16) ∨ k = 20 ∨ k = 38 ∨ k = 44 ∨ k = 48) : Fp hb (wr h 194 k v) := by
  obtain ⟨a, -, c, d, e⟩ := f
  exact ⟨a, hs, fun b h1 h2 => by rw [rd_wr_ne h1]; exact c b h1 h2, fun b j h1 h2 h3 => by rw [rd_wr_ne (by omega)]; exact d b j h1 h2 h3, fun j hj => by rw [rd_i (by omega)]; exact e j hj⟩
theorem Fp_wr {hb h : Hp} (f : Fp hb h) {a i v : Int} (ha : 203 ≤ a ∧ a ≤ 225) (hi : wdt a * rd hb 194 19 ≤ i ∧ i < wdt a * rd hb 194 19 + wdt a) : Fp hb (wr h a i v) := by
  obtain ⟨a1, b, c, d, e⟩ := f
  refine ⟨a1, shA b (by omega) (by omega), fun x h1 h2 => by rw [rd_wr_ne (by omega)]; exact c x h1 h2, fun x j h1 h2 h3 => ?_, fun j hj => by rw [rd_wr_ne (by omega)]; exact e j hj⟩
  rw [rd_wr, if_neg (fun q => h3 (by rw [q.1, q.2]; exact hi))]
  exact d x j h1 h2 h3
theorem Fp_202 {hb h : Hp} (f : Fp hb h) {i v : Int} : Fp hb (wr h 202 i v) := by
  obtain ⟨a1, b, c, d, e⟩ := f
  exact ⟨a1, shA b (by decide) (by decide), fun x h1 h2 => by rw [rd_wr_ne (by omega)]; exact c x h1 h2, fun x j h1 h2 h3 => by rw [rd_wr_ne (by omega)]; exact d x j h1 h2 h3, fun j hj => by rw [rd_wr_ne (by decide)]; exact e j hj⟩
theorem Fp_fl {hb h : Hp} (f : Fp hb h) (c p : Int) : Fp hb (flH h c p) := Fp_f (Fp_f f (sh13 f.2.1 c) (by decide)) (flH_sh f.2.1 c p) (by decide)
theorem Fp_Fe {hb h h' : Hp} (f : Fp hb h) (g : Fe h h') (h44 : 420 * rd hb 194 19 ≤ rd h 194 44) : Fp hb h' := by
  have e19 := Fp_19 f
  obtain ⟨⟨a1, a2, a3, a4⟩, b, c, d, e⟩ := f
  obtain ⟨⟨b1, b2, b3, b4⟩, b5, b6, b7, b8⟩ := g
  refine ⟨⟨b1.trans a1, b2.trans a2, b3.trans a3, b4.trans a4⟩, b5, fun x h1 h2 => ?_, fun x j h1 h2 h3 => ?_, fun k hk => ?_⟩
  · rw [b6 x h1 (by omega)]; exact c x h1 h2
  · by_cases hx : 224 ≤ x
    · have w4 : wdt x = 420 := by unfold wdt; rw [if_neg (by omega), if_neg (by omega), if_neg (by omega), if_neg (by omega), if_neg (by omega)]
      rw [b7 x j hx h2 (by rw [w4] at h3; omega)]
      exact d x j h1 h2 h3
    · rw [b6 x (by omega) (by omega)]; exact d x j h1 h2 h3
  · rw [b8 k (by omega)]; exact e k hk
theorem Fp_tk {hb h : Hp} {K V P M : Nat → Int} (f : Fp hb h) (tk : RTk hb K V P M) : RTk h K V P M := by
  unfold RTk
  rw [f.2.2.1 197 (by decide) (by decide), f.2.2.1 198 (by decide) (by decide), f.2.2.1 199 (by decide) (by decide), f.2.2.1 200 (by decide) (by decide)]
  exact tk
/-- codes and branches below some places -/
def segB (h : Hp) (lo cb a b : Int) (cs : Cds) : Prop := (0 ≤ a ∧ lo ≤ a) ∧ b = a + cs.length ∧ b ≤ cb ∧ cdA (rd h 224) (rd h 225) a cs ∧ Ex 15 cs
def RBc (h : Hp) (lo cb b : Int) (q : Option (Cds × Cds) × Cds) : Prop := segB h lo cb (rd h 222 b) (rd h 223 b) q.2 ∧ match q.1 with
  | none => rd h 219 b = 0
  | some t => rd h 219 b = 1 ∧ segB h lo cb (rd h 220 b) (rd h 221 b) t.1 ∧ segB h lo cb (rd h 221 b) (rd h 222 b) t.2
def RBl (h : Hp) (lo cb : Int) : Int → Lw → Prop
  | _, [] => True
  | b, q :: r => RBc h lo cb b q ∧ RBl h lo cb (b + 1) r
def LB (h : Hp) (lo cb bb s k : Int) (L : Lw) : Prop := 0 ≤ rd h 217 (5 * s + k) ∧ rd h 218 (5 * s + k) = rd h 217 (5 * s + k) + L.length ∧ (L = [] ∨ (130 * s ≤ rd h 217 (5 * s + k) ∧ rd h 218 (5 * s + k) ≤ bb)) ∧ rd h 218 (5 * s + k) ≤ 260 ∧ RBl h lo cb (rd h 217 (5 * s + k)) L
theorem cdA_eq {C I C' I' : Int → Int} {m : Int} (h1 : ∀ j, 0 ≤ j → j < m → C' j = C j) (h2 : ∀ j, 0 ≤ j → j < m → I' j = I j) : ∀ (cs : Cds) (c : Int), 0 ≤ c → c + cs.length ≤ m → cdA C I c cs → cdA C' I' c cs
  | [], _, _, _, _ => trivial
  | q :: cs, c, h0, hm, ⟨a, b, d⟩ => by
    have e : ((q :: cs).length : Int) = (cs.length : Int) + 1 := by simp
    exact ⟨by rw [h1 c h0 (by omega)]; exact a, by rw [h2 c h0 (by omega)]; exact b, cdA_eq h1 h2 cs (c + 1) (by omega) (by omega) d⟩
/-- two heaps alike below the places -/
def Eqc (h h' : Hp) (cb bb : Int) : Prop := (∀ a j, 219 ≤ a → a ≤ 223 → j < bb → rd h' a j = rd h a j) ∧ ∀ a j, 224 ≤ a → a ≤ 225 → 0 ≤ j → j < cb → rd h' a j = rd h a j
theorem segB_eq {h h' : Hp} {lo cb cb' bb a b : Int} {cs : Cds} (e : Eqc h h' cb bb) (hc : cb ≤ cb') (g : segB h lo cb a b cs) : segB h' lo cb' a b cs := by
  obtain ⟨g1, g2, g3, g4, g5⟩ := g
  exact ⟨g1, g2, by omega, cdA_eq (fun j q1 q2 => e.2 224 j (by decide) (by decide) q1 q2) (fun j q1 q2 => e.2 225 j (by decide) (by decide) q1 q2) cs a g1.1 (by omega) g4, g5⟩
theorem RBc_eq {h h' : Hp} {lo cb cb' bb b : Int} {q : Option (Cds × Cds) × Cds} (e : Eqc h h' cb bb) (hc : cb ≤ cb') (hb : b < bb) (g : RBc h lo cb b q) : RBc h' lo cb' b q := by
  unfold RBc at g ⊢
  rw [e.1 222 b (by decide) (by decide) hb, e.1 223 b (by decide) (by decide) hb]
  refine ⟨segB_eq e hc g.1, ?_⟩
  have g2 := g.2
  cases hq : q.1 with
  | none => rw [hq] at g2; simp only at g2 ⊢; rw [e.1 219 b (by decide) (by decide) hb]; exact g2
  | some t =>
    rw [hq] at g2
    simp only at g2 ⊢
    rw [e.1 219 b (by decide) (by decide) hb, e.1 220 b (by decide) (by decide) hb, e.1 221 b (by decide) (by decide) hb]
    exact ⟨g2.1, segB_eq e hc g2.2.1, segB_eq e hc g2.2.2⟩
theorem RBl_eq {h h' : Hp} {lo cb cb' bb : Int} (e : Eqc h h' cb bb) (hc : cb ≤ cb') : ∀ (L : Lw) (b : Int), b + L.length ≤ bb → RBl h lo cb b L → RBl h' lo cb' b L
  | [], _, _, _ => trivial
  | q :: r, b, hb, g => by
    have e1 : ((q :: r).length : Int) = (r.length : Int) + 1 := by simp
    exact ⟨RBc_eq e hc (by omega) g.1, RBl_eq e hc r (b + 1) (by omega) g.2⟩
theorem RBl_app {h : Hp} {lo cb : Int} : ∀ (L M : Lw) (b : Int), RBl h lo cb b L → RBl h lo cb (b + L.length) M → RBl h lo cb b (L ++ M)
  | [], M, b, _, g => by simpa using g
  | q :: r, M, b, g, g' => by
    have e1 : b + ((q :: r).length : Int) = b + 1 + (r.length : Int) := by simp only [List.length_cons]; omega
    rw [e1] at g'
    exact ⟨g.1, RBl_app r M (b + 1) g.2 g'⟩
theorem LB_eq {h h' : Hp} {lo cb cb' bb bb' s k : Int} {L : Lw} (e : Eqc h h' cb bb) (hc : cb ≤ cb') (hb : bb ≤ bb') (e7 : rd h' 217 (5 * s + k) = rd h 217 (5 * s + k)) (e8 : rd h' 218 (5 * s + k) = rd h 218 (5 * s + k)) (g : LB h lo cb bb s k L) : LB h' lo cb' bb' s k L := by
  obtain ⟨g1, g2, g3, g4, g5⟩ := g
  unfold LB
  rw [e7, e8]
  refine ⟨g1, g2, g3.imp id (fun q => ⟨q.1, by omega⟩), g4, ?_⟩
  rcases g3 with q | q
  · subst q; trivial
  · exact RBl_eq e hc L _ (by omega) g5
def Rw (h : Hp) (P : Nat → Int) (t : Nat) (w : Int × Int) : Prop := rd h 194 15 = w.1 ∧ 0 ≤ w.1 ∧ (w.1 ≠ 0 → rd h 194 16 = w.2 ∧ w.2 < P t)
def Rx (h : Hp) (s : Int) (K : Nat → Int) (X : Nat → Int → Int) : Prop := (rd h 194 20 = X 25 0 ∧ X 25 0 = X 0 0 + X 1 0 ∧ ∀ i, 0 ≤ i → i < X 25 0 → (0 ≤ X 24 i ∧ X 24 i ≤ 400) ∧ K (X 24 i).toNat = 18 ∧ rd h 202 i = rd h 200 (X 24 i)) ∧
  (rd h 203 s = X 0 0 ∧ 0 ≤ X 0 0 ∧ X 0 0 ≤ 8 ∧ ∀ p, 0 ≤ p → p < X 0 0 → rd h 204 (8 * s + p) = X 22 p ∧ rd h 205 (8 * s + p) = X 23 p ∧ rd h 206 (8 * s + p) = X 2 p ∧ rd h 207 (8 * s + p) = X 16 p) ∧
  (rd h 208 s = X 1 0 ∧ 0 ≤ X 1 0 ∧ X 1 0 ≤ 3 ∧ ∀ p, 0 ≤ p → p < X 1 0 → rd h 209 (3 * s + p) = X 4 p ∧ rd h 210 (3 * s + p) = X 5 p ∧ rd h 211 (3 * s + p) = X 3 p) ∧
  (rd h 212 s = X 17 0 ∧ rd h 213 s = X 18 0 ∧ rd h 214 s = X 20 0 ∧ rd h 215 s = X 21 0 ∧ rd h 216 s = X 19 0)
def Rl (h : Hp) (s : Int) (Λ : Nat → Lw) (bb cb : Int) : Prop := rd h 194 38 = bb ∧ rd h 194 44 = cb ∧ (130 * s ≤ bb ∧ bb ≤ 130 * s + 110) ∧ (420 * s ≤ cb ∧ cb ≤ 420 * s + 400) ∧ ∀ k : Nat, k < 5 → LB h (420 * s) cb bb s k (Λ k)
def Rc (h : Hp) (t : Nat) : Prop := rd h 194 11 = t ∧ t ≤ 400 ∧ rd h 194 13 = 0 ∧ rd h 194 12 = 0
def RP (hb h : Hp) (K P : Nat → Int) (s : Sg) (bb cb : Int) : Prop := Fp hb h ∧ Rc h s.1 ∧ Rw h P s.1 s.2.2.2 ∧ Rx h (rd hb 194 19) K s.2.1 ∧ Rl h (rd hb 194 19) s.2.2.1 bb cb
def RF (hb h : Hp) (c p : Int) : Prop := Fp hb h ∧ 0 < c ∧ rd h 194 13 = c ∧ rd h 194 14 = p
theorem Rx_eq {h h' : Hp} {s : Int} {K : Nat → Int} {X : Nat → Int → Int} (e : ∀ a, 200 ≤ a → a ≤ 216 → rd h' a = rd h a) (e20 : rd h' 194 20 = rd h 194 20) (g : Rx h s K X) : Rx h' s K X := by
  unfold Rx at g ⊢
  rw [e20, e 200 (by decide) (by decide), e 202 (by decide) (by decide), e 203 (by decide) (by decide), e 204 (by decide) (by decide), e 205 (by decide) (by decide), e 206 (by decide) (by decide), e 207 (by decide) (by decide), e 208 (by decide) (by decide), e 209 (by decide) (by decide), e 210 (by decide) (by decide), e 211 (by decide) (by decide), e 212 (by decide) (by decide), e 213 (by decide) (by decide), e 214 (by decide) (by decide), e 215 (by decide) (by decide), e 216 (by decide) (by decide)]
  exact g
theorem Rl_eq {h h' : Hp} {s : Int} {Λ : Nat → Lw} {bb cb : Int} (e : ∀ a, 217 ≤ a → a ≤ 225 → rd h' a = rd h a) (e38 : rd h' 194 38 = rd h 194 38) (e44 : rd h' 194 44 = rd h 194 44) (g : Rl h s Λ bb cb) : Rl h' s Λ bb cb := by
  obtain ⟨g1, g2, g3, g4, g5⟩ := g
  refine ⟨by rw [e38]; exact g1, by rw [e44]; exact g2, g3, g4, fun k hk => LB_eq ⟨fun a j h1 h2 _ => by rw [e a (by omega) (by omega)], fun a j h1 h2 _ _ => by rw [e a (by omega) (by omega)]⟩ (Int.le_refl _) (Int.le_refl _) (by rw [e 217 (by decide) (by decide)]) (by rw [e 218 (by decide) (by decide)]) (g5 k hk)⟩
/-- the TOKENS' places rise -/
def Mn (K P : Nat → Int) : Prop := ∀ t, t < 400 → K t ≠ 20 → P t < P (t + 1)
theorem m_must {F : Nat} {h : Hp} {K V P M : Nat → Int} {t : Nat} {c d : Int} (s : Sh h) (tk : RTk h K V P M) (r : Rc h t) (hd : KdOk d) (e : phi d = c) : Mod_must F 194 c h = some (0, match pAcc K P d t with | Sum.inr t' => wr h 194 11 (t' : Int) | Sum.inl q => flH h q.1 q.2) := by
  obtain ⟨h11, ht, h13, -⟩ := r
  unfold Mod_must pAcc
  by_cases hk : K t = d
  · rw [ivM s, m_isY c d s tk ht h11 hd e h13 hk, cl_some, if_neg (by decide), ivM s, m_goesOn (F := F) s tk ht h11 h13, cl_some, if_pos hk]
    by_cases h4 : t < 400
    · rw [if_pos h4, if_pos h4]
    · rw [if_neg h4, if_neg h4]
  · rw [ivM s, m_isN c d s tk ht h11 hd e (fun q => hk q.2), cl_some, if_pos rfl, ivM s, m_fail (F := F) s tk ht h11 h13, cl_some, if_neg hk]
theorem m_is' {F : Nat} {h : Hp} {c : Int} (s : Sh h) (h0 : 0 < rd h 194 13) : Mod_is F 194 c h = some (0, h) := by
  unfold Mod_is
  rw [gM13 s, if_neg (by omega)]; rfl
theorem m_must' {F : Nat} {h : Hp} {c : Int} (s : Sh h) (h0 : 0 < rd h 194 13) : Mod_must F 194 c h = some (0, h) := by
  unfold Mod_must
  rw [ivM s, m_is' s h0, cl_some, if_pos rfl, ivM s, m_fail' s h0, cl_some]
/-- the cursor goes on: all else stands -/
theorem RP_t {hb h : Hp} {K P : Nat → Int} {t t' : Nat} {X : Nat → Int → Int} {Λ : Nat → Lw} {w : Int × Int} {bb cb : Int} (g : RP hb h K P (t, X, Λ, w) bb cb) (h4 : t' ≤ 400) (hp : P t < P t') : RP hb (wr h 194 11 (t' : Int)) K P (t', X, Λ, w) bb cb := by
  obtain ⟨f, ⟨c1, c2, c3, c4⟩, ⟨w1, w2, w3⟩, x, l⟩ := g
  refine ⟨Fp_f f (sh11 f.2.1 _) (by decide), ⟨rd_same _ _ _ _, h4, by rw [rd_i (by decide)]; exact c3, by rw [rd_i (by decide)]; exact c4⟩, ⟨by rw [rd_i (by decide)]; exact w1, w2, fun q => ?_⟩, Rx_eq (fun a h1 h2 => rd_wr_ne (by omega)) (rd_i (by decide)) x, Rl_eq (fun a h1 h2 => rd_wr_ne (by omega)) (rd_i (by decide)) (rd_i (by decide)) l⟩
  obtain ⟨q1, q2⟩ := w3 q
  simp only at q2
  exact ⟨by rw [rd_i (by decide)]; exact q1, by show w.2 < P t'; omega⟩
theorem RF_of {hb h : Hp} {K P : Nat → Int} {s : Sg} {bb cb : Int} (g : RP hb h K P s bb cb) {c p : Int} (hc : 0 < c) : RF hb (flH h c p) c p := ⟨Fp_fl g.1 c p, hc, flH_13 _ _ _, flH_14 _ _ _⟩
/-- a TOKEN is asked for, in a text that is right so far -/
theorem t_must {F : Nat} {hb h : Hp} {K V P M : Nat → Int} {t : Nat} {X : Nat → Int → Int} {Λ : Nat → Lw} {w : Int × Int} {bb cb c d : Int} (tk : RTk hb K V P M) (mn : Mn K P) (g : RP hb h K P (t, X, Λ, w) bb cb) (hd : KdOk d) (hd2 : d ≠ 20) (e : phi d = c) : T (Mod_must F 194 c h) (fun _ h' => match pAcc K P d t with | Sum.inr t' => RP hb h' K P (t', X, Λ, w) bb cb | Sum.inl q => RF hb h' q.1 q.2) := by
  rw [m_must g.1.2.1 (Fp_tk g.1 tk) g.2.1 hd e]
  refine T_some ?_
  cases hq : pAcc K P d t with
  | inl q =>
    simp only
    refine RF_of g ?_
    unfold pAcc at hq
    split at hq
    · split at hq
      · cases hq
      · cases hq; show (0 : Int) < 2; decide
    · cases hq; show (0 : Int) < 1; decide
  | inr t' =>
    simp only
    obtain ⟨k1, k2, k3⟩ := pAcc_inr hq
    subst k3
    exact RP_t g (by omega) (mn t k2 (by omega))
theorem rf_must {F : Nat} {hb h : Hp} {c p k : Int} (g : RF hb h c p) : Mod_must F 194 k h = some (0, h) := m_must' g.1.2.1 (by rw [g.2.2.1]; exact g.2.1)
