/-! the reference's expression, whole -/
def NPq (F : Nat) (hb : Hp) (K P : Nat → Int) (Q : Int → Hp → Prop) (t : Nat) (W : List Int) (o : Cds) : Prop :=
  if K t = 41 ∧ 0 < opn W then (if t < 400 then OKP F hb Q (t + 1) (popW false W).1.tail (o ++ (popW false W).2) else FqQ hb Q 2 (P t))
  else if K t = 43 ∨ K t = 45 then (if t < 400 then OKU F hb Q (t + 1) (phi (K t) :: (popW false W).1) (o ++ (popW false W).2) else FqQ hb Q 2 (P t))
  else if K t = 42 ∨ K t = 47 then (if t < 400 then OKU F hb Q (t + 1) (phi (K t) :: (popW true W).1) (o ++ (popW true W).2) else FqQ hb Q 2 (P t))
  else if 0 < opn W then FqQ hb Q 1 (P t) else DqQ hb Q t (o ++ (popW false W).2)
theorem m_comesOut {F : Nat} {z : Int × Int} {hb h : Hp} {t : Nat} (b : Bool) {W : List Int} {o : Cds} (hF : 1000 ≤ F) (h0 : 0 ≤ rd hb 194 44) (e : EZ z hb h t W o) (hw : W.length ≤ 60) (hc : rd hb 194 44 + o.length + W.length < 420 * (rd hb 194 19 + 1)) (hs : rd hb 194 19 ≤ 1) : ∃ h', Mod_comesOut F 194 (if b then 1 else 0) h = some (0, h') ∧ EZ z hb h' t (popW b W).1 (o ++ (popW b W).2) := m_comesOut_L b h0 W F h o e (by omega) hw hc hs
theorem EZ_tail {z : Int × Int} {hb h : Hp} {t : Nat} {w : Int} {W : List Int} {o : Cds} {x : Int} (e : EZ z hb h t (w :: W) o) (hx : x = W.length) {y : Int} (hy : y = opn W) : EZ z hb (wr (wr h 194 48 x) 194 12 y) t W o := by
  obtain ⟨f, e11, e13, e12, e44, e48, ew, ec⟩ := e
  have s1 := sh48 f.2.1 x
  refine ⟨Fe_f (Fe_f f s1 (by decide)) (sh12 s1 y) (by decide), by rw [rd_i (by decide), rd_i (by decide)]; exact e11, by rw [rd_i (by decide), rd_i (by decide), rd_i (by decide), rd_i (by decide)]; exact e13, by rw [rd_same]; exact hy, by rw [rd_i (by decide), rd_i (by decide)]; exact e44, by rw [rd_i (by decide), rd_same]; exact hx, by rw [rd_wr_ne (by decide), rd_wr_ne (by decide)]; exact ew.2, by rw [rd_wr_ne (by decide), rd_wr_ne (by decide), rd_wr_ne (by decide), rd_wr_ne (by decide)]; exact ec⟩
theorem ES_t {hb h : Hp} {t u : Nat} {W : List Int} {o : Cds} (e : ES hb h t W o) : ES hb (wr h 194 11 (u : Int)) u W o := by
  obtain ⟨f, e11, e13, e12, e44, e48, ew, ec⟩ := e
  exact ⟨Fe_f f (sh11 f.2.1 _) (by decide), rd_same _ _ _ _, by rw [rd_i (by decide), rd_i (by decide)]; exact e13, by rw [rd_i (by decide)]; exact e12, by rw [rd_i (by decide)]; exact e44, by rw [rd_i (by decide)]; exact e48, by rw [rd_wr_ne (by decide)]; exact ew, by rw [rd_wr_ne (by decide), rd_wr_ne (by decide)]; exact ec⟩
theorem EZ_fl {hb h : Hp} {t : Nat} {W : List Int} {o : Cds} (e : ES hb h t W o) (c p : Int) : EZ (c, p) hb (flH h c p) t W o := by
  obtain ⟨f, e11, e13, e12, e44, e48, ew, ec⟩ := e
  exact ⟨Fe_fl f c p, by rw [flH_f (by decide)]; exact e11, ⟨flH_13 _ _ _, fun _ => flH_14 _ _ _⟩, by rw [flH_f (by decide)]; exact e12, by rw [flH_f (by decide)]; exact e44, by rw [flH_f (by decide)]; exact e48, by rw [flH_ne (by decide)]; exact ew, by rw [flH_ne (by decide), flH_ne (by decide)]; exact ec⟩
theorem ES_push {hb h : Hp} {t : Nat} {w : Int} {W : List Int} {o : Cds} {x : Int} (e : ES hb h t W o) (hx : x = W.length + 1) (hw : w ≠ 6) : ES hb (wr (wr h 226 W.length w) 194 48 x) t (w :: W) o := by
  obtain ⟨f, e11, e13, e12, e44, e48, ew, ec⟩ := e
  have f1 : Fe hb (wr h 226 W.length w) := Fe_226 f
  refine ⟨Fe_f f1 (sh48 f1.2.1 x) (by decide), by rw [rd_i (by decide), rd_wr_ne (by decide)]; exact e11, by rw [rd_i (by decide), rd_i (by decide), rd_wr_ne (by decide)]; exact e13, by rw [rd_i (by decide), rd_wr_ne (by decide), opn_n hw]; exact e12, by rw [rd_i (by decide), rd_wr_ne (by decide)]; exact e44, by rw [rd_same, hx]; rfl, ?_, by rw [rd_wr_ne (by decide), rd_wr_ne (by decide), rd_wr_ne (by decide), rd_wr_ne (by decide)]; exact ec⟩
  rw [rd_wr_ne (by decide), wr_sr, rd_sr]
  exact ⟨up_s _ _ _, rpS_up W (by omega) ew⟩
theorem OKP_of {F : Nat} {hb : Hp} {K V P M : Nat → Int} {Q : Int → Hp → Prop} {t : Nat} {W : List Int} {o : Cds} (cx : Cx F hb K V P M) (ht : t ≤ 400) (hw : WOk W) (ho : opn W ≤ 6) (hc : Cn hb t W o) (np : NPq F hb K P Q t W o) : OKP F hb Q t W o := by
  intro n m h hn hm e
  have cx' := cx
  obtain ⟨hF, -, tk0, c0, hs⟩ := cx
  unfold Cn at hc
  have s := e.1.2.1
  have tk := Fe_tk e.1 tk0
  have h11 := e.2.1
  have h13 : rd h 194 13 = 0 := e.2.2.1.1
  have h12 : rd h 194 12 = opn W := e.2.2.2.1
  have hl := WOk_len W hw
  have r2 := rkW_2 W
  obtain ⟨m, rfl⟩ : ∃ j, m = j + 1 := ⟨m - 1, by omega⟩
  obtain ⟨n, rfl⟩ : ∃ j, n = j + 1 := ⟨n - 1, by omega⟩
  obtain ⟨kk, -, -, -⟩ := tk.1 t ht
  have pl0 := popW_len false W
  have po0 := popW_opn false W
  have pw0 := popW_ok false W hw
  obtain ⟨hf, qf, rf⟩ := m_comesOut (F := F) (t := t) false hF c0 e (by omega) (by omega) (by omega)
  obtain ⟨ht', qt, rt⟩ := m_comesOut (F := F) (t := t) true hF c0 e (by omega) (by omega) (by omega)
  simp only [if_true, Bool.false_eq_true, if_false] at qf qt
  show T (Mod_expression_L96s F (Mod_expression_L12 F (n + 1)) (Mod_expression_L96 F (Mod_expression_L12 F (n + 1)) m) 194 0 h) Q
  unfold Mod_expression_L96s
  unfold NPq at np
  -- no more: the end
  have fin : (¬ (K t = 41 ∧ 0 < opn W)) → ¬ (K t = 43 ∨ K t = 45) → ¬ (K t = 42 ∨ K t = 47) → T (Mod_expression_B191 F 194 0 h) Q := by
    intro n1 n2 n3
    rw [if_neg n1, if_neg n2, if_neg n3] at np
    unfold Mod_expression_B191
    rw [gM12 s, h12]
    by_cases o0 : 0 < opn W
    · rw [if_pos o0] at np
      have ez := EZ_fl e 1 (P t)
      obtain ⟨h', q, r⟩ := m_comesOut (F := F) (t := t) (z := (1, P t)) false hF c0 ez (by omega) (by omega) (by omega)
      simp only [Bool.false_eq_true, if_false] at q
      unfold Mod_expression_B204
      rw [if_pos (by omega), ivM s, m_fail s tk ht h11 h13, cl_some, ivM ez.1.2.1, q, cl_some]
      exact T_some (np h' ⟨r.1, r.2.2.1.1, r.2.2.1.2 (by show (1 : Int) ≠ 0; decide)⟩)
    · rw [if_neg o0] at np
      unfold Mod_expression_B204
      rw [if_neg (by omega), ivM s, qf, cl_some]
      rw [popW_nil W (by omega)] at rf
      exact T_some (np hf rf)
  -- a sign: it waits
  have sgn : ∀ (b : Bool) (h1 : Hp), ES hb h1 t (popW b W).1 (o ++ (popW b W).2) → (K t = 43 ∨ K t = 45 ∨ K t = 42 ∨ K t = 47) → (if t < 400 then OKU F hb Q (t + 1) (phi (K t) :: (popW b W).1) (o ++ (popW b W).2) else FqQ hb Q 2 (P t)) → T (gf h1 194 112 47 fun v49 => gf h1 194 112 48 fun v50 => gf h1 194 112 5 fun v51 => gf h1 194 112 11 fun v52 => al h1 v51 0 v52 fun v53 => as h1 v49 0 v50 v53 fun h54 => gf h54 194 112 48 fun v55 => pf h54 194 112 48 (w32 (v55 + 1)) fun h56 => iv h56 194 112 (Mod_goesOn F 194 h56) fun r57 h58 => Mod_expression_L12 F (n + 1) 194 0 1 h58) Q := by
    intro b h1 e1 hk nx
    have pl := popW_len b W
    have s1 := e1.1.2.1
    have tk1 := Fe_tk e1.1 tk0
    have p6 : phi (K t) ≠ 6 := by rcases hk with k | k | k | k <;> rw [k] <;> decide
    have e2 := ES_push (w := phi (K t)) (x := ((popW b W).1.length : Int) + 1) e1 rfl p6
    have s2' : Sh (wr h1 226 (popW b W).1.length (phi (K t))) := shA s1 (by decide) (by decide)
    have s2 := e2.1.2.1
    have x48 : rd (wr h1 226 (popW b W).1.length (phi (K t))) 194 48 = (popW b W).1.length := by rw [rd_wr_ne (by decide)]; exact e1.2.2.2.2.2.1
    rw [gM47 s1, gM48 s1, e1.2.2.2.2.2.1, gM5 s1, gM11 s1, e1.2.1, aM5 s1 (by omega) (by omega), (tk1.1 t ht).1, sM47 s1 (by omega) (by omega), gM48 s2', x48, w32_id (x := ((popW b W).1.length : Int) + 1) (by omega) (by omega), pM48 s2', ivM s2, m_goesOn (F := F) s2 (Fe_tk e2.1 tk0) ht e2.2.1 e2.2.2.1.1, cl_some]
    by_cases h4 : t < 400
    · rw [if_pos h4] at nx ⊢
      have e3 := ES_t (u := t + 1) e2
      show T (Mod_expression_L12s F (Mod_expression_L12 F n) 194 0 1 _) Q
      unfold Mod_expression_L12s
      rw [if_neg (by decide), gM13 e3.1.2.1, e3.2.2.1.1, if_pos rfl]
      exact nx n F _ (by omega) (by omega) e3
    · rw [if_neg h4] at nx ⊢
      have f3 := Fe_fl e2.1 2 (P t)
      show T (Mod_expression_L12s F (Mod_expression_L12 F n) 194 0 1 _) Q
      unfold Mod_expression_L12s
      rw [if_neg (by decide), gM13 f3.2.1, flH_13, if_neg (by decide)]
      exact T_some (nx _ ⟨f3, flH_13 _ _ _, flH_14 _ _ _⟩)
  -- behind the closing ones
  have rest : ¬ (K t = 41 ∧ 0 < opn W) → T (Mod_expression_B145 F (Mod_expression_L12 F (n + 1)) 194 0 h) Q := by
    intro n1
    rw [if_neg n1] at np
    unfold Mod_expression_B145
    have plus : (K t = 43 ∨ K t = 45) → T (Mod_expression_B186 F (Mod_expression_L12 F (n + 1)) 194 0 1 h) Q := by
      intro k
      rw [if_pos k] at np
      unfold Mod_expression_B186 Mod_expression_B234
      rw [if_neg (by decide), ivM s, m_isN 10 42 s tk ht h11 (by unfold KdOk; decide) rfl (by omega), cl_some, if_pos rfl, ivM s, m_isN 15 47 s tk ht h11 (by unfold KdOk; decide) rfl (by omega), cl_some, if_pos rfl, ivM s, qf, cl_some]
      exact sgn false hf rf (by omega) np
    have times : (K t = 42 ∨ K t = 47) → T (Mod_expression_B186 F (Mod_expression_L12 F (n + 1)) 194 0 1 h) Q := by
      intro k
      rw [if_neg (by omega), if_pos k] at np
      unfold Mod_expression_B186 Mod_expression_B234
      by_cases k42 : K t = 42
      · rw [if_neg (by decide), ivM s, m_isY 10 42 s tk ht h11 (by unfold KdOk; decide) rfl h13 k42, cl_some, if_neg (by decide), ivM s, qt, cl_some]
        exact sgn true ht' rt (by omega) np
      · rw [if_neg (by decide), ivM s, m_isN 10 42 s tk ht h11 (by unfold KdOk; decide) rfl (by omega), cl_some, if_pos rfl, ivM s, m_isY 15 47 s tk ht h11 (by unfold KdOk; decide) rfl h13 (by omega), cl_some, if_neg (by decide), ivM s, qt, cl_some]
        exact sgn true ht' rt (by omega) np
    by_cases k43 : K t = 43
    · rw [ivM s, m_isY 8 43 s tk ht h11 (by unfold KdOk; decide) rfl h13 k43, cl_some, if_neg (by decide)]
      exact plus (Or.inl k43)
    · rw [ivM s, m_isN 8 43 s tk ht h11 (by unfold KdOk; decide) rfl (by omega), cl_some, if_pos rfl]
      by_cases k45 : K t = 45
      · rw [ivM s, m_isY 9 45 s tk ht h11 (by unfold KdOk; decide) rfl h13 k45, cl_some, if_neg (by decide)]
        exact plus (Or.inr k45)
      · rw [ivM s, m_isN 9 45 s tk ht h11 (by unfold KdOk; decide) rfl (by omega), cl_some, if_pos rfl]
        by_cases k42 : K t = 42
        · rw [ivM s, m_isY 10 42 s tk ht h11 (by unfold KdOk; decide) rfl h13 k42, cl_some, if_neg (by decide)]
          exact times (Or.inl k42)
        · rw [ivM s, m_isN 10 42 s tk ht h11 (by unfold KdOk; decide) rfl (by omega), cl_some, if_pos rfl]
          by_cases k47 : K t = 47
          · rw [ivM s, m_isY 15 47 s tk ht h11 (by unfold KdOk; decide) rfl h13 k47, cl_some, if_neg (by decide)]
            exact times (Or.inr k47)
          · rw [ivM s, m_isN 15 47 s tk ht h11 (by unfold KdOk; decide) rfl (by omega), cl_some, if_pos rfl]
            unfold Mod_expression_B186
            rw [if_pos rfl]
            exact fin n1 (by omega) (by omega)
  by_cases k41 : K t = 41
  · rw [ivM s, m_isY 7 41 s tk ht h11 (by unfold KdOk; decide) rfl h13 k41, cl_some, if_neg (by decide), gM12 s, h12]
    by_cases o0 : 0 < opn W
    · rw [if_pos ⟨k41, o0⟩] at np
      obtain ⟨U, pu, ou⟩ := popW_top W o0
      rw [pu] at rf pl0 pw0 np
      have hlu : (6 :: U : List Int).length = U.length + 1 := rfl
      have sf := rf.1.2.1
      have x48 : rd hf 194 48 = (U.length : Int) + 1 := by rw [rf.2.2.2.2.2.1, hlu]; omega
      have sf1 := sh48 sf (U.length : Int)
      have x12 : rd (wr hf 194 48 (U.length : Int)) 194 12 = (opn U : Int) + 1 := by rw [rd_i (by decide), rf.2.2.2.1, opn_6]; omega
      have e2 := EZ_tail (x := (U.length : Int)) (y := (opn U : Int)) rf rfl rfl
      have s2 := e2.1.2.1
      rw [if_pos (by omega), ivM s, qf, cl_some, gM48 sf, x48, w32_id (x := (U.length : Int) + 1 - 1) (by omega) (by omega), show (U.length : Int) + 1 - 1 = U.length by omega, pM48 sf, gM12 sf1, x12, w32_id (x := (opn U : Int) + 1 - 1) (by omega) (by omega), show (opn U : Int) + 1 - 1 = opn U by omega, pM12 sf1, ivM s2, m_goesOn (F := F) s2 (Fe_tk e2.1 tk0) ht e2.2.1 e2.2.2.1.1, cl_some]
      by_cases h4 : t < 400
      · rw [if_pos h4] at np ⊢
        exact np (n + 1) m _ (by omega) (by omega) (ES_t e2)
      · rw [if_neg h4] at np ⊢
        obtain ⟨m, rfl⟩ : ∃ j, m = j + 1 := ⟨m - 1, by omega⟩
        refine T_mono (bad_L96 (t := t) (z := (2, P t)) _ cx' ht (by show (0 : Int) < 2; decide) (EZ_fl e2 2 (P t)) pw0.1 (by omega) (by rw [List.length_append]; omega)) (fun r h' q => ?_)
        rw [q.1]
        exact np h' q.2
    · rw [if_neg (by omega)]
      exact rest (fun q => o0 q.2)
  · rw [ivM s, m_isN 7 41 s tk ht h11 (by unfold KdOk; decide) rfl (fun q => k41 q.2), cl_some, if_pos rfl]
    exact rest (fun q => k41 q.1)
