
theorem rv_null {base : Bs} {x : Int} (h : x = 0) : rv base x = .null := by unfold rv; rw [if_neg (by omega), if_pos h]
theorem rv_ref {base : Bs} {x : Int} (h : 0 < x) : rv base x = .ref (base.1 + x.toNat) := if_pos h
theorem rv_cases (base : Bs) (x : Int) : rv base x = .null ∨ ∃ q, rv base x = .ref q := by
  unfold rv
  split
  · exact Or.inr ⟨_, rfl⟩
  · split
    · exact Or.inl rfl
    · cases base.2 (-x).toNat with
      | none => exact Or.inl rfl
      | some a => exact Or.inr ⟨a, rfl⟩
theorem SR_a {base : Bs} {x : Int} {st : List (Nat × Int)} {vs : List Value} (hs : SR base st vs) : SR base ((2, x) :: st) (rv base x :: vs) := ⟨_, _, rfl, rfl, hs⟩

theorem V_aload {X : MX} {pc : Nat} {ls : List (Nat × Nat × Int)} {st : List (Nat × Int)} {h : Hp} {o : Option (Int × Hp)} {i : Nat} {x : Int} (hd : decode X.1 pc = .ok (.aload i, 2)) (j : Nat) (hj : ls[j]? = some (i, 2, x)) (k : V X (pc + 2) ls ((2, x) :: st) h o) : V X pc ls st h o := by
  refine V_step (fun r h' kk => ?_) k
  intro l p e s m args below meth c D cy base h0 LS ST H locs C hg hL hS hH hF
  obtain ⟨v, hx, hv⟩ := LR_at hL j hj
  have hx : v = rv base x := hx
  have hS2 := SR_a (x := x) hS
  rcases rv_cases base x with q | ⟨q, e2⟩
  · rw [hx, q] at hv
    rw [q] at hS2
    exact lv_aloadN C.1 C.2.1 hd hv (kk l p e s m args below meth c D cy base h0 LS _ H locs C hg hL hS2 hH hF)
  · rw [hx, e2] at hv
    rw [e2] at hS2
    exact lv_aload C.1 C.2.1 hd hv (kk l p e s m args below meth c D cy base h0 LS _ H locs C hg hL hS2 hH hF)

theorem V_aload_n {X : MX} {pc : Nat} {ls : List (Nat × Nat × Int)} {st : List (Nat × Int)} {h : Hp} {o : Option (Int × Hp)} {n : Fin 4} {i : Nat} {x : Int} (hd : decode X.1 pc = .ok (.aload_n n, 1)) (hi : (n : Nat) = i) (j : Nat) (hj : ls[j]? = some (i, 2, x)) (k : V X (pc + 1) ls ((2, x) :: st) h o) : V X pc ls st h o := by
  refine V_step (fun r h' kk => ?_) k
  intro l p e s m args below meth c D cy base h0 LS ST H locs C hg hL hS hH hF
  obtain ⟨v, hx, hv⟩ := LR_at hL j hj
  have hx : v = rv base x := hx
  have hS2 := SR_a (x := x) hS
  rcases rv_cases base x with q | ⟨q, e2⟩
  · rw [hx, q] at hv
    rw [q] at hS2
    exact lv_aload_nN C.1 C.2.1 hd hi hv (kk l p e s m args below meth c D cy base h0 LS _ H locs C hg hL hS2 hH hF)
  · rw [hx, e2] at hv
    rw [e2] at hS2
    exact lv_aload_n C.1 C.2.1 hd hi hv (kk l p e s m args below meth c D cy base h0 LS _ H locs C hg hL hS2 hH hF)


def ins (q : Nat × Nat × Int) : List (Nat × Nat × Int) → List (Nat × Nat × Int)
  | [] => [q]
  | a :: l => if q.1 < a.1 then q :: a :: l else a :: ins q l
theorem ins_mem {q x : Nat × Nat × Int} : ∀ {l : List (Nat × Nat × Int)}, x ∈ ins q l → x = q ∨ x ∈ l
  | [], h => by simp [ins] at h; exact Or.inl h
  | a :: l, h => by
    unfold ins at h
    split at h
    · rcases List.mem_cons.mp h with h | h
      · exact Or.inl h
      · exact Or.inr h
    · rcases List.mem_cons.mp h with h | h
      · exact Or.inr (by rw [h]; exact List.mem_cons_self)
      · rcases ins_mem h with h | h
        · exact Or.inl h
        · exact Or.inr (List.mem_cons_of_mem _ h)
def sto1 (i t : Nat) (x : Int) (ls : List (Nat × Nat × Int)) : List (Nat × Nat × Int) := ins (i, t, x) (ls.filter (fun q => !(q.1 == i) && !(q.1 + 1 == i && q.2.1 == 1)))
def sto2 (i : Nat) (x : Int) (ls : List (Nat × Nat × Int)) : List (Nat × Nat × Int) := ins (i, 1, x) (ls.filter (fun q => !(q.1 == i) && (!(q.1 == i + 1) && !(q.1 + 1 == i && q.2.1 == 1))))
theorem vr_cat {base : Bs} {t : Nat} {x : Int} {v : Value} (h : vr base t x v) : (v.category == 2) = (t == 1) := by
  match t, h with
  | 0, ⟨i, h, _⟩ => subst h; rfl
  | 1, ⟨i, h, _⟩ => subst h; rfl
  | t + 2, h =>
    have h : v = rv base x := h
    have e : (t + 2 == 1) = false := by simp
    rw [e, h]
    rcases rv_cases base x with q | ⟨q, e⟩
    · rw [q]; rfl
    · rw [e]; rfl
theorem LR_lv {base : Bs} {nL : Nat} {ls : List (Nat × Nat × Int)} {LS : Array Slot} (h : LR base nL ls LS) : ∃ lv, lv_has LS nL lv ∧ ∀ q ∈ ls, ∃ v, vr base q.2.1 q.2.2 v ∧ (q.1, v) ∈ lv := by
  obtain ⟨h1, h2, h3⟩ := h
  induction ls with
  | nil => exact ⟨[], ⟨h1, h2, fun q hq => by cases hq⟩, fun q hq => by cases hq⟩
  | cons a l ih =>
    obtain ⟨lv, ⟨e1, e2, e3⟩, hl⟩ := ih (fun q hq => h3 q (List.mem_cons_of_mem _ hq))
    obtain ⟨v, hv, hs⟩ := h3 a List.mem_cons_self
    refine ⟨(a.1, v) :: lv, ⟨e1, e2, fun q hq => ?_⟩, fun q hq => ?_⟩
    · rcases List.mem_cons.mp hq with rfl | hq
      · exact hs
      · exact e3 q hq
    · rcases List.mem_cons.mp hq with rfl | hq
      · exact ⟨v, hv, List.mem_cons_self⟩
      · obtain ⟨w, a1, a2⟩ := hl q hq
        exact ⟨w, a1, List.mem_cons_of_mem _ a2⟩
theorem LR_sto1 {base : Bs} {nL i t : Nat} {x : Int} {v : Value} {ls : List (Nat × Nat × Int)} {lv : List (Nat × Value)} {LS' : Array Slot} (hl : ∀ q ∈ ls, ∃ v, vr base q.2.1 q.2.2 v ∧ (q.1, v) ∈ lv) (hv : vr base t x v)
    (h : lv_has LS' nL ((i, v) :: lv.filter (fun q => !(q.1 == i) && !(q.1 + 1 == i && q.2.category == 2)))) : LR base nL (sto1 i t x ls) LS' := by
  refine ⟨h.1, h.2.1, fun q hq => ?_⟩
  rcases ins_mem hq with rfl | hq
  · exact ⟨v, hv, h.2.2 (i, v) List.mem_cons_self⟩
  · obtain ⟨hm, hc⟩ := List.mem_filter.mp hq
    obtain ⟨w, hw, hin⟩ := hl q hm
    refine ⟨w, hw, h.2.2 (q.1, w) (List.mem_cons_of_mem _ (List.mem_filter.mpr ⟨hin, ?_⟩))⟩
    rw [← vr_cat hw] at hc
    exact hc
theorem LR_sto2 {base : Bs} {nL i : Nat} {x : Int} {v : Value} {ls : List (Nat × Nat × Int)} {lv : List (Nat × Value)} {LS' : Array Slot} (hl : ∀ q ∈ ls, ∃ v, vr base q.2.1 q.2.2 v ∧ (q.1, v) ∈ lv) (hv : vr base 1 x v)
    (h : lv_has LS' nL ((i, v) :: lv.filter (fun q => !(q.1 == i) && (!(q.1 == i + 1) && !(q.1 + 1 == i && q.2.category == 2))))) : LR base nL (sto2 i x ls) LS' := by
  refine ⟨h.1, h.2.1, fun q hq => ?_⟩
  rcases ins_mem hq with rfl | hq
  · exact ⟨v, hv, h.2.2 (i, v) List.mem_cons_self⟩
  · obtain ⟨hm, hc⟩ := List.mem_filter.mp hq
    obtain ⟨w, hw, hin⟩ := hl q hm
    refine ⟨w, hw, h.2.2 (q.1, w) (List.mem_cons_of_mem _ (List.mem_filter.mpr ⟨hin, ?_⟩))⟩
    rw [← vr_cat hw] at hc
    exact hc

theorem V_istore {X : MX} {pc : Nat} {ls ls' : List (Nat × Nat × Int)} {st : List (Nat × Int)} {h : Hp} {o : Option (Int × Hp)} {i : Nat} {x : Int} (hd : decode X.1 pc = .ok (.istore i, 2)) (hn : i < X.2.2.2.1) (hls : sto1 i 0 x ls = ls') (k : V X (pc + 2) ls' st h o) : V X pc ls ((0, x) :: st) h o := by
  subst hls
  refine V_step (fun r h' kk => ?_) k
  intro l p e s m args below meth c D cy base h0 LS ST H locs C hg hL hS hH hF
  obtain ⟨_, _, rfl, ⟨j, rfl, he⟩, hS⟩ := hS
  obtain ⟨lv, h1, h2⟩ := LR_lv hL
  exact lv_istore C.1 C.2.1 hd h1 hn rfl (fun LS' h3 => kk l p e s m args below meth c D cy base h0 LS' _ H locs C hg (LR_sto1 h2 ⟨j, rfl, he⟩ h3) hS hH hF)

theorem V_lstore {X : MX} {pc : Nat} {ls ls' : List (Nat × Nat × Int)} {st : List (Nat × Int)} {h : Hp} {o : Option (Int × Hp)} {i : Nat} {x : Int} (hd : decode X.1 pc = .ok (.lstore i, 2)) (hn : i + 1 < X.2.2.2.1) (hls : sto2 i x ls = ls') (k : V X (pc + 2) ls' st h o) : V X pc ls ((1, x) :: st) h o := by
  subst hls
  refine V_step (fun r h' kk => ?_) k
  intro l p e s m args below meth c D cy base h0 LS ST H locs C hg hL hS hH hF
  obtain ⟨_, _, rfl, ⟨j, rfl, he⟩, hS⟩ := hS
  obtain ⟨lv, h1, h2⟩ := LR_lv hL
  exact lv_lstore C.1 C.2.1 hd h1 hn rfl (fun LS' h3 => kk l p e s m args below meth c D cy base h0 LS' _ H locs C hg (LR_sto2 h2 ⟨j, rfl, he⟩ h3) hS hH hF)

theorem V_astore {X : MX} {pc : Nat} {ls ls' : List (Nat × Nat × Int)} {st : List (Nat × Int)} {h : Hp} {o : Option (Int × Hp)} {i : Nat} {x : Int} (hd : decode X.1 pc = .ok (.astore i, 2)) (hn : i < X.2.2.2.1) (hls : sto1 i 2 x ls = ls') (k : V X (pc + 2) ls' st h o) : V X pc ls ((2, x) :: st) h o := by
  subst hls
  refine V_step (fun r h' kk => ?_) k
  intro l p e s m args below meth c D cy base h0 LS ST H locs C hg hL hS hH hF
  obtain ⟨_, _, rfl, he, hS⟩ := hS
  obtain ⟨lv, h1, h2⟩ := LR_lv hL
  have he : _ = rv base x := he
  rcases rv_cases base x with q | ⟨q, e'⟩
  · rw [q] at he
    subst he
    exact lv_astoreN C.1 C.2.1 hd h1 hn rfl (fun LS' h3 => kk l p e s m args below meth c D cy base h0 LS' _ H locs C hg (LR_sto1 h2 q.symm h3) hS hH hF)
  · rw [e'] at he
    subst he
    exact lv_astore C.1 C.2.1 hd h1 hn rfl (fun LS' h3 => kk l p e s m args below meth c D cy base h0 LS' _ H locs C hg (LR_sto1 h2 e'.symm h3) hS hH hF)

theorem V_istore_n {X : MX} {pc : Nat} {ls ls' : List (Nat × Nat × Int)} {st : List (Nat × Int)} {h : Hp} {o : Option (Int × Hp)} {n : Fin 4} {i : Nat} {x : Int} (hd : decode X.1 pc = .ok (.istore_n n, 1)) (hi : (n : Nat) = i) (hn : i < X.2.2.2.1) (hls : sto1 i 0 x ls = ls') (k : V X (pc + 1) ls' st h o) : V X pc ls ((0, x) :: st) h o := by
  subst hls
  refine V_step (fun r h' kk => ?_) k
  intro l p e s m args below meth c D cy base h0 LS ST H locs C hg hL hS hH hF
  obtain ⟨_, _, rfl, ⟨j, rfl, he⟩, hS⟩ := hS
  obtain ⟨lv, h1, h2⟩ := LR_lv hL
  exact lv_istore_n C.1 C.2.1 hd hi h1 hn rfl (fun LS' h3 => kk l p e s m args below meth c D cy base h0 LS' _ H locs C hg (LR_sto1 h2 ⟨j, rfl, he⟩ h3) hS hH hF)

theorem V_lstore_n {X : MX} {pc : Nat} {ls ls' : List (Nat × Nat × Int)} {st : List (Nat × Int)} {h : Hp} {o : Option (Int × Hp)} {n : Fin 4} {i : Nat} {x : Int} (hd : decode X.1 pc = .ok (.lstore_n n, 1)) (hi : (n : Nat) = i) (hn : i + 1 < X.2.2.2.1) (hls : sto2 i x ls = ls') (k : V X (pc + 1) ls' st h o) : V X pc ls ((1, x) :: st) h o := by
  subst hls
  refine V_step (fun r h' kk => ?_) k
  intro l p e s m args below meth c D cy base h0 LS ST H locs C hg hL hS hH hF
  obtain ⟨_, _, rfl, ⟨j, rfl, he⟩, hS⟩ := hS
  obtain ⟨lv, h1, h2⟩ := LR_lv hL
  exact lv_lstore_n C.1 C.2.1 hd hi h1 hn rfl (fun LS' h3 => kk l p e s m args below meth c D cy base h0 LS' _ H locs C hg (LR_sto2 h2 ⟨j, rfl, he⟩ h3) hS hH hF)

theorem V_astore_n {X : MX} {pc : Nat} {ls ls' : List (Nat × Nat × Int)} {st : List (Nat × Int)} {h : Hp} {o : Option (Int × Hp)} {n : Fin 4} {i : Nat} {x : Int} (hd : decode X.1 pc = .ok (.astore_n n, 1)) (hi : (n : Nat) = i) (hn : i < X.2.2.2.1) (hls : sto1 i 2 x ls = ls') (k : V X (pc + 1) ls' st h o) : V X pc ls ((2, x) :: st) h o := by
  subst hls
  refine V_step (fun r h' kk => ?_) k
  intro l p e s m args below meth c D cy base h0 LS ST H locs C hg hL hS hH hF
  obtain ⟨_, _, rfl, he, hS⟩ := hS
  obtain ⟨lv, h1, h2⟩ := LR_lv hL
  have he : _ = rv base x := he
  rcases rv_cases base x with q | ⟨q, e'⟩
  · rw [q] at he
    subst he
    exact lv_astore_nN C.1 C.2.1 hd hi h1 hn rfl (fun LS' h3 => kk l p e s m args below meth c D cy base h0 LS' _ H locs C hg (LR_sto1 h2 q.symm h3) hS hH hF)
  · rw [e'] at he
    subst he
    exact lv_astore_n C.1 C.2.1 hd hi h1 hn rfl (fun LS' h3 => kk l p e s m args below meth c D cy base h0 LS' _ H locs C hg (LR_sto1 h2 e'.symm h3) hS hH hF)

theorem V_iinc {X : MX} {pc : Nat} {ls ls' : List (Nat × Nat × Int)} {st : List (Nat × Int)} {h : Hp} {o : Option (Int × Hp)} {i : Nat} {x n : Int} (hd : decode X.1 pc = .ok (.iinc i n, 3)) (hn : i < X.2.2.2.1) (hv : -2147483648 ≤ n ∧ n < 2147483648) (j : Nat) (hj : ls[j]? = some (i, 0, x)) (hls : sto1 i 0 (w32 (x + n)) ls = ls') (k : V X (pc + 3) ls' st h o) : V X pc ls st h o := by
  subst hls
  refine V_step (fun r h' kk => ?_) k
  intro l p e s m args below meth c D cy base h0 LS ST H locs C hg hL hS hH hF
  obtain ⟨lv, h1, h2⟩ := LR_lv hL
  obtain ⟨_, ⟨y, rfl, he⟩, hm⟩ := h2 _ (List.mem_of_getElem? hj)
  obtain ⟨z, hz⟩ := List.getElem?_of_mem hm
  exact lv_iinc C.1 C.2.1 hd h1 hz rfl hn rfl (fun LS' h3 => kk l p e s m args below meth c D cy base h0 LS' _ H locs C hg (LR_sto1 h2 ⟨_, rfl, by rw [Int32.toInt_add, Int32.toInt_ofInt_of_le hv.1 hv.2, he]; rfl⟩ h3) hS hH hF)

theorem V_pick {X : MX} {pc : Nat} {ls ls' : List (Nat × Nat × Int)} {st : List (Nat × Int)} {h : Hp} {o : Option (Int × Hp)} (ks : List Nat) (hk : ks.filterMap (fun i => ls[i]?) = ls') (k : V X pc ls' st h o) : V X pc ls st h o := by
  subst hk
  refine V_step (fun r h' kk => ?_) k
  intro l p e s m args below meth c D cy base h0 LS ST H locs C hg hL hS hH hF
  refine kk l p e s m args below meth c D cy base h0 LS _ H locs C hg ⟨hL.1, hL.2.1, fun q hq => ?_⟩ hS hH hF
  obtain ⟨i, -, hi⟩ := List.mem_filterMap.mp hq
  exact hL.2.2 q (List.mem_of_getElem? hi)

theorem r_z : (0 : Int32).toInt = 0 := rfl
theorem r_lt {i j : Int32} (h : i.toInt < j.toInt) : i < j := Int32.lt_iff_toInt_lt.mpr h
theorem r_lt' {i j : Int32} (h : i < j) : i.toInt < j.toInt := Int32.lt_iff_toInt_lt.mp h
theorem r_nle {i j : Int32} (h : i.toInt < j.toInt) : ¬ j ≤ i := fun q => by have := Int32.le_iff_toInt_le.mp q; omega
theorem r_nle' {i j : Int32} (h : ¬ j ≤ i) : i.toInt < j.toInt := by
  rcases Int.lt_or_le i.toInt j.toInt with q | q
  · exact q
  · exact absurd (Int32.le_iff_toInt_le.mpr q) h

theorem V_icmp_eq {X : MX} {pc : Nat} {ls : List (Nat × Nat × Int)} {st : List (Nat × Int)} {h : Hp} {o1 o2 : Option (Int × Hp)} {x y : Int} {off : Int} {tgt : Nat} (hd : decode X.1 pc = .ok (.if_icmp .eq off, 3)) (ht : (pc : Int) + off = (tgt : Int)) (kt : x = y → V X tgt ls st h o1) (kf : ¬ x = y → V X (pc + 3) ls st h o2) : V X pc ls ((0, y) :: (0, x) :: st) h (if x = y then o1 else o2) := by
  by_cases cnd : x = y
  · rw [if_pos cnd]
    have k := kt cnd
    refine V_step (fun r h' kk => ?_) k
    intro l p e s m args below meth c D cy base h0 LS ST H locs C hg hL hS hH hF
    obtain ⟨_, _, rfl, ⟨j, rfl, rfl⟩, _, _, rfl, ⟨i, rfl, rfl⟩, hS⟩ := hS
    have K := kk l p e s m args below meth c D cy base h0 LS _ H locs C hg hL hS hH hF
    exact lv_icmp_eq C.1 C.2.1 hd ht (fun _ => K) (fun q => absurd (Int32.toInt_inj.mp cnd) q)
  · rw [if_neg cnd]
    have k := kf cnd
    refine V_step (fun r h' kk => ?_) k
    intro l p e s m args below meth c D cy base h0 LS ST H locs C hg hL hS hH hF
    obtain ⟨_, _, rfl, ⟨j, rfl, rfl⟩, _, _, rfl, ⟨i, rfl, rfl⟩, hS⟩ := hS
    have K := kk l p e s m args below meth c D cy base h0 LS _ H locs C hg hL hS hH hF
    exact lv_icmp_eq C.1 C.2.1 hd ht (fun q => absurd (Int32.toInt_inj.mpr q) cnd) (fun _ => K)

theorem V_icmp_ne {X : MX} {pc : Nat} {ls : List (Nat × Nat × Int)} {st : List (Nat × Int)} {h : Hp} {o1 o2 : Option (Int × Hp)} {x y : Int} {off : Int} {tgt : Nat} (hd : decode X.1 pc = .ok (.if_icmp .ne off, 3)) (ht : (pc : Int) + off = (tgt : Int)) (kt : x = y → V X (pc + 3) ls st h o1) (kf : ¬ x = y → V X tgt ls st h o2) : V X pc ls ((0, y) :: (0, x) :: st) h (if x = y then o1 else o2) := by
  by_cases cnd : x = y
  · rw [if_pos cnd]
    have k := kt cnd
    refine V_step (fun r h' kk => ?_) k
    intro l p e s m args below meth c D cy base h0 LS ST H locs C hg hL hS hH hF
    obtain ⟨_, _, rfl, ⟨j, rfl, rfl⟩, _, _, rfl, ⟨i, rfl, rfl⟩, hS⟩ := hS
    have K := kk l p e s m args below meth c D cy base h0 LS _ H locs C hg hL hS hH hF
    exact lv_icmp_ne C.1 C.2.1 hd ht (fun q => absurd (Int32.toInt_inj.mp cnd) q) (fun _ => K)
  · rw [if_neg cnd]
    have k := kf cnd
    refine V_step (fun r h' kk => ?_) k
    intro l p e s m args below meth c D cy base h0 LS ST H locs C hg hL hS hH hF
    obtain ⟨_, _, rfl, ⟨j, rfl, rfl⟩, _, _, rfl, ⟨i, rfl, rfl⟩, hS⟩ := hS
    have K := kk l p e s m args below meth c D cy base h0 LS _ H locs C hg hL hS hH hF
    exact lv_icmp_ne C.1 C.2.1 hd ht (fun _ => K) (fun q => absurd (Int32.toInt_inj.mpr q) cnd)

theorem V_icmp_lt {X : MX} {pc : Nat} {ls : List (Nat × Nat × Int)} {st : List (Nat × Int)} {h : Hp} {o1 o2 : Option (Int × Hp)} {x y : Int} {off : Int} {tgt : Nat} (hd : decode X.1 pc = .ok (.if_icmp .lt off, 3)) (ht : (pc : Int) + off = (tgt : Int)) (kt : x < y → V X tgt ls st h o1) (kf : ¬ x < y → V X (pc + 3) ls st h o2) : V X pc ls ((0, y) :: (0, x) :: st) h (if x < y then o1 else o2) := by
  by_cases cnd : x < y
  · rw [if_pos cnd]
    have k := kt cnd
    refine V_step (fun r h' kk => ?_) k
    intro l p e s m args below meth c D cy base h0 LS ST H locs C hg hL hS hH hF
    obtain ⟨_, _, rfl, ⟨j, rfl, rfl⟩, _, _, rfl, ⟨i, rfl, rfl⟩, hS⟩ := hS
    have K := kk l p e s m args below meth c D cy base h0 LS _ H locs C hg hL hS hH hF
    exact lv_icmp_lt C.1 C.2.1 hd ht (fun _ => K) (fun q => absurd (r_lt cnd) q)
  · rw [if_neg cnd]
    have k := kf cnd
    refine V_step (fun r h' kk => ?_) k
    intro l p e s m args below meth c D cy base h0 LS ST H locs C hg hL hS hH hF
    obtain ⟨_, _, rfl, ⟨j, rfl, rfl⟩, _, _, rfl, ⟨i, rfl, rfl⟩, hS⟩ := hS
    have K := kk l p e s m args below meth c D cy base h0 LS _ H locs C hg hL hS hH hF
    exact lv_icmp_lt C.1 C.2.1 hd ht (fun q => absurd (r_lt' q) cnd) (fun _ => K)

theorem V_icmp_gt {X : MX} {pc : Nat} {ls : List (Nat × Nat × Int)} {st : List (Nat × Int)} {h : Hp} {o1 o2 : Option (Int × Hp)} {x y : Int} {off : Int} {tgt : Nat} (hd : decode X.1 pc = .ok (.if_icmp .gt off, 3)) (ht : (pc : Int) + off = (tgt : Int)) (kt : y < x → V X tgt ls st h o1) (kf : ¬ y < x → V X (pc + 3) ls st h o2) : V X pc ls ((0, y) :: (0, x) :: st) h (if y < x then o1 else o2) := by
  by_cases cnd : y < x
  · rw [if_pos cnd]
    have k := kt cnd
    refine V_step (fun r h' kk => ?_) k
    intro l p e s m args below meth c D cy base h0 LS ST H locs C hg hL hS hH hF
    obtain ⟨_, _, rfl, ⟨j, rfl, rfl⟩, _, _, rfl, ⟨i, rfl, rfl⟩, hS⟩ := hS
    have K := kk l p e s m args below meth c D cy base h0 LS _ H locs C hg hL hS hH hF
    exact lv_icmp_gt C.1 C.2.1 hd ht (fun _ => K) (fun q => absurd (r_lt cnd) q)
  · rw [if_neg cnd]
    have k := kf cnd
    refine V_step (fun r h' kk => ?_) k
    intro l p e s m args below meth c D cy base h0 LS ST H locs C hg hL hS hH hF
    obtain ⟨_, _, rfl, ⟨j, rfl, rfl⟩, _, _, rfl, ⟨i, rfl, rfl⟩, hS⟩ := hS
    have K := kk l p e s m args below meth c D cy base h0 LS _ H locs C hg hL hS hH hF
    exact lv_icmp_gt C.1 C.2.1 hd ht (fun q => absurd (r_lt' q) cnd) (fun _ => K)

theorem V_if_eq {X : MX} {pc : Nat} {ls : List (Nat × Nat × Int)} {st : List (Nat × Int)} {h : Hp} {o1 o2 : Option (Int × Hp)} {x : Int} {off : Int} {tgt : Nat} (hd : decode X.1 pc = .ok (.ifCond .eq off, 3)) (ht : (pc : Int) + off = (tgt : Int)) (kt : x = 0 → V X tgt ls st h o1) (kf : ¬ x = 0 → V X (pc + 3) ls st h o2) : V X pc ls ((0, x) :: st) h (if x = 0 then o1 else o2) := by
  by_cases cnd : x = 0
  · rw [if_pos cnd]
    have k := kt cnd
    refine V_step (fun r h' kk => ?_) k
    intro l p e s m args below meth c D cy base h0 LS ST H locs C hg hL hS hH hF
    obtain ⟨_, _, rfl, ⟨i, rfl, rfl⟩, hS⟩ := hS
    have K := kk l p e s m args below meth c D cy base h0 LS _ H locs C hg hL hS hH hF
    exact lv_if_eq C.1 C.2.1 hd ht (fun _ => K) (fun q => absurd (r_eq0.mpr cnd) q)
  · rw [if_neg cnd]
    have k := kf cnd
    refine V_step (fun r h' kk => ?_) k
    intro l p e s m args below meth c D cy base h0 LS ST H locs C hg hL hS hH hF
    obtain ⟨_, _, rfl, ⟨i, rfl, rfl⟩, hS⟩ := hS
    have K := kk l p e s m args below meth c D cy base h0 LS _ H locs C hg hL hS hH hF
    exact lv_if_eq C.1 C.2.1 hd ht (fun q => absurd (r_eq0.mp q) cnd) (fun _ => K)

theorem V_if_ne {X : MX} {pc : Nat} {ls : List (Nat × Nat × Int)} {st : List (Nat × Int)} {h : Hp} {o1 o2 : Option (Int × Hp)} {x : Int} {off : Int} {tgt : Nat} (hd : decode X.1 pc = .ok (.ifCond .ne off, 3)) (ht : (pc : Int) + off = (tgt : Int)) (kt : x = 0 → V X (pc + 3) ls st h o1) (kf : ¬ x = 0 → V X tgt ls st h o2) : V X pc ls ((0, x) :: st) h (if x = 0 then o1 else o2) := by
  by_cases cnd : x = 0
  · rw [if_pos cnd]
    have k := kt cnd
    refine V_step (fun r h' kk => ?_) k
    intro l p e s m args below meth c D cy base h0 LS ST H locs C hg hL hS hH hF
    obtain ⟨_, _, rfl, ⟨i, rfl, rfl⟩, hS⟩ := hS
    have K := kk l p e s m args below meth c D cy base h0 LS _ H locs C hg hL hS hH hF
    exact lv_if_ne C.1 C.2.1 hd ht (fun q => absurd (r_eq0.mpr cnd) q) (fun _ => K)
  · rw [if_neg cnd]
    have k := kf cnd
    refine V_step (fun r h' kk => ?_) k
    intro l p e s m args below meth c D cy base h0 LS ST H locs C hg hL hS hH hF
    obtain ⟨_, _, rfl, ⟨i, rfl, rfl⟩, hS⟩ := hS
    have K := kk l p e s m args below meth c D cy base h0 LS _ H locs C hg hL hS hH hF
    exact lv_if_ne C.1 C.2.1 hd ht (fun _ => K) (fun q => absurd (r_eq0.mp q) cnd)

theorem V_if_lt {X : MX} {pc : Nat} {ls : List (Nat × Nat × Int)} {st : List (Nat × Int)} {h : Hp} {o1 o2 : Option (Int × Hp)} {x : Int} {off : Int} {tgt : Nat} (hd : decode X.1 pc = .ok (.ifCond .lt off, 3)) (ht : (pc : Int) + off = (tgt : Int)) (kt : x < 0 → V X tgt ls st h o1) (kf : ¬ x < 0 → V X (pc + 3) ls st h o2) : V X pc ls ((0, x) :: st) h (if x < 0 then o1 else o2) := by
  by_cases cnd : x < 0
  · rw [if_pos cnd]
    have k := kt cnd
    refine V_step (fun r h' kk => ?_) k
    intro l p e s m args below meth c D cy base h0 LS ST H locs C hg hL hS hH hF
    obtain ⟨_, _, rfl, ⟨i, rfl, rfl⟩, hS⟩ := hS
    have K := kk l p e s m args below meth c D cy base h0 LS _ H locs C hg hL hS hH hF
    exact lv_if_lt C.1 C.2.1 hd ht (fun _ => K) (fun q => absurd (r_lt (j := 0) cnd) q)
  · rw [if_neg cnd]
    have k := kf cnd
    refine V_step (fun r h' kk => ?_) k
    intro l p e s m args below meth c D cy base h0 LS ST H locs C hg hL hS hH hF
    obtain ⟨_, _, rfl, ⟨i, rfl, rfl⟩, hS⟩ := hS
    have K := kk l p e s m args below meth c D cy base h0 LS _ H locs C hg hL hS hH hF
    exact lv_if_lt C.1 C.2.1 hd ht (fun q => absurd (r_lt' (j := 0) q) cnd) (fun _ => K)

theorem V_if_gt {X : MX} {pc : Nat} {ls : List (Nat × Nat × Int)} {st : List (Nat × Int)} {h : Hp} {o1 o2 : Option (Int × Hp)} {x : Int} {off : Int} {tgt : Nat} (hd : decode X.1 pc = .ok (.ifCond .gt off, 3)) (ht : (pc : Int) + off = (tgt : Int)) (kt : 0 < x → V X tgt ls st h o1) (kf : ¬ 0 < x → V X (pc + 3) ls st h o2) : V X pc ls ((0, x) :: st) h (if 0 < x then o1 else o2) := by
  by_cases cnd : 0 < x
  · rw [if_pos cnd]
    have k := kt cnd
    refine V_step (fun r h' kk => ?_) k
    intro l p e s m args below meth c D cy base h0 LS ST H locs C hg hL hS hH hF
    obtain ⟨_, _, rfl, ⟨i, rfl, rfl⟩, hS⟩ := hS
    have K := kk l p e s m args below meth c D cy base h0 LS _ H locs C hg hL hS hH hF
    exact lv_if_gt C.1 C.2.1 hd ht (fun _ => K) (fun q => absurd (r_lt (i := 0) cnd) q)
  · rw [if_neg cnd]
    have k := kf cnd
    refine V_step (fun r h' kk => ?_) k
    intro l p e s m args below meth c D cy base h0 LS ST H locs C hg hL hS hH hF
    obtain ⟨_, _, rfl, ⟨i, rfl, rfl⟩, hS⟩ := hS
    have K := kk l p e s m args below meth c D cy base h0 LS _ H locs C hg hL hS hH hF
    exact lv_if_gt C.1 C.2.1 hd ht (fun q => absurd (r_lt' (i := 0) q) cnd) (fun _ => K)

theorem V_icmp_ge {X : MX} {pc : Nat} {ls : List (Nat × Nat × Int)} {st : List (Nat × Int)} {h : Hp} {o1 o2 : Option (Int × Hp)} {x y : Int} {off : Int} {tgt : Nat} (hd : decode X.1 pc = .ok (.if_icmp .ge off, 3)) (ht : (pc : Int) + off = (tgt : Int)) (kt : x < y → V X (pc + 3) ls st h o1) (kf : ¬ x < y → V X tgt ls st h o2) : V X pc ls ((0, y) :: (0, x) :: st) h (if x < y then o1 else o2) := by
  by_cases cnd : x < y
  · rw [if_pos cnd]
    have k := kt cnd
    refine V_step (fun r h' kk => ?_) k
    intro l p e s m args below meth c D cy base h0 LS ST H locs C hg hL hS hH hF
    obtain ⟨_, _, rfl, ⟨j, rfl, rfl⟩, _, _, rfl, ⟨i, rfl, rfl⟩, hS⟩ := hS
    have K := kk l p e s m args below meth c D cy base h0 LS _ H locs C hg hL hS hH hF
    exact lv_icmp_ge C.1 C.2.1 hd ht (fun q => absurd q (r_nle cnd)) (fun _ => K)
  · rw [if_neg cnd]
    have k := kf cnd
    refine V_step (fun r h' kk => ?_) k
    intro l p e s m args below meth c D cy base h0 LS ST H locs C hg hL hS hH hF
    obtain ⟨_, _, rfl, ⟨j, rfl, rfl⟩, _, _, rfl, ⟨i, rfl, rfl⟩, hS⟩ := hS
    have K := kk l p e s m args below meth c D cy base h0 LS _ H locs C hg hL hS hH hF
    exact lv_icmp_ge C.1 C.2.1 hd ht (fun _ => K) (fun q => absurd (r_nle' q) cnd)

theorem V_icmp_le {X : MX} {pc : Nat} {ls : List (Nat × Nat × Int)} {st : List (Nat × Int)} {h : Hp} {o1 o2 : Option (Int × Hp)} {x y : Int} {off : Int} {tgt : Nat} (hd : decode X.1 pc = .ok (.if_icmp .le off, 3)) (ht : (pc : Int) + off = (tgt : Int)) (kt : y < x → V X (pc + 3) ls st h o1) (kf : ¬ y < x → V X tgt ls st h o2) : V X pc ls ((0, y) :: (0, x) :: st) h (if y < x then o1 else o2) := by
  by_cases cnd : y < x
  · rw [if_pos cnd]
    have k := kt cnd
    refine V_step (fun r h' kk => ?_) k
    intro l p e s m args below meth c D cy base h0 LS ST H locs C hg hL hS hH hF
    obtain ⟨_, _, rfl, ⟨j, rfl, rfl⟩, _, _, rfl, ⟨i, rfl, rfl⟩, hS⟩ := hS
    have K := kk l p e s m args below meth c D cy base h0 LS _ H locs C hg hL hS hH hF
    exact lv_icmp_le C.1 C.2.1 hd ht (fun q => absurd q (r_nle cnd)) (fun _ => K)
  · rw [if_neg cnd]
    have k := kf cnd
    refine V_step (fun r h' kk => ?_) k
    intro l p e s m args below meth c D cy base h0 LS ST H locs C hg hL hS hH hF
    obtain ⟨_, _, rfl, ⟨j, rfl, rfl⟩, _, _, rfl, ⟨i, rfl, rfl⟩, hS⟩ := hS
    have K := kk l p e s m args below meth c D cy base h0 LS _ H locs C hg hL hS hH hF
    exact lv_icmp_le C.1 C.2.1 hd ht (fun _ => K) (fun q => absurd (r_nle' q) cnd)

theorem V_if_ge {X : MX} {pc : Nat} {ls : List (Nat × Nat × Int)} {st : List (Nat × Int)} {h : Hp} {o1 o2 : Option (Int × Hp)} {x : Int} {off : Int} {tgt : Nat} (hd : decode X.1 pc = .ok (.ifCond .ge off, 3)) (ht : (pc : Int) + off = (tgt : Int)) (kt : x < 0 → V X (pc + 3) ls st h o1) (kf : ¬ x < 0 → V X tgt ls st h o2) : V X pc ls ((0, x) :: st) h (if x < 0 then o1 else o2) := by
  by_cases cnd : x < 0
  · rw [if_pos cnd]
    have k := kt cnd
    refine V_step (fun r h' kk => ?_) k
    intro l p e s m args below meth c D cy base h0 LS ST H locs C hg hL hS hH hF
    obtain ⟨_, _, rfl, ⟨i, rfl, rfl⟩, hS⟩ := hS
    have K := kk l p e s m args below meth c D cy base h0 LS _ H locs C hg hL hS hH hF
    exact lv_if_ge C.1 C.2.1 hd ht (fun q => absurd q (r_nle (j := 0) cnd)) (fun _ => K)
  · rw [if_neg cnd]
    have k := kf cnd
    refine V_step (fun r h' kk => ?_) k
    intro l p e s m args below meth c D cy base h0 LS ST H locs C hg hL hS hH hF
    obtain ⟨_, _, rfl, ⟨i, rfl, rfl⟩, hS⟩ := hS
    have K := kk l p e s m args below meth c D cy base h0 LS _ H locs C hg hL hS hH hF
    exact lv_if_ge C.1 C.2.1 hd ht (fun _ => K) (fun q => absurd (r_nle' (j := 0) q) cnd)

theorem V_if_le {X : MX} {pc : Nat} {ls : List (Nat × Nat × Int)} {st : List (Nat × Int)} {h : Hp} {o1 o2 : Option (Int × Hp)} {x : Int} {off : Int} {tgt : Nat} (hd : decode X.1 pc = .ok (.ifCond .le off, 3)) (ht : (pc : Int) + off = (tgt : Int)) (kt : 0 < x → V X (pc + 3) ls st h o1) (kf : ¬ 0 < x → V X tgt ls st h o2) : V X pc ls ((0, x) :: st) h (if 0 < x then o1 else o2) := by
  by_cases cnd : 0 < x
  · rw [if_pos cnd]
    have k := kt cnd
    refine V_step (fun r h' kk => ?_) k
    intro l p e s m args below meth c D cy base h0 LS ST H locs C hg hL hS hH hF
    obtain ⟨_, _, rfl, ⟨i, rfl, rfl⟩, hS⟩ := hS
    have K := kk l p e s m args below meth c D cy base h0 LS _ H locs C hg hL hS hH hF
    exact lv_if_le C.1 C.2.1 hd ht (fun q => absurd q (r_nle (i := 0) cnd)) (fun _ => K)
  · rw [if_neg cnd]
    have k := kf cnd
    refine V_step (fun r h' kk => ?_) k
    intro l p e s m args below meth c D cy base h0 LS ST H locs C hg hL hS hH hF
    obtain ⟨_, _, rfl, ⟨i, rfl, rfl⟩, hS⟩ := hS
    have K := kk l p e s m args below meth c D cy base h0 LS _ H locs C hg hL hS hH hF
    exact lv_if_le C.1 C.2.1 hd ht (fun _ => K) (fun q => absurd (r_nle' (i := 0) q) cnd)

theorem V_goto {X : MX} {pc : Nat} {ls : List (Nat × Nat × Int)} {st : List (Nat × Int)} {h : Hp} {o : Option (Int × Hp)} {off : Int} {tgt : Nat} (hd : decode X.1 pc = .ok (.goto off, 3)) (ht : (pc : Int) + off = (tgt : Int)) (k : V X tgt ls st h o) : V X pc ls st h o := by
  refine V_step (fun r h' kk => ?_) k
  intro l p e s m args below meth c D cy base h0 LS ST H locs C hg hL hS hH hF
  exact lv_goto C.1 C.2.1 hd ht (kk l p e s m args below meth c D cy base h0 LS _ H locs C hg hL hS hH hF)

def tsw {α : Type} (x lo : Int) (n : Nat) (f : Nat → α) (d : α) : α := if x < lo then d else if lo + n ≤ x then d else f (x - lo).toNat

theorem V_table {X : MX} {pc : Nat} {ls : List (Nat × Nat × Int)} {st : List (Nat × Int)} {h : Hp} {f : Nat → Option (Int × Hp)} {od : Option (Int × Hp)} {x lo hi dflt : Int} {n len : Nat} {offs : Array Int} {tgt : Nat} (hd : decode X.1 pc = .ok (.tableswitch dflt lo hi offs, len)) (hhi : hi + 1 = lo + n) (ht : (pc : Int) + dflt = (tgt : Int)) (kd : V X tgt ls st h od) (kc : ∀ i : Nat, i < n → x = lo + i → ∃ off tg, offs[i]? = some off ∧ (pc : Int) + off = ((tg : Nat) : Int) ∧ V X tg ls st h (f i)) : V X pc ls ((0, x) :: st) h (tsw x lo n f od) := by
  unfold tsw
  by_cases c1 : x < lo
  · rw [if_pos c1]
    have k := kd
    refine V_step (fun r h' kk => ?_) k
    intro l p e s m args below meth c D cy base h0 LS ST H locs C hg hL hS hH hF
    obtain ⟨_, _, rfl, ⟨i, rfl, rfl⟩, hS⟩ := hS
    exact lv_tableOut C.1 C.2.1 hd (Or.inl c1) ht (kk l p e s m args below meth c D cy base h0 LS _ H locs C hg hL hS hH hF)
  · rw [if_neg c1]
    by_cases c2 : lo + n ≤ x
    · rw [if_pos c2]
      have k := kd
      refine V_step (fun r h' kk => ?_) k
      intro l p e s m args below meth c D cy base h0 LS ST H locs C hg hL hS hH hF
      obtain ⟨_, _, rfl, ⟨i, rfl, rfl⟩, hS⟩ := hS
      exact lv_tableOut C.1 C.2.1 hd (Or.inr (by omega)) ht (kk l p e s m args below meth c D cy base h0 LS _ H locs C hg hL hS hH hF)
    · rw [if_neg c2]
      obtain ⟨off, tg, g1, g2, k⟩ := kc (x - lo).toNat (by omega) (by omega)
      refine V_step (fun r h' kk => ?_) k
      intro l p e s m args below meth c D cy base h0 LS ST H locs C hg hL hS hH hF
      obtain ⟨_, _, rfl, ⟨i, rfl, rfl⟩, hS⟩ := hS
      exact lv_tableIn C.1 C.2.1 hd c1 (by omega) g1 g2 (kk l p e s m args below meth c D cy base h0 LS _ H locs C hg hL hS hH hF)

theorem V_pop {X : MX} {pc : Nat} {ls : List (Nat × Nat × Int)} {st : List (Nat × Int)} {h : Hp} {o : Option (Int × Hp)} {t : Nat} {x : Int} (hd : decode X.1 pc = .ok (.pop, 1)) (ht : (t == 1) = false) (k : V X (pc + 1) ls st h o) : V X pc ls ((t, x) :: st) h o := by
  refine V_step (fun r h' kk => ?_) k
  intro l p e s m args below meth c D cy base h0 LS ST H locs C hg hL hS hH hF
  obtain ⟨v, _, rfl, hv, hS⟩ := hS
  have hc : v.category = 1 := by have := vr_cat hv; rcases lv_cat v with q | q; exact q; rw [q] at this; rw [ht] at this; cases this
  exact lv_pop C.1 C.2.1 hd hc (kk l p e s m args below meth c D cy base h0 LS _ H locs C hg hL hS hH hF)

theorem V_dup {X : MX} {pc : Nat} {ls : List (Nat × Nat × Int)} {st : List (Nat × Int)} {h : Hp} {o : Option (Int × Hp)} {t : Nat} {x : Int} (hd : decode X.1 pc = .ok (.dup, 1)) (ht : (t == 1) = false) (k : V X (pc + 1) ls ((t, x) :: (t, x) :: st) h o) : V X pc ls ((t, x) :: st) h o := by
  refine V_step (fun r h' kk => ?_) k
  intro l p e s m args below meth c D cy base h0 LS ST H locs C hg hL hS hH hF
  obtain ⟨v, _, rfl, hv, hS⟩ := hS
  have hc : v.category = 1 := by have := vr_cat hv; rcases lv_cat v with q | q; exact q; rw [q] at this; rw [ht] at this; cases this
  exact lv_dup C.1 C.2.1 hd hc (kk l p e s m args below meth c D cy base h0 LS _ H locs C hg hL ⟨v, _, rfl, hv, v, _, rfl, hv, hS⟩ hH hF)

theorem V_dup2 {X : MX} {pc : Nat} {ls : List (Nat × Nat × Int)} {st : List (Nat × Int)} {h : Hp} {o : Option (Int × Hp)} {t u : Nat} {x y : Int} (hd : decode X.1 pc = .ok (.dup2, 1)) (ht : (t == 1) = false) (hu : (u == 1) = false) (k : V X (pc + 1) ls ((t, x) :: (u, y) :: (t, x) :: (u, y) :: st) h o) : V X pc ls ((t, x) :: (u, y) :: st) h o := by
  refine V_step (fun r h' kk => ?_) k
  intro l p e s m args below meth c D cy base h0 LS ST H locs C hg hL hS hH hF
  obtain ⟨v, _, rfl, hv, w, _, rfl, hw, hS⟩ := hS
  have hc : v.category = 1 := by have := vr_cat hv; rcases lv_cat v with q | q; exact q; rw [q] at this; rw [ht] at this; cases this
  have hc2 : w.category = 1 := by have := vr_cat hw; rcases lv_cat w with q | q; exact q; rw [q] at this; rw [hu] at this; cases this
  exact lv_dup2_11 C.1 C.2.1 hd hc hc2 (kk l p e s m args below meth c D cy base h0 LS _ H locs C hg hL ⟨v, _, rfl, hv, w, _, rfl, hw, v, _, rfl, hv, w, _, rfl, hw, hS⟩ hH hF)
