
/-- bits and shifts, by Int32 -/
def iand (x y : Int) : Int := (Int32.ofInt x &&& Int32.ofInt y).toInt
def ior (x y : Int) : Int := (Int32.ofInt x ||| Int32.ofInt y).toInt
def ixor (x y : Int) : Int := (Int32.ofInt x ^^^ Int32.ofInt y).toInt
def ishl (x y : Int) : Int := (Int32.ofInt x <<< (Int32.ofInt y &&& 31)).toInt
def ishr (x y : Int) : Int := (Int32.ofInt x >>> (Int32.ofInt y &&& 31)).toInt
def iushr (x y : Int) : Int := ((Int32.ofInt x).toUInt32 >>> ((Int32.ofInt y).toUInt32 &&& Int32.toUInt32 31)).toInt32.toInt
def i2b (x : Int) : Int := (Int32.ofInt x).toInt8.toInt32.toInt
def i2c (x : Int) : Int := ((Int32.ofInt x).toUInt32 % 65536).toInt32.toInt
def lcmp (x y : Int) : Int := if y < x then 1 else if x = y then 0 else -1
def irem (x y : Int) : Int := w32 (x - w32 (w32 (x.tdiv y) * y))
def imax (x y : Int) : Int := if x < y then y else x
def imin (x y : Int) : Int := if y < x then y else x
def iabs (x : Int) : Int := if 0 ≤ x then x else w32 (-x)
def dv (x y : Int) (f : Int → Option (Int × Hp)) : Option (Int × Hp) := if y = 0 then none else f (w32 (x.tdiv y))
def dm (x y : Int) (f : Int → Option (Int × Hp)) : Option (Int × Hp) := if y = 0 then none else f (irem x y)
theorem r_ofi {i : Int32} {x : Int} (h : i.toInt = x) : Int32.ofInt x = i := by rw [← h]; exact Int32.ofInt_toInt i
theorem r_ne0 {i : Int32} (h : ¬ i.toInt = 0) : ¬ i = 0 := fun e => h (by rw [e]; rfl)
theorem r_eq0 {i : Int32} : i = 0 ↔ i.toInt = 0 := ⟨fun e => by rw [e]; rfl, fun e => Int32.toInt_inj.mp (by rw [e]; rfl)⟩

theorem V_isub {X : MX} {pc : Nat} {ls : List (Nat × Nat × Int)} {st : List (Nat × Int)} {h : Hp} {o : Option (Int × Hp)} {x y : Int} (hd : decode X.1 pc = .ok (.isub, 1)) (k : V X (pc + 1) ls ((0, w32 (x - y)) :: st) h o) : V X pc ls ((0, y) :: (0, x) :: st) h o := by
  refine V_step (fun r h' kk => ?_) k
  intro l p e s m args below meth c D cy base h0 LS ST H locs C hg hL hS hH hF
  obtain ⟨_, _, rfl, ⟨j, rfl, rfl⟩, _, _, rfl, ⟨i, rfl, rfl⟩, hS⟩ := hS
  exact lv_isub C.1 C.2.1 hd (kk l p e s m args below meth c D cy base h0 LS _ H locs C hg hL (SR_i (Int32.toInt_sub i j) hS) hH hF)

theorem V_imul {X : MX} {pc : Nat} {ls : List (Nat × Nat × Int)} {st : List (Nat × Int)} {h : Hp} {o : Option (Int × Hp)} {x y : Int} (hd : decode X.1 pc = .ok (.imul, 1)) (k : V X (pc + 1) ls ((0, w32 (x * y)) :: st) h o) : V X pc ls ((0, y) :: (0, x) :: st) h o := by
  refine V_step (fun r h' kk => ?_) k
  intro l p e s m args below meth c D cy base h0 LS ST H locs C hg hL hS hH hF
  obtain ⟨_, _, rfl, ⟨j, rfl, rfl⟩, _, _, rfl, ⟨i, rfl, rfl⟩, hS⟩ := hS
  exact lv_imul C.1 C.2.1 hd (kk l p e s m args below meth c D cy base h0 LS _ H locs C hg hL (SR_i (Int32.toInt_mul i j) hS) hH hF)

theorem V_iand {X : MX} {pc : Nat} {ls : List (Nat × Nat × Int)} {st : List (Nat × Int)} {h : Hp} {o : Option (Int × Hp)} {x y : Int} (hd : decode X.1 pc = .ok (.iand, 1)) (k : V X (pc + 1) ls ((0, iand x y) :: st) h o) : V X pc ls ((0, y) :: (0, x) :: st) h o := by
  refine V_step (fun r h' kk => ?_) k
  intro l p e s m args below meth c D cy base h0 LS ST H locs C hg hL hS hH hF
  obtain ⟨_, _, rfl, ⟨j, rfl, rfl⟩, _, _, rfl, ⟨i, rfl, rfl⟩, hS⟩ := hS
  exact lv_iand C.1 C.2.1 hd (kk l p e s m args below meth c D cy base h0 LS _ H locs C hg hL (SR_i (by unfold iand; rw [Int32.ofInt_toInt, Int32.ofInt_toInt]) hS) hH hF)

theorem V_ior {X : MX} {pc : Nat} {ls : List (Nat × Nat × Int)} {st : List (Nat × Int)} {h : Hp} {o : Option (Int × Hp)} {x y : Int} (hd : decode X.1 pc = .ok (.ior, 1)) (k : V X (pc + 1) ls ((0, ior x y) :: st) h o) : V X pc ls ((0, y) :: (0, x) :: st) h o := by
  refine V_step (fun r h' kk => ?_) k
  intro l p e s m args below meth c D cy base h0 LS ST H locs C hg hL hS hH hF
  obtain ⟨_, _, rfl, ⟨j, rfl, rfl⟩, _, _, rfl, ⟨i, rfl, rfl⟩, hS⟩ := hS
  exact lv_ior C.1 C.2.1 hd (kk l p e s m args below meth c D cy base h0 LS _ H locs C hg hL (SR_i (by unfold ior; rw [Int32.ofInt_toInt, Int32.ofInt_toInt]) hS) hH hF)

theorem V_ixor {X : MX} {pc : Nat} {ls : List (Nat × Nat × Int)} {st : List (Nat × Int)} {h : Hp} {o : Option (Int × Hp)} {x y : Int} (hd : decode X.1 pc = .ok (.ixor, 1)) (k : V X (pc + 1) ls ((0, ixor x y) :: st) h o) : V X pc ls ((0, y) :: (0, x) :: st) h o := by
  refine V_step (fun r h' kk => ?_) k
  intro l p e s m args below meth c D cy base h0 LS ST H locs C hg hL hS hH hF
  obtain ⟨_, _, rfl, ⟨j, rfl, rfl⟩, _, _, rfl, ⟨i, rfl, rfl⟩, hS⟩ := hS
  exact lv_ixor C.1 C.2.1 hd (kk l p e s m args below meth c D cy base h0 LS _ H locs C hg hL (SR_i (by unfold ixor; rw [Int32.ofInt_toInt, Int32.ofInt_toInt]) hS) hH hF)

theorem V_ishl {X : MX} {pc : Nat} {ls : List (Nat × Nat × Int)} {st : List (Nat × Int)} {h : Hp} {o : Option (Int × Hp)} {x y : Int} (hd : decode X.1 pc = .ok (.ishl, 1)) (k : V X (pc + 1) ls ((0, ishl x y) :: st) h o) : V X pc ls ((0, y) :: (0, x) :: st) h o := by
  refine V_step (fun r h' kk => ?_) k
  intro l p e s m args below meth c D cy base h0 LS ST H locs C hg hL hS hH hF
  obtain ⟨_, _, rfl, ⟨j, rfl, rfl⟩, _, _, rfl, ⟨i, rfl, rfl⟩, hS⟩ := hS
  exact lv_ishl C.1 C.2.1 hd (kk l p e s m args below meth c D cy base h0 LS _ H locs C hg hL (SR_i (by unfold ishl; rw [Int32.ofInt_toInt, Int32.ofInt_toInt]) hS) hH hF)

theorem V_ishr {X : MX} {pc : Nat} {ls : List (Nat × Nat × Int)} {st : List (Nat × Int)} {h : Hp} {o : Option (Int × Hp)} {x y : Int} (hd : decode X.1 pc = .ok (.ishr, 1)) (k : V X (pc + 1) ls ((0, ishr x y) :: st) h o) : V X pc ls ((0, y) :: (0, x) :: st) h o := by
  refine V_step (fun r h' kk => ?_) k
  intro l p e s m args below meth c D cy base h0 LS ST H locs C hg hL hS hH hF
  obtain ⟨_, _, rfl, ⟨j, rfl, rfl⟩, _, _, rfl, ⟨i, rfl, rfl⟩, hS⟩ := hS
  exact lv_ishr C.1 C.2.1 hd (kk l p e s m args below meth c D cy base h0 LS _ H locs C hg hL (SR_i (by unfold ishr; rw [Int32.ofInt_toInt, Int32.ofInt_toInt]) hS) hH hF)

theorem V_iushr {X : MX} {pc : Nat} {ls : List (Nat × Nat × Int)} {st : List (Nat × Int)} {h : Hp} {o : Option (Int × Hp)} {x y : Int} (hd : decode X.1 pc = .ok (.iushr, 1)) (k : V X (pc + 1) ls ((0, iushr x y) :: st) h o) : V X pc ls ((0, y) :: (0, x) :: st) h o := by
  refine V_step (fun r h' kk => ?_) k
  intro l p e s m args below meth c D cy base h0 LS ST H locs C hg hL hS hH hF
  obtain ⟨_, _, rfl, ⟨j, rfl, rfl⟩, _, _, rfl, ⟨i, rfl, rfl⟩, hS⟩ := hS
  exact lv_iushr C.1 C.2.1 hd rfl (kk l p e s m args below meth c D cy base h0 LS _ H locs C hg hL (SR_i (by unfold iushr; rw [Int32.ofInt_toInt, Int32.ofInt_toInt]) hS) hH hF)

theorem V_idiv {X : MX} {pc : Nat} {ls : List (Nat × Nat × Int)} {st : List (Nat × Int)} {h : Hp} {f : Int → Option (Int × Hp)} {x y : Int} (hd : decode X.1 pc = .ok (.idiv, 1)) (k : V X (pc + 1) ls ((0, w32 (x.tdiv y)) :: st) h (f (w32 (x.tdiv y)))) : V X pc ls ((0, y) :: (0, x) :: st) h (dv x y f) := by
  unfold dv
  split
  · exact V_none
  rename_i hne
  refine V_step (fun r h' kk => ?_) k
  intro l p e s m args below meth c D cy base h0 LS ST H locs C hg hL hS hH hF
  obtain ⟨_, _, rfl, ⟨j, rfl, rfl⟩, _, _, rfl, ⟨i, rfl, rfl⟩, hS⟩ := hS
  exact lv_idiv C.1 C.2.1 hd (r_ne0 hne) (kk l p e s m args below meth c D cy base h0 LS _ H locs C hg hL (SR_i (Int32.toInt_div i j) hS) hH hF)

theorem V_irem {X : MX} {pc : Nat} {ls : List (Nat × Nat × Int)} {st : List (Nat × Int)} {h : Hp} {f : Int → Option (Int × Hp)} {x y : Int} (hd : decode X.1 pc = .ok (.irem, 1)) (k : V X (pc + 1) ls ((0, irem x y) :: st) h (f (irem x y))) : V X pc ls ((0, y) :: (0, x) :: st) h (dm x y f) := by
  unfold dm
  split
  · exact V_none
  rename_i hne
  refine V_step (fun r h' kk => ?_) k
  intro l p e s m args below meth c D cy base h0 LS ST H locs C hg hL hS hH hF
  obtain ⟨_, _, rfl, ⟨j, rfl, rfl⟩, _, _, rfl, ⟨i, rfl, rfl⟩, hS⟩ := hS
  exact lv_irem C.1 C.2.1 hd (r_ne0 hne) (kk l p e s m args below meth c D cy base h0 LS _ H locs C hg hL (SR_i (by rw [Int32.toInt_sub, Int32.toInt_mul, Int32.toInt_div]; rfl) hS) hH hF)

theorem V_ladd {X : MX} {pc : Nat} {ls : List (Nat × Nat × Int)} {st : List (Nat × Int)} {h : Hp} {o : Option (Int × Hp)} {x y : Int} (hd : decode X.1 pc = .ok (.ladd, 1)) (k : V X (pc + 1) ls ((1, w64 (x + y)) :: st) h o) : V X pc ls ((1, y) :: (1, x) :: st) h o := by
  refine V_step (fun r h' kk => ?_) k
  intro l p e s m args below meth c D cy base h0 LS ST H locs C hg hL hS hH hF
  obtain ⟨_, _, rfl, ⟨j, rfl, rfl⟩, _, _, rfl, ⟨i, rfl, rfl⟩, hS⟩ := hS
  exact lv_ladd C.1 C.2.1 hd (kk l p e s m args below meth c D cy base h0 LS _ H locs C hg hL (SR_l (Int64.toInt_add i j) hS) hH hF)

theorem V_lmul {X : MX} {pc : Nat} {ls : List (Nat × Nat × Int)} {st : List (Nat × Int)} {h : Hp} {o : Option (Int × Hp)} {x y : Int} (hd : decode X.1 pc = .ok (.lmul, 1)) (k : V X (pc + 1) ls ((1, w64 (x * y)) :: st) h o) : V X pc ls ((1, y) :: (1, x) :: st) h o := by
  refine V_step (fun r h' kk => ?_) k
  intro l p e s m args below meth c D cy base h0 LS ST H locs C hg hL hS hH hF
  obtain ⟨_, _, rfl, ⟨j, rfl, rfl⟩, _, _, rfl, ⟨i, rfl, rfl⟩, hS⟩ := hS
  exact lv_lmul C.1 C.2.1 hd (kk l p e s m args below meth c D cy base h0 LS _ H locs C hg hL (SR_l (Int64.toInt_mul i j) hS) hH hF)

theorem r_lcmp (i j : Int64) : (lg_cmp i j).toInt = lcmp i.toInt j.toInt := by
  unfold lg_cmp lcmp
  by_cases h1 : j < i
  · rw [if_pos (show i > j from h1), if_pos (Int64.lt_iff_toInt_lt.mp h1)]; rfl
  · rw [if_neg (show ¬ i > j from h1), if_neg (fun q => h1 (Int64.lt_iff_toInt_lt.mpr q))]
    by_cases h2 : i = j
    · rw [if_pos h2, if_pos (by rw [h2])]; rfl
    · rw [if_neg h2, if_neg (fun q => h2 (Int64.toInt_inj.mp q))]; rfl

theorem V_lcmp {X : MX} {pc : Nat} {ls : List (Nat × Nat × Int)} {st : List (Nat × Int)} {h : Hp} {o : Option (Int × Hp)} {x y : Int} (hd : decode X.1 pc = .ok (.lcmp, 1)) (k : V X (pc + 1) ls ((0, lcmp x y) :: st) h o) : V X pc ls ((1, y) :: (1, x) :: st) h o := by
  refine V_step (fun r h' kk => ?_) k
  intro l p e s m args below meth c D cy base h0 LS ST H locs C hg hL hS hH hF
  obtain ⟨_, _, rfl, ⟨j, rfl, rfl⟩, _, _, rfl, ⟨i, rfl, rfl⟩, hS⟩ := hS
  exact W.lcmp C.1 C.2.1 hd (kk l p e s m args below meth c D cy base h0 LS _ H locs C hg hL (SR_i (r_lcmp i j) hS) hH hF)

theorem V_i2l {X : MX} {pc : Nat} {ls : List (Nat × Nat × Int)} {st : List (Nat × Int)} {h : Hp} {o : Option (Int × Hp)} {x : Int} (hd : decode X.1 pc = .ok (.i2l, 1)) (k : V X (pc + 1) ls ((1, x) :: st) h o) : V X pc ls ((0, x) :: st) h o := by
  refine V_step (fun r h' kk => ?_) k
  intro l p e s m args below meth c D cy base h0 LS ST H locs C hg hL hS hH hF
  obtain ⟨_, _, rfl, ⟨i, rfl, rfl⟩, hS⟩ := hS
  exact lv_i2l C.1 C.2.1 hd rfl (kk l p e s m args below meth c D cy base h0 LS _ H locs C hg hL (SR_l (Int32.toInt_toInt64 i) hS) hH hF)

theorem V_l2i {X : MX} {pc : Nat} {ls : List (Nat × Nat × Int)} {st : List (Nat × Int)} {h : Hp} {o : Option (Int × Hp)} {x : Int} (hd : decode X.1 pc = .ok (.l2i, 1)) (k : V X (pc + 1) ls ((0, w32 x) :: st) h o) : V X pc ls ((1, x) :: st) h o := by
  refine V_step (fun r h' kk => ?_) k
  intro l p e s m args below meth c D cy base h0 LS ST H locs C hg hL hS hH hF
  obtain ⟨_, _, rfl, ⟨i, rfl, rfl⟩, hS⟩ := hS
  exact lv_l2i C.1 C.2.1 hd rfl (kk l p e s m args below meth c D cy base h0 LS _ H locs C hg hL (SR_i (Int64.toInt_toInt32 i) hS) hH hF)

theorem V_i2b {X : MX} {pc : Nat} {ls : List (Nat × Nat × Int)} {st : List (Nat × Int)} {h : Hp} {o : Option (Int × Hp)} {x : Int} (hd : decode X.1 pc = .ok (.i2b, 1)) (k : V X (pc + 1) ls ((0, i2b x) :: st) h o) : V X pc ls ((0, x) :: st) h o := by
  refine V_step (fun r h' kk => ?_) k
  intro l p e s m args below meth c D cy base h0 LS ST H locs C hg hL hS hH hF
  obtain ⟨_, _, rfl, ⟨i, rfl, rfl⟩, hS⟩ := hS
  exact lv_i2b C.1 C.2.1 hd rfl (kk l p e s m args below meth c D cy base h0 LS _ H locs C hg hL (SR_i (by unfold i2b; rw [Int32.ofInt_toInt]) hS) hH hF)

theorem V_i2c {X : MX} {pc : Nat} {ls : List (Nat × Nat × Int)} {st : List (Nat × Int)} {h : Hp} {o : Option (Int × Hp)} {x : Int} (hd : decode X.1 pc = .ok (.i2c, 1)) (k : V X (pc + 1) ls ((0, i2c x) :: st) h o) : V X pc ls ((0, x) :: st) h o := by
  refine V_step (fun r h' kk => ?_) k
  intro l p e s m args below meth c D cy base h0 LS ST H locs C hg hL hS hH hF
  obtain ⟨_, _, rfl, ⟨i, rfl, rfl⟩, hS⟩ := hS
  exact lv_i2c C.1 C.2.1 hd rfl (kk l p e s m args below meth c D cy base h0 LS _ H locs C hg hL (SR_i (by unfold i2c; rw [Int32.ofInt_toInt]) hS) hH hF)

theorem V_iconst {X : MX} {pc : Nat} {ls : List (Nat × Nat × Int)} {st : List (Nat × Int)} {h : Hp} {o : Option (Int × Hp)} {n : Int} (hd : decode X.1 pc = .ok (.iconst n, 1)) (hn : -2147483648 ≤ n ∧ n < 2147483648) (k : V X (pc + 1) ls ((0, n) :: st) h o) : V X pc ls st h o := by
  refine V_step (fun r h' kk => ?_) k
  intro l p e s m args below meth c D cy base h0 LS ST H locs C hg hL hS hH hF
  exact lv_iconst C.1 C.2.1 hd rfl (kk l p e s m args below meth c D cy base h0 LS _ H locs C hg hL (SR_i (Int32.toInt_ofInt_of_le hn.1 hn.2) hS) hH hF)

theorem V_bipush {X : MX} {pc : Nat} {ls : List (Nat × Nat × Int)} {st : List (Nat × Int)} {h : Hp} {o : Option (Int × Hp)} {n : Int} (hd : decode X.1 pc = .ok (.bipush n, 2)) (hn : -128 ≤ n ∧ n < 128) (k : V X (pc + 2) ls ((0, n) :: st) h o) : V X pc ls st h o := by
  refine V_step (fun r h' kk => ?_) k
  intro l p e s m args below meth c D cy base h0 LS ST H locs C hg hL hS hH hF
  exact lv_bipush C.1 C.2.1 hd rfl (kk l p e s m args below meth c D cy base h0 LS _ H locs C hg hL (SR_i (by rw [Int8.toInt_toInt32]; exact Int8.toInt_ofInt_of_le hn.1 hn.2) hS) hH hF)

theorem V_sipush {X : MX} {pc : Nat} {ls : List (Nat × Nat × Int)} {st : List (Nat × Int)} {h : Hp} {o : Option (Int × Hp)} {n : Int} (hd : decode X.1 pc = .ok (.sipush n, 3)) (hn : -32768 ≤ n ∧ n < 32768) (k : V X (pc + 3) ls ((0, n) :: st) h o) : V X pc ls st h o := by
  refine V_step (fun r h' kk => ?_) k
  intro l p e s m args below meth c D cy base h0 LS ST H locs C hg hL hS hH hF
  exact lv_sipush C.1 C.2.1 hd rfl (kk l p e s m args below meth c D cy base h0 LS _ H locs C hg hL (SR_i (by rw [Int16.toInt_toInt32]; exact Int16.toInt_ofInt_of_le hn.1 hn.2) hS) hH hF)

theorem V_lconst {X : MX} {pc : Nat} {ls : List (Nat × Nat × Int)} {st : List (Nat × Int)} {h : Hp} {o : Option (Int × Hp)} {n : Fin 2} {x : Int} (hd : decode X.1 pc = .ok (.lconst n, 1)) (hn : (Int64.ofNat n).toInt = x) (k : V X (pc + 1) ls ((1, x) :: st) h o) : V X pc ls st h o := by
  refine V_step (fun r h' kk => ?_) k
  intro l p e s m args below meth c D cy base h0 LS ST H locs C hg hL hS hH hF
  exact lv_lconst C.1 C.2.1 hd rfl (kk l p e s m args below meth c D cy base h0 LS _ H locs C hg hL (SR_l hn hS) hH hF)

theorem V_ldc {X : MX} {pc : Nat} {ls : List (Nat × Nat × Int)} {st : List (Nat × Int)} {h : Hp} {o : Option (Int × Hp)} {idx : Nat} {v : Int32} {x : Int} (hd : decode X.1 pc = .ok (.ldc idx, 2)) (hw : Cond.constant X.2.1 idx v ∈ lwg) (hn : v.toInt = x) (k : V X (pc + 2) ls ((0, x) :: st) h o) : V X pc ls st h o := by
  refine V_step (fun r h' kk => ?_) k
  intro l p e s m args below meth c D cy base h0 LS ST H locs C hg hL hS hH hF
  exact lv_ldc C.1 C.2.1 C.2.2.2.1 (C.2.2.2.2.1 _ hw) hd (kk l p e s m args below meth c D cy base h0 LS _ H locs C hg hL (SR_i hn hS) hH hF)

theorem V_ldcw {X : MX} {pc : Nat} {ls : List (Nat × Nat × Int)} {st : List (Nat × Int)} {h : Hp} {o : Option (Int × Hp)} {idx : Nat} {v : Int32} {x : Int} (hd : decode X.1 pc = .ok (.ldc_w idx, 3)) (hw : Cond.constant X.2.1 idx v ∈ lwg) (hn : v.toInt = x) (k : V X (pc + 3) ls ((0, x) :: st) h o) : V X pc ls st h o := by
  refine V_step (fun r h' kk => ?_) k
  intro l p e s m args below meth c D cy base h0 LS ST H locs C hg hL hS hH hF
  exact lv_ldcw C.1 C.2.1 C.2.2.2.1 (C.2.2.2.2.1 _ hw) hd (kk l p e s m args below meth c D cy base h0 LS _ H locs C hg hL (SR_i hn hS) hH hF)

theorem V_ldc2 {X : MX} {pc : Nat} {ls : List (Nat × Nat × Int)} {st : List (Nat × Int)} {h : Hp} {o : Option (Int × Hp)} {idx : Nat} {v : Int64} {x : Int} (hd : decode X.1 pc = .ok (.ldc2_w idx, 3)) (hw : Cond.constantLong X.2.1 idx v ∈ lwg) (hn : v.toInt = x) (k : V X (pc + 3) ls ((1, x) :: st) h o) : V X pc ls st h o := by
  refine V_step (fun r h' kk => ?_) k
  intro l p e s m args below meth c D cy base h0 LS ST H locs C hg hL hS hH hF
  exact lv_ldc2 C.1 C.2.1 C.2.2.2.1 (C.2.2.2.2.1 _ hw) hd (kk l p e s m args below meth c D cy base h0 LS _ H locs C hg hL (SR_l hn hS) hH hF)

theorem LR_at {base : Bs} {nL : Nat} {ls : List (Nat × Nat × Int)} {LS : Array Slot} (h : LR base nL ls LS) (k : Nat) {q : Nat × Nat × Int} (hk : ls[k]? = some q) : ∃ v, vr base q.2.1 q.2.2 v ∧ LS[q.1]? = some (.val v) := h.2.2 q (List.mem_of_getElem? hk)

theorem V_iload {X : MX} {pc : Nat} {ls : List (Nat × Nat × Int)} {st : List (Nat × Int)} {h : Hp} {o : Option (Int × Hp)} {i : Nat} {x : Int} (hd : decode X.1 pc = .ok (.iload i, 2)) (j : Nat) (hj : ls[j]? = some (i, 0, x)) (k : V X (pc + 2) ls ((0, x) :: st) h o) : V X pc ls st h o := by
  refine V_step (fun r h' kk => ?_) k
  intro l p e s m args below meth c D cy base h0 LS ST H locs C hg hL hS hH hF
  obtain ⟨_, ⟨i, rfl, he⟩, hv⟩ := LR_at hL j hj
  exact lv_iload C.1 C.2.1 hd hv (kk l p e s m args below meth c D cy base h0 LS _ H locs C hg hL (SR_i he hS) hH hF)

theorem V_iload_n {X : MX} {pc : Nat} {ls : List (Nat × Nat × Int)} {st : List (Nat × Int)} {h : Hp} {o : Option (Int × Hp)} {n : Fin 4} {i : Nat} {x : Int} (hd : decode X.1 pc = .ok (.iload_n n, 1)) (hi : (n : Nat) = i) (j : Nat) (hj : ls[j]? = some (i, 0, x)) (k : V X (pc + 1) ls ((0, x) :: st) h o) : V X pc ls st h o := by
  refine V_step (fun r h' kk => ?_) k
  intro l p e s m args below meth c D cy base h0 LS ST H locs C hg hL hS hH hF
  obtain ⟨_, ⟨i, rfl, he⟩, hv⟩ := LR_at hL j hj
  exact lv_iload_n C.1 C.2.1 hd hi hv (kk l p e s m args below meth c D cy base h0 LS _ H locs C hg hL (SR_i he hS) hH hF)

theorem V_lload {X : MX} {pc : Nat} {ls : List (Nat × Nat × Int)} {st : List (Nat × Int)} {h : Hp} {o : Option (Int × Hp)} {i : Nat} {x : Int} (hd : decode X.1 pc = .ok (.lload i, 2)) (j : Nat) (hj : ls[j]? = some (i, 1, x)) (k : V X (pc + 2) ls ((1, x) :: st) h o) : V X pc ls st h o := by
  refine V_step (fun r h' kk => ?_) k
  intro l p e s m args below meth c D cy base h0 LS ST H locs C hg hL hS hH hF
  obtain ⟨_, ⟨i, rfl, he⟩, hv⟩ := LR_at hL j hj
  exact lv_lload C.1 C.2.1 hd hv (kk l p e s m args below meth c D cy base h0 LS _ H locs C hg hL (SR_l he hS) hH hF)

theorem V_lload_n {X : MX} {pc : Nat} {ls : List (Nat × Nat × Int)} {st : List (Nat × Int)} {h : Hp} {o : Option (Int × Hp)} {n : Fin 4} {i : Nat} {x : Int} (hd : decode X.1 pc = .ok (.lload_n n, 1)) (hi : (n : Nat) = i) (j : Nat) (hj : ls[j]? = some (i, 1, x)) (k : V X (pc + 1) ls ((1, x) :: st) h o) : V X pc ls st h o := by
  refine V_step (fun r h' kk => ?_) k
  intro l p e s m args below meth c D cy base h0 LS ST H locs C hg hL hS hH hF
  obtain ⟨_, ⟨i, rfl, he⟩, hv⟩ := LR_at hL j hj
  exact lv_lload_n C.1 C.2.1 hd hi hv (kk l p e s m args below meth c D cy base h0 LS _ H locs C hg hL (SR_l he hS) hH hF)
