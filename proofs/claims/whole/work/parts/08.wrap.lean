/-! the rules as the walks use them: what came is a new variable -/
theorem tb_in {w : Cond} (i : Nat) (h : tables_1[i]? = some w) (hg : goodWord w = true) : w ∈ lwg := lwg_in (List.mem_append_right _ (List.mem_of_getElem? h)) hg
theorem sl_in {y : MethodName} {n : Nat} (i : Nat) (h : lw_privs[i]? = some (y, n)) : Cond.selects y.cls y y ∈ lwg := lwg_in (List.mem_append_left _ (List.mem_map.mpr ⟨(y, n), List.mem_of_getElem? h, rfl⟩)) (by first | rfl | simp [goodWord, Cond.onTables, Cond.keeps, Cond.steady])
theorem DCa {cc : ByteArray} {l : List (Nat × Instr × Nat)} (h : ∀ q ∈ l, decode cc q.1 = .ok (q.2.1, q.2.2)) (k : Nat) {pc n : Nat} {i : Instr} (hk : l[k]? = some (pc, i, n)) : decode cc pc = .ok (i, n) := by
  have q := h (pc, i, n) (List.mem_of_getElem? hk)
  dsimp only at q
  exact q
def lt (x : Int) (f : Int → Option (Int × Hp)) : Option (Int × Hp) := f x
section QQ
variable {X : MX} {pc : Nat} {ls : List (Nat × Nat × Int)} {st st0 : List (Nat × Int)} {h : Hp} {f : Int → Option (Int × Hp)} {fh : Hp → Option (Int × Hp)} {f2 : Int → Hp → Option (Int × Hp)} {o : Option (Int × Hp)}
theorem Q_lt {t : Nat} {x : Int} (k : ∀ v, V X pc ls ((t, v) :: st) h (f v)) : V X pc ls ((t, x) :: st) h (lt x f) := k x
theorem V_ineg {x : Int} (hd : decode X.1 pc = .ok (.ineg, 1)) (k : V X (pc + 1) ls ((0, w32 (-x)) :: st) h o) : V X pc ls ((0, x) :: st) h o := by
  refine V_step (fun r h' kk => ?_) k
  intro l p e s m args below meth c D cy base h0 LS ST H locs C hg hL hS hH hF
  obtain ⟨_, _, rfl, ⟨i, rfl, rfl⟩, hS⟩ := hS
  exact lv_ineg C.1 C.2.1 hd (kk l p e s m args below meth c D cy base h0 LS _ H locs C hg hL (SR_i (by first | exact Int32.toInt_neg i | (rw [show (0 : Int32) - i = -i by simp]; exact Int32.toInt_neg i)) hS) hH hF)
theorem Q_idiv {x y : Int} (hd : decode X.1 pc = .ok (.idiv, 1)) (k : ∀ v, V X (pc + 1) ls ((0, v) :: st) h (f v)) : V X pc ls ((0, y) :: (0, x) :: st) h (dv x y f) := V_idiv hd (k _)
theorem Q_irem {x y : Int} (hd : decode X.1 pc = .ok (.irem, 1)) (k : ∀ v, V X (pc + 1) ls ((0, v) :: st) h (f v)) : V X pc ls ((0, y) :: (0, x) :: st) h (dm x y f) := V_irem hd (k _)
theorem Q_getf {ci : Nat} {C : String} {T : u_T} {N : Nat} {ty : Nat → FieldType} {a ki : Int} {idx k t κ : Nat} (hd : decode X.1 pc = .ok (.getfield idx, 3)) (hC : CLs ci C T N ty) (hk : k < N) (hw : Cond.fieldLink X.2.1 idx (T k).1 (T k).2.1 (T k).2.2.1 ∈ lwg) (ht : ftag (C, T, N) k = t) (hki : (k : Int) = ki) (hκ : 100 + ci = κ)
    (kv : ∀ v, V X (pc + 3) ls ((t, v) :: st) h (f v)) : V X pc ls ((2, a) :: st) h (gf h a κ ki f) := by
  subst hki; subst hκ
  exact V_getf hd hC hk hw ht (kv _)
theorem Q_putf {ci : Nat} {C : String} {T : u_T} {N : Nat} {ty : Nat → FieldType} {a x ki : Int} {idx k t κ : Nat} (hd : decode X.1 pc = .ok (.putfield idx, 3)) (hC : CLs ci C T N ty) (hk : k < N) (hw : Cond.fieldLink X.2.1 idx (T k).1 (T k).2.1 (T k).2.2.1 ∈ lwg) (ht : ftag (C, T, N) k = t) (hki : (k : Int) = ki) (hκ : 100 + ci = κ) (hfin : (T k).2.2.2 = false ∨ ((T k).2.2.2 = true ∧ X.2.2.1 = "<init>" ∧ (T k).1 = X.2.1))
    (hty : ty k = .int ∧ t = 0 ∨ ((∃ n, ty k = .object n) ∨ ∃ u, ty k = .array u) ∧ t = 2)
    (kk : ∀ h2, V X (pc + 3) ls st h2 (fh h2)) : V X pc ls ((t, x) :: (2, a) :: st) h (pf h a κ ki x fh) := by
  subst hki; subst hκ
  exact V_putf hd hC hk hw ht hfin hty (kk _)
theorem Q_putz {ci : Nat} {C : String} {T : u_T} {N : Nat} {ty : Nat → FieldType} {a x ki : Int} {idx k κ : Nat} (hd : decode X.1 pc = .ok (.putfield idx, 3)) (hC : CLs ci C T N ty) (hk : k < N) (hw : Cond.fieldLink X.2.1 idx (T k).1 (T k).2.1 (T k).2.2.1 ∈ lwg) (ht : ftag (C, T, N) k = 0) (hki : (k : Int) = ki) (hκ : 100 + ci = κ) (hfin : (T k).2.2.2 = false ∨ ((T k).2.2.2 = true ∧ X.2.2.1 = "<init>" ∧ (T k).1 = X.2.1))
    (hty : ty k = .boolean) (kk : ∀ h2, V X (pc + 3) ls st h2 (fh h2)) : V X pc ls ((0, x) :: (2, a) :: st) h (pz h a κ ki x fh) := by
  subst hki; subst hκ
  exact V_putz hd hC hk hw ht hfin hty (kk _)
theorem Q_iaload {a i : Int} (hd : decode X.1 pc = .ok (.iaload, 1)) (k : ∀ v, V X (pc + 1) ls ((0, v) :: st) h (f v)) : V X pc ls ((0, i) :: (2, a) :: st) h (al h a 0 i f) := V_iaload hd (k _)
theorem Q_baload {a i : Int} (hd : decode X.1 pc = .ok (.baload, 1)) (k : ∀ v, V X (pc + 1) ls ((0, v) :: st) h (f v)) : V X pc ls ((0, i) :: (2, a) :: st) h (al h a 1 i f) := V_baload hd (k _)
theorem Q_zaload {a i : Int} (hd : decode X.1 pc = .ok (.baload, 1)) (k : ∀ v, V X (pc + 1) ls ((0, v) :: st) h (f v)) : V X pc ls ((0, i) :: (2, a) :: st) h (al h a 2 i f) := V_zaload hd (k _)
theorem Q_laload {a i : Int} (hd : decode X.1 pc = .ok (.laload, 1)) (k : ∀ v, V X (pc + 1) ls ((1, v) :: st) h (f v)) : V X pc ls ((0, i) :: (2, a) :: st) h (al h a 3 i f) := V_laload hd (k _)
theorem Q_aaload {a i : Int} {κ : Nat} (hd : decode X.1 pc = .ok (.aaload, 1)) (hκ : κ < 8) (ht : etag κ = 2) (hr : (ety κ).isReference = true) (k : ∀ v, V X (pc + 1) ls ((2, v) :: st) h (f v)) : V X pc ls ((0, i) :: (2, a) :: st) h (al h a κ i f) := V_aaload hd hκ ht hr (k _)
theorem Q_alen {a : Int} {κ : Nat} (hd : decode X.1 pc = .ok (.arraylength, 1)) (hκ : κ < 8) (k : ∀ v, V X (pc + 1) ls ((0, v) :: st) h (f v)) : V X pc ls ((2, a) :: st) h (aln h a κ f) := V_alen hd hκ (k _)
theorem Q_iastore {a i x : Int} (hd : decode X.1 pc = .ok (.iastore, 1)) (k : ∀ h2, V X (pc + 1) ls st h2 (fh h2)) : V X pc ls ((0, x) :: (0, i) :: (2, a) :: st) h (as h a 0 i x fh) := V_iastore hd (k _)
theorem Q_lastore {a i x : Int} (hd : decode X.1 pc = .ok (.lastore, 1)) (k : ∀ h2, V X (pc + 1) ls st h2 (fh h2)) : V X pc ls ((1, x) :: (0, i) :: (2, a) :: st) h (as h a 3 i x fh) := V_lastore hd (k _)
theorem Q_bastore {a i x : Int} (hd : decode X.1 pc = .ok (.bastore, 1)) (k : ∀ h2, V X (pc + 1) ls st h2 (fh h2)) : V X pc ls ((0, x) :: (0, i) :: (2, a) :: st) h (as h a 1 i (i2b x) fh) := V_bastore hd (k _)
theorem Q_zastore {a i x : Int} (hd : decode X.1 pc = .ok (.bastore, 1)) (k : ∀ h2, V X (pc + 1) ls st h2 (fh h2)) : V X pc ls ((0, x) :: (0, i) :: (2, a) :: st) h (az h a i x fh) := V_zastore hd (k _)
theorem Q_aastore {a i x : Int} {κ κx ci : Nat} {C : String} {T : u_T} {N : Nat} {ty : Nat → FieldType} (hd : decode X.1 pc = .ok (.aastore, 1)) (hκ : κ < 8) (ht : etag κ = 2) (hC : CLs ci C T N ty) (hE : ety κ = .object C) (hκx : 100 + ci = κx) (k : ∀ h2, V X (pc + 1) ls st h2 (fh h2)) : V X pc ls ((2, x) :: (0, i) :: (2, a) :: st) h (ar h a κ i x κx fh) := by
  subst hκx
  exact V_aastore hd hκ ht hC.1 hE (k _)
theorem Q_new {ci : Nat} {C : String} {T : u_T} {N κ : Nat} {Ni : Int} {ty : Nat → FieldType} {idx : Nat} (hd : decode X.1 pc = .ok (.new idx, 3)) (hC : CLs ci C T N ty) (hw : Cond.classLink X.2.1 idx C ∈ lwg) (hκ : 100 + ci = κ) (hN : (N : Int) = Ni)
    (k : ∀ v h2, V X (pc + 3) ls ((2, v) :: st) h2 (f2 v h2)) : V X pc ls st h (no h κ Ni f2) := by
  subst hκ; subst hN
  exact V_new hd hC hw (k _ _)
/-- what an array of numbers needs -/
def NAs (κ : Nat) (atype : ArrayType) : Prop := κ < 4 ∧ newarray.typeOf atype = ety κ ∧ componentBytes (ety κ) ≤ 8 ∧ ((etag κ = 0 ∧ defaultValue (ety κ) = .int 0) ∨ (etag κ = 1 ∧ defaultValue (ety κ) = .long 0)) ∧ (∀ (s : State) (cA : ClassId), va_RA s cA (ety κ) → s.vm.findClass ("[" ++ (ety κ).toString) = some cA) ∧ Cond.arrayClass (ety κ) ∈ lwg
theorem Q_newa {κ : Nat} {atype : ArrayType} {n : Int} (hd : decode X.1 pc = .ok (.newarray atype, 2)) (hN : NAs κ atype) (k : ∀ v h2, V X (pc + 2) ls ((2, v) :: st) h2 (f2 v h2)) : V X pc ls ((0, n) :: st) h (na h κ n f2) := V_newa hd hN.1 hN.2.1 hN.2.2.1 hN.2.2.2.1 hN.2.2.2.2.1 hN.2.2.2.2.2 (k _ _)
theorem Q_anewa {κ idx : Nat} {C : String} {n : Int} (hd : decode X.1 pc = .ok (.anewarray idx, 3)) (hκ : κ < 8) (ht : etag κ = 2) (hE : ety κ = .object C) (hw : Cond.classLink X.2.1 idx C ∈ lwg) (hov : C ∈ overs) (k : ∀ v h2, V X (pc + 3) ls ((2, v) :: st) h2 (f2 v h2)) : V X pc ls ((0, n) :: st) h (na h κ n f2) := V_anewa hd hκ ht hE hw hov (k _ _)
/-- what a call of a method needs of the tables: the callee alone -/
def CEv (y : MethodName) (bytes : ByteArray) (maxL : Nat) (ret : Option FieldType) (ci n : Nat) : Prop := (vwCl[ci]?).map (fun r => r.1) = some y.cls ∧ Cond.code y bytes maxL ret ∈ lwg ∧ Cond.instanceMethod y ∈ lwg ∧ Cond.selects y.cls y y ∈ lwg ∧ Cond.initialized y.cls ∈ lwg ∧ (y.cls ≠ "java/lang/invoke/MethodHandle" ∧ y.cls ≠ "java/lang/invoke/VarHandle" ∧ (parseMethodDescriptor y.desc).map (fun d => d.parameters.length) = some n)
def CEs (y : MethodName) (bytes : ByteArray) (maxL : Nat) (ret : Option FieldType) (n : Nat) : Prop := Cond.code y bytes maxL ret ∈ lwg ∧ Cond.static y ∈ lwg ∧ Cond.initialized y.cls ∈ lwg ∧ (y.cls ≠ "java/lang/invoke/MethodHandle" ∧ y.cls ≠ "java/lang/invoke/VarHandle" ∧ (parseMethodDescriptor y.desc).map (fun d => d.parameters.length) = some n)
def CEi (y : MethodName) (bytes : ByteArray) (maxL : Nat) (n : Nat) : Prop := Cond.code y bytes maxL none ∈ lwg ∧ Cond.instanceMethod y ∈ lwg ∧ y.name = "<init>" ∧ Cond.initialized y.cls ∈ lwg ∧ (y.cls ≠ "java/lang/invoke/MethodHandle" ∧ y.cls ≠ "java/lang/invoke/VarHandle" ∧ (parseMethodDescriptor y.desc).map (fun d => d.parameters.length) = some n)
variable {oc : Option (Int × Hp)} {y : MethodName} {bytes : ByteArray} {maxL fr' lo' idx n κ : Nat} {ret : Option FieldType} {as : List (Nat × Int)}
theorem Q_callv {ci : Nat} {b : Int} {as' : List (Nat × Int)} (hd : decode X.1 pc = .ok (.invokevirtual idx, 3)) (hSp : Sp y bytes maxL ret fr' lo' ((2, b) :: as') h oc) (hE : CEv y bytes maxL ret ci n) (hl : Cond.methodLink X.2.1 idx y ∈ lwg) (hn : as'.length = n) (hκ : 100 + ci = κ) (hR : fr' + 1 ≤ X.2.2.2.2.2.1 ∧ 8 + (maxL + 11) + lo' ≤ X.2.2.2.2.2.2) (hst : as'.reverse ++ (2, b) :: st = st0) (hwd : wd st ≤ 8)
    (k : ∀ r1 h1, V X (pc + 3) ls (psh ret r1 st) h1 (f2 r1 h1)) : V X pc ls st0 h (iv h b κ oc f2) := by
  subst hκ; subst hst; subst hn
  exact V_callv hd hSp hE.1 hE.2.1 hl hE.2.2.1 hE.2.2.2.1 hE.2.2.2.2.1 hE.2.2.2.2.2 hR hwd (fun r1 h1 _ => k r1 h1)
theorem Q_calls (hd : decode X.1 pc = .ok (.invokestatic idx, 3)) (hSp : Sp y bytes maxL ret fr' lo' as h oc) (hE : CEs y bytes maxL ret n) (hl : Cond.methodLink X.2.1 idx y ∈ lwg) (hn : as.length = n) (hR : fr' + 1 ≤ X.2.2.2.2.2.1 ∧ 8 + (maxL + 11) + lo' ≤ X.2.2.2.2.2.2) (hst : as.reverse ++ st = st0) (hwd : wd st ≤ 8)
    (k : ∀ r1 h1, V X (pc + 3) ls (psh ret r1 st) h1 (f2 r1 h1)) : V X pc ls st0 h (cl oc f2) := by
  subst hst; subst hn
  exact V_calls hd hSp hE.1 hl hE.2.1 hE.2.2.1 hE.2.2.2 hR hwd (fun r1 h1 _ => k r1 h1)
theorem Q_callsN {host : String} (hd : decode X.1 pc = .ok (.invokestatic idx, 3)) (hSp : Sp y bytes maxL ret fr' lo' as h oc) (hE : CEs y bytes maxL ret n) (hl : (X.2.1, idx, y, host) ∈ nests) (hn : as.length = n) (hR : fr' + 1 ≤ X.2.2.2.2.2.1 ∧ 8 + (maxL + 11) + lo' ≤ X.2.2.2.2.2.2) (hst : as.reverse ++ st = st0) (hwd : wd st ≤ 8)
    (k : ∀ r1 h1, V X (pc + 3) ls (psh ret r1 st) h1 (f2 r1 h1)) : V X pc ls st0 h (cl oc f2) := by
  subst hst; subst hn
  exact V_callsN hd hSp hE.1 hl hE.2.1 hE.2.2.1 hE.2.2.2 hR hwd (fun r1 h1 _ => k r1 h1)
theorem Q_calli {ci : Nat} {b : Int} {as' : List (Nat × Int)} (hd : decode X.1 pc = .ok (.invokespecial idx, 3)) (hSp : Sp y bytes maxL none fr' lo' ((2, b) :: as') h oc) (hE : CEi y bytes maxL n) (hl : Cond.methodLink X.2.1 idx y ∈ lwg) (hn : as'.length = n) (hκ : 100 + ci = κ) (hR : fr' + 1 ≤ X.2.2.2.2.2.1 ∧ 8 + (maxL + 11) + lo' ≤ X.2.2.2.2.2.2) (hst : as'.reverse ++ (2, b) :: st = st0) (hwd : wd st ≤ 8)
    (k : ∀ r1 h1, V X (pc + 3) ls st h1 (f2 r1 h1)) : V X pc ls st0 h (iv h b κ oc f2) := by
  subst hκ; subst hst; subst hn
  exact V_calli hd hSp hE.1 hl hE.2.1 hE.2.2.1 hE.2.2.2.1 hE.2.2.2.2 hR hwd (fun r1 h1 _ => k r1 h1)
theorem Q_calliN {ci : Nat} {b : Int} {host : String} {as' : List (Nat × Int)} (hd : decode X.1 pc = .ok (.invokespecial idx, 3)) (hSp : Sp y bytes maxL none fr' lo' ((2, b) :: as') h oc) (hE : CEi y bytes maxL n) (hl : (X.2.1, idx, y, host) ∈ nests) (hn : as'.length = n) (hκ : 100 + ci = κ) (hR : fr' + 1 ≤ X.2.2.2.2.2.1 ∧ 8 + (maxL + 11) + lo' ≤ X.2.2.2.2.2.2) (hst : as'.reverse ++ (2, b) :: st = st0) (hwd : wd st ≤ 8)
    (k : ∀ r1 h1, V X (pc + 3) ls st h1 (f2 r1 h1)) : V X pc ls st0 h (iv h b κ oc f2) := by
  subst hκ; subst hst; subst hn
  exact V_calliN hd hSp hE.1 hl hE.2.1 hE.2.2.1 hE.2.2.2.1 hE.2.2.2.2 hR hwd (fun r1 h1 _ => k r1 h1)
def vc (h : Hp) (a : Int) (κ : Nat) (o : Option (Int × Hp)) : Option (Int × Hp) := if vo h a κ then o else none
theorem Q_objinit {a : Int} {idx κ : Nat} (hd : decode X.1 pc = .ok (.invokespecial idx, 3)) (hl : Cond.methodLink X.2.1 idx Lib.objectInit ∈ lwg) (hi : Cond.instanceMethod Lib.objectInit ∈ lwg) (hc : Cond.code Lib.objectInit ⟨#[0xb1]⟩ 1 none ∈ lwg) (hR : 1 ≤ X.2.2.2.2.2.1 ∧ wd st + 12 ≤ X.2.2.2.2.2.2)
    (k : V X (pc + 3) ls st h o) : V X pc ls ((2, a) :: st) h (vc h a κ o) := V_objinit hd hl hi hc hR k
/-- Math.max, min, abs -/
theorem V_mmax {x y : Int} {idx : Nat} (hd : decode X.1 pc = .ok (.invokestatic idx, 3)) (hl : Cond.methodLink X.2.1 idx Lib.Math.max.name ∈ lwg) (hs : Cond.static Lib.Math.max.name ∈ lwg) (hi : Cond.initialized "java/lang/Math" ∈ lwg) (hc : Cond.code Lib.Math.max.name Lib.Math.max.code 2 (some .int) ∈ lwg) (hR : 1 ≤ X.2.2.2.2.2.1 ∧ wd st + 13 ≤ X.2.2.2.2.2.2)
    (k : V X (pc + 3) ls ((0, imax x y) :: st) h o) : V X pc ls ((0, y) :: (0, x) :: st) h o := by
  intro r h' ho
  obtain ⟨hm, kk⟩ := k r h' ho
  refine ⟨hm, ?_⟩
  intro l p e s m args below meth c D cy base h0 LS ST H locs C hg hL hS hH hF
  obtain ⟨_, _, rfl, ⟨j, rfl, rfl⟩, _, _, rfl, ⟨i, rfl, rfl⟩, hS⟩ := hS
  have hts := C.2.2.2.2.1
  refine va_mmax C.1 C.2.1 (by rw [C.2.2.1]; exact hL.1.symm) C.2.2.2.1 (hts _ hl) (hts _ hs) (hts _ hi) (hts _ hc) hR.1 (by rw [SR_wd hS]; exact hR.2) (by show _ ≤ (hsz h' - hsz h0).toNat; omega) (by show _ ≤ (hus h' - hus h0).toNat; omega) hd (kk l p e s m args below meth c D cy base h0 LS _ H locs C hg hL (SR_i ?_ hS) hH hF)
  unfold imax
  by_cases q : i.toInt < j.toInt
  · rw [if_pos q, if_pos (r_lt q)]
  · rw [if_neg q, if_neg (fun z => q (r_lt' z))]
theorem V_mmin {x y : Int} {idx : Nat} (hd : decode X.1 pc = .ok (.invokestatic idx, 3)) (hl : Cond.methodLink X.2.1 idx Lib.Math.min.name ∈ lwg) (hs : Cond.static Lib.Math.min.name ∈ lwg) (hi : Cond.initialized "java/lang/Math" ∈ lwg) (hc : Cond.code Lib.Math.min.name Lib.Math.min.code 2 (some .int) ∈ lwg) (hR : 1 ≤ X.2.2.2.2.2.1 ∧ wd st + 13 ≤ X.2.2.2.2.2.2)
    (k : V X (pc + 3) ls ((0, imin x y) :: st) h o) : V X pc ls ((0, y) :: (0, x) :: st) h o := by
  intro r h' ho
  obtain ⟨hm, kk⟩ := k r h' ho
  refine ⟨hm, ?_⟩
  intro l p e s m args below meth c D cy base h0 LS ST H locs C hg hL hS hH hF
  obtain ⟨_, _, rfl, ⟨j, rfl, rfl⟩, _, _, rfl, ⟨i, rfl, rfl⟩, hS⟩ := hS
  have hts := C.2.2.2.2.1
  refine va_mmin C.1 C.2.1 (by rw [C.2.2.1]; exact hL.1.symm) C.2.2.2.1 (hts _ hl) (hts _ hs) (hts _ hi) (hts _ hc) hR.1 (by rw [SR_wd hS]; exact hR.2) (by show _ ≤ (hsz h' - hsz h0).toNat; omega) (by show _ ≤ (hus h' - hus h0).toNat; omega) hd (kk l p e s m args below meth c D cy base h0 LS _ H locs C hg hL (SR_i ?_ hS) hH hF)
  unfold imin
  by_cases q : j.toInt < i.toInt
  · rw [if_pos q, if_pos (r_lt q)]
  · rw [if_neg q, if_neg (fun z => q (r_lt' z))]
theorem V_mabs {x : Int} {idx : Nat} (hd : decode X.1 pc = .ok (.invokestatic idx, 3)) (hl : Cond.methodLink X.2.1 idx Lib.Math.abs.name ∈ lwg) (hs : Cond.static Lib.Math.abs.name ∈ lwg) (hi : Cond.initialized "java/lang/Math" ∈ lwg) (hc : Cond.code Lib.Math.abs.name Lib.Math.abs.code 1 (some .int) ∈ lwg) (hR : 1 ≤ X.2.2.2.2.2.1 ∧ wd st + 13 ≤ X.2.2.2.2.2.2)
    (k : V X (pc + 3) ls ((0, iabs x) :: st) h o) : V X pc ls ((0, x) :: st) h o := by
  intro r h' ho
  obtain ⟨hm, kk⟩ := k r h' ho
  refine ⟨hm, ?_⟩
  intro l p e s m args below meth c D cy base h0 LS ST H locs C hg hL hS hH hF
  obtain ⟨_, _, rfl, ⟨i, rfl, rfl⟩, hS⟩ := hS
  have hts := C.2.2.2.2.1
  refine va_mabs C.1 C.2.1 (by rw [C.2.2.1]; exact hL.1.symm) C.2.2.2.1 (hts _ hl) (hts _ hs) (hts _ hi) (hts _ hc) hR.1 (by rw [SR_wd hS]; exact hR.2) (by show _ ≤ (hsz h' - hsz h0).toNat; omega) (by show _ ≤ (hus h' - hus h0).toNat; omega) hd (kk l p e s m args below meth c D cy base h0 LS _ H locs C hg hL (SR_i ?_ hS) hH hF)
  unfold iabs
  by_cases q : 0 ≤ i.toInt
  · rw [if_pos q, if_pos (show (0 : Int32) ≤ i from Int32.le_iff_toInt_le.mpr q)]
  · rw [if_neg q, if_neg (fun z : (0 : Int32) ≤ i => q (by have w := Int32.le_iff_toInt_le.mp z; exact w)), Int32.toInt_sub, r_z, Int.zero_sub]; rfl
end QQ
