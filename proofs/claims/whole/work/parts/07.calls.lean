/-! calls and returns -/
def cl (o : Option (Int × Hp)) (f : Int → Hp → Option (Int × Hp)) : Option (Int × Hp) := match o with
  | none => none
  | some q => f q.1 q.2
def iv (h : Hp) (b : Int) (κ : Nat) (o : Option (Int × Hp)) (f : Int → Hp → Option (Int × Hp)) : Option (Int × Hp) := if vo h b κ then cl o f else none
def rz (r : Int) (h : Hp) : Option (Int × Hp) := if r = 0 ∨ r = 1 then some (r, h) else none
def psh (ret : Option FieldType) (r : Int) (st : List (Nat × Int)) : List (Nat × Int) := match ret with
  | none => st
  | some ty => (rtag ty, r) :: st
theorem STR_moved {base : Bs} {s U : State} {i j idx : Nat} {tx : String} {bs : List Int32} (hvm : s.vm.Alike U.vm) (hr : ∀ a, vk_R "TideRakes$Reader" idx tx a s → vk_R "TideRakes$Reader" idx tx a U) (hq : ∀ q : Nat, q ≤ base.1 → U.heap[q]? = s.heap[q]?) (h : STR base s i j idx tx bs) : STR base U i j idx tx bs := by
  obtain ⟨a, v, h1, h2, h3, h4, h5, h6, h7⟩ := h
  have hk : ∀ a : Nat, a < s.heap.size → ¬ base.1 < a → U.heap[a]? = s.heap[a]? := fun a _ hn => hq a (by omega)
  exact ⟨a, v, h1, h2, (h3.moved hvm).kept hk, (h4.moved hvm).kept hk, (h5.moved hvm).kept hk, (h6.moved hvm).kept hk, hr a h7⟩
theorem KX_moved {base : Bs} {s U : State} (hvm : s.vm.Alike U.vm) (hr : ∀ idx tx a, vk_R "TideRakes$Reader" idx tx a s → vk_R "TideRakes$Reader" idx tx a U) (hq : ∀ q : Nat, q ≤ base.1 → U.heap[q]? = s.heap[q]?) (h : KX base s) : KX base U := by
  obtain ⟨⟨b, h1, h2, cell, h3, h4, h5⟩, h6, h7, h8, h9⟩ := h
  have hk : ∀ a : Nat, a < s.heap.size → ¬ base.1 < a → U.heap[a]? = s.heap[a]? := fun a _ hn => hq a (by omega)
  exact ⟨⟨b, h1, h2, cell, by rw [hq b h2]; exact h3, State.isArrayOf_alike hvm h4, h5⟩, STR_moved hvm (hr _ _) hq h6, STR_moved hvm (hr _ _) hq h7, (h8.moved hvm).kept hk, (h9.moved hvm).kept hk⟩
theorem KK_moved {D : va_G} {cy : Nat → ClassId} {base : Bs} {s U : State} (hW : s.WarmedH U.vm) (hq : ∀ q : Nat, q ≤ base.1 → U.heap[q]? = s.heap[q]?) (h : KK D cy base s) : KK D cy base U := ⟨va_K.moved hW.alike h.1, fun q hq => va_Nw.warmM hW (h.2.1 q hq), fun C hC => va_AO.moved hW.alike (h.2.2.1 C hC), KX_moved hW.alike (fun _ _ _ => vk_R.warm hW) hq h.2.2.2⟩
theorem KK_calling {D : va_G} {cy : Nat → ClassId} {base : Bs} {U : State} {g : JFrame} {mk : MethodId} {a : Array Value} (h : KK D cy base U) : KK D cy base (U.calling g mk a) := ⟨va_K.moved (u := U) (U := U.calling g mk a) (Vm.Alike.refl U.vm) h.1, fun q hq => va_Nw.same rfl (show U.vm = (U.calling g mk a).vm from rfl) (h.2.1 q hq), fun C hC => va_AO.moved (u := U) (U := U.calling g mk a) (Vm.Alike.refl U.vm) (h.2.2.1 C hC), KX_moved (s := U) (U := U.calling g mk a) (Vm.Alike.refl U.vm) (fun _ _ _ => vk_R.same (u := U) rfl) (fun _ _ => rfl) h.2.2.2⟩
theorem SR_app {base : Bs} : ∀ {as st : List (Nat × Int)} {vs : List Value}, SR base (as ++ st) vs → ∃ A R, vs = A ++ R ∧ SR base as A ∧ SR base st R
  | [], st, vs, h => ⟨[], vs, rfl, rfl, h⟩
  | q :: as, st, vs, h => by
    obtain ⟨v, vs', rfl, hv, h⟩ := h
    obtain ⟨A, R, rfl, hA, hR⟩ := SR_app h
    exact ⟨v :: A, R, rfl, ⟨v, A, rfl, hv, hA⟩, hR⟩
theorem SR_join {base : Bs} : ∀ {as st : List (Nat × Int)} {A R : List Value}, SR base as A → SR base st R → SR base (as ++ st) (A ++ R)
  | [], st, A, R, hA, hR => by have hA : A = [] := hA; subst hA; exact hR
  | q :: as, st, A, R, hA, hR => by
    obtain ⟨v, vs', rfl, hv, h⟩ := hA
    exact ⟨v, vs' ++ R, rfl, hv, SR_join h hR⟩
theorem SR_rev {base : Bs} : ∀ {as : List (Nat × Int)} {A : List Value}, SR base as.reverse A → SR base as A.reverse
  | [], A, h => by have h : A = [] := h; subst h; rfl
  | q :: as, A, h => by
    rw [List.reverse_cons] at h
    obtain ⟨B, R, rfl, hB, v, _, rfl, hv, h2⟩ := SR_app h
    have h2 : _ = [] := h2
    subst h2
    rw [List.reverse_append]
    exact ⟨v, B.reverse, rfl, hv, SR_rev hB⟩
theorem SR_len {base : Bs} : ∀ {as : List (Nat × Int)} {A : List Value}, SR base as A → A.length = as.length
  | [], A, h => by have h : A = [] := h; subst h; rfl
  | q :: as, A, h => by
    obtain ⟨v, vs', rfl, hv, h⟩ := h
    rw [List.length_cons, List.length_cons, SR_len h]
def wd (st : List (Nat × Int)) : Nat := (st.map (fun q => if q.1 == 1 then 2 else 1)).sum
theorem SR_wd {base : Bs} : ∀ {as : List (Nat × Int)} {A : List Value}, SR base as A → (A.map fun v => v.category).sum = wd as
  | [], A, h => by have h : A = [] := h; subst h; rfl
  | q :: as, A, h => by
    obtain ⟨v, vs', rfl, hv, h⟩ := h
    have h2 := SR_wd h
    have h3 := vr_cat hv
    rw [List.map_cons, List.sum_cons, h2]
    unfold wd
    rw [List.map_cons, List.sum_cons]
    rcases lv_cat v with q | q
    · rw [q] at h3 ⊢; rw [← h3]; rfl
    · rw [q] at h3 ⊢; rw [← h3]; rfl
section CALLS
variable {X : MX} {pc : Nat} {ls : List (Nat × Nat × Int)} {st : List (Nat × Int)} {h : Hp} {f : Int → Hp → Option (Int × Hp)} {oc : Option (Int × Hp)} {y : MethodName} {bytes : ByteArray} {maxL fr' lo' idx : Nat} {ret : Option FieldType} {as : List (Nat × Int)}
theorem V_core (hSp : Sp y bytes maxL ret fr' lo' as h oc)
    (run : ∀ {p : Program} {l : Launch} {e : Env} {R : Room} {s : State} {m : MethodId} {args : Array Value} {below : List Frame} {meth : Method} {c : Code} {H : Heap} {locs : List Loc} {cells slots mc ms : Nat} {D : va_G} {cy : Nat → ClassId} {base : Bs} {LS : Array Slot} {AV rest : List Value} {rm : Room} {Qc : Array Value → State → Outcome → State → Prop} {free : Addr → Prop}, MC p s m args meth c X.1 X.2.1 X.2.2.1 X.2.2.2.1 X.2.2.2.2.1 D cy base → (∀ q : Nat, q ≤ base.1 → H[q]? = s.heap[q]?) → HR D cy base h H → SR base as AV → LS.size = X.2.2.2.1 → SR base st rest → rm.cells = mc → rm.slots = ms → rm.frames = fr' → rm.locals = lo' → R.frames = X.2.2.2.2.2.1 → R.locals = X.2.2.2.2.2.2 → cells + mc ≤ R.cells ∧ slots + ms ≤ R.slots →
      Met l y (Cond.code y bytes maxL ret :: lwg) rm (va_Pc AV (fun U => KK D cy base U ∧ HR D cy base h U.heap)) Qc mc ms free → va_Run p l e R s m args below meth c H locs cells slots mc ms (F0 m pc LS (AV.reverse ++ rest)) rest (Qc AV.toArray) free)
    (k : ∀ r1 h1, oc = some (r1, h1) → V X (pc + 3) ls (psh ret r1 st) h1 (f r1 h1)) : V X pc ls (as.reverse ++ st) h (cl oc f) := by
  intro r h' ho
  cases hoc : oc with
  | none => rw [hoc] at ho; cases ho
  | some q =>
    obtain ⟨r1, h1⟩ := q
    rw [hoc] at ho
    obtain ⟨hm1, hM⟩ := hSp r1 h1 hoc
    obtain ⟨hm2, kk⟩ := k r1 h1 hoc r h' ho
    refine ⟨⟨by omega, by omega⟩, ?_⟩
    intro l p e s m args below meth c D cy base h0 LS ST H locs C0 hg hL hS hH hF
    obtain ⟨AR, rest, rfl, hA, hS⟩ := SR_app hS
    have hA := SR_rev hA
    have hrun := run (p := p) (l := l) (e := e) (R := rmo X.2.2.2.2.2.1 X.2.2.2.2.2.2 h0 h') (below := below) (locs := locs) (cells := (hsz h - hsz h0).toNat) (slots := (hus h - hus h0).toNat) (mc := (hsz h1 - hsz h).toNat) (ms := (hus h1 - hus h).toNat) C0 hF.1 hH hA hL.1 hS rfl rfl rfl rfl rfl rfl (by show _ ≤ (hsz h' - hsz h0).toNat ∧ _ ≤ (hus h' - hus h0).toNat; constructor <;> omega) (hM l D cy base AR.reverse hA)
    rw [List.reverse_reverse] at hrun
    intro T hT X0
    obtain ⟨v, st₀, t, T', L, hst, X', hL', e1, e2, ⟨hq1, hq2, hq3⟩, stp⟩ := hrun T hT X0
    rw [show (hsz h - hsz h0).toNat + (hsz h1 - hsz h).toNat = (hsz h1 - hsz h0).toNat by omega, show (hus h - hus h0).toNat + (hus h1 - hus h).toNat = (hus h1 - hus h0).toNat by omega] at X'
    obtain ⟨t2, a1, b1⟩ := kk l p e s m args below meth c D cy base h0 LS (v.toList ++ rest) T'.heap (locs ++ L) C0 ⟨by omega, by omega⟩ hL (by
      cases ret with
      | none => cases hq1; exact hS
      | some ty => obtain ⟨w, hw, hw2⟩ := hq1; cases hw; exact ⟨w, rest, rfl, hw2, hS⟩) (by rw [e1]; exact hq2) ⟨fun q hq => by rw [e1, hq3 q hq, hst]; exact hF.1 q hq, fun x hx => by
        rcases List.mem_append.mp hx with hx | hx
        · exact hF.2 x hx
        · exact hL' x hx⟩ T' rfl X'
    exact ⟨t2, stp t2 a1, b1⟩
theorem blind {D : va_G} {cy : Nat → ClassId} {base : Bs} {AV : List Value} : FrameBlind (va_Pc AV (fun U => KK D cy base U ∧ HR D cy base h U.heap)) := fun a U g mk q => ⟨q.1, KK_calling q.2.1, q.2.2⟩
theorem good_cd (hc : Cond.code y bytes maxL ret ∈ lwg) : GoodIn lwg (Cond.code y bytes maxL ret :: lwg) := fun w hw => by
  rcases List.mem_cons.mp hw with rfl | hw
  · exact ⟨hc, lwg_good hc⟩
  · exact ⟨hw, lwg_good hw⟩
/-- an instance method, called on an object of its class -/
theorem V_callv {ci : Nat} {b : Int} {as' : List (Nat × Int)} (hd : decode X.1 pc = .ok (.invokevirtual idx, 3)) (hSp : Sp y bytes maxL ret fr' lo' ((2, b) :: as') h oc) (hci : (vwCl[ci]?).map (fun r => r.1) = some y.cls) (hc : Cond.code y bytes maxL ret ∈ lwg) (hl : Cond.methodLink X.2.1 idx y ∈ lwg) (hin : Cond.instanceMethod y ∈ lwg) (hse : Cond.selects y.cls y y ∈ lwg) (hini : Cond.initialized y.cls ∈ lwg)
    (hnm : y.cls ≠ "java/lang/invoke/MethodHandle" ∧ y.cls ≠ "java/lang/invoke/VarHandle" ∧ (parseMethodDescriptor y.desc).map (fun d => d.parameters.length) = some as'.length) (hR : fr' + 1 ≤ X.2.2.2.2.2.1 ∧ 8 + (maxL + 11) + lo' ≤ X.2.2.2.2.2.2) (hwd : wd st ≤ 8)
    (k : ∀ r1 h1, oc = some (r1, h1) → V X (pc + 3) ls (psh ret r1 st) h1 (f r1 h1)) : V X pc ls (as'.reverse ++ (2, b) :: st) h (iv h b (100 + ci) oc f) := by
  unfold iv
  split
  rotate_left
  · exact V_none
  rename_i hv
  rw [show as'.reverse ++ (2, b) :: st = ((2, b) :: as').reverse ++ st by simp]
  refine V_core hSp (fun {p l e R s m args below meth c H locs cells slots mc ms D cy base LS AV rest rm Qc free} C0 hq0 hH hA hLS hS e1 e2 e3 e4 e5 e6 hf hM => ?_) k
  obtain ⟨v, A, rfl, hvb, hA⟩ := hA
  have hvb : v = rv base b := hvb
  rw [rv_ref (by have := hv.1; omega)] at hvb
  subst hvb
  obtain ⟨r, hr, hr2⟩ := Option.map_eq_some_iff.mp hci
  obtain ⟨U, ⟨cell, q1, q2, q3, q4⟩, -⟩ := HR_obj hH hv hr
  refine va_runV (C := y.cls) (Ts := lwg) (own := X.2.1) (index := idx) (n := as'.length) ⟨C0.1, C0.2.1, C0.2.2.1, C0.2.2.2.1, C0.2.2.2.2.1⟩ hM (cwV as'.length C0.2.2.2.2.1 (fun w hw => ?_) rfl e1 e2 ⟨rfl, hnm⟩ (by rw [e3, e4, e5, e6]; exact hR)) ⟨blind, ⟨cell, q1, by rw [q3]; rfl, by rw [q2, ← hr2]; exact (C0.2.2.2.2.2.2.2.2.1.1 ci _ hr).2.1⟩, fun U hU hW => ⟨rfl, KK_moved hW (by rw [hU]; exact hq0) C0.2.2.2.2.2.2.2.2, by rw [hU]; exact hH⟩⟩ rfl (SR_len hA) hLS (by simp) (lv_room (by rw [SR_wd hS]; exact hwd)) hd hf
  unfold wsV at hw
  rcases List.mem_append.mp hw with hw | hw
  · simp only [List.mem_cons, List.not_mem_nil, or_false] at hw
    rcases hw with rfl | rfl | rfl | rfl
    · exact ⟨hl, lwg_good hl⟩
    · exact ⟨hin, lwg_good hin⟩
    · exact ⟨hse, lwg_good hse⟩
    · exact ⟨hini, lwg_good hini⟩
  · exact good_cd hc w hw
/-- a static method of the same class, or of the JDK -/
theorem V_calls (hd : decode X.1 pc = .ok (.invokestatic idx, 3)) (hSp : Sp y bytes maxL ret fr' lo' as h oc) (hc : Cond.code y bytes maxL ret ∈ lwg) (hl : Cond.methodLink X.2.1 idx y ∈ lwg) (hst : Cond.static y ∈ lwg) (hini : Cond.initialized y.cls ∈ lwg)
    (hnm : y.cls ≠ "java/lang/invoke/MethodHandle" ∧ y.cls ≠ "java/lang/invoke/VarHandle" ∧ (parseMethodDescriptor y.desc).map (fun d => d.parameters.length) = some as.length) (hR : fr' + 1 ≤ X.2.2.2.2.2.1 ∧ 8 + (maxL + 11) + lo' ≤ X.2.2.2.2.2.2) (hwd : wd st ≤ 8)
    (k : ∀ r1 h1, oc = some (r1, h1) → V X (pc + 3) ls (psh ret r1 st) h1 (f r1 h1)) : V X pc ls (as.reverse ++ st) h (cl oc f) := by
  refine V_core hSp (fun {p l e R s m args below meth c H locs cells slots mc ms D cy base LS AV rest rm Qc free} C0 hq0 hH hA hLS hS e1 e2 e3 e4 e5 e6 hf hM => ?_) k
  exact va_runS (Ts := lwg) (own := X.2.1) (index := idx) (n := as.length) ⟨C0.1, C0.2.1, C0.2.2.1, C0.2.2.2.1, C0.2.2.2.2.1⟩ hM ⟨callB_of as.length C0.2.2.2.2.1 (good_cd hc) rfl e1 e2 (C0.2.2.2.2.1 _ hini) (C0.2.2.2.2.1 _ hl) hnm (by rw [e3, e4, e5, e6]; exact hR), C0.2.2.2.2.1 _ hst⟩ ⟨blind, fun U hU hW => ⟨rfl, KK_moved hW (by rw [hU]; exact hq0) C0.2.2.2.2.2.2.2.2, by rw [hU]; exact hH⟩⟩ rfl (SR_len hA) hLS rfl (lv_room (by rw [SR_wd hS]; exact hwd)) hd hf
/-- a private static method of a nest mate -/
theorem V_callsN {host : String} (hd : decode X.1 pc = .ok (.invokestatic idx, 3)) (hSp : Sp y bytes maxL ret fr' lo' as h oc) (hc : Cond.code y bytes maxL ret ∈ lwg) (hl : (X.2.1, idx, y, host) ∈ nests) (hst : Cond.static y ∈ lwg) (hini : Cond.initialized y.cls ∈ lwg)
    (hnm : y.cls ≠ "java/lang/invoke/MethodHandle" ∧ y.cls ≠ "java/lang/invoke/VarHandle" ∧ (parseMethodDescriptor y.desc).map (fun d => d.parameters.length) = some as.length) (hR : fr' + 1 ≤ X.2.2.2.2.2.1 ∧ 8 + (maxL + 11) + lo' ≤ X.2.2.2.2.2.2) (hwd : wd st ≤ 8)
    (k : ∀ r1 h1, oc = some (r1, h1) → V X (pc + 3) ls (psh ret r1 st) h1 (f r1 h1)) : V X pc ls (as.reverse ++ st) h (cl oc f) := by
  refine V_core hSp (fun {p l e R s m args below meth c H locs cells slots mc ms D cy base LS AV rest rm Qc free} C0 hq0 hH hA hLS hS e1 e2 e3 e4 e5 e6 hf hM => ?_) k
  exact va_runSN (Ts := lwg) (own := X.2.1) (index := idx) (n := as.length) (host := host) ⟨C0.1, C0.2.1, C0.2.2.1, C0.2.2.2.1, C0.2.2.2.2.1⟩ hM ⟨va_cnB as.length C0.2.2.2.2.1 (good_cd hc) rfl e1 e2 (C0.2.2.2.2.2.2.2.2.2.1 _ hl) (C0.2.2.2.2.1 _ hini) hnm (by rw [e3, e4, e5, e6]; exact hR), C0.2.2.2.2.1 _ hst, trivial⟩ ⟨blind, fun U hU hW => ⟨rfl, KK_moved hW (by rw [hU]; exact hq0) C0.2.2.2.2.2.2.2.2, by rw [hU]; exact hH⟩⟩ rfl (SR_len hA) hLS rfl (lv_room (by rw [SR_wd hS]; exact hwd)) hd hf
/-- a constructor -/
theorem V_calli {ci : Nat} {b : Int} {as' : List (Nat × Int)} (hd : decode X.1 pc = .ok (.invokespecial idx, 3)) (hSp : Sp y bytes maxL none fr' lo' ((2, b) :: as') h oc) (hc : Cond.code y bytes maxL none ∈ lwg) (hl : Cond.methodLink X.2.1 idx y ∈ lwg) (hin : Cond.instanceMethod y ∈ lwg) (hy : y.name = "<init>") (hini : Cond.initialized y.cls ∈ lwg)
    (hnm : y.cls ≠ "java/lang/invoke/MethodHandle" ∧ y.cls ≠ "java/lang/invoke/VarHandle" ∧ (parseMethodDescriptor y.desc).map (fun d => d.parameters.length) = some as'.length) (hR : fr' + 1 ≤ X.2.2.2.2.2.1 ∧ 8 + (maxL + 11) + lo' ≤ X.2.2.2.2.2.2) (hwd : wd st ≤ 8)
    (k : ∀ r1 h1, oc = some (r1, h1) → V X (pc + 3) ls st h1 (f r1 h1)) : V X pc ls (as'.reverse ++ (2, b) :: st) h (iv h b (100 + ci) oc f) := by
  unfold iv
  split
  rotate_left
  · exact V_none
  rename_i hv
  rw [show as'.reverse ++ (2, b) :: st = ((2, b) :: as').reverse ++ st by simp]
  refine V_core hSp (fun {p l e R s m args below meth c H locs cells slots mc ms D cy base LS AV rest rm Qc free} C0 hq0 hH hA hLS hS e1 e2 e3 e4 e5 e6 hf hM => ?_) k
  obtain ⟨v, A, rfl, hvb, hA⟩ := hA
  have hvb : v = rv base b := hvb
  rw [rv_ref (by have := hv.1; omega)] at hvb
  subst hvb
  exact va_runI (Ts := lwg) (own := X.2.1) (index := idx) (n := as'.length) ⟨C0.1, C0.2.1, C0.2.2.1, C0.2.2.2.1, C0.2.2.2.2.1⟩ hM (cwI as'.length C0.2.2.2.2.1 (good_cd hc) rfl e1 e2 (C0.2.2.2.2.1 _ hini) (C0.2.2.2.2.1 _ hl) (C0.2.2.2.2.1 _ hin) hy hnm (by rw [e3, e4, e5, e6]; exact hR)) ⟨blind, fun U hU hW => ⟨rfl, KK_moved hW (by rw [hU]; exact hq0) C0.2.2.2.2.2.2.2.2, by rw [hU]; exact hH⟩⟩ rfl (SR_len hA) hLS (by simp) (lv_room (by rw [SR_wd hS]; exact hwd)) hd hf
theorem V_calliN {ci : Nat} {b : Int} {host : String} {as' : List (Nat × Int)} (hd : decode X.1 pc = .ok (.invokespecial idx, 3)) (hSp : Sp y bytes maxL none fr' lo' ((2, b) :: as') h oc) (hc : Cond.code y bytes maxL none ∈ lwg) (hl : (X.2.1, idx, y, host) ∈ nests) (hin : Cond.instanceMethod y ∈ lwg) (hy : y.name = "<init>") (hini : Cond.initialized y.cls ∈ lwg)
    (hnm : y.cls ≠ "java/lang/invoke/MethodHandle" ∧ y.cls ≠ "java/lang/invoke/VarHandle" ∧ (parseMethodDescriptor y.desc).map (fun d => d.parameters.length) = some as'.length) (hR : fr' + 1 ≤ X.2.2.2.2.2.1 ∧ 8 + (maxL + 11) + lo' ≤ X.2.2.2.2.2.2) (hwd : wd st ≤ 8)
    (k : ∀ r1 h1, oc = some (r1, h1) → V X (pc + 3) ls st h1 (f r1 h1)) : V X pc ls (as'.reverse ++ (2, b) :: st) h (iv h b (100 + ci) oc f) := by
  unfold iv
  split
  rotate_left
  · exact V_none
  rename_i hv
  rw [show as'.reverse ++ (2, b) :: st = ((2, b) :: as').reverse ++ st by simp]
  refine V_core hSp (fun {p l e R s m args below meth c H locs cells slots mc ms D cy base LS AV rest rm Qc free} C0 hq0 hH hA hLS hS e1 e2 e3 e4 e5 e6 hf hM => ?_) k
  obtain ⟨v, A, rfl, hvb, hA⟩ := hA
  have hvb : v = rv base b := hvb
  rw [rv_ref (by have := hv.1; omega)] at hvb
  subst hvb
  exact va_runIN (Ts := lwg) (own := X.2.1) (index := idx) (n := as'.length) (host := host) ⟨C0.1, C0.2.1, C0.2.2.1, C0.2.2.2.1, C0.2.2.2.2.1⟩ hM ⟨va_cnB as'.length C0.2.2.2.2.1 (good_cd hc) rfl e1 e2 (C0.2.2.2.2.2.2.2.2.2.1 _ hl) (C0.2.2.2.2.1 _ hini) hnm (by rw [e3, e4, e5, e6]; exact hR), hy, C0.2.2.2.2.1 _ hin⟩ ⟨blind, fun U hU hW => ⟨rfl, KK_moved hW (by rw [hU]; exact hq0) C0.2.2.2.2.2.2.2.2, by rw [hU]; exact hH⟩⟩ rfl (SR_len hA) hLS (by simp) (lv_room (by rw [SR_wd hS]; exact hwd)) hd hf
end CALLS
section RETS
variable {X : MX} {pc : Nat} {ls : List (Nat × Nat × Int)} {st : List (Nat × Int)} {h : Hp} {o : Option (Int × Hp)}
theorem V_ireturn {r : Int} (hd : decode X.1 pc = .ok (.ireturn, 1)) (hr : X.2.2.2.2.1 = some .int) : V X pc ls [(0, r)] h (some (r, h)) := by
  intro r' h' ho
  cases ho
  refine ⟨⟨Int.le_refl _, Int.le_refl _⟩, ?_⟩
  intro l p e s m args below meth c D cy base h0 LS ST H locs C0 hg hL hS hH hF
  obtain ⟨_, _, rfl, ⟨i, rfl, rfl⟩, hS⟩ := hS
  have hS : _ = [] := hS
  subst hS
  exact W.iret C0.1 C0.2.1 (by rw [C0.2.2.2.2.2.2.1]; exact hr) (fun t ht _ => ⟨by rw [hr]; exact ⟨_, rfl, i, rfl, rfl⟩, by rw [ht]; exact hH, fun q hq => by rw [ht]; exact hF.1 q hq⟩) hF.2 hd C0.2.2.2.2.2.1
theorem V_zreturn {r : Int} (hd : decode X.1 pc = .ok (.ireturn, 1)) (hr : X.2.2.2.2.1 = some .boolean) : V X pc ls [(0, r)] h (rz r h) := by
  unfold rz
  split
  rotate_left
  · exact V_none
  rename_i hz
  intro r' h' ho
  cases ho
  refine ⟨⟨Int.le_refl _, Int.le_refl _⟩, ?_⟩
  intro l p e s m args below meth c D cy base h0 LS ST H locs C0 hg hL hS hH hF
  obtain ⟨_, _, rfl, ⟨i, rfl, rfl⟩, hS⟩ := hS
  have hS : _ = [] := hS
  subst hS
  have hn : narrow .boolean (.int i) = .int i := by
    rcases hz with q | q
    · have : i = 0 := Int32.toInt_inj.mp (by rw [q]; rfl)
      subst this; rfl
    · have : i = 1 := Int32.toInt_inj.mp (by rw [q]; rfl)
      subst this; rfl
  exact W.zret C0.1 C0.2.1 (by rw [C0.2.2.2.2.2.2.1]; exact hr) hn (fun t ht _ => ⟨by rw [hr]; exact ⟨_, rfl, i, rfl, rfl⟩, by rw [ht]; exact hH, fun q hq => by rw [ht]; exact hF.1 q hq⟩) hF.2 hd C0.2.2.2.2.2.1
theorem V_lreturn {r : Int} (hd : decode X.1 pc = .ok (.lreturn, 1)) (hr : X.2.2.2.2.1 = some .long) : V X pc ls [(1, r)] h (some (r, h)) := by
  intro r' h' ho
  cases ho
  refine ⟨⟨Int.le_refl _, Int.le_refl _⟩, ?_⟩
  intro l p e s m args below meth c D cy base h0 LS ST H locs C0 hg hL hS hH hF
  obtain ⟨_, _, rfl, ⟨i, rfl, rfl⟩, hS⟩ := hS
  have hS : _ = [] := hS
  subst hS
  exact W.lret C0.1 C0.2.1 (by rw [C0.2.2.2.2.2.2.1]; exact hr) (fun t ht _ => ⟨by rw [hr]; exact ⟨_, rfl, i, rfl, rfl⟩, by rw [ht]; exact hH, fun q hq => by rw [ht]; exact hF.1 q hq⟩) hF.2 hd C0.2.2.2.2.2.1
theorem V_areturn {r : Int} {n : String} (hd : decode X.1 pc = .ok (.areturn, 1)) (hr : X.2.2.2.2.1 = some (.object n)) : V X pc ls [(2, r)] h (some (r, h)) := by
  intro r' h' ho
  cases ho
  refine ⟨⟨Int.le_refl _, Int.le_refl _⟩, ?_⟩
  intro l p e s m args below meth c D cy base h0 LS ST H locs C0 hg hL hS hH hF
  obtain ⟨v, _, rfl, hv, hS⟩ := hS
  have hS : _ = [] := hS
  subst hS
  have hv : v = rv base r := hv
  exact W.aret C0.1 C0.2.1 (by rw [C0.2.2.2.2.2.2.1]; exact hr) (Or.inl ⟨n, rfl⟩) (by
    rcases rv_cases base r with q | ⟨q, e⟩
    · rw [q] at hv; exact Or.inl hv
    · rw [e] at hv; exact Or.inr ⟨_, hv⟩) (fun t ht _ => ⟨by rw [hr]; exact ⟨_, rfl, hv⟩, by rw [ht]; exact hH, fun q hq => by rw [ht]; exact hF.1 q hq⟩) hF.2 hd C0.2.2.2.2.2.1
theorem V_return (hd : decode X.1 pc = .ok (.return_, 1)) (hr : X.2.2.2.2.1 = none) : V X pc ls [] h (some (0, h)) := by
  intro r' h' ho
  cases ho
  refine ⟨⟨Int.le_refl _, Int.le_refl _⟩, ?_⟩
  intro l p e s m args below meth c D cy base h0 LS ST H locs C0 hg hL hS hH hF
  have hS : _ = [] := hS
  subst hS
  exact W.vret C0.1 C0.2.1 (by rw [C0.2.2.2.2.2.2.1]; exact hr) (fun t ht _ => ⟨by rw [hr], by rw [ht]; exact hH, fun q hq => by rw [ht]; exact hF.1 q hq⟩) hF.2 hd C0.2.2.2.2.2.1
theorem V_objinit {a : Int} {idx : Nat} {κ : Nat} (hd : decode X.1 pc = .ok (.invokespecial idx, 3)) (hl : Cond.methodLink X.2.1 idx Lib.objectInit ∈ lwg) (hi : Cond.instanceMethod Lib.objectInit ∈ lwg) (hc : Cond.code Lib.objectInit ⟨#[0xb1]⟩ 1 none ∈ lwg) (hR : 1 ≤ X.2.2.2.2.2.1 ∧ wd st + 12 ≤ X.2.2.2.2.2.2)
    (k : V X (pc + 3) ls st h o) : V X pc ls ((2, a) :: st) h (if vo h a κ then o else none) := by
  split
  rotate_left
  · exact V_none
  rename_i hv
  refine V_step (fun r h' kk => ?_) k
  intro l p e s m args below meth c D cy base h0 LS ST H locs C0 hg hL hS hH hF
  obtain ⟨v, _, rfl, hva, hS⟩ := hS
  have hva : _ = rv base a := hva
  rw [rv_ref (by have := hv.1; omega)] at hva
  subst hva
  have hts := C0.2.2.2.2.1
  refine W.objInit C0.1 C0.2.1 C0.2.2.2.1 (hts _ hl) (hts _ hi) (hts _ hc) rfl (by rw [C0.2.2.1]; exact hL.1) rfl hd hR.1 ?_ (kk l p e s m args below meth c D cy base h0 LS _ H locs C0 hg hL hS hH hF)
  rw [SR_wd hS]
  show 2 * 0 + wd st + 12 ≤ X.2.2.2.2.2.2
  have := hR.2
  omega
/-- a method out of its walk from its entry -/
def ag : Nat → List (Nat × Int) → List (Nat × Nat × Int)
  | _, [] => []
  | i, q :: l => (i, q.1, q.2) :: ag (if q.1 == 1 then i + 2 else i + 1) l
theorem lv_ag {base : Bs} : ∀ {as : List (Nat × Int)} {AV : List Value} (i : Nat), SR base as AV → ∀ q ∈ ag i as, ∃ v, vr base q.2.1 q.2.2 v ∧ (q.1, v) ∈ lv_args i AV
  | [], AV, i, h, q, hq => by cases hq
  | a :: as, AV, i, h, q, hq => by
    obtain ⟨v, vs, rfl, hv, h⟩ := h
    rcases List.mem_cons.mp hq with rfl | hq
    · exact ⟨v, hv, List.mem_cons_self⟩
    · have hc := vr_cat hv
      obtain ⟨w, hw, hm⟩ := lv_ag _ h q hq
      refine ⟨w, hw, List.mem_cons_of_mem _ ?_⟩
      rcases lv_cat v with e | e
      · rw [e] at hc ⊢
        rw [← hc] at hm
        exact hm
      · rw [e] at hc ⊢
        rw [← hc] at hm
        exact hm
theorem lg_wd (vs : List Value) : (lg_sl vs).length = (vs.map fun v => v.category).sum := by
  induction vs with
  | nil => rfl
  | cons v l ih =>
    rw [show lg_sl (v :: l) = (if v.category = 2 then [.val v, .second] else [.val v]) ++ lg_sl l from rfl, List.length_append, ih, List.map_cons, List.sum_cons]
    rcases lv_cat v with e | e <;> rw [e] <;> rfl
theorem Sp_of {y : MethodName} {as : List (Nat × Int)} {bytes : ByteArray} {own mn : String} {nL fr lo : Nat} {ret : Option FieldType} (hpl : plainName y.cls = true) (ho : y.cls = own) (hn : y.name = mn) (hwd : wd as ≤ nL)
    (k : V (bytes, own, mn, nL, ret, fr, lo) 0 (ag 0 as) [] h o) : Sp y bytes nL ret fr lo as h o := by
  intro r h' hoo
  obtain ⟨hm, kk⟩ := k r h' hoo
  refine ⟨hm, fun l D cy base AV hA => ?_⟩
  refine Met.ofW (cc := bytes) (maxL := nL) (ret := ret) hpl rfl ?_
  intro p e s m args below meth c s₁ B hml hv
  obtain ⟨rfl, hK, hH⟩ := hv
  have hts := atoms_spec (ws := Cond.code y bytes nL ret :: lwg) B.pre
  have hown : s.vm.findClass own = some m.cls := ho ▸ findClass_of_methodNamed B.named
  have hin : meth.name = mn := hn ▸ (name_of_methodNamed B.named B.method).1
  have hl := lv_entry AV (n := nL) (by rw [lg_wd, SR_wd hA]; exact hwd)
  rw [lg_entry_eq]
  have hLR : LR base nL (ag 0 as) ((lg_sl AV ++ List.replicate (nL - (lg_sl AV).length) Slot.unset).toArray) := ⟨hl.1, hl.2.1, fun q hq => by
    obtain ⟨v, hv, hm⟩ := lv_ag 0 hA q hq
    exact ⟨v, hv, hl.2.2 _ hm⟩⟩
  have := kk l p e s m AV.toArray below meth c D cy base h _ [] s.heap [] ⟨B.exec, B.bytes, hml, hown, fun w hw => hts w (List.mem_cons_of_mem _ hw), B.notSynchronized, B.returns, hin, hK⟩ ⟨Int.le_refl _, Int.le_refl _⟩ hLR rfl hH ⟨fun _ _ => rfl, fun x hx => by cases hx⟩
  rw [Int.sub_self, Int.sub_self] at this
  exact this
end RETS
