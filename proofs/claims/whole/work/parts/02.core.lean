/-- the tables' words that a contract may ask for -/
def lwg : List Cond := lw_tbl.filter goodWord
theorem lwg_in {w : Cond} (h : w ∈ lw_tbl) (hg : goodWord w = true) : w ∈ lwg := List.mem_filter.mpr ⟨h, hg⟩
theorem lwg_good {w : Cond} (h : w ∈ lwg) : (w.onTables && w.keeps) = true ∨ ∃ ty, w = .arrayClass ty := good_of_word (List.mem_filter.mp h).2
theorem lwg_of {w : Cond} (h : w ∈ lwg) : w ∈ lw_tbl := (List.mem_filter.mp h).1
/-- private methods of nest mates that are called from outside -/
def nests : List (String × Nat × MethodName × String) := [("TideRakes$Reader", 30, ⟨"TideRakes$Script", "<init>", "()V"⟩, "TideRakes"), ("TideRakes$Script", 35, ⟨"TideRakes$Laws", "<init>", "()V"⟩, "TideRakes"), ("TideRakes$Shore", 11, ⟨"TideRakes$Script", "<init>", "()V"⟩, "TideRakes"), ("TideRakes$Shore", 40, ⟨"TideRakes$Sand", "<init>", "()V"⟩, "TideRakes"), ("TideRakes$Stand", 40, ⟨"TideRakes$Walker", "<init>", "()V"⟩, "TideRakes"), ("TideRakes", 40, ⟨"TideRakes$Past", "<init>", "()V"⟩, "TideRakes"), ("TideRakes$Planner", 21, ⟨"TideRakes$Rows", "<init>", "()V"⟩, "TideRakes"), ("TideRakes$Planner", 28, ⟨"TideRakes$Walker", "<init>", "()V"⟩, "TideRakes"), ("TideRakes$Planner", 52, ⟨"TideRakes$Sand", "<init>", "()V"⟩, "TideRakes"), ("TideRakes", 62, ⟨"TideRakes$Told", "<init>", "()V"⟩, "TideRakes"), ("TideRakes$Script", 65, ⟨"TideRakes", "far", "(IIII)I"⟩, "TideRakes"), ("TideRakes$Walker", 40, ⟨"TideRakes", "far", "(IIII)I"⟩, "TideRakes"), ("TideRakes$Walker", 46, ⟨"TideRakes", "roundedUp", "(II)I"⟩, "TideRakes"), ("TideRakes$Stand", 106, ⟨"TideRakes", "roundedUp", "(II)I"⟩, "TideRakes"), ("TideRakes$Rows", 66, ⟨"TideRakes", "far", "(IIII)I"⟩, "TideRakes"), ("TideRakes$Rows", 73, ⟨"TideRakes", "roundedUp", "(II)I"⟩, "TideRakes"), ("TideRakes$Planner", 168, ⟨"TideRakes", "roundedUp", "(II)I"⟩, "TideRakes")]
/-- classes of which arrays are made -/
def overs : List String := ["TideRakes$Rows", "TideRakes$Sand", "TideRakes$Stand", "TideRakes$Walker"]
/-! the flat heap: next address, slots used, kinds, lengths, contents; address 0 is null -/
abbrev Hp : Type := Int × Int × (Int → Nat) × (Int → Int) × (Int → Int → Int)
def hsz (h : Hp) : Int := h.1
def hus (h : Hp) : Int := h.2.1
def hkd (h : Hp) : Int → Nat := h.2.2.1
def hln (h : Hp) : Int → Int := h.2.2.2.1
def rd (h : Hp) : Int → Int → Int := h.2.2.2.2
def wr (h : Hp) (a i v : Int) : Hp := (h.1, h.2.1, h.2.2.1, h.2.2.2.1, fun b j => if b = a ∧ j = i then v else h.2.2.2.2 b j)
def nw (h : Hp) (k : Nat) (n u : Int) : Hp := (h.1 + 1, h.2.1 + u, fun b => if b = h.1 then k else h.2.2.1 b, fun b => if b = h.1 then n else h.2.2.2.1 b, fun b j => if b = h.1 then 0 else h.2.2.2.2 b j)
def w32 (x : Int) : Int := x.bmod 4294967296
def w64 (x : Int) : Int := x.bmod 18446744073709551616
/-- where the new cells begin; old cells that are read: 1 the script, 2 to 5 the two texts and their bytes, 6 a static -/
abbrev Bs : Type := Nat × (Nat → Option Nat)
def rv (base : Bs) (x : Int) : Value := if 0 < x then .ref (base.1 + x.toNat) else if x = 0 then .null else va_rf (base.2 (-x).toNat)
/-- a value: tag 0 int, 1 long, 2 reference -/
def vr (base : Bs) (t : Nat) (x : Int) (v : Value) : Prop := match t with
  | 0 => ∃ i : Int32, v = .int i ∧ i.toInt = x
  | 1 => ∃ i : Int64, v = .long i ∧ i.toInt = x
  | _ => v = rv base x
def etag (κ : Nat) : Nat := if κ < 3 then 0 else if κ = 3 then 1 else 2
def ety (κ : Nat) : FieldType := match κ with
  | 0 => .int
  | 1 => .byte
  | 2 => .boolean
  | 3 => .long
  | 4 => .object "TideRakes$Rows"
  | 5 => .object "TideRakes$Sand"
  | 6 => .object "TideRakes$Stand"
  | _ => .object "TideRakes$Walker"
def ftag (r : vw_C) (k : Nat) : Nat := if (r.2.1 k).2.2.1 = "I" ∨ (r.2.1 k).2.2.1 = "Z" then 0 else 2
def rtag (ty : FieldType) : Nat := match ty with
  | .long => 1
  | .object _ => 2
  | .array _ => 2
  | _ => 0
abbrev tysL (cy : Nat → ClassId) : List (ClassId × FieldType) := (List.range 8).map (fun k => (cy k, ety k))
def txW : String := "part worker high tide sun slip dog holds peg seed if then else x y minute far off "
def txS : String := ";=+-*/<()"
def byW : List Int32 := [112, 97, 114, 116, 32, 119, 111, 114, 107, 101, 114, 32, 104, 105, 103, 104, 32, 116, 105, 100, 101, 32, 115, 117, 110, 32, 115, 108, 105, 112, 32, 100, 111, 103, 32, 104, 111, 108, 100, 115, 32, 112, 101, 103, 32, 115, 101, 101, 100, 32, 105, 102, 32, 116, 104, 101, 110, 32, 101, 108, 115, 101, 32, 120, 32, 121, 32, 109, 105, 110, 117, 116, 101, 32, 102, 97, 114, 32, 111, 102, 102, 32]
def byS : List Int32 := [59, 61, 43, 45, 42, 47, 60, 40, 41]
/-- a text that is there from the start -/
def STR (base : Bs) (s : State) (i j idx : Nat) (tx : String) (bs : List Int32) : Prop := ∃ a v, base.2 i = some a ∧ base.2 j = some v ∧ va_O "java/lang/String" a (fun q => base.1 < q) s s.heap ∧ va_OF "java/lang/String" "coder" "B" (.int 0) a (fun q => base.1 < q) s s.heap ∧ va_OF "java/lang/String" "value" "[B" (.ref v) a (fun q => base.1 < q) s s.heap ∧ va_T .byte v bs.length (fun j => .int (bs.getD j 0)) (fun q => base.1 < q) s s.heap ∧ vk_R "TideRakes$Reader" idx tx a s
/-- what is there from the start: the script, two texts, two statics -/
def KX (base : Bs) (s : State) : Prop := (∃ b, base.2 1 = some b ∧ b ≤ base.1 ∧ ∃ cell : Cell, s.heap[b]? = some cell ∧ s.isArrayOf cell .int ∧ cell.vm ≠ .unknown) ∧ STR base s 2 3 35 txW byW ∧ STR base s 4 5 97 txS byS ∧ va_Z "java/lang/String" "COMPACT_STRINGS" "Z" (.int 1) (fun q => base.1 < q) s s.heap ∧ va_Z "jdk/internal/util/Preconditions" "SIOOBE_FORMATTER" "Ljava/util/function/BiFunction;" (va_rf (base.2 6)) (fun q => base.1 < q) s s.heap
def KK (D : va_G) (cy : Nat → ClassId) (base : Bs) (s : State) : Prop := va_K D vwCl (tysL cy) s ∧ (∀ q ∈ nests, va_Nw (.methodLinkNest q.1 q.2.1 q.2.2.1 q.2.2.2) s) ∧ (∀ C ∈ overs, va_AO C s) ∧ KX base s
def CA (D : va_G) (cy : Nat → ClassId) (base : Bs) (κ : Nat) (n : Int) (f : Int → Int) (q : Nat) (H : Heap) : Prop :=
  (κ < 8 ∧ 0 ≤ n ∧ n ≤ 1000000 ∧ ∃ g : Nat → Value, H[q]? = some (arrV (cy κ) n.toNat g) ∧ ∀ j : Nat, j < n.toNat → vr base (etag κ) (f j) (g j)) ∨
  (100 ≤ κ ∧ ∃ r : vw_C, vwCl[κ - 100]? = some r ∧ ∃ U : Nat → Value, t_OB q (D.1 (κ - 100)) r.2.2 (D.2 (κ - 100)) H U ∧ ∀ k : Nat, k < r.2.2 → vr base (ftag r k) (f k) (U k))
/-- the script, as the heap tells it at address -1 -/
def SCR (base : Bs) (h : Hp) (H : Heap) : Prop := 0 ≤ hln h (-1) ∧ hln h (-1) ≤ 1000000 ∧ ∃ b, base.2 1 = some b ∧ ∃ cell : Cell, H[b]? = some cell ∧ cell.slots.size = (hln h (-1)).toNat ∧ ∀ j : Nat, j < (hln h (-1)).toNat → ∃ i : Int32, cell.slots[j]? = some (.int i) ∧ i.toInt = rd h (-1) j
def HR (D : va_G) (cy : Nat → ClassId) (base : Bs) (h : Hp) (H : Heap) : Prop :=
  H.size = base.1 + (hsz h).toNat ∧ 1 ≤ hsz h ∧ (∀ a : Int, 1 ≤ a → a < hsz h → CA D cy base (hkd h a) (hln h a) (rd h a) (base.1 + a.toNat) H) ∧ SCR base h H ∧ (∀ b, base.2 1 = some b → b ≤ base.1)
def SR (base : Bs) : List (Nat × Int) → List Value → Prop
  | [], vs => vs = []
  | q :: st, vs => ∃ v vs', vs = v :: vs' ∧ vr base q.1 q.2 v ∧ SR base st vs'
def LR (base : Bs) (nL : Nat) (ls : List (Nat × Nat × Int)) (LS : Array Slot) : Prop := LS.size = nL ∧ lv_wf LS ∧ ∀ q ∈ ls, ∃ v, vr base q.2.1 q.2.2 v ∧ LS[q.1]? = some (.val v)
def QC (D : va_G) (cy : Nat → ClassId) (base : Bs) (ret : Option FieldType) (r : Int) (h' : Hp) : Array Value → State → Outcome → State → Prop := fun _ st oc t =>
  (match ret with | none => oc = .returned none | some ty => ∃ v, oc = .returned (some v) ∧ vr base (rtag ty) r v) ∧ HR D cy base h' t.heap ∧ ∀ q : Nat, q ≤ base.1 → t.heap[q]? = st.heap[q]?
abbrev rmo (fr lo : Nat) (h0 h' : Hp) : Room := { frames := fr, cells := (hsz h' - hsz h0).toNat, slots := (hus h' - hus h0).toNat, locals := lo }
def MC (p : Program) (s : State) (m : MethodId) (args : Array Value) (meth : Method) (c : Code) (cc : ByteArray) (own mn : String) (nL : Nat) (ret : Option FieldType) (D : va_G) (cy : Nat → ClassId) (base : Bs) : Prop :=
  p.tables.exec = Jvm.exec ∧ c.code = cc ∧ c.maxLocals = nL ∧ s.vm.findClass own = some m.cls ∧ (∀ w ∈ lwg, w.before args s = true) ∧ meth.locks = false ∧ meth.sig.returnType = ret ∧ meth.name = mn ∧ KK D cy base s
/-- the method's fixed things: bytes, class, name, locals, answer, frames, words -/
abbrev MX : Type := ByteArray × String × String × Nat × Option FieldType × Nat × Nat
def VI (X : MX) (r : Int) (h' : Hp) (pc : Nat) (ls : List (Nat × Nat × Int)) (st : List (Nat × Int)) (h : Hp) : Prop :=
  ∀ (l : Launch) (p : Program) (e : Env) (s : State) (m : MethodId) (args : Array Value) (below : List Frame) (meth : Method) (c : Code) (D : va_G) (cy : Nat → ClassId) (base : Bs) (h0 : Hp) (LS : Array Slot) (ST : List Value) (H : Heap) (locs : List Loc),
    MC p s m args meth c X.1 X.2.1 X.2.2.1 X.2.2.2.1 X.2.2.2.2.1 D cy base → (hsz h0 ≤ hsz h ∧ hus h0 ≤ hus h) → LR base X.2.2.2.1 ls LS → SR base st ST → HR D cy base h H → (∀ q : Nat, q ≤ base.1 → H[q]? = s.heap[q]?) ∧ (∀ x ∈ locs, base.1 < x.base) →
    W p l e (rmo X.2.2.2.2.2.1 X.2.2.2.2.2.2 h0 h') s m args below meth c H locs (hsz h - hsz h0).toNat (hus h - hus h0).toNat (MQ below (QC D cy base X.2.2.2.2.1 r h') args s (hsz h' - hsz h0).toNat (hus h' - hus h0).toNat (fun q => base.1 < q)) (F0 m pc LS ST)
def V (X : MX) (pc : Nat) (ls : List (Nat × Nat × Int)) (st : List (Nat × Int)) (h : Hp) (o : Option (Int × Hp)) : Prop :=
  ∀ (r : Int) (h' : Hp), o = some (r, h') → (hsz h ≤ hsz h' ∧ hus h ≤ hus h') ∧ VI X r h' pc ls st h
def Sp (y : MethodName) (bytes : ByteArray) (maxL : Nat) (ret : Option FieldType) (fr lo : Nat) (as : List (Nat × Int)) (h : Hp) (o : Option (Int × Hp)) : Prop :=
  ∀ (r : Int) (h' : Hp), o = some (r, h') → (hsz h ≤ hsz h' ∧ hus h ≤ hus h') ∧ ∀ (l : Launch) (D : va_G) (cy : Nat → ClassId) (base : Bs) (AV : List Value), SR base as AV →
    Met l y (Cond.code y bytes maxL ret :: lwg) (rmo fr lo h h') (va_Pc AV (fun U => KK D cy base U ∧ HR D cy base h U.heap)) (QC D cy base ret r h') (hsz h' - hsz h).toNat (hus h' - hus h).toNat (fun q => base.1 < q)
theorem V_step {X : MX} {pc pc' : Nat} {ls ls' : List (Nat × Nat × Int)} {st st' : List (Nat × Int)} {h : Hp} {o : Option (Int × Hp)} (hs : ∀ r h', VI X r h' pc' ls' st' h → VI X r h' pc ls st h) (k : V X pc' ls' st' h o) : V X pc ls st h o :=
  fun r h' ho => ⟨(k r h' ho).1, hs r h' (k r h' ho).2⟩
theorem V_none {X : MX} {pc : Nat} {ls : List (Nat × Nat × Int)} {st : List (Nat × Int)} {h : Hp} : V X pc ls st h none := fun _ _ ho => by cases ho
/-- decode rows of a method, all at once -/
def DC (cc : ByteArray) (l : List (Nat × Instr × Nat)) : Prop := ∀ q ∈ l, decode cc q.1 = .ok (q.2.1, q.2.2)
theorem SR_cons {base : Bs} {q : Nat × Int} {st : List (Nat × Int)} {vs : List Value} (h : SR base (q :: st) vs) : ∃ v vs', vs = v :: vs' ∧ vr base q.1 q.2 v ∧ SR base st vs' := h
theorem SR_i {base : Bs} {x : Int} {i : Int32} {st : List (Nat × Int)} {vs : List Value} (h : i.toInt = x) (hs : SR base st vs) : SR base ((0, x) :: st) (.int i :: vs) := ⟨_, _, rfl, ⟨i, rfl, h⟩, hs⟩
theorem SR_l {base : Bs} {x : Int} {i : Int64} {st : List (Nat × Int)} {vs : List Value} (h : i.toInt = x) (hs : SR base st vs) : SR base ((1, x) :: st) (.long i :: vs) := ⟨_, _, rfl, ⟨i, rfl, h⟩, hs⟩
theorem V_iadd {X : MX} {pc : Nat} {ls : List (Nat × Nat × Int)} {st : List (Nat × Int)} {h : Hp} {o : Option (Int × Hp)} {x y : Int} (hd : decode X.1 pc = .ok (.iadd, 1)) (k : V X (pc + 1) ls ((0, w32 (x + y)) :: st) h o) : V X pc ls ((0, y) :: (0, x) :: st) h o := by
  refine V_step (fun r h' kk => ?_) k
  intro l p e s m args below meth c D cy base h0 LS ST H locs C hg hL hS hH hF
  obtain ⟨_, _, rfl, ⟨j, rfl, rfl⟩, _, _, rfl, ⟨i, rfl, rfl⟩, hS⟩ := hS
  exact lv_iadd C.1 C.2.1 hd (kk l p e s m args below meth c D cy base h0 LS _ H locs C hg hL (SR_i (Int32.toInt_add i j) hS) hH hF)
