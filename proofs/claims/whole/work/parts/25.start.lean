def R_law : String := "TideRakesLaw"
def lw_P (b : Addr) (xs : List Int32) (args : Array Value) (s : State) : Prop := args = #[.ref b] ∧ s.IntsAt b xs ∧ xs.length ≤ 3072 ∧ (Jvm.Cond.and given_1 narrow_1).before args s = true
def lw_Q (_ : Array Value) (s : State) (o : Outcome) (t : State) : Prop := o = .returned (some (.int 1)) ∧ Framed s o t [] 600000 7302250
def lw_Z (below : List Frame) (a : Array Value) (s : State) : State → Prop := fun t => ∃ o, t.status = .running ∧ Ended t below o ∧ lw_Q a s o t
/-- the law's own end, with 1 on the stack, nothing written that was there before, its room as the claim has it -/
theorem lw_ret {p : Program} {l : Launch} {e : Env} {s : State} {m : MethodId} {below : List Frame} {meth : Method} {c : Code} {b : Nat} (hx : p.tables.exec = Jvm.exec) (hb : c.code = code) (hr : meth.sig.returnType = ret) (hlocks : meth.locks = false) {pc : Nat} {H : Heap} {ls : Array Slot} (hdg : decode code pc = .ok (.ireturn, 1)) : W p l e room_1 s m #[Value.ref b] below meth c H [] 600000 7302250 (lw_Z below #[Value.ref b] s) (F0 m pc ls [.int 1]) := by
  intro T hT X
  obtain ⟨fs, hret, hrun, hended, hW, hframe⟩ := X.leave (v := some (.int 1)) (hlocks := hlocks) (fun h => by rw [hr] at h; cases h)
  have hmeth' : T.vm.method? m = some meth := X.method'
  refine ⟨T.setFrames fs, ?_, .returned (some (.int 1)), hrun, hended, rfl, ⟨_, rfl⟩, hW, hframe⟩
  jvm_step X.here [X.here.top, hx, hb, hdg, hmeth', hr, ret, narrow_b1]
  (try refine ⟨rfl, ?_⟩); (try refine ⟨rfl, ?_⟩)
  first | (intro acts; rw [hret _ acts rfl rfl rfl]) | rw [hret _ _ rfl rfl rfl]
  exact Steps.refl _
/-- what holds at the law's entry: the machine, the code, the tables' words (any of lw_tbl by 'hts w (by decide +kernel)'), the script of L ints xs at the cell b, what the Statement gives of the start (any of its parts by flat_of_before) -/
def lw_At (p : Program) (s : State) (m : MethodId) (meth : Method) (c : Code) (b L : Nat) (xs : Nat → Int32) : Prop :=
  p.tables.exec = Jvm.exec ∧ c.code = code ∧ meth.sig.returnType = ret ∧ c.maxLocals = 4 ∧ s.vm.findClass R_law = some m.cls ∧ (∀ w ∈ lw_tbl, w.before #[Value.ref b] s = true) ∧ va_X b L xs s s.heap ∧ b < s.heap.size ∧ meth.locks = false ∧ (Jvm.Cond.and given_1 narrow_1).before #[Value.ref b] s = true

def hini (L : Nat) (xs : Nat → Int32) : Hp := (1, 0, fun _ => 0, fun a => if a = -1 then (L : Int) else 0, fun a j => if a = -1 then (xs j.toNat).toInt else 0)
theorem lt_in {w : Cond} (h : w ∈ tables_1) : w ∈ lw_tbl := List.mem_append_right _ h
theorem tl1 {w : Cond} (j : Nat) (h : tables_1_1[j]? = some w) : w ∈ lw_tbl := lt_in (show w ∈ tables_1 from List.mem_append_left _ (List.mem_of_getElem? h))
theorem tl2 {w : Cond} (j : Nat) (h : tables_1_2[j]? = some w) : w ∈ lw_tbl := lt_in (show w ∈ tables_1 from List.mem_append_right _ (List.mem_append_left _ (List.mem_of_getElem? h)))
theorem tl3 {w : Cond} (j : Nat) (h : tables_1_3[j]? = some w) : w ∈ lw_tbl := lt_in (show w ∈ tables_1 from List.mem_append_right _ (List.mem_append_right _ (List.mem_append_left _ (List.mem_of_getElem? h))))
theorem tl4 {w : Cond} (j : Nat) (h : tables_1_4[j]? = some w) : w ∈ lw_tbl := lt_in (show w ∈ tables_1 from List.mem_append_right _ (List.mem_append_right _ (List.mem_append_right _ (List.mem_append_left _ (List.mem_of_getElem? h)))))
theorem tl5 {w : Cond} (j : Nat) (h : tables_1_5[j]? = some w) : w ∈ lw_tbl := lt_in (show w ∈ tables_1 from List.mem_append_right _ (List.mem_append_right _ (List.mem_append_right _ (List.mem_append_right _ (List.mem_append_left _ (List.mem_of_getElem? h))))))
theorem tl6 {w : Cond} (j : Nat) (h : tables_1_6[j]? = some w) : w ∈ lw_tbl := lt_in (show w ∈ tables_1 from List.mem_append_right _ (List.mem_append_right _ (List.mem_append_right _ (List.mem_append_right _ (List.mem_append_right _ (List.mem_append_left _ (List.mem_of_getElem? h)))))))
theorem tl7 {w : Cond} (j : Nat) (h : tables_1_7[j]? = some w) : w ∈ lw_tbl := lt_in (show w ∈ tables_1 from List.mem_append_right _ (List.mem_append_right _ (List.mem_append_right _ (List.mem_append_right _ (List.mem_append_right _ (List.mem_append_right _ (List.mem_append_left _ (List.mem_of_getElem? h))))))))
theorem tl8 {w : Cond} (j : Nat) (h : tables_1_8[j]? = some w) : w ∈ lw_tbl := lt_in (show w ∈ tables_1 from List.mem_append_right _ (List.mem_append_right _ (List.mem_append_right _ (List.mem_append_right _ (List.mem_append_right _ (List.mem_append_right _ (List.mem_append_right _ (List.mem_append_left _ (List.mem_of_getElem? h)))))))))
theorem tl9 {w : Cond} (j : Nat) (h : tables_1_9[j]? = some w) : w ∈ lw_tbl := lt_in (show w ∈ tables_1 from List.mem_append_right _ (List.mem_append_right _ (List.mem_append_right _ (List.mem_append_right _ (List.mem_append_right _ (List.mem_append_right _ (List.mem_append_right _ (List.mem_append_right _ ((List.mem_of_getElem? h))))))))))
theorem st_arr {args : Array Value} {s : State} {ty : FieldType} (h : (Cond.arrayClass ty).before args s = true) (hr : ∀ cA, s.vm.findClass ("[" ++ ty.toString) = some cA → va_RA s cA ty) : ∃ cA, ArrOfT s cA ty ∧ va_RA s cA ty := by
  obtain ⟨cA, kA, comp, h1, h2, h3⟩ := Cond.arrayClass_spec h
  exact ⟨cA, fun n z => ⟨fun k h => (by cases h), kA, h2, comp, h3⟩, hr cA h1⟩
theorem st_arro {args : Array Value} {s : State} {C : String} (h : (Cond.arrayOver (.object C)).before args s = true) : ∃ cA, ArrOfT s cA (.object C) ∧ va_RA s cA (.object C) := by
  obtain ⟨comp, cA, kA, h1, -, h2, h3, h4⟩ := Cond.arrayOver_spec h
  exact ⟨cA, fun n z => ⟨fun k h => (by cases h), kA, h2, comp, h3⟩, kA, comp, h2, h3, h1, h4⟩
theorem st_K {args : Array Value} {s : State} (hts : ∀ w ∈ lw_tbl, w.before args s = true) : ∃ (D : va_G) (cy : Nat → ClassId), va_K D vwCl (tysL cy) s := by
  have htg : ∀ w ∈ lwg, w.before args s = true := fun w hw => hts w (lwg_of hw)
  obtain ⟨c0, i0, k0⟩ := u_known (C := RX0) (T := TX0) (N := 5) (n := 5) htg cls_0.2.1 (htg _ cls_0.2.2.2.2.1)
  obtain ⟨c1, i1, k1⟩ := u_known (C := RX1) (T := TX1) (N := 3) (n := 3) htg cls_1.2.1 (htg _ cls_1.2.2.2.2.1)
  obtain ⟨c2, i2, k2⟩ := u_known (C := RX2) (T := TX2) (N := 10) (n := 10) htg cls_2.2.1 (htg _ cls_2.2.2.2.2.1)
  obtain ⟨c3, i3, k3⟩ := u_known (C := RX3) (T := TX3) (N := 12) (n := 12) htg cls_3.2.1 (htg _ cls_3.2.2.2.2.1)
  obtain ⟨c4, i4, k4⟩ := u_known (C := RX4) (T := TX4) (N := 7) (n := 7) htg cls_4.2.1 (htg _ cls_4.2.2.2.2.1)
  obtain ⟨c5, i5, k5⟩ := u_known (C := RX5) (T := TX5) (N := 6) (n := 6) htg cls_5.2.1 (htg _ cls_5.2.2.2.2.1)
  obtain ⟨c6, i6, k6⟩ := u_known (C := RX6) (T := TX6) (N := 15) (n := 15) htg cls_6.2.1 (htg _ cls_6.2.2.2.2.1)
  obtain ⟨c7, i7, k7⟩ := u_known (C := RX7) (T := TX7) (N := 7) (n := 7) htg cls_7.2.1 (htg _ cls_7.2.2.2.2.1)
  obtain ⟨c8, i8, k8⟩ := u_known (C := RX8) (T := TX8) (N := 9) (n := 9) htg cls_8.2.1 (htg _ cls_8.2.2.2.2.1)
  obtain ⟨c9, i9, k9⟩ := u_known (C := RX9) (T := TX9) (N := 5) (n := 5) htg cls_9.2.1 (htg _ cls_9.2.2.2.2.1)
  obtain ⟨c10, i10, k10⟩ := u_known (C := RX10) (T := TX10) (N := 5) (n := 5) htg cls_10.2.1 (htg _ cls_10.2.2.2.2.1)
  obtain ⟨c11, i11, k11⟩ := u_known (C := RX11) (T := TX11) (N := 14) (n := 14) htg cls_11.2.1 (htg _ cls_11.2.2.2.2.1)
  obtain ⟨c12, i12, k12⟩ := u_known (C := RX12) (T := TX12) (N := 86) (n := 86) htg cls_12.2.1 (htg _ cls_12.2.2.2.2.1)
  obtain ⟨a0, b0⟩ := st_arr (ty := .int) (hts _ (tl1 67 rfl)) (fun _ h => h)
  obtain ⟨a1, b1⟩ := st_arr (ty := .byte) (hts _ (tl1 65 rfl)) (fun _ h => h)
  obtain ⟨a2, b2⟩ := st_arr (ty := .boolean) (hts _ (tl2 133 rfl)) (fun _ h => h)
  obtain ⟨a3, b3⟩ := st_arr (ty := .long) (hts _ (tl1 66 rfl)) (fun _ h => h)
  obtain ⟨a4, b4⟩ := st_arro (C := "TideRakes$Rows") (hts _ (tl2 204 rfl))
  obtain ⟨a5, b5⟩ := st_arro (C := "TideRakes$Sand") (hts _ (tl2 18 rfl))
  obtain ⟨a6, b6⟩ := st_arro (C := "TideRakes$Stand") (hts _ (tl2 196 rfl))
  obtain ⟨a7, b7⟩ := st_arro (C := "TideRakes$Walker") (hts _ (tl2 97 rfl))
  refine ⟨(fun k => if k = 0 then c0 else if k = 1 then c1 else if k = 2 then c2 else if k = 3 then c3 else if k = 4 then c4 else if k = 5 then c5 else if k = 6 then c6 else if k = 7 then c7 else if k = 8 then c8 else if k = 9 then c9 else if k = 10 then c10 else if k = 11 then c11 else c12, fun k => if k = 0 then i0 else if k = 1 then i1 else if k = 2 then i2 else if k = 3 then i3 else if k = 4 then i4 else if k = 5 then i5 else if k = 6 then i6 else if k = 7 then i7 else if k = 8 then i8 else if k = 9 then i9 else if k = 10 then i10 else if k = 11 then i11 else i12), fun k => if k = 0 then a0 else if k = 1 then a1 else if k = 2 then a2 else if k = 3 then a3 else if k = 4 then a4 else if k = 5 then a5 else if k = 6 then a6 else a7, fun c q hq => ?_, fun k q hq => ?_⟩
  · match c, hq with
    | 0, hq => cases hq; exact k0
    | 1, hq => cases hq; exact k1
    | 2, hq => cases hq; exact k2
    | 3, hq => cases hq; exact k3
    | 4, hq => cases hq; exact k4
    | 5, hq => cases hq; exact k5
    | 6, hq => cases hq; exact k6
    | 7, hq => cases hq; exact k7
    | 8, hq => cases hq; exact k8
    | 9, hq => cases hq; exact k9
    | 10, hq => cases hq; exact k10
    | 11, hq => cases hq; exact k11
    | 12, hq => cases hq; exact k12
    | k + 13, hq => simp [vwCl] at hq
  · match k, hq with
    | 0, hq => cases hq; exact b0
    | 1, hq => cases hq; exact b1
    | 2, hq => cases hq; exact b2
    | 3, hq => cases hq; exact b3
    | 4, hq => cases hq; exact b4
    | 5, hq => cases hq; exact b5
    | 6, hq => cases hq; exact b6
    | 7, hq => cases hq; exact b7
    | k + 8, hq => simp [tysL] at hq
theorem st_nests {args : Array Value} {s : State} (hts : ∀ w ∈ lw_tbl, w.before args s = true) : ∀ q ∈ nests, va_Nw (.methodLinkNest q.1 q.2.1 q.2.2.1 q.2.2.2) s := by
  intro q hq
  simp only [nests, List.mem_cons, List.not_mem_nil, or_false] at hq
  rcases hq with rfl | rfl | rfl | rfl | rfl | rfl | rfl | rfl | rfl | rfl | rfl | rfl | rfl | rfl | rfl | rfl | rfl
  · exact va_Nw.of rfl (hts _ (tl1 39 rfl))
  · exact va_Nw.of rfl (hts _ (tl1 45 rfl))
  · exact va_Nw.of rfl (hts _ (tl2 16 rfl))
  · exact va_Nw.of rfl (hts _ (tl2 20 rfl))
  · exact va_Nw.of rfl (hts _ (tl2 99 rfl))
  · exact va_Nw.of rfl (hts _ (tl2 181 rfl))
  · exact va_Nw.of rfl (hts _ (tl2 206 rfl))
  · exact va_Nw.of rfl (hts _ (tl2 236 rfl))
  · exact va_Nw.of rfl (hts _ (tl2 238 rfl))
  · exact va_Nw.of rfl (hts _ (tl3 33 rfl))
  · exact va_Nw.of rfl (hts _ (tl3 132 rfl))
  · exact va_Nw.of rfl (hts _ (tl4 196 rfl))
  · exact va_Nw.of rfl (hts _ (tl4 197 rfl))
  · exact va_Nw.of rfl (hts _ (tl4 239 rfl))
  · exact va_Nw.of rfl (hts _ (tl5 66 rfl))
  · exact va_Nw.of rfl (hts _ (tl5 67 rfl))
  · exact va_Nw.of rfl (hts _ (tl5 208 rfl))
theorem st_overs {args : Array Value} {s : State} (hts : ∀ w ∈ lw_tbl, w.before args s = true) : ∀ C ∈ overs, va_AO C s := by
  intro q hq
  simp only [overs, List.mem_cons, List.not_mem_nil, or_false] at hq
  rcases hq with rfl | rfl | rfl | rfl
  · exact va_AO.of (hts _ (tl2 204 rfl))
  · exact va_AO.of (hts _ (tl2 18 rfl))
  · exact va_AO.of (hts _ (tl2 196 rfl))
  · exact va_AO.of (hts _ (tl2 97 rfl))
def tmS (i : Nat) : Term := .string "TideRakes$Reader" (if i = 0 then 35 else 97)
def lnS : List Nat := [82, 9]
def btS : List (List Int32) := [byW, byS]
theorem st_sw : ∀ i, i < 2 → (Cond.exactly (tmS i) "java/lang/String") ∈ flatC (Jvm.Cond.and given_1 narrow_1) ∧ (Cond.eq (.field (tmS i) "java/lang/String" "coder" "B") (.int 0)) ∈ flatC (Jvm.Cond.and given_1 narrow_1) ∧ (Cond.arrayOf (.field (tmS i) "java/lang/String" "value" "[B") .byte) ∈ flatC (Jvm.Cond.and given_1 narrow_1) ∧ (Cond.eq (.length (.field (tmS i) "java/lang/String" "value" "[B")) (.int (Int32.ofNat (lnS.getD i 0)))) ∈ flatC (Jvm.Cond.and given_1 narrow_1) := by decide +kernel
theorem st_se : ∀ i, i < 2 → ∀ j, j < lnS.getD i 0 → (Cond.eq (.elem (.field (tmS i) "java/lang/String" "value" "[B") (.int (Int32.ofNat j))) (.int ((btS.getD i []).getD j 0))) ∈ flatC (Jvm.Cond.and given_1 narrow_1) := by decide +kernel
theorem st_sn : (Cond.not (Cond.eq (tmS 0) (tmS 1))) ∈ flatC (Jvm.Cond.and given_1 narrow_1) ∨ (Cond.not (Cond.eq (tmS 1) (tmS 0))) ∈ flatC (Jvm.Cond.and given_1 narrow_1) := by decide +kernel
theorem st_cs : (Cond.eq (.static "java/lang/String" "COMPACT_STRINGS" "Z") (.int 1)) ∈ flatC (Jvm.Cond.and given_1 narrow_1) ∧ (Cond.isRef (.static "jdk/internal/util/Preconditions" "SIOOBE_FORMATTER" "Ljava/util/function/BiFunction;")) ∈ flatC (Jvm.Cond.and given_1 narrow_1) := by decide +kernel
theorem st_X {b L : Nat} {xs : Nat → Int32} {s : State} (hts : ∀ w ∈ lw_tbl, w.before #[Value.ref b] s = true) (hX : va_X b L xs s s.heap) (hb : b < s.heap.size) (hgv : (Jvm.Cond.and given_1 narrow_1).before #[Value.ref b] s = true) : ∃ base : Bs, base.1 + 1 = s.heap.size ∧ base.2 1 = some b ∧ KX base s := by
  have hw := flat_of_before _ hgv
  have hA : ∀ a : Nat, a < s.heap.size → ¬ (fun q : Nat => s.heap.size - 1 < q) a := fun a ha q => by have q : s.heap.size - 1 < a := q; omega
  obtain ⟨adK, adV, ⟨hS, -⟩, hev⟩ := vk_Sof (args := #[Value.ref b]) (s := s) (N := 2) (tm := tmS) (len := lnS) (byt := btS) (A := fun q : Nat => s.heap.size - 1 < q) (by decide) (fun i hi => hw _ (st_sw i hi).1) (fun i hi => hw _ (st_sw i hi).2.1) (fun i hi => hw _ (st_sw i hi).2.2.1) (fun i hi => hw _ (st_sw i hi).2.2.2) (fun i hi j hj => hw _ (st_se i hi j hj)) (fun i j hi hj hij => by
    rcases st_sn with q | q
    · rcases (show (i = 0 ∧ j = 1) ∨ (i = 1 ∧ j = 0) by omega) with ⟨rfl, rfl⟩ | ⟨rfl, rfl⟩
      · exact Or.inl (hw _ q)
      · exact Or.inr (hw _ q)
    · rcases (show (i = 0 ∧ j = 1) ∨ (i = 1 ∧ j = 0) by omega) with ⟨rfl, rfl⟩ | ⟨rfl, rfl⟩
      · exact Or.inr (hw _ q)
      · exact Or.inl (hw _ q)) hA
  obtain ⟨h1, h2, h3, h4⟩ := hS 0 (by decide)
  obtain ⟨g1, g2, g3, g4⟩ := hS 1 (by decide)
  have hz := va_Zof (A := fun q : Nat => s.heap.size - 1 < q) (hts _ (tl1 167 rfl)) (hts _ (tl1 5 rfl)) (va_eqt (hw _ st_cs.1)) hA
  have hq := va_Zqof (A := fun q : Nat => s.heap.size - 1 < q) (hts _ (tl1 183 rfl)) (hts _ (tl1 7 rfl)) (hw _ st_cs.2) hA
  obtain ⟨fm, hfm⟩ : ∃ fm : Option Nat, va_Z "jdk/internal/util/Preconditions" "SIOOBE_FORMATTER" "Ljava/util/function/BiFunction;" (va_rf fm) (fun q : Nat => s.heap.size - 1 < q) s s.heap := by
    rcases hq with q | ⟨t, q⟩
    · exact ⟨none, q⟩
    · exact ⟨some t, q⟩
  obtain ⟨scr, x1, x2, x3, -⟩ := hX
  refine ⟨(s.heap.size - 1, fun k => if k = 1 then some b else if k = 2 then some (adK 0) else if k = 3 then some (adV 0) else if k = 4 then some (adK 1) else if k = 5 then some (adV 1) else fm), by show s.heap.size - 1 + 1 = _; omega, rfl, ⟨b, rfl, by show b ≤ s.heap.size - 1; omega, scr, x1, x2, x3⟩, ⟨adK 0, adV 0, rfl, rfl, h1, h2, h3, h4, vk_R.of (hts _ (tl1 157 rfl)) (hev 0 (by decide))⟩, ⟨adK 1, adV 1, rfl, rfl, g1, g2, g3, g4, vk_R.of (hts _ (tl4 21 rfl)) (hev 1 (by decide))⟩, hz, hfm⟩
theorem room_less {s : State} {pl : Platform} {R R' : Room} (h : s.hasRoom pl R = true) (h1 : R'.frames ≤ R.frames) (h2 : R'.cells ≤ R.cells) (h3 : R'.slots ≤ R.slots) (h4 : R'.locals ≤ R.locals) : s.hasRoom pl R' = true := by
  simp only [State.hasRoom, Bool.and_eq_true, decide_eq_true_eq] at h ⊢
  obtain ⟨⟨⟨⟨a, b1, b2, b3, b4, b5⟩, c⟩, d⟩, e⟩ := h
  exact ⟨⟨⟨⟨by omega, by omega, by omega, by omega, by omega, b5⟩, by omega⟩, by omega⟩, e⟩
theorem start_of {p : Program} {e : Env} {s : State} {m : MethodId} {below : List Frame} {meth : Method} {c : Code} (l : Launch) {b L : Nat} {xs : Nat → Int32} (hL : L ≤ 3072) (C0 : lw_At p s m meth c b L xs) (hname : meth.name = "law") (hlaw : ∃ F h', Law_law F (-1) (hini L xs) = some (1, h') ∧ hsz h' ≤ 600001 ∧ hus h' ≤ 7302250) : W p l e room_1 s m #[Value.ref b] below meth c s.heap [] 0 0 (lw_Z below #[Value.ref b] s) (entryFrame m ([Value.ref b] : List Value).toArray 4) := by
  obtain ⟨hx, hb, hr, hml, hown, hts, hX, hbl, hlocks, hgv⟩ := id C0
  obtain ⟨F, h', hlw, hz1, hz2⟩ := hlaw
  obtain ⟨D, cy, hK⟩ := st_K hts
  obtain ⟨base, hb1, hb2, hKX⟩ := st_X hts hX hbl hgv
  obtain ⟨hm, VV⟩ := v_Law_law F (-1) (hini L xs) 1 h' hlw
  have hm1 : (1 : Int) ≤ hsz h' := hm.1
  have hm2 : (0 : Int) ≤ hus h' := hm.2
  have hl := lv_entry ([.ref b]) (n := 4) (Nat.le_of_ble_eq_true rfl)
  rw [lg_entry_eq]
  have hLR : LR base 4 [(0, 2, -1)] ((lg_sl [Value.ref b] ++ List.replicate (4 - (lg_sl [Value.ref b]).length) Slot.unset).toArray) := ⟨hl.1, hl.2.1, fun q hq => by
    rw [List.mem_singleton.mp hq]
    exact ⟨.ref b, (rv_sp (i := 1) (by decide) hb2).symm, hl.2.2 (0, .ref b) (by simp [lv_args])⟩⟩
  obtain ⟨scr, x1, x2, x3, x4, x5⟩ := hX
  have hHR : HR D cy base (hini L xs) s.heap := ⟨hb1.symm, Int.le_refl 1, fun a h1 h2 => by have h2 : a < 1 := h2; omega, ⟨by show (0 : Int) ≤ if (-1 : Int) = -1 then (L : Int) else 0; rw [if_pos rfl]; omega, by show (if (-1 : Int) = -1 then (L : Int) else 0) ≤ 1000000; rw [if_pos rfl]; omega, b, hb2, scr, x1, by show _ = (if (-1 : Int) = -1 then (L : Int) else 0).toNat; rw [if_pos rfl, x4]; omega, fun j hj => by
      have hj : j < (if (-1 : Int) = -1 then (L : Int) else 0).toNat := hj
      rw [if_pos rfl] at hj
      refine ⟨xs j, x5 j (by omega), ?_⟩
      show _ = if (-1 : Int) = -1 then (xs (j : Int).toNat).toInt else 0
      rw [if_pos rfl, Int.toNat_natCast]⟩, fun b' hb' => by cases hb2.symm.trans hb'; omega⟩
  have KKs : KK D cy base s := ⟨hK, st_nests hts, st_overs hts, hKX⟩
  have W0 := VV l p e s m #[Value.ref b] below meth c D cy base (hini L xs) _ [] s.heap [] ⟨hx, hb, hml, hown, fun w hw => hts w (lwg_of hw), hlocks, hr, hname, KKs⟩ ⟨Int.le_refl _, Int.le_refl _⟩ hLR rfl hHR ⟨fun _ _ => rfl, fun x hx => by cases hx⟩
  rw [Int.sub_self, Int.sub_self] at W0
  intro T hT X
  obtain ⟨t, st, o, q1, q2, ⟨⟨v, q3, q4⟩, q5, q6⟩, L', ⟨f1, f2, f3⟩, f4⟩ := W0 T hT { X with room := room_less X.room (Nat.le_of_ble_eq_true rfl) (by show (hsz h' - 1).toNat ≤ 600000; omega) (by show (hus h' - 0).toNat ≤ 7302250; omega) (Nat.le_of_ble_eq_true rfl) }
  obtain ⟨i, rfl, hi⟩ := q4
  have hi1 : i = 1 := Int32.toInt_inj.mp (by rw [hi]; rfl)
  subst hi1
  refine ⟨t, st, o, q1, q2, q3, f1, f2, f3.weaken (fun y hy hlt => absurd hlt (Nat.not_lt.mpr (by rw [← hb1]; exact f4 y hy))) (by show (hsz h' - 1).toNat ≤ 600000; omega) (by show (hus h' - 0).toNat ≤ 7302250; omega)⟩
