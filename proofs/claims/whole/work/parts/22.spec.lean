/-! a stretch of ints copied; texts, statics and the script that are there from the start -/
def cpy (h : Hp) (a0 sp a1 dp n : Int) : Hp := (h.1, h.2.1, h.2.2.1, h.2.2.2.1, fun b j => if b = a1 ∧ dp ≤ j ∧ j < dp + n then h.2.2.2.2 a0 (sp + (j - dp)) else h.2.2.2.2 b j)
def acp (h : Hp) (a0 sp a1 dp n : Int) (f : Hp → Option (Int × Hp)) : Option (Int × Hp) := if vo h a0 0 ∧ vo h a1 0 ∧ 0 ≤ sp ∧ 0 ≤ dp ∧ 0 ≤ n ∧ sp + n ≤ hln h a0 ∧ dp + n ≤ hln h a1 then f (cpy h a0 sp a1 dp n) else none
theorem rd_cpy (h : Hp) (a0 sp a1 dp n b j : Int) : rd (cpy h a0 sp a1 dp n) b j = if b = a1 ∧ dp ≤ j ∧ j < dp + n then rd h a0 (sp + (j - dp)) else rd h b j := rfl
theorem arrV_congr {cI : ClassId} {n : Nat} {g g' : Nat → Value} (h : ∀ j, j < n → g j = g' j) : arrV cI n g = arrV cI n g' := by
  unfold arrV
  congr 2
  funext j
  exact h j.val j.isLt
theorem ints_of {base : Bs} {n : Nat} {f : Int → Int} {g : Nat → Value} (h : ∀ j : Nat, j < n → vr base 0 (f j) (g j)) : ∃ k : Nat → Int32, (∀ j, j < n → g j = .int (k j)) ∧ ∀ j : Nat, j < n → (k j).toInt = f j := by
  refine ⟨fun j => match g j with | .int i => i | _ => 0, fun j hj => ?_, fun j hj => ?_⟩
  · obtain ⟨i, h1, -⟩ := h j hj
    simp only [h1]
  · obtain ⟨i, h1, h2⟩ := h j hj
    simp only [h1]
    exact h2
section SPEC
variable {X : MX} {pc : Nat} {ls : List (Nat × Nat × Int)} {st st0 : List (Nat × Int)} {h : Hp} {f : Int → Option (Int × Hp)} {fh : Hp → Option (Int × Hp)} {f2 : Int → Hp → Option (Int × Hp)} {o : Option (Int × Hp)}
set_option maxHeartbeats 4000000 in
theorem V_acp {a0 sp a1 dp n : Int} {idx : Nat} (hd : decode X.1 pc = .ok (.invokestatic idx, 3)) (hl : Cond.methodLink X.2.1 idx arraycopyName ∈ lwg) (hnat : Cond.native arraycopyName ∈ lwg) (hstt : Cond.static arraycopyName ∈ lwg) (hini : Cond.initialized "java/lang/System" ∈ lwg) (hR : 1 ≤ X.2.2.2.2.2.1 ∧ wd st + (nativeFrameWords "java/lang/System" "arraycopy" 5 + 11) ≤ X.2.2.2.2.2.2)
    (k : ∀ h2, V X (pc + 3) ls st h2 (fh h2)) : V X pc ls ((0, n) :: (0, dp) :: (2, a1) :: (0, sp) :: (2, a0) :: st) h (acp h a0 sp a1 dp n fh) := by
  unfold acp
  split
  rotate_left
  · exact V_none
  rename_i hv
  obtain ⟨hv0, hv1, hs0, hd0, hn0, hsn, hdn⟩ := hv
  intro r h' ho
  obtain ⟨hm, kk⟩ := k _ r h' ho
  refine ⟨hm, ?_⟩
  intro l p e s m args below meth c D cy base h0 LS ST H locs C0 hg hL hS hH hF
  obtain ⟨_, _, rfl, ⟨n', rfl, hn'⟩, _, _, rfl, ⟨dp', rfl, hdp'⟩, _, _, rfl, hva1, _, _, rfl, ⟨sp', rfl, hsp'⟩, _, rest, rfl, hva0, hS⟩ := hS
  have hva0 : _ = rv base a0 := hva0
  have hva1 : _ = rv base a1 := hva1
  rw [rv_ref (by have := hv0.1; omega)] at hva0
  rw [rv_ref (by have := hv1.1; omega)] at hva1
  subst hva0; subst hva1
  have hts := C0.2.2.2.2.1
  obtain ⟨z0, z1, g0, hc0, hg0⟩ := HR_arr hH hv0 (by decide)
  obtain ⟨y0, y1, g1, hc1, hg1⟩ := HR_arr hH hv1 (by decide)
  obtain ⟨k0, hk0, hk0'⟩ := ints_of hg0
  obtain ⟨k1, hk1, hk1'⟩ := ints_of hg1
  rw [arrV_congr (g' := fun j => .int (k0 j)) hk0] at hc0
  rw [arrV_congr (g' := fun j => .int (k1 j)) hk1] at hc1
  obtain ⟨jn, en⟩ := r_ix hn' hn0
  obtain ⟨jd, ed⟩ := r_ix hdp' hd0
  obtain ⟨js, es⟩ := r_ix hsp' hs0
  obtain ⟨-, q0, hq0, cm0, hqq0⟩ := (KK_arr C0.2.2.2.2.2.2.2.2 (κ := 0) (by decide)).1 (hln h a0).toNat (fun j => .int (k0 j))
  obtain ⟨-, q1, hq1, cm1, hqq1⟩ := (KK_arr C0.2.2.2.2.2.2.2.2 (κ := 0) (by decide)).1 (hln h a1).toNat (fun j => .int (k1 j))
  intro T hT X0
  obtain ⟨vm', X', step⟩ := X0.arraycopy C0.1 C0.2.2.2.1 (hts _ hl) (hts _ hnat) (hts _ hstt) (hts _ hini) (src := base.1 + a0.toNat) (dst := base.1 + a1.toNat) (cs := arrV (cy 0) (hln h a0).toNat (fun j => .int (k0 j))) (cd := arrV (cy 0) (hln h a1).toNat (fun j => .int (k1 j))) (srcPos := sp') (destPos := dp') (n := n') (by rw [hT]; exact hc0) (by rw [hT]; exact hc1)
    (fun _ h => by cases h) (fun _ h => by cases h) (fun h => by cases h) (fun h => by cases h) hq0 hq1 hqq0 hqq1 (by simp [ety, refKind]) js jd jn
    (by rw [arrV_size, hsp', hn']; omega) (by rw [arrV_size, hdp', hn']; omega)
    (fun vm₁ _ i hi => by
      have e : (arrV (cy 0) (hln h a0).toNat (fun j => Value.int (k0 j))).slots.getD (sp'.toNatClampNeg + i) .null = .int (k0 (sp'.toNatClampNeg + i)) := by
        rw [Array.getD_eq_getD_getElem?, arrV_read _ _ (by omega)]
        rfl
      refine ⟨?_, ?_⟩
      · rw [e]; rfl
      · rw [e]; exact trivial)
    (g := F0 m pc LS (.int n' :: .int dp' :: .ref (base.1 + a1.toNat) :: .int sp' :: .ref (base.1 + a0.toNat) :: rest)) rfl (by rw [C0.2.2.1]; exact hL.1) (rest := rest) rfl (by rw [C0.2.1]; exact hd) hR.1 (by show 2 * 0 + _ + _ ≤ X.2.2.2.2.2.2; rw [SR_wd hS]; have := hR.2; omega)
  have e1 : copied (arrV (cy 0) (hln h a0).toNat (fun j => Value.int (k0 j))) (arrV (cy 0) (hln h a1).toNat (fun j => Value.int (k1 j))) sp' dp' n' = arrV (cy 0) (hln h a1).toNat (fun j => .int (va_cpy k0 k1 sp'.toNatClampNeg dp'.toNatClampNeg n'.toNatClampNeg j)) := va_copied (fun z => .int z) (cy 0) (cy 0) k0 k1 (by omega)
  rw [e1] at X' step
  have hl : base.1 + a1.toNat < H.size := (Array.getElem?_eq_some_iff.mp hc1).1
  generalize hZ : arrV (cy 0) (hln h a1).toNat (fun j => Value.int (va_cpy k0 k1 sp'.toNatClampNeg dp'.toNatClampNeg n'.toNatClampNeg j)) = Z at X' step
  have hheap : ((T.setVm vm').setCell (base.1 + a1.toNat) Z).heap = H.setIfInBounds (base.1 + a1.toNat) Z := by rw [← hT]; rfl
  have oq : ∀ q : Nat, q ≠ base.1 + a1.toNat → (H.setIfInBounds (base.1 + a1.toNat) Z)[q]? = H[q]? := fun q hq => by simp [Array.getElem?_setIfInBounds, Ne.symm hq]
  have oz : (H.setIfInBounds (base.1 + a1.toNat) Z)[base.1 + a1.toNat]? = some Z := by simp [Array.getElem?_setIfInBounds, hl]
  have hr1 : ∀ b, b ≠ a1 → rd (cpy h a0 sp a1 dp n) b = rd h b := fun b hb => by funext j; rw [rd_cpy, if_neg (fun q => hb q.1)]
  obtain ⟨t, a2, b2⟩ := kk l p e s m args below meth c D cy base h0 LS rest (H.setIfInBounds (base.1 + a1.toNat) Z) _ C0 hg hL hS ⟨by rw [Array.size_setIfInBounds]; exact hH.1, hH.2.1, fun b hb1 hb2 => by
      by_cases hb : b = a1
      · subst hb
        refine Or.inl ⟨by rw [show hkd (cpy h a0 sp b dp n) b = hkd h b from rfl, hv1.2.2]; decide, y0, y1, _, by rw [show hkd (cpy h a0 sp b dp n) b = hkd h b from rfl, hv1.2.2, oz, ← hZ]; rfl, fun j hj => ?_⟩
        rw [show hkd (cpy h a0 sp b dp n) b = hkd h b from rfl, hv1.2.2, rd_cpy]
        have hj : j < (hln h b).toNat := hj
        unfold va_cpy
        by_cases hin : dp'.toNatClampNeg ≤ j ∧ j < dp'.toNatClampNeg + n'.toNatClampNeg
        · rw [if_pos hin, if_pos ⟨rfl, by omega, by omega⟩]
          refine ⟨_, rfl, ?_⟩
          rw [hk0' _ (by omega)]
          congr 1
          omega
        · rw [if_neg hin, if_neg (fun q => hin ⟨by omega, by omega⟩)]
          exact ⟨_, rfl, hk1' j hj⟩
      · rw [hr1 b hb]
        exact CA_kept (hH.2.2.1 b hb1 hb2) (oq _ (by have := hv1.1; omega)), SCR_kept hH.2.2.2.1 rfl (hr1 _ (by have := hv1.1; omega)) (fun b hb => oq b (by have := hH.2.2.2.2 b hb; have := hv1.1; omega)), hH.2.2.2.2⟩ ⟨fun q hq => by rw [oq q (by have := hv1.1; omega)]; exact hF.1 q hq, fun x hx => by
      rcases List.mem_append.mp hx with hx | hx
      · exact hF.2 x hx
      · obtain ⟨z, -, hz⟩ := List.mem_map.mp hx
        rw [← hz]
        show base.1 < base.1 + a1.toNat
        have := hv1.1
        omega⟩ _ hheap X'
  exact ⟨t, step t a2, b2⟩
/-- the script -/
def xl (h : Hp) (a i : Int) (f : Int → Option (Int × Hp)) : Option (Int × Hp) := if a = -1 ∧ 0 ≤ i ∧ i < hln h (-1) then f (rd h (-1) i) else none
def xn (h : Hp) (a : Int) (f : Int → Option (Int × Hp)) : Option (Int × Hp) := if a = -1 then f (hln h (-1)) else none
theorem rv_sp {base : Bs} {i q : Nat} (hi : 0 < i) (h : base.2 i = some q) : rv base (-(i : Int)) = .ref q := by
  unfold rv
  rw [if_neg (by omega), if_neg (by omega), show (-(-(i : Int))).toNat = i by omega, h]
  rfl
theorem Q_xl {a i : Int} (hd : decode X.1 pc = .ok (.iaload, 1)) (k : ∀ v, V X (pc + 1) ls ((0, v) :: st) h (f v)) : V X pc ls ((0, i) :: (2, a) :: st) h (xl h a i f) := by
  unfold xl
  split
  rotate_left
  · exact V_none
  rename_i hv
  obtain ⟨rfl, hi0, hi1⟩ := hv
  refine V_step (fun r h' kk => ?_) (k _)
  intro l p e s m args below meth c D cy base h0 LS ST H locs C0 hg hL hS hH hF
  obtain ⟨_, _, rfl, ⟨j, rfl, rfl⟩, _, _, rfl, hva, hS⟩ := hS
  obtain ⟨⟨b, hb, hble, cell, hc1, hc2, hc3⟩, -⟩ := C0.2.2.2.2.2.2.2.2.2.2.2
  have hva : _ = rv base (-((1 : Nat) : Int)) := hva
  rw [rv_sp (by decide) hb] at hva
  subst hva
  obtain ⟨-, -, b', hb', cell', hc4, hc5, hc6⟩ := hH.2.2.2.1
  cases hb.symm.trans hb'
  have hcc : cell' = cell := by rw [hF.1 b hble, hc1] at hc4; exact (Option.some.inj hc4).symm
  subst hcc
  have hjn : j.toNatClampNeg = j.toInt.toNat := rfl
  obtain ⟨w, hw1, hw2⟩ := hc6 j.toNatClampNeg (by omega)
  refine W.iald C0.1 C0.2.1 hc4 hc2 hc3 ?_ hw1 rfl rfl hd (kk l p e s m args below meth c D cy base h0 LS _ H locs C0 hg hL (SR_i (by rw [hw2]; congr 1; omega) hS) hH hF)
  rw [hc5]
  rintro (q | q)
  · have := r_lt' (j := 0) q; rw [r_z] at this; omega
  · omega
theorem Q_xn {a : Int} (hd : decode X.1 pc = .ok (.arraylength, 1)) (k : ∀ v, V X (pc + 1) ls ((0, v) :: st) h (f v)) : V X pc ls ((2, a) :: st) h (xn h a f) := by
  unfold xn
  split
  rotate_left
  · exact V_none
  rename_i hv
  subst hv
  refine V_step (fun r h' kk => ?_) (k _)
  intro l p e s m args below meth c D cy base h0 LS ST H locs C0 hg hL hS hH hF
  obtain ⟨_, _, rfl, hva, hS⟩ := hS
  obtain ⟨⟨b, hb, hble, cell, hc1, hc2, hc3⟩, -⟩ := C0.2.2.2.2.2.2.2.2.2.2.2
  have hva : _ = rv base (-((1 : Nat) : Int)) := hva
  rw [rv_sp (by decide) hb] at hva
  subst hva
  obtain ⟨n0, n1, b', hb', cell', hc4, hc5, hc6⟩ := hH.2.2.2.1
  cases hb.symm.trans hb'
  have hcc : cell' = cell := by rw [hF.1 b hble, hc1] at hc4; exact (Option.some.inj hc4).symm
  subst hcc
  refine W.alen C0.1 C0.2.1 hc4 hc2 rfl rfl rfl hd (kk l p e s m args below meth c D cy base h0 LS _ H locs C0 hg hL (SR_i ?_ hS) hH hF)
  rw [hc5, show (hln h (-1)).toNat.toInt32 = Int32.ofNat (hln h (-1)).toNat from rfl, Int32.toInt_ofNat_of_lt (by omega)]
  omega
/-! texts: address -2, its bytes -3; -4, its bytes -5 -/
def gsv (a : Int) (f : Int → Option (Int × Hp)) : Option (Int × Hp) := if a = -2 then f (-3) else if a = -4 then f (-5) else none
def gsc (a : Int) (f : Int → Option (Int × Hp)) : Option (Int × Hp) := if a = -2 ∨ a = -4 then f 0 else none
def sln (a : Int) (f : Int → Option (Int × Hp)) : Option (Int × Hp) := if a = -3 then f byW.length else if a = -5 then f byS.length else none
def sal (a i : Int) (f : Int → Option (Int × Hp)) : Option (Int × Hp) := if a = -3 ∧ 0 ≤ i ∧ i < byW.length then f (byW.getD i.toNat 0).toInt else if a = -5 ∧ 0 ≤ i ∧ i < byS.length then f (byS.getD i.toNat 0).toInt else none
def ivs (b : Int) (o : Option (Int × Hp)) (f : Int → Hp → Option (Int × Hp)) : Option (Int × Hp) := if b = -2 ∨ b = -4 then cl o f else none
def rc (r : Int) (h : Hp) : Option (Int × Hp) := if 0 ≤ r ∧ r < 65536 then some (r, h) else none
def rb (r : Int) (h : Hp) : Option (Int × Hp) := if -128 ≤ r ∧ r < 128 then some (r, h) else none
theorem KX_str {base : Bs} {s : State} (h : KX base s) {b : Int} (hb : b = -2 ∨ b = -4) : ∃ i j idx tx bs, b = -((i : Nat) : Int) ∧ 0 < i ∧ j = i + 1 ∧ STR base s i j idx tx bs ∧ (b = -2 → idx = 35 ∧ tx = txW ∧ bs = byW) ∧ (b = -4 → idx = 97 ∧ tx = txS ∧ bs = byS) := by
  rcases hb with rfl | rfl
  · exact ⟨2, 3, 35, txW, byW, rfl, by decide, rfl, h.2.1, fun _ => ⟨rfl, rfl, rfl⟩, fun q => absurd q (by decide)⟩
  · exact ⟨4, 5, 97, txS, byS, rfl, by decide, rfl, h.2.2.1, fun q => absurd q (by decide), fun _ => ⟨rfl, rfl, rfl⟩⟩
theorem V_ldcS {b : Int} {idx : Nat} (hb : b = -2 ∧ idx = 35 ∨ b = -4 ∧ idx = 97) (hd : decode X.1 pc = .ok (.ldc idx, 2)) (hX : X.2.1 = "TideRakes$Reader") (k : V X (pc + 2) ls ((2, b) :: st) h o) : V X pc ls st h o := by
  refine V_step (fun r h' kk => ?_) k
  intro l p e s m args below meth c D cy base h0 LS ST H locs C0 hg hL hS hH hF
  have hown := C0.2.2.2.1
  rw [hX] at hown
  have hKX := C0.2.2.2.2.2.2.2.2.2.2.2
  rcases hb with ⟨rfl, rfl⟩ | ⟨rfl, rfl⟩
  · obtain ⟨a, v, h1, h2, h3, h4, h5, h6, h7⟩ := hKX.2.1
    exact va_ldcS C0.1 C0.2.1 hown h7 hd (kk l p e s m args below meth c D cy base h0 LS _ H locs C0 hg hL ⟨_, _, rfl, (rv_sp (i := 2) (by decide) h1).symm, hS⟩ hH hF)
  · obtain ⟨a, v, h1, h2, h3, h4, h5, h6, h7⟩ := hKX.2.2.1
    exact va_ldcS C0.1 C0.2.1 hown h7 hd (kk l p e s m args below meth c D cy base h0 LS _ H locs C0 hg hL ⟨_, _, rfl, (rv_sp (i := 4) (by decide) h1).symm, hS⟩ hH hF)
theorem V_sfld {b : Int} {idx t : Nat} {x : Int} {n d : String} (hd : decode X.1 pc = .ok (.getfield idx, 3)) (hw : Cond.fieldLink X.2.1 idx "java/lang/String" n d ∈ lwg) (hof : ∀ (base : Bs) (s : State), KX base s → ∃ (q : Nat) (v : Value), rv base b = .ref q ∧ va_OF "java/lang/String" n d v q (fun q => base.1 < q) s s.heap ∧ vr base t x v) (k : V X (pc + 3) ls ((t, x) :: st) h o) : V X pc ls ((2, b) :: st) h o := by
  refine V_step (fun r h' kk => ?_) k
  intro l p e s m args below meth c D cy base h0 LS ST H locs C0 hg hL hS hH hF
  obtain ⟨_, _, rfl, hva, hS⟩ := hS
  have hva : _ = rv base b := hva
  obtain ⟨q, v, e1, e2, e3⟩ := hof base s C0.2.2.2.2.2.2.2.2.2.2.2
  rw [e1] at hva
  subst hva
  obtain ⟨cf, k, fi, fd, cell, h1, h2, h3, h4, h5, h6⟩ := e2.kept (H1 := H) (fun a _ hn => hF.1 a (by omega))
  exact W.getf C0.1 C0.2.1 C0.2.2.2.1 (C0.2.2.2.2.1 _ hw) h1 h2 h3 h4 (v := v) h5 rfl rfl hd (kk l p e s m args below meth c D cy base h0 LS _ H locs C0 hg hL ⟨_, _, rfl, e3, hS⟩ hH hF)
theorem Q_gsv {a : Int} {idx : Nat} (hd : decode X.1 pc = .ok (.getfield idx, 3)) (hw : Cond.fieldLink X.2.1 idx "java/lang/String" "value" "[B" ∈ lwg) (k : ∀ v, V X (pc + 3) ls ((2, v) :: st) h (f v)) : V X pc ls ((2, a) :: st) h (gsv a f) := by
  unfold gsv
  split
  · rename_i e
    subst e
    exact V_sfld hd hw (fun base s hK => by
      obtain ⟨a, v, h1, h2, h3, h4, h5, h6, h7⟩ := hK.2.1
      exact ⟨a, .ref v, rv_sp (i := 2) (by decide) h1, h5, (rv_sp (i := 3) (by decide) h2).symm⟩) (k (-3))
  · split
    · rename_i e
      subst e
      exact V_sfld hd hw (fun base s hK => by
        obtain ⟨a, v, h1, h2, h3, h4, h5, h6, h7⟩ := hK.2.2.1
        exact ⟨a, .ref v, rv_sp (i := 4) (by decide) h1, h5, (rv_sp (i := 5) (by decide) h2).symm⟩) (k (-5))
    · exact V_none
theorem Q_gsc {a : Int} {idx : Nat} (hd : decode X.1 pc = .ok (.getfield idx, 3)) (hw : Cond.fieldLink X.2.1 idx "java/lang/String" "coder" "B" ∈ lwg) (k : ∀ v, V X (pc + 3) ls ((0, v) :: st) h (f v)) : V X pc ls ((2, a) :: st) h (gsc a f) := by
  unfold gsc
  split
  · rename_i e
    exact V_sfld hd hw (fun base s hK => by
      rcases e with rfl | rfl
      · obtain ⟨a, v, h1, h2, h3, h4, h5, h6, h7⟩ := hK.2.1
        exact ⟨a, .int 0, rv_sp (i := 2) (by decide) h1, h4, 0, rfl, rfl⟩
      · obtain ⟨a, v, h1, h2, h3, h4, h5, h6, h7⟩ := hK.2.2.1
        exact ⟨a, .int 0, rv_sp (i := 4) (by decide) h1, h4, 0, rfl, rfl⟩) (k 0)
  · exact V_none
theorem KX_byt {base : Bs} {s : State} (h : KX base s) : (∃ v, rv base (-3) = .ref v ∧ va_T .byte v byW.length (fun j => .int (byW.getD j 0)) (fun q => base.1 < q) s s.heap) ∧ ∃ v, rv base (-5) = .ref v ∧ va_T .byte v byS.length (fun j => .int (byS.getD j 0)) (fun q => base.1 < q) s s.heap := by
  constructor
  · obtain ⟨a, v, h1, h2, h3, h4, h5, h6, h7⟩ := h.2.1
    exact ⟨v, rv_sp (i := 3) (by decide) h2, h6⟩
  · obtain ⟨a, v, h1, h2, h3, h4, h5, h6, h7⟩ := h.2.2.1
    exact ⟨v, rv_sp (i := 5) (by decide) h2, h6⟩
theorem V_sln {b : Int} {bs : List Int32} (hl : bs.length < 1000) (hd : decode X.1 pc = .ok (.arraylength, 1)) (hof : ∀ (base : Bs) (s : State), KX base s → ∃ v, rv base b = .ref v ∧ va_T .byte v bs.length (fun j => .int (bs.getD j 0)) (fun q => base.1 < q) s s.heap) (k : V X (pc + 1) ls ((0, (bs.length : Int)) :: st) h o) : V X pc ls ((2, b) :: st) h o := by
  refine V_step (fun r h' kk => ?_) k
  intro l p e s m args below meth c D cy base h0 LS ST H locs C0 hg hL hS hH hF
  obtain ⟨_, _, rfl, hva, hS⟩ := hS
  have hva : _ = rv base b := hva
  obtain ⟨v, e1, e2⟩ := hof base s C0.2.2.2.2.2.2.2.2.2.2.2
  rw [e1] at hva
  subst hva
  obtain ⟨cell, h1, h2, h3, h4, h5, h6, h7⟩ := e2.kept (H1 := H) (fun a _ hn => hF.1 a (by omega))
  exact W.alen C0.1 C0.2.1 h1 h2 h5 rfl rfl hd (kk l p e s m args below meth c D cy base h0 LS _ H locs C0 hg hL (SR_i (Int32.toInt_ofNat_of_lt (by omega)) hS) hH hF)
theorem Q_sln {a : Int} (hd : decode X.1 pc = .ok (.arraylength, 1)) (k : ∀ v, V X (pc + 1) ls ((0, v) :: st) h (f v)) : V X pc ls ((2, a) :: st) h (sln a f) := by
  unfold sln
  split
  · rename_i e
    subst e
    exact V_sln (by decide) hd (fun base s hK => (KX_byt hK).1) (k _)
  · split
    · rename_i e
      subst e
      exact V_sln (by decide) hd (fun base s hK => (KX_byt hK).2) (k _)
    · exact V_none
theorem V_sal {b i : Int} {bs : List Int32} (hi : 0 ≤ i ∧ i < bs.length) (hd : decode X.1 pc = .ok (.baload, 1)) (hof : ∀ (base : Bs) (s : State), KX base s → ∃ v, rv base b = .ref v ∧ va_T .byte v bs.length (fun j => .int (bs.getD j 0)) (fun q => base.1 < q) s s.heap) (k : V X (pc + 1) ls ((0, (bs.getD i.toNat 0).toInt) :: st) h o) : V X pc ls ((0, i) :: (2, b) :: st) h o := by
  refine V_step (fun r h' kk => ?_) k
  intro l p e s m args below meth c D cy base h0 LS ST H locs C0 hg hL hS hH hF
  obtain ⟨_, _, rfl, ⟨j, rfl, rfl⟩, _, _, rfl, hva, hS⟩ := hS
  have hva : _ = rv base b := hva
  obtain ⟨v, e1, e2⟩ := hof base s C0.2.2.2.2.2.2.2.2.2.2.2
  rw [e1] at hva
  subst hva
  obtain ⟨cell, h1, h2, h3, h4, h5, h6, h7⟩ := e2.kept (H1 := H) (fun a _ hn => hF.1 a (by omega))
  have hjn : j.toNatClampNeg = j.toInt.toNat := rfl
  refine W.bald C0.1 C0.2.1 h1 h2 h3 ?_ (h6 j.toNatClampNeg (by omega)) rfl rfl hd (kk l p e s m args below meth c D cy base h0 LS _ H locs C0 hg hL (SR_i rfl hS) hH hF)
  rintro (q | q)
  · have := r_lt' (j := 0) q; rw [r_z] at this; omega
  · omega
theorem Q_sal {a i : Int} (hd : decode X.1 pc = .ok (.baload, 1)) (k : ∀ v, V X (pc + 1) ls ((0, v) :: st) h (f v)) : V X pc ls ((0, i) :: (2, a) :: st) h (sal a i f) := by
  unfold sal
  split
  · rename_i e
    obtain ⟨rfl, e⟩ := e
    exact V_sal e hd (fun base s hK => (KX_byt hK).1) (k _)
  · split
    · rename_i e
      obtain ⟨rfl, e⟩ := e
      exact V_sal e hd (fun base s hK => (KX_byt hK).2) (k _)
    · exact V_none
theorem V_gst {x : Int} {idx t : Nat} {C n d : String} (hd : decode X.1 pc = .ok (.getstatic idx, 3)) (hw : Cond.fieldLink X.2.1 idx C n d ∈ lwg) (hof : ∀ (base : Bs) (s : State), KX base s → ∃ v, va_Z C n d v (fun q => base.1 < q) s s.heap ∧ vr base t x v) (k : V X (pc + 3) ls ((t, x) :: st) h o) : V X pc ls st h o := by
  refine V_step (fun r h' kk => ?_) k
  intro l p e s m args below meth c D cy base h0 LS ST H locs C0 hg hL hS hH hF
  obtain ⟨v, e1, e2⟩ := hof base s C0.2.2.2.2.2.2.2.2.2.2.2
  obtain ⟨cf, kf, fi, fd, a, cell, h1, h2, h3, h4, h5, h6, h7, h8⟩ := e1
  exact W.gets C0.1 C0.2.1 C0.2.2.2.1 (C0.2.2.2.2.1 _ hw) h1 h2 h3 h4 (by rw [hF.1 a (by omega)]; exact h5) (fun e => by rw [e] at h6; cases h6) h7 rfl hd (kk l p e s m args below meth c D cy base h0 LS _ H locs C0 hg hL ⟨_, _, rfl, e2, hS⟩ hH hF)
theorem V_gscs {idx : Nat} (hd : decode X.1 pc = .ok (.getstatic idx, 3)) (hw : Cond.fieldLink X.2.1 idx "java/lang/String" "COMPACT_STRINGS" "Z" ∈ lwg) (k : V X (pc + 3) ls ((0, 1) :: st) h o) : V X pc ls st h o := V_gst (t := 0) (x := 1) hd hw (fun base s hK => ⟨.int 1, hK.2.2.2.1, 1, rfl, rfl⟩) k
theorem V_gssf {idx : Nat} (hd : decode X.1 pc = .ok (.getstatic idx, 3)) (hw : Cond.fieldLink X.2.1 idx "jdk/internal/util/Preconditions" "SIOOBE_FORMATTER" "Ljava/util/function/BiFunction;" ∈ lwg) (k : V X (pc + 3) ls ((2, -6) :: st) h o) : V X pc ls st h o := V_gst (t := 2) (x := -6) hd hw (fun base s hK => ⟨va_rf (base.2 6), hK.2.2.2.2, by show _ = rv base (-6); unfold rv; rw [if_neg (by omega), if_neg (by omega)]; rfl⟩) k
variable {oc : Option (Int × Hp)} {y : MethodName} {bytes : ByteArray} {maxL fr' lo' idx n κ : Nat} {ret : Option FieldType} {as : List (Nat × Int)}
def CEt (y : MethodName) (bytes : ByteArray) (maxL : Nat) (ret : Option FieldType) (n : Nat) : Prop := y.cls = "java/lang/String" ∧ Cond.code y bytes maxL ret ∈ lwg ∧ Cond.instanceMethod y ∈ lwg ∧ Cond.selects y.cls y y ∈ lwg ∧ Cond.initialized y.cls ∈ lwg ∧ (y.cls ≠ "java/lang/invoke/MethodHandle" ∧ y.cls ≠ "java/lang/invoke/VarHandle" ∧ (parseMethodDescriptor y.desc).map (fun d => d.parameters.length) = some n)
theorem Q_callt {b : Int} {as' : List (Nat × Int)} (hd : decode X.1 pc = .ok (.invokevirtual idx, 3)) (hSp : Sp y bytes maxL ret fr' lo' ((2, b) :: as') h oc) (hE : CEt y bytes maxL ret n) (hl : Cond.methodLink X.2.1 idx y ∈ lwg) (hn : as'.length = n) (hR : fr' + 1 ≤ X.2.2.2.2.2.1 ∧ 8 + (maxL + 11) + lo' ≤ X.2.2.2.2.2.2) (hst : as'.reverse ++ (2, b) :: st = st0) (hwd : wd st ≤ 8)
    (k : ∀ r1 h1, V X (pc + 3) ls (psh ret r1 st) h1 (f2 r1 h1)) : V X pc ls st0 h (ivs b oc f2) := by
  subst hst; subst hn
  unfold ivs
  split
  rotate_left
  · exact V_none
  rename_i hv
  rw [show as'.reverse ++ (2, b) :: st = ((2, b) :: as').reverse ++ st by simp]
  refine V_core hSp (fun {p l e R s m args below meth c H locs cells slots mc ms D cy base LS AV rest rm Qc free} C0 hq0 hH hA hLS hS e1 e2 e3 e4 e5 e6 hf hM => ?_) (fun r1 h1 _ => k r1 h1)
  obtain ⟨v, A, rfl, hvb, hA⟩ := hA
  have hvb : v = rv base b := hvb
  obtain ⟨i, j, ix, tx, bs, rfl, hi, rfl, ⟨a, w, h1, h2, h3, h4⟩, -⟩ := KX_str C0.2.2.2.2.2.2.2.2.2.2.2 hv
  rw [rv_sp hi h1] at hvb
  subst hvb
  obtain ⟨cell, q1, q2, q3, -⟩ := h3.kept (H1 := H) (fun a _ hn => hq0 a (by omega))
  refine va_runV (C := y.cls) (Ts := lwg) (own := X.2.1) (index := idx) (n := as'.length) ⟨C0.1, C0.2.1, C0.2.2.1, C0.2.2.2.1, C0.2.2.2.2.1⟩ hM (cwV as'.length C0.2.2.2.2.1 (fun w hw => ?_) rfl e1 e2 ⟨rfl, hE.2.2.2.2.2⟩ (by rw [e3, e4, e5, e6]; exact hR)) ⟨blind, ⟨cell, q1, q2, by rw [hE.1]; exact q3⟩, fun U hU hW => ⟨rfl, KK_moved hW (by rw [hU]; exact hq0) C0.2.2.2.2.2.2.2.2, by rw [hU]; exact hH⟩⟩ rfl (SR_len hA) hLS (by simp) (lv_room (by rw [SR_wd hS]; exact hwd)) hd hf
  unfold wsV at hw
  rcases List.mem_append.mp hw with hw | hw
  · simp only [List.mem_cons, List.not_mem_nil, or_false] at hw
    rcases hw with rfl | rfl | rfl | rfl
    · exact ⟨hl, lwg_good hl⟩
    · exact ⟨hE.2.2.1, lwg_good hE.2.2.1⟩
    · exact ⟨hE.2.2.2.1, lwg_good hE.2.2.2.1⟩
    · exact ⟨hE.2.2.2.2.1, lwg_good hE.2.2.2.2.1⟩
  · exact good_cd hE.2.1 w hw
theorem V_nreturn {r : Int} {ty : FieldType} (hd : decode X.1 pc = .ok (.ireturn, 1)) (hr : X.2.2.2.2.1 = some ty) (ht : rtag ty = 0) (hn : ∀ i : Int32, i.toInt = r → narrow ty (.int i) = .int i) : V X pc ls [(0, r)] h (some (r, h)) := by
  intro r' h' ho
  cases ho
  refine ⟨⟨Int.le_refl _, Int.le_refl _⟩, ?_⟩
  intro l p e s m args below meth c D cy base h0 LS ST H locs C0 hg hL hS hH hF
  obtain ⟨_, _, rfl, ⟨i, rfl, hi⟩, hS⟩ := hS
  have hS : _ = [] := hS
  subst hS
  exact W.zret C0.1 C0.2.1 (by rw [C0.2.2.2.2.2.2.1]; exact hr) (hn i hi) (fun t ht2 _ => ⟨by rw [hr]; exact ⟨_, rfl, by rw [ht]; exact ⟨i, rfl, hi⟩⟩, by rw [ht2]; exact hH, fun q hq => by rw [ht2]; exact hF.1 q hq⟩) hF.2 hd C0.2.2.2.2.2.1
theorem V_creturn {r : Int} (hd : decode X.1 pc = .ok (.ireturn, 1)) (hr : X.2.2.2.2.1 = some .char) : V X pc ls [(0, r)] h (rc r h) := by
  unfold rc
  split
  rotate_left
  · exact V_none
  rename_i hz
  refine V_nreturn hd hr rfl (fun i hi => ?_)
  have hi2 : i = nI r.toNat := Int32.toInt_inj.mp (by rw [nI_toInt (by omega)]; omega)
  rw [hi2]
  exact (pk_charN (by omega)).1
theorem V_breturn {r : Int} (hd : decode X.1 pc = .ok (.ireturn, 1)) (hr : X.2.2.2.2.1 = some .byte) : V X pc ls [(0, r)] h (if r = 0 ∨ r = 1 then some (r, h) else none) := by
  split
  rotate_left
  · exact V_none
  rename_i hz
  refine V_nreturn hd hr rfl (fun i hi => ?_)
  rcases hz with hz | hz
  · have : i = 0 := Int32.toInt_inj.mp (by rw [hi, hz]; rfl)
    subst this; rfl
  · have : i = 1 := Int32.toInt_inj.mp (by rw [hi, hz]; rfl)
    subst this; rfl
end SPEC
