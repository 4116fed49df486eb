/-! stores, makings, calls, returns -/
theorem rd_nw (h : Hp) (k : Nat) (n u b j : Int) : rd (nw h k n u) b j = if b = hsz h then 0 else rd h b j := rfl
theorem hkd_nw (h : Hp) (k : Nat) (n u b : Int) : hkd (nw h k n u) b = if b = hsz h then k else hkd h b := rfl
theorem hln_nw (h : Hp) (k : Nat) (n u b : Int) : hln (nw h k n u) b = if b = hsz h then n else hln h b := rfl
theorem hsz_nw (h : Hp) (k : Nat) (n u : Int) : hsz (nw h k n u) = hsz h + 1 := rfl
theorem hus_nw (h : Hp) (k : Nat) (n u : Int) : hus (nw h k n u) = hus h + u := rfl
theorem HR_new {D : va_G} {cy : Nat → ClassId} {base : Bs} {h : Hp} {H H' : Heap} {κ : Nat} {n u : Int} (hH : HR D cy base h H) (z : H'.size = H.size + 1) (oq : ∀ q, q < H.size → H'[q]? = H[q]?)
    (hc : CA D cy base κ n (fun _ => 0) (base.1 + (hsz h).toNat) H') : HR D cy base (nw h κ n u) H' := by
  have h1 := hH.1
  have h2 := hH.2.1
  refine ⟨by rw [z, h1, hsz_nw]; omega, by rw [hsz_nw]; omega, fun b hb1 hb2 => ?_, SCR_kept hH.2.2.2.1 (by rw [hln_nw, if_neg (by omega)]) (by funext j; rw [rd_nw, if_neg (by omega)]) (fun b hb => oq b (by have := hH.2.2.2.2 b hb; omega)), hH.2.2.2.2⟩
  by_cases hba : b = hsz h
  · subst hba
    rw [hkd_nw, hln_nw, if_pos rfl, if_pos rfl, show rd (nw h κ n u) (hsz h) = fun _ => 0 from by funext j; rw [rd_nw, if_pos rfl]]
    exact hc
  · rw [hkd_nw, hln_nw, if_neg hba, if_neg hba, show rd (nw h κ n u) b = rd h b from by funext j; rw [rd_nw, if_neg hba]]
    rw [hsz_nw] at hb2
    exact CA_kept (hH.2.2.1 b hb1 (by omega)) (oq _ (by omega))
section HEAPS
variable {X : MX} {pc : Nat} {ls : List (Nat × Nat × Int)} {st : List (Nat × Int)} {h : Hp} {f : Int → Option (Int × Hp)} {fh : Hp → Option (Int × Hp)}
theorem V_ast0 {a i x y : Int} {κ t : Nat} (hκ : κ < 8) (hv : vo h a κ ∧ 0 ≤ i ∧ i < hln h a) {o : Option (Int × Hp)}
    (row : ∀ {p : Program} {l : Launch} {e : Env} {R : Room} {s : State} {m : MethodId} {args : Array Value} {below : List Frame} {meth : Method} {c : Code} {H : Heap} {locs : List Loc} {cells slots : Nat} {Q : State → Prop} {D : va_G} {cy : Nat → ClassId} {base : Bs} {g : Nat → Value} {j : Int32} {v : Value}, p.tables.exec = Jvm.exec → c.code = X.1 → KK D cy base s → HR D cy base h H → H[base.1 + a.toNat]? = some (arrV (cy κ) (hln h a).toNat g) → s.isArrayOf (arrV (cy κ) (hln h a).toNat g) (ety κ) →
      ¬ (j < 0 ∨ (arrV (cy κ) (hln h a).toNat g).slots.size ≤ j.toNatClampNeg) → vr base t x v → ∃ v' : Value, vr base (etag κ) y v' ∧ ∀ {ls : Array Slot} {rest : List Value}, (∀ H' : Heap, H'[base.1 + a.toNat]? = some ((arrV (cy κ) (hln h a).toNat g).setSlot j.toNatClampNeg v') → H'.size = H.size → (∀ q, q ≠ base.1 + a.toNat → H'[q]? = H[q]?) → W p l e R s m args below meth c H' (locs ++ [⟨base.1 + a.toNat, j.toNatClampNeg⟩]) cells slots Q (F0 m (pc + 1) ls rest)) → W p l e R s m args below meth c H locs cells slots Q (F0 m pc ls (v :: .int j :: .ref (base.1 + a.toNat) :: rest)))
    (k : V X (pc + 1) ls st (wr h a i y) o) : V X pc ls ((t, x) :: (0, i) :: (2, a) :: st) h o := by
  obtain ⟨hv, hi0, hi1⟩ := hv
  intro r h' ho
  obtain ⟨hm, kk⟩ := k r h' ho
  refine ⟨hm, ?_⟩
  intro l p e s m args below meth c D cy base h0 LS ST H locs C0 hg hL hS hH hF
  obtain ⟨v, _, rfl, hvx, _, _, rfl, ⟨j, rfl, rfl⟩, _, _, rfl, hva, hS⟩ := hS
  have hva : _ = rv base a := hva
  rw [rv_ref (by have := hv.1; omega)] at hva
  subst hva
  obtain ⟨n0, n1, g, hc, hgv⟩ := HR_arr hH hv hκ
  have hjn : j.toNatClampNeg = j.toInt.toNat := rfl
  obtain ⟨v', hv', go⟩ := row C0.1 C0.2.1 C0.2.2.2.2.2.2.2.2 hH hc ((KK_arr C0.2.2.2.2.2.2.2.2 hκ).1 _ g) (r_idx hi0 hi1) hvx
  refine go fun H' e1 e2 e3 => ?_
  rw [arrV_store] at e1
  refine kk l p e s m args below meth c D cy base h0 LS _ H' _ C0 hg hL hS (HR_put hH hv.1 e2 e3 (Or.inl ⟨by rw [hv.2.2]; exact hκ, n0, n1, updV g j.toNatClampNeg v', by rw [hv.2.2]; exact e1, fun q hq => ?_⟩)) ⟨fun q hq => ?_, fun z hz => ?_⟩
  · rw [rd_wr, hv.2.2]
    by_cases hqj : q = j.toNatClampNeg
    · rw [if_pos ⟨rfl, by omega⟩]
      simpa [updV, hqj] using hv'
    · rw [if_neg (fun w => hqj (by have := w.2; omega))]
      simpa [updV, hqj] using hgv q hq
  · rw [e3 q (by have := hv.1; omega)]; exact hF.1 q hq
  · rcases List.mem_append.mp hz with hz | hz
    · exact hF.2 z hz
    · rw [List.mem_singleton.mp hz]; show base.1 < base.1 + a.toNat; have := hv.1; omega
theorem V_iastore {a i x : Int} (hd : decode X.1 pc = .ok (.iastore, 1)) (k : V X (pc + 1) ls st (wr h a i x) (fh (wr h a i x))) : V X pc ls ((0, x) :: (0, i) :: (2, a) :: st) h (as h a 0 i x fh) := by
  unfold as
  split
  rotate_left
  · exact V_none
  rename_i hv
  refine V_ast0 (κ := 0) (y := x) (by decide) hv (fun h1 h2 _ _ h3 h4 h5 hx => ?_) k
  obtain ⟨w, rfl, hw⟩ := hx
  exact ⟨.int w, ⟨w, rfl, hw⟩, fun kk => W.iast h1 h2 h3 h4 (fun q => by cases q) h5 rfl rfl hd kk⟩
theorem V_lastore {a i x : Int} (hd : decode X.1 pc = .ok (.lastore, 1)) (k : V X (pc + 1) ls st (wr h a i x) (fh (wr h a i x))) : V X pc ls ((1, x) :: (0, i) :: (2, a) :: st) h (as h a 3 i x fh) := by
  unfold as
  split
  rotate_left
  · exact V_none
  rename_i hv
  refine V_ast0 (κ := 3) (y := x) (by decide) hv (fun h1 h2 _ _ h3 h4 h5 hx => ?_) k
  obtain ⟨w, rfl, hw⟩ := hx
  exact ⟨.long w, ⟨w, rfl, hw⟩, fun kk => W.last h1 h2 h3 h4 (fun q => by cases q) h5 rfl rfl hd kk⟩
theorem V_bastore {a i x : Int} (hd : decode X.1 pc = .ok (.bastore, 1)) (k : V X (pc + 1) ls st (wr h a i (i2b x)) (fh (wr h a i (i2b x)))) : V X pc ls ((0, x) :: (0, i) :: (2, a) :: st) h (as h a 1 i (i2b x) fh) := by
  unfold as
  split
  rotate_left
  · exact V_none
  rename_i hv
  refine V_ast0 (κ := 1) (y := i2b x) (by decide) hv (fun h1 h2 _ _ h3 h4 h5 hx => ?_) k
  obtain ⟨w, rfl, hw⟩ := hx
  exact ⟨.int w.toInt8.toInt32, ⟨_, rfl, by unfold i2b; rw [← hw, Int32.ofInt_toInt]⟩, fun kk => W.bast h1 h2 h3 h4 (fun q => by cases q) h5 rfl rfl hd kk⟩
theorem V_zastore {a i x : Int} (hd : decode X.1 pc = .ok (.bastore, 1)) (k : V X (pc + 1) ls st (wr h a i x) (fh (wr h a i x))) : V X pc ls ((0, x) :: (0, i) :: (2, a) :: st) h (az h a i x fh) := by
  unfold az
  split
  rotate_left
  · exact V_none
  rename_i hv
  refine V_ast0 (κ := 2) (y := x) (by decide) ⟨hv.1, hv.2.1, hv.2.2.1⟩ (fun h1 h2 _ _ h3 h4 h5 hx => ?_) k
  obtain ⟨w, rfl, hw⟩ := hx
  have hw2 : w &&& 1 = w := by
    rcases hv.2.2.2 with q | q
    · have : w = 0 := Int32.toInt_inj.mp (by rw [hw, q]; rfl)
      subst this; rfl
    · have : w = 1 := Int32.toInt_inj.mp (by rw [hw, q]; rfl)
      subst this; rfl
  exact ⟨.int w, ⟨w, rfl, hw⟩, fun kk => W.zast h1 h2 h3 h4 (fun q => by cases q) h5 rfl rfl hd (fun H' e1 => kk H' (by rw [e1]; show some (Cell.setSlot _ _ (.int (w &&& 1))) = _; rw [hw2]))⟩
theorem V_aastore {a i x : Int} {κ ci : Nat} {C : String} {T : u_T} {N : Nat} (hd : decode X.1 pc = .ok (.aastore, 1)) (hκ : κ < 8) (ht : etag κ = 2) (hC : vwCl[ci]? = some (C, T, N)) (hE : ety κ = .object C) (k : V X (pc + 1) ls st (wr h a i x) (fh (wr h a i x))) : V X pc ls ((2, x) :: (0, i) :: (2, a) :: st) h (ar h a κ i x (100 + ci) fh) := by
  unfold ar
  split
  rotate_left
  · exact V_none
  rename_i hv
  refine V_ast0 (κ := κ) (y := x) hκ ⟨hv.1, hv.2.1, hv.2.2.1⟩ (fun {p l e R s m args below meth c H locs cells slots Q D cy base g j v} h1 h2 hK hH h3 h4 h5 hx => ?_) k
  have hx : v = rv base x := hx
  have hx1 := hv.2.2.2.1
  rw [rv_ref (by omega)] at hx
  subst hx
  refine ⟨.ref (base.1 + x.toNat), by rw [ht]; exact (rv_ref (by omega)).symm, fun kk => ?_⟩
  obtain ⟨U, ⟨cell, q1, q2, q3, q4⟩, q5⟩ := HR_obj hH hv.2.2.2 hC
  have hcls := (hK.1.1 ci _ hC).2
  have hRA := (KK_arr hK hκ).2
  rw [hE] at hRA
  obtain ⟨kA, comp, k1, k2, k3, -⟩ := hRA
  have hcomp : comp = D.1 ci := Option.some.inj (k3.symm.trans hcls.1)
  subst hcomp
  obtain ⟨kC, hkC, -⟩ := hcls.2
  have h6 : ¬ j < 0 ∧ j.toNatClampNeg < (arrV (cy κ) (hln h a).toNat g).slots.size := ⟨fun q => h5 (Or.inl q), Nat.not_le.mp fun q => h5 (Or.inr q)⟩
  exact W.aast h1 h2 h3 (fun q h => by cases h) (fun h => by cases h) k1 k2 rfl hkC h6 q1 (fun q h => by rw [q3] at h; cases h) (by rw [q2]; exact hkC) (by rw [q2]; exact va_assign hcls) rfl rfl hd kk
theorem V_new {ci : Nat} {C : String} {T : u_T} {N : Nat} {ty : Nat → FieldType} {idx : Nat} {f2 : Int → Hp → Option (Int × Hp)} (hd : decode X.1 pc = .ok (.new idx, 3)) (hC : CLs ci C T N ty) (hw : Cond.classLink X.2.1 idx C ∈ lwg)
    (k : V X (pc + 3) ls ((2, hsz h) :: st) (nw h (100 + ci) 0 N) (f2 (hsz h) (nw h (100 + ci) 0 N))) : V X pc ls st h (no h (100 + ci) N f2) := by
  unfold no
  intro r h' ho
  obtain ⟨hm, kk⟩ := k r h' ho
  rw [hsz_nw, hus_nw] at hm
  refine ⟨⟨by omega, by omega⟩, ?_⟩
  intro l p e s m args below meth c D cy base h0 LS ST H locs C0 hg hL hS hH hF
  have hts := C0.2.2.2.2.1
  have hKn := C0.2.2.2.2.2.2.2.2.1.1 ci _ hC.1
  have h1 := hH.1
  have h2 := hH.2.1
  refine W.newcK C0.1 C0.2.1 C0.2.2.2.1 (hts _ hw) (hts _ hC.2.2.2.2.1) (hts _ hC.2.2.2.2.2.1) rfl hd (by show _ + 1 ≤ (hsz h' - hsz h0).toNat; omega) (by show _ + N ≤ (hus h' - hus h0).toNat; omega) hKn.2.1 rfl fun H1 kC hkC e1 z1 o1 => ?_
  have := kk l p e s m args below meth c D cy base h0 LS (.ref H.size :: ST) H1 locs C0 ⟨by rw [hsz_nw]; omega, by rw [hus_nw]; omega⟩ hL ⟨_, _, rfl, by rw [h1]; exact (rv_ref (by omega)).symm, hS⟩ (HR_new hH z1 o1 (Or.inr ⟨by omega, (C, T, N), by rw [Nat.add_sub_cancel_left]; exact hC.1, fun k => defaultValue (ty k), by rw [Nat.add_sub_cancel_left, ← h1]; exact u_born ty hts hC.2.1 hKn hkC e1 hC.2.2.1, fun j hj => ?_⟩)) ⟨fun q hq => ?_, hF.2⟩
  · rw [show (hsz (nw h (100 + ci) 0 N) - hsz h0).toNat = (hsz h - hsz h0).toNat + 1 by rw [hsz_nw]; omega, show (hus (nw h (100 + ci) 0 N) - hus h0).toNat = (hus h - hus h0).toNat + N by rw [hus_nw]; omega] at this
    exact this
  · show vr base (ftag (C, T, N) j) 0 (defaultValue (ty j))
    rcases hC.2.2.2.2.2.2 j hj with ⟨q1, q2⟩ | ⟨q1, q2⟩
    · rw [q1, q2]; exact ⟨0, rfl, rfl⟩
    · rw [q1, q2]; exact (rv_null rfl).symm
  · rw [o1 q (by omega)]; exact hF.1 q hq
theorem r_ix {n : Int32} {x : Int} (hn : n.toInt = x) (h0 : 0 ≤ x) : ¬ n < 0 ∧ n.toNatClampNeg = x.toNat := ⟨fun q => by have := r_lt' (j := 0) q; rw [r_z] at this; omega, by rw [← hn]; rfl⟩
theorem V_newa {κ : Nat} {atype : ArrayType} {n : Int} {f2 : Int → Hp → Option (Int × Hp)} (hd : decode X.1 pc = .ok (.newarray atype, 2)) (hκ : κ < 4) (hty : newarray.typeOf atype = ety κ) (hcb : componentBytes (ety κ) ≤ 8) (hdv : (etag κ = 0 ∧ defaultValue (ety κ) = .int 0) ∨ (etag κ = 1 ∧ defaultValue (ety κ) = .long 0)) (hstr : ∀ (s : State) (cA : ClassId), va_RA s cA (ety κ) → s.vm.findClass ("[" ++ (ety κ).toString) = some cA) (hw : Cond.arrayClass (ety κ) ∈ lwg)
    (k : V X (pc + 2) ls ((2, hsz h) :: st) (nw h κ n n) (f2 (hsz h) (nw h κ n n))) : V X pc ls ((0, n) :: st) h (na h κ n f2) := by
  unfold na
  split
  rotate_left
  · exact V_none
  rename_i hn
  intro r h' ho
  obtain ⟨hm, kk⟩ := k r h' ho
  rw [hsz_nw, hus_nw] at hm
  refine ⟨⟨by omega, by omega⟩, ?_⟩
  intro l p e s m args below meth c D cy base h0 LS ST H locs C0 hg hL hS hH hF
  obtain ⟨_, _, rfl, ⟨j, rfl, hj⟩, hS⟩ := hS
  obtain ⟨hj0, hjn⟩ := r_ix hj hn.1
  have hts := C0.2.2.2.2.1
  have h1 := hH.1
  have h2 := hH.2.1
  have hb : n.toNat * componentBytes (ety κ) ≤ 536870912 := Nat.le_trans (Nat.mul_le_mul (show n.toNat ≤ 1000000 by omega) hcb) (Nat.le_of_ble_eq_true rfl)
  refine va_newaK C0.1 C0.2.1 (by rw [hty]; exact hts _ hw) rfl hd rfl hj0 hjn (by rw [hty]; exact hb) (by show _ + 1 ≤ (hsz h' - hsz h0).toNat; omega) (by show _ + n.toNat ≤ (hus h' - hus h0).toNat; omega) rfl fun H1 cA e1 z1 o1 hAr hNm => ?_
  rw [hty] at e1 hNm
  have hcA : cA = cy κ := Option.some.inj (hNm.symm.trans (hstr s _ (KK_arr C0.2.2.2.2.2.2.2.2 (by omega)).2))
  subst hcA
  have := kk l p e s m args below meth c D cy base h0 LS (.ref H.size :: _) H1 locs C0 ⟨by rw [hsz_nw]; omega, by rw [hus_nw]; omega⟩ hL ⟨_, _, rfl, by rw [h1]; exact (rv_ref (by omega)).symm, hS⟩ (HR_new hH z1 o1 (Or.inl ⟨by omega, hn.1, hn.2, _, by rw [← h1]; exact e1, fun i hi => ?_⟩)) ⟨fun q hq => ?_, hF.2⟩
  · rw [show (hsz (nw h κ n n) - hsz h0).toNat = (hsz h - hsz h0).toNat + 1 by rw [hsz_nw]; omega, show (hus (nw h κ n n) - hus h0).toNat = (hus h - hus h0).toNat + n.toNat by rw [hus_nw]; omega] at this
    exact this
  · rcases hdv with ⟨q1, q2⟩ | ⟨q1, q2⟩
    · rw [q1, q2]; exact ⟨0, rfl, rfl⟩
    · rw [q1, q2]; exact ⟨0, rfl, rfl⟩
  · rw [o1 q (by omega)]; exact hF.1 q hq
theorem V_anewa {κ idx : Nat} {C : String} {n : Int} {f2 : Int → Hp → Option (Int × Hp)} (hd : decode X.1 pc = .ok (.anewarray idx, 3)) (hκ : κ < 8) (ht : etag κ = 2) (hE : ety κ = .object C) (hw : Cond.classLink X.2.1 idx C ∈ lwg) (hov : C ∈ overs)
    (k : V X (pc + 3) ls ((2, hsz h) :: st) (nw h κ n n) (f2 (hsz h) (nw h κ n n))) : V X pc ls ((0, n) :: st) h (na h κ n f2) := by
  unfold na
  split
  rotate_left
  · exact V_none
  rename_i hn
  intro r h' ho
  obtain ⟨hm, kk⟩ := k r h' ho
  rw [hsz_nw, hus_nw] at hm
  refine ⟨⟨by omega, by omega⟩, ?_⟩
  intro l p e s m args below meth c D cy base h0 LS ST H locs C0 hg hL hS hH hF
  obtain ⟨_, _, rfl, ⟨j, rfl, hj⟩, hS⟩ := hS
  obtain ⟨hj0, hjn⟩ := r_ix hj hn.1
  have hts := C0.2.2.2.2.1
  have h1 := hH.1
  have h2 := hH.2.1
  refine W.anew C0.1 C0.2.1 C0.2.2.2.1 (hts _ hw) (va_AO.use (C0.2.2.2.2.2.2.2.2.2.2.1 _ hov)) rfl hd rfl hj0 (by rw [hjn]; omega) (by show _ + 1 ≤ (hsz h' - hsz h0).toNat; omega) (by rw [hjn]; show _ + n.toNat ≤ (hus h' - hus h0).toNat; omega) fun cA kA comp e1 e2 e3 e4 => ?_
  have hRA := (KK_arr C0.2.2.2.2.2.2.2.2 hκ).2
  rw [hE] at hRA
  obtain ⟨_, _, -, -, -, hfc⟩ := hRA
  have hcA : cA = cy κ := Option.some.inj (e1.symm.trans hfc)
  subst hcA
  rw [arrV_new, hjn]
  have := kk l p e s m args below meth c D cy base h0 LS (.ref H.size :: _) (H.push (arrV (cy κ) n.toNat (fun _ => .null))) locs C0 ⟨by rw [hsz_nw]; omega, by rw [hus_nw]; omega⟩ hL ⟨_, _, rfl, by rw [h1]; exact (rv_ref (by omega)).symm, hS⟩ (HR_new hH (by simp) (fun q hq => by rw [Array.getElem?_push, if_neg (Nat.ne_of_lt hq)]) (Or.inl ⟨hκ, hn.1, hn.2, fun _ => .null, by rw [← h1]; simp, fun i hi => ?_⟩)) ⟨fun q hq => ?_, hF.2⟩
  · rw [show (hsz (nw h κ n n) - hsz h0).toNat = (hsz h - hsz h0).toNat + 1 by rw [hsz_nw]; omega, show (hus (nw h κ n n) - hus h0).toNat = (hus h - hus h0).toNat + n.toNat by rw [hus_nw]; omega] at this
    exact this
  · rw [ht]; exact (rv_null rfl).symm
  · rw [Array.getElem?_push, if_neg (by omega)]; exact hF.1 q hq
end HEAPS
