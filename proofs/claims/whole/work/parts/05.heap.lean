/-! reading and writing the heap -/
abbrev vo (h : Hp) (a : Int) (κ : Nat) : Prop := 1 ≤ a ∧ a < hsz h ∧ hkd h a = κ
def gf (h : Hp) (a : Int) (κ : Nat) (k : Int) (f : Int → Option (Int × Hp)) : Option (Int × Hp) := if vo h a κ then f (rd h a k) else none
def pf (h : Hp) (a : Int) (κ : Nat) (k x : Int) (f : Hp → Option (Int × Hp)) : Option (Int × Hp) := if vo h a κ then f (wr h a k x) else none
def pz (h : Hp) (a : Int) (κ : Nat) (k x : Int) (f : Hp → Option (Int × Hp)) : Option (Int × Hp) := if vo h a κ ∧ (x = 0 ∨ x = 1) then f (wr h a k x) else none
def al (h : Hp) (a : Int) (κ : Nat) (i : Int) (f : Int → Option (Int × Hp)) : Option (Int × Hp) := if vo h a κ ∧ 0 ≤ i ∧ i < hln h a then f (rd h a i) else none
def as (h : Hp) (a : Int) (κ : Nat) (i x : Int) (f : Hp → Option (Int × Hp)) : Option (Int × Hp) := if vo h a κ ∧ 0 ≤ i ∧ i < hln h a then f (wr h a i x) else none
def az (h : Hp) (a : Int) (i x : Int) (f : Hp → Option (Int × Hp)) : Option (Int × Hp) := if vo h a 2 ∧ 0 ≤ i ∧ i < hln h a ∧ (x = 0 ∨ x = 1) then f (wr h a i x) else none
/-- a reference into an array of references: its class is the array's -/
def ar (h : Hp) (a : Int) (κ : Nat) (i x : Int) (kx : Nat) (f : Hp → Option (Int × Hp)) : Option (Int × Hp) := if vo h a κ ∧ 0 ≤ i ∧ i < hln h a ∧ vo h x kx then f (wr h a i x) else none
def aln (h : Hp) (a : Int) (κ : Nat) (f : Int → Option (Int × Hp)) : Option (Int × Hp) := if vo h a κ then f (hln h a) else none
def na (h : Hp) (κ : Nat) (n : Int) (f : Int → Hp → Option (Int × Hp)) : Option (Int × Hp) := if 0 ≤ n ∧ n ≤ 1000000 then f (hsz h) (nw h κ n n) else none
def no (h : Hp) (κ : Nat) (N : Int) (f : Int → Hp → Option (Int × Hp)) : Option (Int × Hp) := f (hsz h) (nw h κ 0 N)
theorem rd_wr (h : Hp) (a i v b j : Int) : rd (wr h a i v) b j = if b = a ∧ j = i then v else rd h b j := rfl
theorem rd_wr_ne {h : Hp} {a i v b : Int} (hb : b ≠ a) : rd (wr h a i v) b = rd h b := by funext j; rw [rd_wr, if_neg (fun q => hb q.1)]
theorem hsz_wr (h : Hp) (a i v : Int) : hsz (wr h a i v) = hsz h := rfl
theorem hus_wr (h : Hp) (a i v : Int) : hus (wr h a i v) = hus h := rfl
theorem hkd_wr (h : Hp) (a i v : Int) : hkd (wr h a i v) = hkd h := rfl
theorem hln_wr (h : Hp) (a i v : Int) : hln (wr h a i v) = hln h := rfl
theorem CA_kept {D : va_G} {cy : Nat → ClassId} {base : Bs} {κ : Nat} {n : Int} {f : Int → Int} {q : Nat} {H H' : Heap} (h : CA D cy base κ n f q H) (hq : H'[q]? = H[q]?) : CA D cy base κ n f q H' := by
  rcases h with ⟨h1, h2, h3, g, h4, h5⟩ | ⟨h1, r, h2, U, h3, h4⟩
  · exact Or.inl ⟨h1, h2, h3, g, hq.trans h4, h5⟩
  · exact Or.inr ⟨h1, r, h2, U, h3.kept hq, h4⟩
theorem SCR_kept {base : Bs} {h h2 : Hp} {H H' : Heap} (hs : SCR base h H) (e1 : hln h2 (-1) = hln h (-1)) (e2 : rd h2 (-1) = rd h (-1)) (oq : ∀ b, base.2 1 = some b → H'[b]? = H[b]?) : SCR base h2 H' := by
  obtain ⟨h1, h3, b, hb, cell, h4, h5, h6⟩ := hs
  exact ⟨by rw [e1]; exact h1, by rw [e1]; exact h3, b, hb, cell, by rw [oq b hb]; exact h4, by rw [e1]; exact h5, by rw [e1, e2]; exact h6⟩
theorem HR_put {D : va_G} {cy : Nat → ClassId} {base : Bs} {h : Hp} {H H' : Heap} {a i x : Int} (hH : HR D cy base h H) (ha : 1 ≤ a) (z : H'.size = H.size) (oq : ∀ q, q ≠ base.1 + a.toNat → H'[q]? = H[q]?)
    (hc : CA D cy base (hkd h a) (hln h a) (rd (wr h a i x) a) (base.1 + a.toNat) H') : HR D cy base (wr h a i x) H' := by
  refine ⟨by rw [z, hH.1]; rfl, hH.2.1, fun b hb1 hb2 => ?_, SCR_kept hH.2.2.2.1 rfl (rd_wr_ne (by omega)) (fun b hb => oq b (by have := hH.2.2.2.2 b hb; omega)), hH.2.2.2.2⟩
  by_cases hba : b = a
  · subst hba; exact hc
  · rw [rd_wr_ne hba]
    exact CA_kept (hH.2.2.1 b hb1 hb2) (oq _ (by omega))
theorem HR_arr {D : va_G} {cy : Nat → ClassId} {base : Bs} {h : Hp} {H : Heap} {a : Int} {κ : Nat} (hH : HR D cy base h H) (hv : vo h a κ) (hκ : κ < 8) : 0 ≤ hln h a ∧ hln h a ≤ 1000000 ∧ ∃ g : Nat → Value, H[base.1 + a.toNat]? = some (arrV (cy κ) (hln h a).toNat g) ∧ ∀ j : Nat, j < (hln h a).toNat → vr base (etag κ) (rd h a j) (g j) := by
  obtain ⟨h1, h2, rfl⟩ := hv
  rcases hH.2.2.1 a h1 h2 with ⟨-, q⟩ | ⟨q, -⟩
  · exact q
  · omega
theorem HR_obj {D : va_G} {cy : Nat → ClassId} {base : Bs} {h : Hp} {H : Heap} {a : Int} {ci : Nat} {r : vw_C} (hH : HR D cy base h H) (hv : vo h a (100 + ci)) (hr : vwCl[ci]? = some r) : ∃ U : Nat → Value, t_OB (base.1 + a.toNat) (D.1 ci) r.2.2 (D.2 ci) H U ∧ ∀ k : Nat, k < r.2.2 → vr base (ftag r k) (rd h a k) (U k) := by
  obtain ⟨h1, h2, h3⟩ := hv
  rcases hH.2.2.1 a h1 h2 with ⟨q, -⟩ | ⟨q, r', hr', q2⟩
  · omega
  · rw [h3, Nat.add_sub_cancel_left] at hr' q2
    cases hr.symm.trans hr'
    exact q2
theorem KK_arr {D : va_G} {cy : Nat → ClassId} {s : State} {base : Bs} (hK : KK D cy base s) {κ : Nat} (hκ : κ < 8) : ArrOfT s (cy κ) (ety κ) ∧ va_RA s (cy κ) (ety κ) := by
  refine hK.1.2 κ (cy κ, ety κ) ?_
  simp [tysL, hκ]
/-- what the tables say of a class of ours -/
def CLs (ci : Nat) (C : String) (T : u_T) (N : Nat) (ty : Nat → FieldType) : Prop :=
  vwCl[ci]? = some (C, T, N) ∧ (∀ w ∈ u_ws C T N, w ∈ lwg) ∧ (∀ k, k < N → parseFieldDescriptor (T k).2.2.1 = some (ty k)) ∧ (∀ a, a < N → ∀ b, b < N → a ≠ b → (T a).2.1 ≠ (T b).2.1) ∧ Cond.instantiable C N ∈ lwg ∧ Cond.initialized C ∈ lwg ∧
  ∀ k, k < N → (ftag (C, T, N) k = 0 ∧ defaultValue (ty k) = .int 0) ∨ (ftag (C, T, N) k = 2 ∧ defaultValue (ty k) = .null)
section HEAPR
variable {X : MX} {pc : Nat} {ls : List (Nat × Nat × Int)} {st : List (Nat × Int)} {h : Hp} {f : Int → Option (Int × Hp)} {fh : Hp → Option (Int × Hp)}
theorem V_getf {ci : Nat} {C : String} {T : u_T} {N : Nat} {ty : Nat → FieldType} {a : Int} {idx k t : Nat} (hd : decode X.1 pc = .ok (.getfield idx, 3)) (hC : CLs ci C T N ty) (hk : k < N) (hw : Cond.fieldLink X.2.1 idx (T k).1 (T k).2.1 (T k).2.2.1 ∈ lwg) (ht : ftag (C, T, N) k = t)
    (kv : V X (pc + 3) ls ((t, rd h a k) :: st) h (f (rd h a k))) : V X pc ls ((2, a) :: st) h (gf h a (100 + ci) k f) := by
  unfold gf
  split
  rotate_left
  · exact V_none
  rename_i hv
  refine V_step (fun r h' kk => ?_) kv
  intro l p e s m args below meth c D cy base h0 LS ST H locs C0 hg hL hS hH hF
  obtain ⟨_, _, rfl, hva, hS⟩ := hS
  have hva : _ = rv base a := hva
  rw [rv_ref (by have := hv.1; omega)] at hva
  subst hva
  obtain ⟨U, ⟨cell, q1, q2, q3, q4⟩, q5⟩ := HR_obj hH hv hC.1
  obtain ⟨hSl, hfc, kC, hkC, hkind⟩ := C0.2.2.2.2.2.2.2.2.1.1 ci _ hC.1
  obtain ⟨cf, kf, fi, fd, hi, hsl⟩ := hSl _ hk
  refine W.getf C0.1 C0.2.1 C0.2.2.2.1 (C0.2.2.2.2.1 _ hw) hi (u_facts hfc hkC (u_lays C0.2.2.2.2.1 hC.2.1 hk) hi).1 q1 (by rw [q3]; exact fun h => by cases h) (v := U _) ?_ rfl rfl hd (kk l p e s m args below meth c D cy base h0 LS _ H locs C0 hg hL ⟨_, _, rfl, ht ▸ q5 _ hk, hS⟩ hH hF)
  rw [hsl, q4 _ hk]
theorem CA_objput {D : va_G} {cy : Nat → ClassId} {base : Bs} {ci : Nat} {r : vw_C} {h : Hp} {a : Int} {k : Nat} {x : Int} {v : Value} {U : Nat → Value} {H' : Heap} (hkq : hkd h a = 100 + ci) (hr : vwCl[ci]? = some r) (hob : t_OB (base.1 + a.toNat) (D.1 ci) r.2.2 (D.2 ci) H' (updV U k v)) (hU : ∀ k : Nat, k < r.2.2 → vr base (ftag r k) (rd h a k) (U k)) (hv : vr base (ftag r k) x v) :
    CA D cy base (hkd h a) (hln h a) (rd (wr h a k x) a) (base.1 + a.toNat) H' := by
  refine Or.inr ⟨by rw [hkq]; omega, r, by rw [hkq, Nat.add_sub_cancel_left]; exact hr, updV U k v, by rw [hkq, Nat.add_sub_cancel_left]; exact hob, fun j hj => ?_⟩
  rw [rd_wr]
  by_cases hjk : j = k
  · subst hjk
    rw [if_pos ⟨rfl, rfl⟩]
    simpa [updV] using hv
  · rw [if_neg (fun q => hjk (by have := q.2; omega))]
    simpa [updV, hjk] using hU j hj
/-- what may be put into a field: its type, that the value fits -/
def fitt (ty : FieldType) (x : Int) : Prop := ty = .int ∨ (ty = .boolean ∧ (x = 0 ∨ x = 1)) ∨ (∃ n, ty = .object n) ∨ ∃ t, ty = .array t
theorem fit_ok {base : Bs} {t : Nat} {x : Int} {v : Value} {ty : FieldType} (hf : fitt ty x) (ht : (ty = .int ∨ ty = .boolean) ∧ t = 0 ∨ ((∃ n, ty = .object n) ∨ ∃ u, ty = .array u) ∧ t = 2) (hv : vr base t x v) : narrow ty v = v ∧ fits ty v = true := by
  rcases ht with ⟨ht, rfl⟩ | ⟨ht, rfl⟩
  · obtain ⟨i, rfl, hi⟩ := hv
    rcases ht with rfl | rfl
    · exact ⟨rfl, rfl⟩
    · rcases hf with hf | ⟨-, hf⟩ | ⟨n, hf⟩ | ⟨n, hf⟩
      · cases hf
      · rcases hf with hf | hf
        · have : i = 0 := Int32.toInt_inj.mp (by rw [hi, hf]; rfl)
          subst this; exact ⟨rfl, rfl⟩
        · have : i = 1 := Int32.toInt_inj.mp (by rw [hi, hf]; rfl)
          subst this; exact ⟨rfl, rfl⟩
      · cases hf
      · cases hf
  · have hv : v = rv base x := hv
    rcases rv_cases base x with q | ⟨q, e⟩
    · rw [q] at hv
      subst hv
      rcases ht with ⟨n, rfl⟩ | ⟨u, rfl⟩ <;> exact ⟨rfl, rfl⟩
    · rw [e] at hv
      subst hv
      rcases ht with ⟨n, rfl⟩ | ⟨u, rfl⟩ <;> exact ⟨rfl, rfl⟩
theorem V_put0 {ci : Nat} {C : String} {T : u_T} {N : Nat} {ty : Nat → FieldType} {a x : Int} {idx k t : Nat} (hd : decode X.1 pc = .ok (.putfield idx, 3)) (hC : CLs ci C T N ty) (hk : k < N) (hw : Cond.fieldLink X.2.1 idx (T k).1 (T k).2.1 (T k).2.2.1 ∈ lwg) (ht : ftag (C, T, N) k = t) (hfin : (T k).2.2.2 = false ∨ ((T k).2.2.2 = true ∧ X.2.2.1 = "<init>" ∧ (T k).1 = X.2.1))
    (hty : (ty k = .int ∨ ty k = .boolean) ∧ t = 0 ∨ ((∃ n, ty k = .object n) ∨ ∃ u, ty k = .array u) ∧ t = 2) (hfit : fitt (ty k) x) (hv : vo h a (100 + ci))
    (kk0 : V X (pc + 3) ls st (wr h a k x) (fh (wr h a k x))) : V X pc ls ((t, x) :: (2, a) :: st) h (fh (wr h a k x)) := by
  intro r h' ho
  obtain ⟨hm, kk⟩ := kk0 r h' ho
  refine ⟨hm, ?_⟩
  intro l p e s m args below meth c D cy base h0 LS ST H locs C0 hg hL hS hH hF
  obtain ⟨v, _, rfl, hvx, _, _, rfl, hva, hS⟩ := hS
  have hva : _ = rv base a := hva
  rw [rv_ref (by have := hv.1; omega)] at hva
  subst hva
  obtain ⟨U, ⟨cell, q1, q2, q3, q4⟩, q5⟩ := HR_obj hH hv hC.1
  obtain ⟨hnar, hfi⟩ := fit_ok hfit hty hvx
  have hts := C0.2.2.2.2.1
  have hK := C0.2.2.2.2.2.2.2.2.1
  have hap := va_apart (own := X.2.1) hts hC.2.1 ty hC.2.2.1 hC.2.2.2.1 hK hC.1
  obtain ⟨hSl, hfc, kC, hkC, hkind⟩ := hK.1 ci _ hC.1
  obtain ⟨cf, kf, fi, fd, hi, hsl⟩ := hSl k hk
  have hlay := hts _ (hC.2.1 _ (u_in_lay hk))
  unfold u_lay at hlay
  have hst := (u_facts hfc hkC (u_lays hts hC.2.1 hk) hi).1
  have hlt : fd.slot < cell.slots.size := by rw [hsl]; exact k2_hasslot (q4 k hk)
  have goon : ∀ H' : Heap, H'[base.1 + a.toNat]? = some (cell.setSlot fd.slot v) → H'.size = H.size → (∀ q, q ≠ base.1 + a.toNat → H'[q]? = H[q]?) → W p l e (rmo X.2.2.2.2.2.1 X.2.2.2.2.2.2 h0 h') s m args below meth c H' (locs ++ [⟨base.1 + a.toNat, fd.slot⟩]) (hsz h - hsz h0).toNat (hus h - hus h0).toNat (MQ below (QC D cy base X.2.2.2.2.1 r h') args s (hsz h' - hsz h0).toNat (hus h' - hus h0).toNat (fun q => base.1 < q)) (F0 m (pc + 3) LS _) := fun H' e1 e2 e3 => by
    rw [hsl] at e1 ⊢
    refine kk l p e s m args below meth c D cy base h0 LS _ H' _ C0 hg hL hS (HR_put hH hv.1 e2 e3 (CA_objput hv.2.2 hC.1 ⟨_, e1, q2, q3, t_set q4 hap hk v⟩ q5 (by rw [ht]; exact hvx))) ⟨fun q hq => ?_, fun y hy => ?_⟩
    · rw [e3 q (by have := hv.1; omega)]; exact hF.1 q hq
    · rcases List.mem_append.mp hy with hy | hy
      · exact hF.2 y hy
      · rw [List.mem_singleton.mp hy]; show base.1 < base.1 + a.toNat; have := hv.1; omega
  rcases hfin with hfin | ⟨hfin, hin, hdecl⟩
  · rw [if_neg (by rw [hfin]; decide)] at hlay
    have h6 := u_store hfc hkC hkind hlay hi (hC.2.2.1 k hk) hnar hfi
    exact W.putK C0.1 C0.2.1 (f := fd) ⟨C0.2.2.2.1, hts _ hw, ⟨_, _, _, hi⟩, hst⟩ (by rw [q2]; exact h6) q1 q3 hlt rfl rfl hd goon
  · rw [if_pos hfin] at hlay
    have hcf : m.cls = cf := by
      obtain ⟨_, _, c', _, _, _, -, -, hf', -, -, -, hown2, -⟩ := Cond.laysFinal_spec hlay
      have e1 : c' = cf := by have := hi.symm.trans hf'; simp at this; exact this.1.symm
      rw [hdecl] at hown2
      rw [← e1]; exact Option.some.inj (C0.2.2.2.1.symm.trans hown2)
    have h6 := u_fits hfc hkC hkind (Or.inr hlay) hi (hC.2.2.1 k hk) hnar hfi
    exact W.putFinK C0.1 C0.2.1 C0.2.2.2.1 (hts _ hw) hi hst hcf (by rw [← hin]; exact C0.2.2.2.2.2.2.2.1) (by rw [q2]; exact h6) q1 q3 hlt rfl rfl hd goon
theorem V_putf {ci : Nat} {C : String} {T : u_T} {N : Nat} {ty : Nat → FieldType} {a x : Int} {idx k t : Nat} (hd : decode X.1 pc = .ok (.putfield idx, 3)) (hC : CLs ci C T N ty) (hk : k < N) (hw : Cond.fieldLink X.2.1 idx (T k).1 (T k).2.1 (T k).2.2.1 ∈ lwg) (ht : ftag (C, T, N) k = t) (hfin : (T k).2.2.2 = false ∨ ((T k).2.2.2 = true ∧ X.2.2.1 = "<init>" ∧ (T k).1 = X.2.1))
    (hty : ty k = .int ∧ t = 0 ∨ ((∃ n, ty k = .object n) ∨ ∃ u, ty k = .array u) ∧ t = 2)
    (kk : V X (pc + 3) ls st (wr h a k x) (fh (wr h a k x))) : V X pc ls ((t, x) :: (2, a) :: st) h (pf h a (100 + ci) k x fh) := by
  unfold pf
  split
  rotate_left
  · exact V_none
  rename_i hv
  exact V_put0 hd hC hk hw ht hfin (hty.imp (fun q => ⟨Or.inl q.1, q.2⟩) id) (hty.elim (fun q => Or.inl q.1) (fun q => Or.inr (Or.inr q.1))) hv kk
theorem V_putz {ci : Nat} {C : String} {T : u_T} {N : Nat} {ty : Nat → FieldType} {a x : Int} {idx k : Nat} (hd : decode X.1 pc = .ok (.putfield idx, 3)) (hC : CLs ci C T N ty) (hk : k < N) (hw : Cond.fieldLink X.2.1 idx (T k).1 (T k).2.1 (T k).2.2.1 ∈ lwg) (ht : ftag (C, T, N) k = 0) (hfin : (T k).2.2.2 = false ∨ ((T k).2.2.2 = true ∧ X.2.2.1 = "<init>" ∧ (T k).1 = X.2.1))
    (hty : ty k = .boolean) (kk : V X (pc + 3) ls st (wr h a k x) (fh (wr h a k x))) : V X pc ls ((0, x) :: (2, a) :: st) h (pz h a (100 + ci) k x fh) := by
  unfold pz
  split
  rotate_left
  · exact V_none
  rename_i hv
  exact V_put0 hd hC hk hw ht hfin (Or.inl ⟨Or.inr hty, rfl⟩) (Or.inr (Or.inl ⟨hty, hv.2⟩)) hv.1 kk
theorem r_idx {j : Int32} {n : Int} {cI : ClassId} {g : Nat → Value} (h0 : 0 ≤ j.toInt) (h1 : j.toInt < n) : ¬ (j < 0 ∨ (arrV cI n.toNat g).slots.size ≤ j.toNatClampNeg) := by
  rw [arrV_size]
  have : j.toNatClampNeg = j.toInt.toNat := rfl
  rintro (q | q)
  · have := r_lt' (j := 0) q; rw [r_z] at this; omega
  · omega
theorem V_aload0 {a i : Int} {κ : Nat} (hκ : κ < 8) (hv : vo h a κ ∧ 0 ≤ i ∧ i < hln h a) {o : Option (Int × Hp)} (row : ∀ {p : Program} {l : Launch} {e : Env} {R : Room} {s : State} {m : MethodId} {args : Array Value} {below : List Frame} {meth : Method} {c : Code} {H : Heap} {locs : List Loc} {cells slots : Nat} {Q : State → Prop} {a : Addr} {cell : Cell} {j : Int32} {v : Value}, p.tables.exec = Jvm.exec → c.code = X.1 → H[a]? = some cell → s.isArrayOf cell (ety κ) → cell.vm ≠ .unknown →
      ¬ (j < 0 ∨ cell.slots.size ≤ j.toNatClampNeg) → cell.slots[j.toNatClampNeg]? = some v → ∀ {ls : Array Slot} {rest : List Value}, W p l e R s m args below meth c H locs cells slots Q (F0 m (pc + 1) ls (v :: rest)) → W p l e R s m args below meth c H locs cells slots Q (F0 m pc ls (.int j :: .ref a :: rest)))
    (k : V X (pc + 1) ls ((etag κ, rd h a i) :: st) h o) : V X pc ls ((0, i) :: (2, a) :: st) h o := by
  obtain ⟨hv, hi0, hi1⟩ := hv
  refine V_step (fun r h' kk => ?_) k
  intro l p e s m args below meth c D cy base h0 LS ST H locs C0 hg hL hS hH hF
  obtain ⟨_, _, rfl, ⟨j, rfl, rfl⟩, _, _, rfl, hva, hS⟩ := hS
  have hva : _ = rv base a := hva
  rw [rv_ref (by have := hv.1; omega)] at hva
  subst hva
  obtain ⟨n0, n1, g, hc, hgv⟩ := HR_arr hH hv hκ
  have hj : j.toNatClampNeg < (hln h a).toNat := by have : j.toNatClampNeg = j.toInt.toNat := rfl; omega
  refine row C0.1 C0.2.1 hc ((KK_arr C0.2.2.2.2.2.2.2.2 hκ).1 _ g) (fun q => by cases q) (r_idx hi0 hi1) (arrV_read _ g hj) (kk l p e s m args below meth c D cy base h0 LS _ H locs C0 hg hL ⟨_, _, rfl, ?_, hS⟩ hH hF)
  have := hgv _ hj
  rwa [show ((j.toNatClampNeg : Nat) : Int) = j.toInt by have : j.toNatClampNeg = j.toInt.toNat := rfl; omega] at this
theorem V_iaload {a i : Int} (hd : decode X.1 pc = .ok (.iaload, 1)) (k : V X (pc + 1) ls ((0, rd h a i) :: st) h (f (rd h a i))) : V X pc ls ((0, i) :: (2, a) :: st) h (al h a 0 i f) := by
  unfold al
  split
  rotate_left
  · exact V_none
  rename_i hv
  exact V_aload0 (κ := 0) (by decide) hv (fun h1 h2 h3 h4 h5 h6 h7 _ _ kk => W.iald h1 h2 h3 h4 h5 h6 h7 rfl rfl hd kk) k
theorem V_baload {a i : Int} (hd : decode X.1 pc = .ok (.baload, 1)) (k : V X (pc + 1) ls ((0, rd h a i) :: st) h (f (rd h a i))) : V X pc ls ((0, i) :: (2, a) :: st) h (al h a 1 i f) := by
  unfold al
  split
  rotate_left
  · exact V_none
  rename_i hv
  exact V_aload0 (κ := 1) (by decide) hv (fun h1 h2 h3 h4 h5 h6 h7 _ _ kk => W.bald h1 h2 h3 h4 h5 h6 h7 rfl rfl hd kk) k
theorem V_zaload {a i : Int} (hd : decode X.1 pc = .ok (.baload, 1)) (k : V X (pc + 1) ls ((0, rd h a i) :: st) h (f (rd h a i))) : V X pc ls ((0, i) :: (2, a) :: st) h (al h a 2 i f) := by
  unfold al
  split
  rotate_left
  · exact V_none
  rename_i hv
  exact V_aload0 (κ := 2) (by decide) hv (fun h1 h2 h3 h4 h5 h6 h7 _ _ kk => W.zald h1 h2 h3 h4 h5 h6 h7 rfl rfl hd kk) k
theorem V_laload {a i : Int} (hd : decode X.1 pc = .ok (.laload, 1)) (k : V X (pc + 1) ls ((1, rd h a i) :: st) h (f (rd h a i))) : V X pc ls ((0, i) :: (2, a) :: st) h (al h a 3 i f) := by
  unfold al
  split
  rotate_left
  · exact V_none
  rename_i hv
  exact V_aload0 (κ := 3) (by decide) hv (fun h1 h2 h3 h4 h5 h6 h7 _ _ kk => W.lald h1 h2 h3 h4 h5 h6 h7 rfl rfl hd kk) k
theorem V_aaload {a i : Int} {κ : Nat} (hd : decode X.1 pc = .ok (.aaload, 1)) (hκ : κ < 8) (ht : etag κ = 2) (hr : (ety κ).isReference = true) (k : V X (pc + 1) ls ((2, rd h a i) :: st) h (f (rd h a i))) : V X pc ls ((0, i) :: (2, a) :: st) h (al h a κ i f) := by
  unfold al
  split
  rotate_left
  · exact V_none
  rename_i hv
  exact V_aload0 (κ := κ) hκ hv (fun h1 h2 h3 h4 h5 h6 h7 _ _ kk => W.aald h1 h2 h3 h4 hr h5 h6 h7 rfl rfl hd kk) (by rw [ht]; exact k)
theorem V_alen {a : Int} {κ : Nat} (hd : decode X.1 pc = .ok (.arraylength, 1)) (hκ : κ < 8) (k : V X (pc + 1) ls ((0, hln h a) :: st) h (f (hln h a))) : V X pc ls ((2, a) :: st) h (aln h a κ f) := by
  unfold aln
  split
  rotate_left
  · exact V_none
  rename_i hv
  refine V_step (fun r h' kk => ?_) k
  intro l p e s m args below meth c D cy base h0 LS ST H locs C0 hg hL hS hH hF
  obtain ⟨_, _, rfl, hva, hS⟩ := hS
  have hva : _ = rv base a := hva
  rw [rv_ref (by have := hv.1; omega)] at hva
  subst hva
  obtain ⟨n0, n1, g, hc, hgv⟩ := HR_arr hH hv hκ
  refine W.alen C0.1 C0.2.1 hc ((KK_arr C0.2.2.2.2.2.2.2.2 hκ).1 _ g) rfl rfl rfl hd (kk l p e s m args below meth c D cy base h0 LS _ H locs C0 hg hL (SR_i ?_ hS) hH hF)
  rw [arrV_size]
  have := Int32.toInt_ofNat_of_lt (n := (hln h a).toNat) (by omega)
  rw [show (hln h a).toNat.toInt32 = Int32.ofNat (hln h a).toNat from rfl, this]
  omega
end HEAPR
