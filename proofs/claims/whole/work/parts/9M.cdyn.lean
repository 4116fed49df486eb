/-! what is made while things go on: arrays of sands and rows -/
def FrX (X : Int → Prop) (h h' : Hp) : Prop := Sh h' ∧ hsz h ≤ hsz h' ∧ (∀ b, b < hsz h → hkd h' b = hkd h b ∧ hln h' b = hln h b) ∧ (∀ b, b < 254 → ¬ X b → rd h' b = rd h b) ∧ ∀ a k, Own a k → ¬ X a → 254 ≤ rd h a k → rd h' (rd h a k) = rd h (rd h a k)
theorem own_lt {a k : Int} (o : Own a k) : 42 ≤ a ∧ a < 254 := by
  rcases o with ⟨h, -⟩ | ⟨h, -⟩
  · obtain ⟨p, p0, p1, e⟩ := h; omega
  · have := rw_cases h; omega
theorem FrX_refl {X : Int → Prop} {h : Hp} (s : Sh h) : FrX X h h := ⟨s, Int.le_refl _, fun _ _ => ⟨rfl, rfl⟩, fun _ _ _ => rfl, fun _ _ _ _ _ => rfl⟩
theorem FrX_trans {X : Int → Prop} {h h' h'' : Hp} (a : FrX X h h') (b : FrX X h' h'') : FrX X h h'' := by
  obtain ⟨a1, a2, a3, a4, a5⟩ := a
  obtain ⟨b1, b2, b3, b4, b5⟩ := b
  refine ⟨b1, by omega, fun x hx => ⟨(b3 x (by omega)).1.trans (a3 x hx).1, (b3 x (by omega)).2.trans (a3 x hx).2⟩, fun x h1 h2 => (b4 x h1 h2).trans (a4 x h1 h2), fun x k ho hx hr => ?_⟩
  have e : rd h' x k = rd h x k := by rw [a4 x (own_lt ho).2 hx]
  have := b5 x k ho hx (by rw [e]; exact hr)
  rw [e] at this
  exact this.trans (a5 x k ho hx hr)
theorem FrX_mono {X Y : Int → Prop} {h h' : Hp} (hXY : ∀ b, X b → Y b) (a : FrX X h h') : FrX Y h h' := ⟨a.1, a.2.1, a.2.2.1, fun b h1 h2 => a.2.2.2.1 b h1 (fun q => h2 (hXY b q)), fun b k ho h2 hr => a.2.2.2.2 b k ho (fun q => h2 (hXY b q)) hr⟩
theorem FrX_of {X : Int → Prop} {h h' : Hp} (s : Sh h') (e : hsz h' = hsz h ∧ hus h' = hus h ∧ hkd h' = hkd h ∧ hln h' = hln h) (hr : ∀ b, ¬ X b → rd h' b = rd h b) (hX : ∀ b, X b → b < 254) : FrX X h h' := ⟨s, by rw [e.1]; exact Int.le_refl _, fun b _ => ⟨by rw [e.2.2.1], by rw [e.2.2.2]⟩, fun b _ h2 => hr b h2, fun a k ho hx hk => hr _ (fun q => by have := hX _ q; omega)⟩
def ua (x : Int) : Int := if x < 254 then 1 else 0
def sdL : List Int := [42, 45, 48, 51, 54, 57, 60, 63, 115, 118, 121, 124, 127, 130, 133, 136]
def rwL : List Int := [85, 97, 103, 109]
def Us (h : Hp) : Int := (sdL.map (fun b => ua (rd h b 5))).sum
def Ur (h : Hp) : Int := (rwL.map (fun b => ua (rd h b 5))).sum
theorem smL {f g : Int → Int} {x : Int} : ∀ (l : List Int), l.Nodup → x ∈ l → (∀ y ∈ l, y ≠ x → f y = g y) → (l.map f).sum = (l.map g).sum + (f x - g x) := by
  intro l
  induction l with
  | nil => intro _ hx; exact absurd hx (by simp)
  | cons a l ih =>
    intro hn hx he
    rw [List.nodup_cons] at hn
    rw [List.map_cons, List.map_cons, List.sum_cons, List.sum_cons]
    by_cases c : x = a
    · subst c
      have : l.map f = l.map g := List.map_congr_left (fun y hy => he y (List.mem_cons_of_mem _ hy) (fun q => hn.1 (q ▸ hy)))
      rw [this]
      omega
    · have hx2 : x ∈ l := by
        rcases List.mem_cons.1 hx with q | q
        · exact absurd q c
        · exact q
      rw [ih hn.2 hx2 (fun y hy => he y (List.mem_cons_of_mem _ hy)), he a (List.mem_cons_self ..) (fun q => c q.symm)]
      omega
theorem sdL_iff {a : Int} : a ∈ sdL ↔ isSd a := by
  unfold sdL isSd
  constructor
  · intro h
    simp only [List.mem_cons, List.not_mem_nil, or_false] at h
    rcases h with h | h | h | h | h | h | h | h | h | h | h | h | h | h | h | h
    · exact ⟨0, by omega, by omega, by omega⟩
    · exact ⟨1, by omega, by omega, by omega⟩
    · exact ⟨2, by omega, by omega, by omega⟩
    · exact ⟨3, by omega, by omega, by omega⟩
    · exact ⟨4, by omega, by omega, by omega⟩
    · exact ⟨5, by omega, by omega, by omega⟩
    · exact ⟨6, by omega, by omega, by omega⟩
    · exact ⟨7, by omega, by omega, by omega⟩
    · exact ⟨0, by omega, by omega, by omega⟩
    · exact ⟨1, by omega, by omega, by omega⟩
    · exact ⟨2, by omega, by omega, by omega⟩
    · exact ⟨3, by omega, by omega, by omega⟩
    · exact ⟨4, by omega, by omega, by omega⟩
    · exact ⟨5, by omega, by omega, by omega⟩
    · exact ⟨6, by omega, by omega, by omega⟩
    · exact ⟨7, by omega, by omega, by omega⟩
  · intro ⟨p, p0, p1, e⟩
    simp only [List.mem_cons, List.not_mem_nil, or_false]
    omega
theorem rwL_iff {a : Int} : a ∈ rwL ↔ isRw a := by
  unfold rwL isRw
  simp only [List.mem_cons, List.not_mem_nil, or_false]
def SdA (h : Hp) (a : Int) : Prop := (rd h a 4 < 254 ∧ rd h a 5 < 254 ∧ vo h (rd h a 4) 0 ∧ hln h (rd h a 4) = 0) ∨ (vA h (rd h a 4) 600 ∧ vA h (rd h a 5) 600)
def RwA (h : Hp) (r : Int) : Prop := (rd h r 5 < 254 ∧ rd h r 6 < 254 ∧ vo h (rd h r 5) 0 ∧ hln h (rd h r 5) = 0) ∨ (vA h (rd h r 5) 2048 ∧ vA h (rd h r 6) 256)
def Dst (h : Hp) : Prop := ∀ a k b j, Own a k → Own b j → ¬ (a = b ∧ k = j) → 254 ≤ rd h a k → rd h a k ≠ rd h b j
def Rm (h : Hp) : Prop := hsz h + 2 * (Us h + Ur h) ≤ 600001 ∧ hus h + 1200 * Us h + 2304 * Ur h ≤ 7302250
def Dy (h : Hp) : Prop := (∀ a, isSd a → SdA h a) ∧ (∀ r, isRw r → RwA h r) ∧ Dst h ∧ Rm h
theorem own_hi {h : Hp} (d : Dy h) {a k : Int} (o : Own a k) : rd h a k < hsz h ∨ rd h a k < 254 := by
  rcases o with ⟨ha, hk⟩ | ⟨ha, hk⟩
  · rcases d.1 a ha with q | q
    · rcases hk with e | e <;> subst e
      · exact Or.inr q.1
      · exact Or.inr q.2.1
    · rcases hk with e | e <;> subst e
      · exact Or.inl q.1.1.2.2.1
      · exact Or.inl q.2.1.2.2.1
  · rcases d.2.1 a ha with q | q
    · rcases hk with e | e <;> subst e
      · exact Or.inr q.1
      · exact Or.inr q.2.1
    · rcases hk with e | e <;> subst e
      · exact Or.inl q.1.1.2.2.1
      · exact Or.inl q.2.1.2.2.1
theorem Dy_eq {h h' : Hp} (e : hsz h' = hsz h ∧ hus h' = hus h ∧ hkd h' = hkd h ∧ hln h' = hln h) (ho : ∀ a k, Own a k → rd h' a k = rd h a k) (d : Dy h) : Dy h' := by
  have s4 : ∀ a, isSd a → rd h' a 4 = rd h a 4 ∧ rd h' a 5 = rd h a 5 := fun a ha => ⟨ho a 4 (Or.inl ⟨ha, Or.inl rfl⟩), ho a 5 (Or.inl ⟨ha, Or.inr rfl⟩)⟩
  have r5 : ∀ a, isRw a → rd h' a 5 = rd h a 5 ∧ rd h' a 6 = rd h a 6 := fun a ha => ⟨ho a 5 (Or.inr ⟨ha, Or.inl rfl⟩), ho a 6 (Or.inr ⟨ha, Or.inr rfl⟩)⟩
  obtain ⟨d1, d2, d3, d4⟩ := d
  refine ⟨fun a ha => ?_, fun r hr => ?_, fun a k b j oa ob hn hk => ?_, ?_⟩
  · unfold SdA
    rw [(s4 a ha).1, (s4 a ha).2]
    rcases d1 a ha with ⟨q1, q2, q3, q4⟩ | ⟨q1, q2⟩
    · exact Or.inl ⟨q1, q2, vo_eq e.1 e.2.2.1 q3, by rw [e.2.2.2]; exact q4⟩
    · exact Or.inr ⟨vA_eq e.1 e.2.2.1 e.2.2.2 q1, vA_eq e.1 e.2.2.1 e.2.2.2 q2⟩
  · unfold RwA
    rw [(r5 r hr).1, (r5 r hr).2]
    rcases d2 r hr with ⟨q1, q2, q3, q4⟩ | ⟨q1, q2⟩
    · exact Or.inl ⟨q1, q2, vo_eq e.1 e.2.2.1 q3, by rw [e.2.2.2]; exact q4⟩
    · exact Or.inr ⟨vA_eq e.1 e.2.2.1 e.2.2.2 q1, vA_eq e.1 e.2.2.1 e.2.2.2 q2⟩
  · rw [ho a k oa] at hk ⊢
    rw [ho b j ob]
    exact d3 a k b j oa ob hn hk
  · have u1 : Us h' = Us h := by
      unfold Us
      congr 1
      exact List.map_congr_left (fun y hy => by rw [(s4 y (sdL_iff.1 hy)).2])
    have u2 : Ur h' = Ur h := by
      unfold Ur
      congr 1
      exact List.map_congr_left (fun y hy => by rw [(r5 y (rwL_iff.1 hy)).1])
    unfold Rm
    rw [u1, u2, e.1, e.2.1]
    exact d4
theorem Us_new {h h' : Hp} {a : Int} (ha : isSd a) (hb : ∀ b, isSd b → b ≠ a → rd h' b 5 = rd h b 5) (h0 : rd h a 5 < 254) (h1 : 254 ≤ rd h' a 5) : Us h' = Us h - 1 := by
  unfold Us
  rw [smL (f := fun b => ua (rd h' b 5)) (g := fun b => ua (rd h b 5)) (x := a) sdL (by decide) (sdL_iff.2 ha) (fun y hy hne => by show ua (rd h' y 5) = ua (rd h y 5); rw [hb y (sdL_iff.1 hy) hne])]
  show _ + (ua (rd h' a 5) - ua (rd h a 5)) = _
  unfold ua
  rw [if_neg (by omega), if_pos h0]
  omega
theorem Ur_new {h h' : Hp} {a : Int} (ha : isRw a) (hb : ∀ b, isRw b → b ≠ a → rd h' b 5 = rd h b 5) (h0 : rd h a 5 < 254) (h1 : 254 ≤ rd h' a 5) : Ur h' = Ur h - 1 := by
  unfold Ur
  rw [smL (f := fun b => ua (rd h' b 5)) (g := fun b => ua (rd h b 5)) (x := a) rwL (by decide) (rwL_iff.2 ha) (fun y hy hne => by show ua (rd h' y 5) = ua (rd h y 5); rw [hb y (rwL_iff.1 hy) hne])]
  show _ + (ua (rd h' a 5) - ua (rd h a 5)) = _
  unfold ua
  rw [if_neg (by omega), if_pos h0]
  omega
theorem sr_ne {a r : Int} (ha : isSd a) (hr : isRw r) : a ≠ r := by
  obtain ⟨p, p0, p1, e⟩ := ha
  unfold isRw at hr
  omega
/-- a vA stays where nothing is taken away -/
theorem vA_gr {h h' : Hp} {a n : Int} (e1 : hsz h ≤ hsz h') (e2 : ∀ b, b < hsz h → hkd h' b = hkd h b ∧ hln h' b = hln h b) (v : vA h a n) : vA h' a n := by
  obtain ⟨⟨v1, v2, v3, v4⟩, v5⟩ := v
  exact ⟨⟨v1, v2, by omega, by rw [(e2 a v3).1]; exact v4⟩, by rw [(e2 a v3).2]; exact v5⟩
theorem vo_gr {h h' : Hp} {a : Int} {κ : Nat} (e1 : hsz h ≤ hsz h') (e2 : ∀ b, b < hsz h → hkd h' b = hkd h b ∧ hln h' b = hln h b) (v : vo h a κ) : vo h' a κ := by
  obtain ⟨v2, v3, v4⟩ := v
  exact ⟨v2, by omega, by rw [(e2 a v3).1]; exact v4⟩
/-- two arrays were made for an owner -/
theorem Dst_new {h h' : Hp} (sh : Sh h) (d : Dy h) {a k1 k2 : Int} (hk : k1 ≠ k2) (o1 : Own a k1) (o2 : Own a k2) (on : ∀ k, Own a k → k = k1 ∨ k = k2) (e1 : rd h' a k1 = hsz h) (e2 : rd h' a k2 = hsz h + 1) (ho : ∀ b j, Own b j → b ≠ a → rd h' b j = rd h b j) : Dst h' := by
  have hz := sh.1
  intro x k y j ox oy hn hr
  by_cases cx : x = a
  · subst cx
    by_cases cy : y = x
    · subst cy
      rcases on k ox with q | q <;> rcases on j oy with q2 | q2
      · exact absurd ⟨rfl, q.trans q2.symm⟩ hn
      · rw [q, q2, e1, e2]; omega
      · rw [q, q2, e1, e2]; omega
      · exact absurd ⟨rfl, q.trans q2.symm⟩ hn
    · rw [ho y j oy cy]
      have := own_hi d oy
      rcases on k ox with q | q
      · rw [q, e1]; omega
      · rw [q, e2]; omega
  · rw [ho x k ox cx] at hr ⊢
    have := own_hi d ox
    by_cases cy : y = a
    · subst cy
      rcases on j oy with q | q
      · rw [q, e1]; omega
      · rw [q, e2]; omega
    · rw [ho y j oy cy]
      exact d.2.2.1 x k y j ox oy hn hr
theorem c_settleSd {F : Nat} {h : Hp} {a lo hi : Int} (hF : 1000 ≤ F) (s : Sh h) (d : Dy h) (ha : isSd a) : ∃ h', Sand_settle F a 36 lo hi h = some (0, h') ∧ FrX (fun b => b = a) h h' ∧ Dy h' ∧ (∀ k, k ≠ 4 → k ≠ 5 → rd h' a k = rd h a k) ∧ (vA h' (rd h' a 4) 600 ∧ vA h' (rd h' a 5) 600) ∧ ∀ m, 0 ≤ m → m < 600 → rd h' (rd h' a 4) m = frI (rd h 36) (rd h a 2) m ∧ rd h' (rd h' a 5) m = nxI (frI (rd h 36) (rd h a 2)) lo hi (rd h a 3) m := by
  have o4 : Own a 4 := Or.inl ⟨ha, Or.inl rfl⟩
  have o5 : Own a 5 := Or.inl ⟨ha, Or.inr rfl⟩
  have hal := own_lt o4
  have hz := s.1
  rcases d.1 a ha with ⟨q1, q2, q3, q4⟩ | ⟨q1, q2⟩
  · obtain ⟨h1, e1, s1, ⟨z1, z2⟩, ⟨r4, r5⟩, ⟨v4, v5⟩, gk, gr⟩ := c_settle_new (F := F) (lo := lo) (hi := hi) s ha rfl q3 q4
    obtain ⟨h2, e2, f2, c2⟩ := c_settle1 (F := F) (lo := lo) (hi := hi) hF s1 ha r4 r5 rfl rfl v4 v5 (by omega)
    have ne : ∀ b, b < hsz h → rd h2 b = rd h1 b := fun b hb => f2.2.2 b (by omega) (by omega)
    have ra : ∀ k, k ≠ 4 → k ≠ 5 → rd h1 a k = rd h a k := fun k k4 k5 => gr a k (by omega) (fun q => by omega)
    have nb : ∀ b, b < hsz h → b ≠ a → rd h2 b = rd h b := fun b hb hne => by
      rw [ne b hb]
      funext j
      exact gr b j hb (fun q => hne q.1)
    have hkl : ∀ b, b < hsz h → hkd h2 b = hkd h b ∧ hln h2 b = hln h b := fun b hb => ⟨by rw [f2.1.2.2.1]; exact (gk b hb).1, by rw [f2.1.2.2.2]; exact (gk b hb).2⟩
    have hs2 : hsz h2 = hsz h + 2 := by rw [f2.1.1]; exact z1
    have R4 : rd h2 a 4 = hsz h := by rw [ne a (by omega)]; exact r4
    have R5 : rd h2 a 5 = hsz h + 1 := by rw [ne a (by omega)]; exact r5
    have ow : ∀ b j, Own b j → b ≠ a → rd h2 b j = rd h b j := fun b j ob hb => by
      have := own_lt ob
      rw [nb b (by omega) hb]
    refine ⟨h2, by rw [e1]; exact e2, ⟨f2.2.1, by omega, hkl, fun b b1 b2 => nb b (by omega) b2, fun b k ob hb hk => ?_⟩, ⟨fun b hb => ?_, fun b hb => ?_, ?_, ?_⟩, fun k k4 k5 => by rw [ne a (by omega)]; exact ra k k4 k5, ⟨?_, ?_⟩, ?_⟩
    · have := own_hi d ob
      exact nb _ (by omega) (by omega)
    · by_cases c : b = a
      · subst c
        refine Or.inr ⟨?_, ?_⟩
        · rw [R4]; exact FrD_vA f2 v4
        · rw [R5]; exact FrD_vA f2 v5
      · unfold SdA
        rw [ow b 4 (Or.inl ⟨hb, Or.inl rfl⟩) c, ow b 5 (Or.inl ⟨hb, Or.inr rfl⟩) c]
        rcases d.1 b hb with ⟨y1, y2, y3, y4⟩ | ⟨y1, y2⟩
        · exact Or.inl ⟨y1, y2, vo_gr (by omega) hkl y3, by rw [(hkl _ (by omega)).2]; exact y4⟩
        · exact Or.inr ⟨vA_gr (by omega) hkl y1, vA_gr (by omega) hkl y2⟩
    · have c : b ≠ a := fun q => sr_ne ha hb q.symm
      unfold RwA
      rw [ow b 5 (Or.inr ⟨hb, Or.inl rfl⟩) c, ow b 6 (Or.inr ⟨hb, Or.inr rfl⟩) c]
      rcases d.2.1 b hb with ⟨y1, y2, y3, y4⟩ | ⟨y1, y2⟩
      · exact Or.inl ⟨y1, y2, vo_gr (by omega) hkl y3, by rw [(hkl _ (by omega)).2]; exact y4⟩
      · exact Or.inr ⟨vA_gr (by omega) hkl y1, vA_gr (by omega) hkl y2⟩
    · refine Dst_new s d (by decide) o4 o5 (fun k ok => ?_) R4 R5 ow
      rcases ok with ⟨-, q⟩ | ⟨q, -⟩
      · exact q
      · exact absurd rfl (sr_ne ha q)
    · have u1 := Us_new (h := h) (h' := h2) ha (fun b hb hne => ow b 5 (Or.inl ⟨hb, Or.inr rfl⟩) hne) q2 (by rw [R5]; omega)
      have u2 : Ur h2 = Ur h := by
        unfold Ur
        congr 1
        exact List.map_congr_left (fun y hy => by
          have hy2 := rwL_iff.1 hy
          rw [ow y 5 (Or.inr ⟨hy2, Or.inl rfl⟩) (fun q => sr_ne ha hy2 q.symm)])
      have d4 := d.2.2.2
      unfold Rm at d4 ⊢
      rw [u1, u2, hs2, f2.1.2.1, z2]
      omega
    · rw [R4]; exact FrD_vA f2 v4
    · rw [R5]; exact FrD_vA f2 v5
    · intro m m0 m1
      obtain ⟨t1, t2⟩ := c2 m m0 m1
      have e36 : rd h1 36 = rd h 36 := by funext j; exact gr 36 j (by omega) (fun q => by omega)
      rw [R4, R5]
      rw [e36, ra 2 (by decide) (by decide)] at t1 t2
      rw [ra 3 (by decide) (by decide)] at t2
      exact ⟨t1, t2⟩
  · have h45 := d.2.2.1 a 4 a 5 o4 o5 (by omega) q1.1.1
    obtain ⟨h2, e2, f2, c2⟩ := c_settle1 (F := F) (lo := lo) (hi := hi) hF s ha rfl rfl rfl rfl q1 q2 h45
    have g4 := q1.1.1
    have g5 := q2.1.1
    have nb : ∀ b, b < 254 → rd h2 b = rd h b := fun b hb => f2.2.2 b (by omega) (by omega)
    refine ⟨h2, by rw [c_settle_old s ha rfl q1]; exact e2, ⟨f2.2.1, by rw [f2.1.1]; exact Int.le_refl _, fun b _ => ⟨by rw [f2.1.2.2.1], by rw [f2.1.2.2.2]⟩, fun b b1 _ => nb b b1, fun b k ob hb hk => f2.2.2 _ (d.2.2.1 b k a 4 ob o4 (fun q => hb q.1) hk) (d.2.2.1 b k a 5 ob o5 (fun q => hb q.1) hk)⟩, Dy_eq f2.1 (fun b k ob => by rw [nb b (own_lt ob).2]) d, fun k _ _ => by rw [nb a (by omega)], ⟨?_, ?_⟩, ?_⟩
    · rw [nb a (by omega)]; exact FrD_vA f2 q1
    · rw [nb a (by omega)]; exact FrD_vA f2 q2
    · rw [nb a (by omega)]; exact c2
