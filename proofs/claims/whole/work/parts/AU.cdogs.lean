/-! dogs, the class's side -/
theorem iushr_nn (x : Int) : 0 ≤ iushr x 1 ∧ iushr x 1 < 2147483648 := by
  have e : iushr x 1 = ((Int32.ofInt x).toBitVec >>> 1).toInt := by
    unfold iushr
    rw [show ((Int32.ofInt 1).toUInt32 &&& Int32.toUInt32 31) = (1 : UInt32) by decide]
    show ((Int32.ofInt x).toBitVec >>> (UInt32.mod 1 32).toBitVec).toInt = _
    rw [show (UInt32.mod 1 32).toBitVec = (1 : BitVec 32) by decide]
    rfl
  rw [e]
  have l := ((Int32.ofInt x).toBitVec).isLt
  have h : ((Int32.ofInt x).toBitVec >>> 1).toNat < 2147483648 := by
    rw [BitVec.toNat_ushiftRight, Nat.shiftRight_eq_div_pow]
    omega
  rw [BitVec.toInt_eq_toNat_of_lt (by omega)]
  omega
theorem irem_b {x : Int} (hx : 0 ≤ x) (hx2 : x < 2147483648) : irem x 100 = x % 100 := by
  have h5 : 0 ≤ x / 100 ∧ x / 100 ≤ x := by omega
  unfold irem
  have e1 : w32 (x / 100) = x / 100 := w32_id (by omega) (by omega)
  have e2 : w32 (x / 100 * 100) = x / 100 * 100 := w32_id (by omega) (by omega)
  have e3 : w32 (x - x / 100 * 100) = x - x / 100 * 100 := w32_id (by omega) (by omega)
  rw [Int.tdiv_eq_ediv_of_nonneg hx, e1, e2, e3]
  clear e1 e2 e3
  omega
theorem lot_nn (s v : Int) : 0 ≤ lotV s v := by
  unfold lotV
  have := iushr_nn (mixV (mixV s 29) v)
  rw [irem_b this.1 this.2]
  omega
def Xd (b : Int) : Prop := b = 20 ∨ b = 21 ∨ b = 34 ∨ b = 35 ∨ b = 155 ∨ b = 156 ∨ b = 157
def PD (h0 h : Hp) : Prop := FrX Xd h0 h ∧ (hsz h = hsz h0 ∧ hus h = hus h0 ∧ hkd h = hkd h0 ∧ hln h = hln h0)
theorem PD_tr {X : Int → Prop} {h0 h h1 : Hp} (a : PD h0 h) (f : FrX X h h1) (hX : ∀ b, X b → Xd b) (z : hsz h1 = hsz h ∧ hus h1 = hus h ∧ hkd h1 = hkd h ∧ hln h1 = hln h) : PD h0 h1 := ⟨FrX_trans a.1 (FrX_mono hX f), ⟨z.1.trans a.2.1, z.2.1.trans a.2.2.1, z.2.2.1.trans a.2.2.2.1, z.2.2.2.trans a.2.2.2.2⟩⟩
theorem PD_JK {n : Int} {h0 h : Hp} {Λ : Nat → Lw} (j : JJ n h0 Λ) (q : PD h0 h) : JShore h (dt h0) Λ ∧ StE h 66 (dt h0) (rd h0 239) := by
  have := JK0_X (jD j) (FrX_mono (fun b hb => by unfold Xd at hb; unfold Xq; omega) q.1) j.2.1
  exact ⟨this.2.2.1, this.2.2.2.1⟩
theorem PD_end {n : Int} {h0 h h2 : Hp} {Λ : Nat → Lw} (j : JJ n h0 Λ) (q : PD h0 h) (fr : Fr h h2) : JJ (n + 1) h2 Λ := JJ_q j q.1 (fun b hb => by unfold Xd at hb; unfold Xq; omega) (Dy_X q.2 q.1 (fun x y o => by have := own_in o; unfold Xd; omega) j.2.2.2) (JPl_X (jD j).1.2 q.1 (fun b hb => by unfold Xd at hb; omega) j.2.2.1) fr
theorem c_dogTells {F : Nat} {n p m : Int} {h0 h : Hp} {Λ : Nat → Lw} (hF : 6000 ≤ F) (j : JJ n h0 Λ) (q : PD h0 h) (hp : 0 ≤ p ∧ p < dt h0 0 0) (hm : 0 ≤ m ∧ m < 600) : ∃ h', Shor_dogTells F 22 p m h = some (dt h0 15 (600 * p + m), h') ∧ PD h0 h' ∧ ∀ b, b ≠ 20 → b ≠ 21 → b ≠ 34 → b ≠ 35 → rd h' b = rd h b := by
  have s := q.1.1
  have dk := jD j
  obtain ⟨⟨cd, clz, -, -⟩, -⟩ := PD_JK j q
  have ic := cd.1.1
  have hp8 : 0 ≤ p ∧ p < 8 := by have := dk.1.2; omega
  obtain ⟨x1, x2, -, -⟩ := cd.1.2.2.2.1 p hp.1 hp.2
  obtain ⟨h', a1, a2⟩ := c_loose (F := F) (x := dt h0 22 p) (y := dt h0 23 p) (m := m) (by omega) s ic clz
  obtain ⟨d1, d2, -, -, d5⟩ := j.1.2.2.1.2 p hp.1 hp.2
  refine ⟨h', ?_, PD_tr q (FrX_Lc ic a2) (fun b hb => by unfold isSc at ic; unfold Xd; omega) a2.1, fun b b1 b2 b3 b4 => a2.2.2 b (by unfold isSc at ic; omega) (by unfold isSc at ic; omega)⟩
  unfold Shor_dogTells
  rw [gH0 s, gC14 s ic, gH0 s, gC0 s ic, aC0 s ic hp8.1 hp8.2, x1, gH0 s, gC1 s ic, aC1 s ic hp8.1 hp8.2, x2, ivL s ic, a1, cl_some, (d5 m hm.1 hm.2).2.2.2, d1, d2]
theorem k_dog {F : Nat} {n p t : Int} {h : Hp} {Λ : Nat → Lw} (hF : 6000 ≤ F) (j : JJ n h Λ) : Okc n h (Tide_dog F 1 p t h) (fun h1 => Mod_dog F 194 p t h1) := by
  have s := jS j
  have cd := jCD j
  by_cases cp : 0 ≤ p ∧ p < dt h 0 0
  rotate_left
  · refine okc_q0 j (r := -1) ?_ ⟨h, ?_, Fr_refl j.1.1⟩
    · unfold Tide_dog
      rw [ivT s, c_isPart s cd, cl_some, if_neg cp, if_pos rfl]
    · rw [m_dog (jMo j)]; unfold dogM; rw [if_neg (fun z => cp z.1)]
  by_cases ct : 0 ≤ t ∧ t < 600
  rotate_left
  · refine okc_q0 j (r := -1) ?_ ⟨h, ?_, Fr_refl j.1.1⟩
    · unfold Tide_dog
      rw [ivT s, c_isPart s cd, cl_some, if_pos cp, if_neg (by decide), c_isMinute, cl_some, if_neg ct, if_pos rfl]
    · rw [m_dog (jMo j)]; unfold dogM; rw [if_neg (fun z => ct z.2)]
  obtain ⟨h1, a1, a2, a3⟩ := c_dogTells (F := F) hF j ⟨FrX_refl s, rfl, rfl, rfl, rfl⟩ cp ct
  have e := RfE_X a2.1 (fun b hb => by unfold Xd at hb; omega)
  have jm := RfE_JM e j.1
  refine ⟨dt h 15 (600 * p + t), h1, h1, Λ, ?_, a2.1.1, ?_, PD_end j a2 (Fr_refl jm.1), Sc_X s a2.1 (by unfold Xd; omega), ⟨rfl, rfl⟩⟩
  · unfold Tide_dog
    rw [ivT s, c_isPart s cd, cl_some, if_pos cp, if_neg (by decide), c_isMinute, cl_some, if_pos ct, if_neg (by decide), gT4 s, ivH s, a1, cl_some]
  · show Mod_dog F 194 p t h1 = _
    rw [m_dog jm.1.1.1]; unfold dogM; rw [RfE_dt e, if_pos ⟨cp, ct⟩]
theorem c_runOver {F : Nat} {p t s : Int} {h : Hp} {D : Nat → Int → Int} (hs : Sh h) (hp : 0 ≤ p ∧ p < 8) (ht : t < 600) : ∀ (k N : Nat) (a : Int), 0 ≤ a → k = (t + 1 - a).toNat → k < N → (∀ m, a ≤ m → m ≤ t → rd h 157 m = D 15 (600 * p + m)) → Tide_isRunOver_L3 F N 1 (mixV s 29) p t a h = some (if exN (fun u => decide (lotV s (8 * u + p) < D 15 (600 * p + u))) a k then 1 else 0, h) := by
  intro k
  induction k with
  | zero =>
    intro N a a0 hk hN hr
    obtain ⟨N, rfl⟩ : ∃ m, N = m + 1 := ⟨N - 1, by omega⟩
    show Tide_isRunOver_L3s F (Tide_isRunOver_L3 F N) 1 (mixV s 29) p t a h = some (if false = true then 1 else 0, h)
    unfold Tide_isRunOver_L3s
    rw [if_pos (by omega), rz_0]
    rfl
  | succ k ih =>
    intro N a a0 hk hN hr
    obtain ⟨N, rfl⟩ : ∃ m, N = m + 1 := ⟨N - 1, by omega⟩
    have i1 := ih N (a + 1) (by omega) (by omega) (by omega) (fun m m0 m1 => hr m (by omega) m1)
    have es : exN (fun u => decide (lotV s (8 * u + p) < D 15 (600 * p + u))) a (k + 1) = (decide (lotV s (8 * a + p) < D 15 (600 * p + a)) || exN (fun u => decide (lotV s (8 * u + p) < D 15 (600 * p + u))) (a + 1) k) := rfl
    have ln := lot_nn s (8 * a + p)
    have o1 : ¬ t < a := by omega
    have o2 : 0 ≤ a ∧ a < 600 := by omega
    have ra := hr a (by omega) (by omega)
    have v1 : -2147483648 ≤ 8 * a ∧ 8 * a < 2147483648 ∧ -2147483648 ≤ 8 * a + p ∧ 8 * a + p < 2147483648 ∧ -2147483648 ≤ a + 1 ∧ a + 1 < 2147483648 := by omega
    have mx : Tide_mixed F (mixV s 29) (8 * a + p) h = some (mixV (mixV s 29) (8 * a + p), h) := rfl
    have lv : irem (iushr (mixV (mixV s 29) (8 * a + p)) 1) 100 = lotV s (8 * a + p) := rfl
    have c0 : 0 < D 15 (600 * p + a) ∨ ¬ 0 < D 15 (600 * p + a) := Classical.em _
    have cl0 : lotV s (8 * a + p) < D 15 (600 * p + a) ∨ ¬ lotV s (8 * a + p) < D 15 (600 * p + a) := Classical.em _
    have im : ¬ 0 < D 15 (600 * p + a) → ¬ lotV s (8 * a + p) < D 15 (600 * p + a) := fun z y => by omega
    have w1 : w32 (8 * a) = 8 * a := w32_id v1.1 v1.2.1
    have w2 : w32 (8 * a + p) = 8 * a + p := w32_id v1.2.2.1 v1.2.2.2.1
    have w3 : w32 (a + 1) = a + 1 := w32_id v1.2.2.2.2.1 v1.2.2.2.2.2
    show Tide_isRunOver_L3s F (Tide_isRunOver_L3 F N) 1 (mixV s 29) p t a h = _
    unfold Tide_isRunOver_L3s
    rw [if_neg o1, gT13 hs, aT13 hs o2.1 o2.2, ra, w1, w2, w3, mx, cl_some, dm_ok (by decide), lv, es]
    rcases c0 with c0 | c0
    · rw [if_pos c0]
      rcases cl0 with cl | cl
      · rw [if_pos cl, rz_1, decide_eq_true cl, Bool.true_or, if_pos rfl]
      · rw [if_neg cl, i1, decide_eq_false cl, Bool.false_or]
    · rw [if_neg c0, i1, decide_eq_false (im c0), Bool.false_or]
