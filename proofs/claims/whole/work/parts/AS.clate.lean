/-! late: what was done, done again -/
theorem bg_at {D : Nat → Int → Int} (h3 : D 1 0 ≤ 3) : (∀ p, 0 ≤ p → p < 8 → bgR D p = -2 ∧ bgR D (8 + p) = 0 ∧ bgR D (16 + p) = -2) ∧ bgR D 44 = 0 := by
  unfold bgR
  refine ⟨fun p p0 p1 => ⟨if_pos ⟨p0, p1⟩, ?_, ?_⟩, ?_⟩
  · rw [if_neg (by omega), if_neg (by omega), if_neg (by omega), if_neg (by omega)]
  · rw [if_neg (by omega), if_pos (by omega)]
  · rw [if_neg (by omega), if_neg (by omega), if_neg (by omega), if_neg (by omega)]
theorem RwN_bg {h : Hp} (m : Mo h) : RwN 0 (dt h) (bgR (dt h)) := by
  obtain ⟨b1, b2⟩ := bg_at (D := dt h) m.2.2.2.1.2
  refine ⟨⟨Rok_bg m, fun p p0 p1 => ⟨Or.inl (b1 p p0 p1).2.1, Or.inl (b1 p p0 p1).2.2⟩⟩, fun i i1 => ?_, fun i i1 => ?_, by rw [b2]; decide, fun p p0 p1 => ⟨(b1 p (by have := m.2.2.1.1; omega) p1).1, (b1 p (by have := m.2.2.1.1; omega) p1).2.1⟩⟩
  · rw [b2] at i1; omega
  · rw [b2] at i1; omega
/-- alike in all but the acts -/
def Lo (R' R : Int → Int) : Prop := ∀ i, 0 ≤ i → i < 44 → R' i = R i
theorem Lo_snd {D : Nat → Int → Int} {R' R : Int → Int} {w p : Int} (l : Lo R' R) (hw : 0 ≤ w ∧ w < 3) (hp : 0 ≤ p ∧ p < 8) : sndV D R' w p = sndV D R w p ∧ Lo (sndR D R' w p) (sndR D R w p) := by
  have e : sndV D R' w p = sndV D R w p := by
    unfold sndV comeR
    rw [l p hp.1 (by omega), l (38 + w) (by omega) (by omega), l (32 + w) (by omega) (by omega), l (35 + w) (by omega) (by omega)]
  refine ⟨e, fun i i0 i1 => ?_⟩
  unfold sndR goR
  rw [e, l (41 + w) (by omega) (by omega)]
  unfold up
  rw [l i i0 i1]
theorem Lo_mnd {D : Nat → Int → Int} {R' R : Int → Int} {w p : Int} (l : Lo R' R) (hw : 0 ≤ w ∧ w < 3) (hp : 0 ≤ p ∧ p < 8) : mndV D R' w p = mndV D R w p ∧ Lo (mndR D R' w p) (mndR D R w p) := by
  have e : mndV D R' w p = mndV D R w p := by
    unfold mndV comeR
    rw [l (8 + p) (by omega) (by omega), l (38 + w) (by omega) (by omega), l (32 + w) (by omega) (by omega), l (35 + w) (by omega) (by omega)]
  refine ⟨e, fun i i0 i1 => ?_⟩
  unfold mndR goR
  rw [e]
  unfold up
  rw [l i i0 i1]
theorem Lo_crs {R' R : Int → Int} {p : Int} (l : Lo R' R) (hp : 0 ≤ p ∧ p < 8) : crsV R' p = crsV R p ∧ Lo (up R' (8 + p) 1) (up R (8 + p) 1) := by
  refine ⟨by unfold crsV; rw [l p hp.1 (by omega), l (8 + p) (by omega) (by omega)], fun i i0 i1 => ?_⟩
  unfold up
  rw [l i i0 i1]
theorem Lo_act {R' R : Int → Int} {k w p : Int} (l : Lo R' R) (h0 : 0 ≤ R' 44) : Lo (actR R' k w p) R := fun i i0 i1 => by rw [actR_lo h0 i1]; exact l i i0 i1
theorem Lo_seen {D : Nat → Int → Int} {R' R : Int → Int} {p t : Int} (l : Lo R' R) (hp : 0 ≤ p ∧ p < 8) : seenD D R' p t = seenD D R p t := by
  unfold seenD
  rw [l p hp.1 (by omega), l (8 + p) (by omega) (by omega), l (16 + p) (by omega) (by omega)]
/-- the three acts on the other stand -/
theorem c_again {F : Nat} {m : Int} {h g : Hp} {R' R : Int → Int} {w p : Int} (mo : Mo g) (s : Sh h) (cd : CD h (dt g)) (st : StE h 143 (dt g) R') (rn : RwN m (dt g) R') (hm : m < 900) (lo : Lo R' R) (hp : 0 ≤ p ∧ p < dt g 0 0) :
    ((0 ≤ w ∧ w < dt g 1 0) → ∃ h' v R'', Stan_rake F 143 22 w p h = some (v, h') ∧ FrX (fun b => 143 ≤ b ∧ b ≤ 154) h h' ∧ (hsz h' = hsz h ∧ hus h' = hus h ∧ hkd h' = hkd h ∧ hln h' = hln h) ∧ StE h' 143 (dt g) R'' ∧ RwN (m + 1) (dt g) R'' ∧ Lo R'' (actS (dt g) R 0 w p)) ∧
    (∃ h' v R'', Stan_strike F 143 p h = some (v, h') ∧ FrX (fun b => 143 ≤ b ∧ b ≤ 154) h h' ∧ (hsz h' = hsz h ∧ hus h' = hus h ∧ hkd h' = hkd h ∧ hln h' = hln h) ∧ StE h' 143 (dt g) R'' ∧ RwN (m + 1) (dt g) R'' ∧ Lo R'' (actS (dt g) R 1 w p)) ∧
    ((0 ≤ w ∧ w < dt g 1 0) → ∃ h' v R'', Stan_repair F 143 22 w p h = some (v, h') ∧ FrX (fun b => 143 ≤ b ∧ b ≤ 154) h h' ∧ (hsz h' = hsz h ∧ hus h' = hus h ∧ hkd h' = hkd h ∧ hln h' = hln h) ∧ StE h' 143 (dt g) R'' ∧ RwN (m + 1) (dt g) R'' ∧ Lo R'' (actS (dt g) R 2 w p)) := by
  have dk := mo.2.2
  have hp8 : 0 ≤ p ∧ p < 8 := by have := dk.1.2; omega
  have b44 : 0 ≤ R' 44 ∧ R' 44 < 1000000 := by have := rn.2.2.2.1; omega
  have i143 : isSt 143 := st.1
  refine ⟨fun cw => ?_, ?_, fun cw => ?_⟩
  · have hw3 : 0 ≤ w ∧ w < 3 := by have := dk.2.1.2; omega
    obtain ⟨e1, e2⟩ := Lo_snd (D := dt g) lo hw3 hp8
    obtain ⟨h', r1, r2, r3⟩ := c_rake (F := F) s dk cd st rn.1 b44 cw hp
    by_cases c : sndV (dt g) R' w p < 0
    · refine ⟨h', _, R', r1, ?_⟩
      rw [r2 c]
      refine ⟨FrX_refl s, ⟨rfl, rfl, rfl, rfl⟩, st, RwN_mono (by omega) rn, ?_⟩
      unfold actS
      rw [if_pos rfl, if_pos (by rw [← e1]; exact c)]
      exact lo
    · obtain ⟨fb, sb⟩ := r3 c
      have nr := Nr_snd (D := dt g) (N := R') hw3 hp8
      have hc := comeR_in mo rn.1.1 cw hp
      have hv := sndV_in mo hp hc
      have i0 : sndR (dt g) R' w p (8 + p) = 0 := by
        unfold sndR goR
        rw [up_n (by omega), up_n (by omega), up_n (by omega), up_n (by omega), up_n (by omega), up_n (by omega), up_s]
      have i2 : sndR (dt g) R' w p (16 + p) = -2 := by
        unfold sndR goR
        rw [up_n (by omega), up_n (by omega), up_n (by omega), up_n (by omega), up_n (by omega), up_s]
      have rn1 : RwN m (dt g) (sndR (dt g) R' w p) := RwN_Nr dk.2.1.2 dk.1.2 nr hw3 hp (Rok_snd mo rn.1.1 cw hp (by omega)) (Or.inl i0) (Or.inl i2) rn
      refine ⟨h', _, actR (sndR (dt g) R' w p) 0 w p, r1, FrX_mono (fun b hb => hb) (FrX_FrS i143 fb), fb.1, sb, RwN_act dk.2.1.2 dk.1.1 rn1 (Or.inl rfl) (Or.inr cw) hp, ?_⟩
      unfold actS
      rw [if_pos rfl, if_neg (by rw [← e1]; exact c)]
      exact Lo_act e2 rn1.2.2.2.1.1
  · obtain ⟨e1, e2⟩ := Lo_crs lo hp8
    obtain ⟨h', r1, r2, r3⟩ := c_strike (F := F) s dk st rn.1 b44 hp
    by_cases c : crsV R' p = 0
    · refine ⟨h', _, R', r1, ?_⟩
      rw [r2 c]
      refine ⟨FrX_refl s, ⟨rfl, rfl, rfl, rfl⟩, st, RwN_mono (by omega) rn, ?_⟩
      unfold actS
      rw [if_neg (by decide), if_pos rfl, if_pos (by rw [← e1]; exact c)]
      exact lo
    · obtain ⟨fb, sb⟩ := r3 c
      have nr := Nr_crs (N := R') hp8
      have i0 : up R' (8 + p) 1 (8 + p) = 1 := up_s _ _ _
      have i2 : up R' (8 + p) 1 (16 + p) = R' (16 + p) := up_n (by omega)
      have rn1 : RwN m (dt g) (up R' (8 + p) 1) := RwN_Nr dk.2.1.2 dk.1.2 nr (by decide) hp (Rok_up rn.1.1 dk.2.1.2 (by omega)) (Or.inr i0) (by rw [i2]; exact (rn.1.2 p hp.1 hp8.2).2) rn
      refine ⟨h', _, actR (up R' (8 + p) 1) 1 0 p, r1, FrX_mono (fun b hb => hb) (FrX_FrS i143 fb), fb.1, sb, RwN_act dk.2.1.2 dk.1.1 rn1 (Or.inr (Or.inl rfl)) (Or.inl rfl) hp, ?_⟩
      unfold actS
      rw [if_neg (by decide), if_pos rfl, if_neg (by rw [← e1]; exact c)]
      exact Lo_act e2 rn1.2.2.2.1.1
  · have hw3 : 0 ≤ w ∧ w < 3 := by have := dk.2.1.2; omega
    obtain ⟨e1, e2⟩ := Lo_mnd (D := dt g) lo hw3 hp8
    obtain ⟨h', r1, r2, r3⟩ := c_repair (F := F) s dk cd st rn.1 b44 cw hp
    by_cases c : mndV (dt g) R' w p < 0
    · refine ⟨h', _, R', r1, ?_⟩
      rw [r2 c]
      refine ⟨FrX_refl s, ⟨rfl, rfl, rfl, rfl⟩, st, RwN_mono (by omega) rn, ?_⟩
      unfold actS
      rw [if_neg (by decide), if_neg (by decide), if_pos rfl, if_pos (by rw [← e1]; exact c)]
      exact lo
    · obtain ⟨fb, sb⟩ := r3 c
      have nr := Nr_mnd (D := dt g) (N := R') hw3 hp8
      have hv := mndV_in c
      have i0 : mndR (dt g) R' w p (8 + p) = 0 := by
        unfold mndR goR
        rw [up_n (by omega), up_n (by omega), up_n (by omega), up_n (by omega), up_s]
      have i2 : mndR (dt g) R' w p (16 + p) = mndV (dt g) R' w p := by
        unfold mndR goR
        rw [up_n (by omega), up_n (by omega), up_n (by omega), up_s]
      have rn1 : RwN m (dt g) (mndR (dt g) R' w p) := RwN_Nr dk.2.1.2 dk.1.2 nr hw3 hp (Rok_mnd mo rn.1.1 cw hp hv) (Or.inl i0) (Or.inr (by rw [i2]; exact hv)) rn
      refine ⟨h', _, actR (mndR (dt g) R' w p) 2 w p, r1, FrX_mono (fun b hb => hb) (FrX_FrS i143 fb), fb.1, sb, RwN_act dk.2.1.2 dk.1.1 rn1 (Or.inr (Or.inr rfl)) (Or.inr cw) hp, ?_⟩
      unfold actS
      rw [if_neg (by decide), if_neg (by decide), if_pos rfl, if_neg (by rw [← e1]; exact c)]
      exact Lo_act e2 rn1.2.2.2.1.1
