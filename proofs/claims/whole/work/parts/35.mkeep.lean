/-! the reference's acts, kept and taken back -/
def actR (R : Int → Int) (k w p : Int) : Int → Int := up (if R 44 < 30 then up (up (up R (45 + 3 * R 44) k) (46 + 3 * R 44) w) (47 + 3 * R 44) p else R) 44 (R 44 + 1)
theorem actR_44 (R : Int → Int) (k w p : Int) : actR R k w p 44 = R 44 + 1 := up_s _ _ _
def hisA (H : Int → Int) (u : Int) : Int → Int := if u = 40 then (fun j => if 0 ≤ j ∧ j < 5460 then H (j + 140) else H j) else H
def hisB (H N : Int → Int) (u : Int) : Int → Int := fun j => if 140 * u ≤ j ∧ j < 140 * u + 140 then N (j - 140 * u) else H j
def undA (u : Int) : Int := if u = 40 then 39 else u
def kpsH (h : Hp) (k w p : Int) : Hp := sr (sr (wr (sr h 241 (hisB (hisA (rd h 241) (rd h 194 64)) (rd h 239) (undA (rd h 194 64)))) 194 64 (undA (rd h 194 64) + 1)) 240 (actR (rd h 240) k w p)) 239 (actR (rd h 240) k w p)
theorem Zo_act {R : Int → Int} (z : Zo 140 R) {k w p : Int} (h0 : 0 ≤ R 44) : Zo 140 (actR R k w p) := by
  unfold actR
  refine Zo_up ?_ (by decide)
  split
  · exact Zo_up (Zo_up (Zo_up z (by omega)) (by omega)) (by omega)
  · exact z
theorem m_keeps_B170 {F : Nat} {h : Hp} (hF : 1000 ≤ F) (s : Sh h) (z1 : Zo 140 (rd h 239)) (z2 : Zo 140 (rd h 240)) (h44 : 0 ≤ rd h 240 44 ∧ rd h 240 44 < 1000000) : Mod_keeps_B170 F 194 h = some (0, sr (sr h 240 (up (rd h 240) 44 (rd h 240 44 + 1))) 239 (up (rd h 240) 44 (rd h 240 44 + 1))) := by
  unfold Mod_keeps_B170
  rw [gM63 s, aM63 s (by decide) (by decide), w32_id (by omega) (by omega), sM63 s (by decide) (by decide), wr_sr]
  have s' : Sh (sr h 240 (up (rd h 240) 44 (rd h 240 44 + 1))) := Sh_sr s (by decide) (by decide)
  rw [ivM s', m_keepsRow hF s' (by rw [rd_sr_ne (by decide)]; exact z1) (by rw [rd_sr]; exact Zo_up z2 (by decide)), cl_some, rd_sr]
theorem m_keeps_B94 {F : Nat} {h : Hp} {k w p : Int} (hF : 1000 ≤ F) (s : Sh h) (z1 : Zo 140 (rd h 239)) (z2 : Zo 140 (rd h 240)) (h44 : 0 ≤ rd h 240 44 ∧ rd h 240 44 < 1000000) (hu : 0 ≤ rd h 194 64 ∧ rd h 194 64 < 40) : Mod_keeps_B94 F 194 k w p h = some (0, sr (sr (wr h 194 64 (rd h 194 64 + 1)) 240 (actR (rd h 240) k w p)) 239 (actR (rd h 240) k w p)) := by
  unfold Mod_keeps_B94
  have s1 : Sh (wr h 194 64 (rd h 194 64 + 1)) := sh64 s _
  have e1 : rd (wr h 194 64 (rd h 194 64 + 1)) 240 = rd h 240 := rd_wr_ne (by decide)
  have e2 : rd (wr h 194 64 (rd h 194 64 + 1)) 239 = rd h 239 := rd_wr_ne (by decide)
  rw [gM64 s, w32_id (by omega) (by omega), pM64 s, gM63 s1, aM63 s1 (by decide) (by decide), e1]
  by_cases h3 : rd h 240 44 < 30
  · rw [if_pos h3]
    have q2 : ∀ R, Sh (sr (wr h 194 64 (rd h 194 64 + 1)) 240 R) := fun R => Sh_sr s1 (by decide) (by decide)
    have n1 : up (rd h 240) (45 + 3 * rd h 240 44) k 44 = rd h 240 44 := up_n (by omega)
    have n2 : up (up (rd h 240) (45 + 3 * rd h 240 44) k) (46 + 3 * rd h 240 44) w 44 = rd h 240 44 := by rw [up_n (by omega)]; exact n1
    have n3 : up (up (up (rd h 240) (45 + 3 * rd h 240 44) k) (46 + 3 * rd h 240 44) w) (47 + 3 * rd h 240 44) p 44 = rd h 240 44 := by rw [up_n (by omega)]; exact n2
    rw [gM63 s1, gM63 s1, aM63 s1 (by decide) (by decide), e1, w32_id (x := 3 * rd h 240 44) (by omega) (by omega), w32_id (x := 45 + 3 * rd h 240 44) (by omega) (by omega), sM63 s1 (by omega) (by omega), wr_sr, e1,
      gM63 (q2 _), gM63 (q2 _), aM63 (q2 _) (by decide) (by decide), rd_sr, n1, w32_id (x := 3 * rd h 240 44) (by omega) (by omega), w32_id (x := 46 + 3 * rd h 240 44) (by omega) (by omega), sM63 (q2 _) (by omega) (by omega), wr_up,
      gM63 (q2 _), gM63 (q2 _), aM63 (q2 _) (by decide) (by decide), rd_sr, n2, w32_id (x := 3 * rd h 240 44) (by omega) (by omega), w32_id (x := 47 + 3 * rd h 240 44) (by omega) (by omega), sM63 (q2 _) (by omega) (by omega), wr_up,
      m_keeps_B170 hF (q2 _) (by rw [rd_sr_ne (by decide), e2]; exact z1) (by rw [rd_sr]; exact Zo_up (Zo_up (Zo_up z2 (by omega)) (by omega)) (by omega)) (by rw [rd_sr, n3]; exact h44), rd_sr, n3, sr_sr]
    unfold actR
    rw [if_pos h3]
  · rw [if_neg h3, m_keeps_B170 hF s1 (by rw [e2]; exact z1) (by rw [e1]; exact z2) (by rw [e1]; exact h44), e1]
    unfold actR
    rw [if_neg h3]
def hisC (H N : Int → Int) (u i : Int) : Int → Int := fun j => if 140 * u ≤ j ∧ j < 140 * u + i then N (j - 140 * u) else H j
theorem hisC_up (H N : Int → Int) (u : Int) (i : Nat) : up (hisC H N u i) (140 * u + i) (N i) = hisC H N u ((i + 1 : Nat) : Int) := by
  funext j
  unfold up hisC
  (repeat' split) <;> first | rfl | omega | (congr 1; omega)
theorem m_keeps_L57 {F : Nat} {h : Hp} {k w p : Int} (hF : 1000 ≤ F) (s : Sh h) (z1 : Zo 140 (rd h 239)) (z2 : Zo 140 (rd h 240)) (h44 : 0 ≤ rd h 240 44 ∧ rd h 240 44 < 1000000) (hu : 0 ≤ rd h 194 64 ∧ rd h 194 64 < 40) :
    Mod_keeps_L57 F F 194 k w p 0 h = some (0, sr (sr (wr (sr h 241 (hisB (rd h 241) (rd h 239) (rd h 194 64))) 194 64 (rd h 194 64 + 1)) 240 (actR (rd h 240) k w p)) 239 (actR (rd h 240) k w p)) := by
  have hs : ∀ R, Sh (sr h 241 R) := fun R => Sh_sr s (by decide) (by decide)
  have key := loop0 (fun n i => Mod_keeps_L57 F n 194 k w p (i : Int) (sr h 241 (hisC (rd h 241) (rd h 239) (rd h 194 64) i))) 140 F (some (0, sr (sr (wr (sr h 241 (hisB (rd h 241) (rd h 239) (rd h 194 64))) 194 64 (rd h 194 64 + 1)) 240 (actR (rd h 240) k w p)) 239 (actR (rd h 240) k w p))) (by omega) (fun n i hi => ?_) (fun n => ?_)
  · have e0 : hisC (rd h 241) (rd h 239) (rd h 194 64) ((0 : Nat) : Int) = rd h 241 := by
      funext j
      unfold hisC
      rw [if_neg (by omega)]
    rw [e0, sr_self] at key
    exact key
  · show Mod_keeps_L57s F (Mod_keeps_L57 F n) 194 k w p i _ = _
    have s1 := hs (hisC (rd h 241) (rd h 239) (rd h 194 64) i)
    unfold Mod_keeps_L57s
    rw [if_pos (by omega), gM65 s1, gM64 s1, gM62 s1, aM62 s1 (by omega) (by omega), rd_sr_ne (by decide), rd_sr_ne (by decide), w32_id (x := 140 * rd h 194 64) (by omega) (by omega), w32_id (x := 140 * rd h 194 64 + (i : Int)) (by omega) (by omega), sM65 s1 (by omega) (by omega), wr_up, hisC_up, w32_nat (by omega)]
  · show Mod_keeps_L57s F (Mod_keeps_L57 F n) 194 k w p _ _ = _
    unfold Mod_keeps_L57s
    have e1 : hisC (rd h 241) (rd h 239) (rd h 194 64) ((140 : Nat) : Int) = hisB (rd h 241) (rd h 239) (rd h 194 64) := rfl
    have a1 : ∀ R, rd (sr h 241 R) 240 = rd h 240 := fun R => rd_sr_ne (by decide)
    have a2 : ∀ R, rd (sr h 241 R) 239 = rd h 239 := fun R => rd_sr_ne (by decide)
    have a3 : ∀ R, rd (sr h 241 R) 194 = rd h 194 := fun R => rd_sr_ne (by decide)
    rw [if_neg (by decide), e1, m_keeps_B94 hF (hs _) (by rw [a2]; exact z1) (by rw [a1]; exact z2) (by rw [a1]; exact h44) (by rw [a3]; exact hu), a1, a3]
theorem m_keeps {F : Nat} {h : Hp} {k w p : Int} (hF : 6000 ≤ F) (s : Sh h) (z1 : Zo 140 (rd h 239)) (z2 : Zo 140 (rd h 240)) (h44 : 0 ≤ rd h 240 44 ∧ rd h 240 44 < 1000000) (hu : 0 ≤ rd h 194 64 ∧ rd h 194 64 ≤ 40) : Mod_keeps F 194 k w p h = some (0, kpsH h k w p) := by
  unfold Mod_keeps kpsH
  rw [gM64 s]
  by_cases h4 : rd h 194 64 = 40
  · rw [if_pos h4]
    have eA : hisA (rd h 241) (rd h 194 64) = fl (fun j => rd h 241 (j + 140)) (rd h 241) 5460 := by
      unfold hisA
      rw [if_pos h4]
      rfl
    have eU : undA (rd h 194 64) = 39 := by unfold undA; rw [if_pos h4]
    rw [eA, eU]
    have hs : ∀ R, Sh (sr h 241 R) := fun R => Sh_sr s (by decide) (by decide)
    have key := loop0 (fun n i => Mod_keeps_L12 F n 194 k w p (i : Int) (sr h 241 (fl (fun j => rd h 241 (j + 140)) (rd h 241) i))) 5460 F (some (0, sr (sr (wr (sr h 241 (hisB (fl (fun j => rd h 241 (j + 140)) (rd h 241) 5460) (rd h 239) 39)) 194 64 (39 + 1)) 240 (actR (rd h 240) k w p)) 239 (actR (rd h 240) k w p))) (by omega) (fun n i hi => ?_) (fun n => ?_)
    · rw [show ((0 : Nat) : Int) = 0 from rfl, fl_0, sr_self] at key
      exact key
    · show Mod_keeps_L12s F (Mod_keeps_L12 F n) 194 k w p i _ = _
      have s1 := hs (fl (fun j => rd h 241 (j + 140)) (rd h 241) i)
      have e := fl_up (fun j => rd h 241 (j + 140)) (rd h 241) i
      have e2 : fl (fun j => rd h 241 (j + 140)) (rd h 241) i ((i : Int) + 140) = rd h 241 ((i : Int) + 140) := by unfold fl; rw [if_neg (by omega)]
      unfold Mod_keeps_L12s
      rw [if_pos (by omega), gM65 s1, gM65 s1, w32_id (x := (i : Int) + 140) (by omega) (by omega), aM65 s1 (by omega) (by omega), rd_sr, e2, sM65 s1 (by omega) (by omega), wr_up, e, w32_nat (by omega)]
    · show Mod_keeps_L12s F (Mod_keeps_L12 F n) 194 k w p _ _ = _
      have s1 := hs (fl (fun j => rd h 241 (j + 140)) (rd h 241) 5460)
      have s2 := sh64 s1 39
      have a1 : ∀ R v, rd (wr (sr h 241 R) 194 64 v) 240 = rd h 240 := fun R v => by rw [rd_wr_ne (by decide), rd_sr_ne (by decide)]
      have a2 : ∀ R v, rd (wr (sr h 241 R) 194 64 v) 239 = rd h 239 := fun R v => by rw [rd_wr_ne (by decide), rd_sr_ne (by decide)]
      have a3 : ∀ R v, rd (wr (sr h 241 R) 194 64 v) 241 = R := fun R v => by rw [rd_wr_ne (by decide), rd_sr]
      have a4 : ∀ R R', sr (wr (sr h 241 R) 194 64 39) 241 R' = wr (sr h 241 R') 194 64 39 := fun R R' => by
        rw [wr_sr, wr_sr, sr_comm (by decide), sr_sr, rd_sr_ne (by decide), rd_sr_ne (by decide)]
      have a5 : ∀ g : Hp, wr (wr g 194 64 39) 194 64 (39 + 1) = wr g 194 64 (39 + 1) := fun g => by
        rw [wr_sr g, wr_up, wr_sr g]
        congr 1
        funext j
        unfold up
        split <;> rfl
      unfold Mod_keeps_L12s
      rw [if_neg (by decide), show ((5460 : Nat) : Int) = 5460 from rfl, gM64 s1, rd_sr_ne (by decide), h4, w32_id (by decide) (by decide), pM64 s1, show (40 : Int) - 1 = 39 from rfl,
        m_keeps_L57 (by omega) s2 (by rw [a2]; exact z1) (by rw [a1]; exact z2) (by rw [a1]; exact h44) (by rw [rd_same]; decide), rd_same, a1, a2, a3, a4, a5]
  · rw [if_neg h4, m_keeps_L57 (by omega) s z1 z2 h44 (by omega)]
    unfold hisA undA
    rw [if_neg h4, if_neg h4]
