/-! the reference's tape -/
def ptB (h : Hp) (v : Int) : Hp := wr (wr h 195 (rd h 194 2) v) 194 2 (rd h 194 2 + 1)
theorem ptB_2 (h : Hp) (v : Int) : rd (ptB h v) 194 2 = rd h 194 2 + 1 := rd_same _ _ _ _
theorem ptB_sh {h : Hp} (s : Sh h) (v : Int) : Sh (ptB h v) := sh2 (shA s (by decide) (by decide)) _
theorem m_put_s {F : Nat} {h : Hp} {w k : Int} (R : Int → Int → Int → Hp → Option (Int × Hp)) (s : Sh h) (hk : 0 ≤ k ∧ k ≤ 24) (h2 : 0 ≤ rd h 194 2 ∧ rd h 194 2 < 2000) : Mod_put_L3s F R 194 w k h = R 194 w (k - 8) (ptB h (i2b (i2b (ishr w k)))) := by
  have s1 : Sh (wr h 195 (rd h 194 2) (i2b (i2b (ishr w k)))) := shA s (by decide) (by decide)
  unfold Mod_put_L3s
  rw [if_neg (by omega), gM1 s, gM2 s, sM1 s (by omega) (by omega), gM2 s1, rd_a (by decide), w32_id (x := rd h 194 2 + 1) (by omega) (by omega), pM2 s1, w32_id (x := k + -8) (by omega) (by omega)]
  rfl
def putH (h : Hp) (w : Int) : Hp := ptB (ptB (ptB (ptB h (i2b (i2b (ishr w 24)))) (i2b (i2b (ishr w 16)))) (i2b (i2b (ishr w 8)))) (i2b (i2b (ishr w 0)))
theorem putH_sh {h : Hp} (s : Sh h) (w : Int) : Sh (putH h w) := ptB_sh (ptB_sh (ptB_sh (ptB_sh s _) _) _) _
theorem putH_2 (h : Hp) (w : Int) : rd (putH h w) 194 2 = rd h 194 2 + 4 := by
  unfold putH
  rw [ptB_2, ptB_2, ptB_2, ptB_2]
  omega
theorem m_put {F : Nat} {h : Hp} {w : Int} (hF : 1000 ≤ F) (s : Sh h) (h2 : 0 ≤ rd h 194 2 ∧ rd h 194 2 ≤ 1996) : Mod_put F 194 w h = some (0, putH h w) := by
  obtain ⟨n, rfl⟩ : ∃ n, F = n + 5 := ⟨F - 5, by omega⟩
  have s1 := ptB_sh s (i2b (i2b (ishr w 24)))
  have s2 := ptB_sh s1 (i2b (i2b (ishr w 16)))
  have s3 := ptB_sh s2 (i2b (i2b (ishr w 8)))
  show Mod_put_L3s (n + 5) (Mod_put_L3 (n + 5) (n + 4)) 194 w 24 h = _
  rw [m_put_s _ s (by decide) (by omega)]
  show Mod_put_L3s (n + 5) (Mod_put_L3 (n + 5) (n + 3)) 194 w 16 _ = _
  rw [m_put_s _ s1 (by decide) (by rw [ptB_2]; omega)]
  show Mod_put_L3s (n + 5) (Mod_put_L3 (n + 5) (n + 2)) 194 w 8 _ = _
  rw [m_put_s _ s2 (by decide) (by rw [ptB_2, ptB_2]; omega)]
  show Mod_put_L3s (n + 5) (Mod_put_L3 (n + 5) (n + 1)) 194 w 0 _ = _
  rw [m_put_s _ s3 (by decide) (by rw [ptB_2, ptB_2, ptB_2]; omega)]
  show Mod_put_L3s (n + 5) (Mod_put_L3 (n + 5) n) 194 w (-8) _ = _
  unfold Mod_put_L3s
  rw [if_pos (by decide)]
  rfl
def fdH (h : Hp) (a b c d e : Int) : Hp := if 2000 < rd h 194 2 + 20 then h else putH (putH (putH (putH (putH h a) b) c) d) e
def fdA (h : Hp) : Int := if 2000 < rd h 194 2 + 20 then -1 else rd h 194 2 + 20
theorem m_feed {F : Nat} {h : Hp} {a b c d e : Int} (hF : 1000 ≤ F) (s : Sh h) (h2 : 0 ≤ rd h 194 2 ∧ rd h 194 2 ≤ 2000) : Mod_feed F 194 a b c d e h = some (fdA h, fdH h a b c d e) := by
  unfold Mod_feed fdA fdH
  rw [gM2 s, w32_id (by omega) (by omega)]
  by_cases h1 : 2000 < rd h 194 2 + 20
  · rw [if_pos h1, if_pos h1, if_pos h1]
  · have s1 := putH_sh s a
    have s2 := putH_sh s1 b
    have s3 := putH_sh s2 c
    have s4 := putH_sh s3 d
    have s5 := putH_sh s4 e
    rw [if_neg h1, if_neg h1, if_neg h1, ivM s, m_put hF s (by omega), cl_some, ivM s1, m_put hF s1 (by rw [putH_2]; omega), cl_some, ivM s2, m_put hF s2 (by rw [putH_2, putH_2]; omega), cl_some, ivM s3, m_put hF s3 (by rw [putH_2, putH_2, putH_2]; omega), cl_some, ivM s4, m_put hF s4 (by rw [putH_2, putH_2, putH_2, putH_2]; omega), cl_some, gM2 s5, putH_2, putH_2, putH_2, putH_2, putH_2]
    congr 2
    omega
