/-! the law, whole -/
theorem law_ok (L : Nat) (xs : Nat → Int32) (hL : L ≤ 3072) : ∃ F h', Law_law F (-1) (hini L xs) = some (1, h') ∧ hsz h' ≤ 600001 ∧ hus h' ≤ 7302250 := by
  obtain ⟨h, e, j, hs⟩ := jj0 (F := 6000) (L := L) (xs := xs) (by decide)
  obtain ⟨h', r1, r2⟩ := law_loop (F := 6000) (L := (L : Int)) (by decide) (by omega) (by omega) 512 6000 0 h lw0 j (by decide) (by decide) hs (by decide) (by decide)
  refine ⟨6000, h', ?_, r2⟩
  have st : Law_law 6000 (-1) (lh (hini L xs) []) = Law_law_L18 6000 6000 (-1) 1 194 0 h := by
    unfold Law_law
    rw [no_c (s := 1) (k := 111) rfl rfl, show [(0, 1, 111, 0, 14)] = t0 from rfl, iv_c (by decide +kernel), d_tide (by decide), cl_s, no_c (s := 194) (k := 112) (by decide +kernel) rfl, show (0, 194, 112, 0, 86) :: th16 = m0 from rfl, iv_c (by decide +kernel), e, cl_s]
  have z : (6 : Int) * 0 = 0 := by decide
  rw [z] at r1
  exact st.trans r1
