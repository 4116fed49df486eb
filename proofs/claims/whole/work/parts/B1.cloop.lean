/-! one turn of the law -/
theorem xl_ok {h : Hp} {i L : Int} {f : Int → Option (Int × Hp)} (hl : hln h (-1) = L) (h0 : 0 ≤ i) (h1 : i < L) : xl h (-1) i f = f (rd h (-1) i) := if_pos ⟨rfl, h0, by rw [hl]; exact h1⟩
theorem xn_ok {h : Hp} {f : Int → Option (Int × Hp)} : xn h (-1) f = f (hln h (-1)) := if_pos rfl
theorem law_turn {F : Nat} {L n : Int} {h : Hp} {Λ : Nat → Lw} (hF : 6000 ≤ F) (j : JJ n h Λ) (h0 : 0 ≤ n) (hn : n < 900) (hL : hln h (-1) = L) (hi : 6 * n + 6 ≤ L) (hL2 : L ≤ 3072) (R : Int → Int → Int → Int → Hp → Option (Int × Hp)) : ∃ h2 Λ', Law_law_L18s F R (-1) 1 194 (6 * n) h = R (-1) 1 194 (6 * (n + 1)) h2 ∧ JJ (n + 1) h2 Λ' ∧ hln h2 (-1) = L := by
  have s := jS j
  have b1 : -2147483648 ≤ L - 6 ∧ L - 6 < 2147483648 ∧ ¬ L - 6 < 6 * n ∧ 0 ≤ 6 * n ∧ 6 * n < L := by omega
  have X : ∀ (g : Hp), hln g (-1) = L → rd g (-1) = rd h (-1) → ∀ (q : Int), 1 ≤ q → q ≤ 5 → ∀ f, xl g (-1) (w32 (6 * n + q)) f = f (rd h (-1) (6 * n + q)) := fun g g1 g2 q q0 q1 f => by
    rw [w32_id (by omega) (by omega), xl_ok g1 (by omega) (by omega), g2]
  have X1 : ∀ q : Int, 1 ≤ q → q ≤ 5 → ∀ f, xl h (-1) (w32 (6 * n + q)) f = f (rd h (-1) (6 * n + q)) := X h hL rfl
  have e6 : 6 * n + 6 = 6 * (n + 1) := by omega
  have w6 : w32 (6 * n + 6) = 6 * (n + 1) := by rw [w32_id (by omega) (by omega)]; exact e6
  have wL : w32 (L - 6) = L - 6 := w32_id b1.1 b1.2.1
  unfold Law_law_L18s
  rw [xn_ok, hL, wL, if_neg b1.2.2.1, xl_ok hL b1.2.2.2.1 b1.2.2.2.2]
  generalize iand (rd h (-1) (6 * n)) 63 = v
  clear wL
  have cs : (v < 0 ∨ 38 ≤ v) ∨ v = 0 ∨ v = 1 ∨ v = 2 ∨ v = 3 ∨ v = 4 ∨ v = 5 ∨ v = 6 ∨ v = 7 ∨ v = 8 ∨ v = 9 ∨ v = 10 ∨ v = 11 ∨ v = 12 ∨ v = 13 ∨ v = 14 ∨ v = 15 ∨ v = 16 ∨ v = 17 ∨ v = 18 ∨ v = 19 ∨ v = 20 ∨ v = 21 ∨ v = 22 ∨ v = 23 ∨ v = 24 ∨ v = 25 ∨ v = 26 ∨ v = 27 ∨ v = 28 ∨ v = 29 ∨ v = 30 ∨ v = 31 ∨ v = 32 ∨ v = 33 ∨ v = 34 ∨ v = 35 ∨ v = 36 ∨ v = 37 := by clear w6; omega
  rcases cs with c | c | c | c | c | c | c | c | c | c | c | c | c | c | c | c | c | c | c | c | c | c | c | c | c | c | c | c | c | c | c | c | c | c | c | c | c | c | c
  · rw [tsw_no (by clear w6 X X1; omega), w6]
    exact ⟨h, Λ, rfl, JJ_q0 j (Fr_refl j.1.1), hL⟩
  · rw [tsw_at 0 c (by decide)]
    obtain ⟨r, h1, h2, Λ', e1, s1, e2, jj, sc1, sc2⟩ : Okc n h (Tide_feed F 1 (rd h (-1) (6 * n + 1)) (rd h (-1) (6 * n + 2)) (rd h (-1) (6 * n + 3)) (rd h (-1) (6 * n + 4)) (rd h (-1) (6 * n + 5)) h) (fun h1 => Mod_feed F 194 (rd h (-1) (6 * n + 1)) (rd h (-1) (6 * n + 2)) (rd h (-1) (6 * n + 3)) (rd h (-1) (6 * n + 4)) (rd h (-1) (6 * n + 5)) h1) := k_feed (F := F) hF j
    have Y := X h1 (sc1.1.trans hL) sc1.2
    refine ⟨h2, Λ', ?_, jj, sc2.1.trans (sc1.1.trans hL)⟩
    dsimp only at e2
    show (xl h (-1) (w32 (6 * n + 1)) fun v11 => xl h (-1) (w32 (6 * n + 2)) fun v12 => xl h (-1) (w32 (6 * n + 3)) fun v13 => xl h (-1) (w32 (6 * n + 4)) fun v14 => xl h (-1) (w32 (6 * n + 5)) fun v15 => iv h 1 111 (Tide_feed F 1 v11 v12 v13 v14 v15 h) fun r16 h17 => xl h17 (-1) (w32 (6 * n + 1)) fun v18 => xl h17 (-1) (w32 (6 * n + 2)) fun v19 => xl h17 (-1) (w32 (6 * n + 3)) fun v20 => xl h17 (-1) (w32 (6 * n + 4)) fun v21 => xl h17 (-1) (w32 (6 * n + 5)) fun v22 => iv h17 194 112 (Mod_feed F 194 v18 v19 v20 v21 v22 h17) fun r23 h24 => if r16 = r23 then (R (-1) 1 194 (w32 (6 * n + 6)) h24) else (rz 0 h24)) = _
    rw [X1 1 (by decide) (by decide), X1 2 (by decide) (by decide), X1 3 (by decide) (by decide), X1 4 (by decide) (by decide), X1 5 (by decide) (by decide), ivT s, e1, cl_some, Y 1 (by decide) (by decide), Y 2 (by decide) (by decide), Y 3 (by decide) (by decide), Y 4 (by decide) (by decide), Y 5 (by decide) (by decide), ivM s1, e2, cl_some, if_pos rfl, w6]
  · rw [tsw_at 1 c (by decide)]
    obtain ⟨r, h1, h2, Λ', e1, s1, e2, jj, sc1, sc2⟩ : Okc n h (Tide_back F 1 (rd h (-1) (6 * n + 1)) h) (fun h1 => Mod_back F 194 (rd h (-1) (6 * n + 1)) h1) := k_back (F := F) j
    have Y := X h1 (sc1.1.trans hL) sc1.2
    refine ⟨h2, Λ', ?_, jj, sc2.1.trans (sc1.1.trans hL)⟩
    dsimp only at e2
    show (xl h (-1) (w32 (6 * n + 1)) fun v25 => iv h 1 111 (Tide_back F 1 v25 h) fun r26 h27 => xl h27 (-1) (w32 (6 * n + 1)) fun v28 => iv h27 194 112 (Mod_back F 194 v28 h27) fun r29 h30 => if r26 = r29 then (R (-1) 1 194 (w32 (6 * n + 6)) h30) else (rz 0 h30)) = _
    rw [X1 1 (by decide) (by decide), ivT s, e1, cl_some, Y 1 (by decide) (by decide), ivM s1, e2, cl_some, if_pos rfl, w6]
  · rw [tsw_at 2 c (by decide)]
    obtain ⟨r, h1, h2, Λ', e1, s1, e2, jj, sc1, sc2⟩ : Okc n h (Tide_read F 1  h) (fun h1 => Mod_read F 194  h1) := k_read (F := F) hF hn j
    have Y := X h1 (sc1.1.trans hL) sc1.2
    refine ⟨h2, Λ', ?_, jj, sc2.1.trans (sc1.1.trans hL)⟩
    dsimp only at e2
    show (iv h 1 111 (Tide_read F 1 h) fun r31 h32 => iv h32 194 112 (Mod_read F 194 h32) fun r33 h34 => if r31 = r33 then (R (-1) 1 194 (w32 (6 * n + 6)) h34) else (rz 0 h34)) = _
    rw [ivT s, e1, cl_some, ivM s1, e2, cl_some, if_pos rfl, w6]
  · rw [tsw_at 3 c (by decide)]
    obtain ⟨r, h1, h2, Λ', e1, s1, e2, jj, sc1, sc2⟩ : Okc n h (Tide_place F 1  h) (fun h1 => Mod_place F 194  h1) := k_place (F := F) j
    have Y := X h1 (sc1.1.trans hL) sc1.2
    refine ⟨h2, Λ', ?_, jj, sc2.1.trans (sc1.1.trans hL)⟩
    dsimp only at e2
    show (iv h 1 111 (Tide_place F 1 h) fun r35 h36 => iv h36 194 112 (Mod_place F 194 h36) fun r37 h38 => if r35 = r37 then (R (-1) 1 194 (w32 (6 * n + 6)) h38) else (rz 0 h38)) = _
    rw [ivT s, e1, cl_some, ivM s1, e2, cl_some, if_pos rfl, w6]
  · rw [tsw_at 4 c (by decide)]
    obtain ⟨r, h1, h2, Λ', e1, s1, e2, jj, sc1, sc2⟩ : Okc n h (Tide_part F 1 (rd h (-1) (6 * n + 1)) (rd h (-1) (6 * n + 2)) h) (fun h1 => Mod_part F 194 (rd h (-1) (6 * n + 1)) (rd h (-1) (6 * n + 2)) h1) := k_part (F := F) j
    have Y := X h1 (sc1.1.trans hL) sc1.2
    refine ⟨h2, Λ', ?_, jj, sc2.1.trans (sc1.1.trans hL)⟩
    dsimp only at e2
    show (xl h (-1) (w32 (6 * n + 1)) fun v39 => xl h (-1) (w32 (6 * n + 2)) fun v40 => iv h 1 111 (Tide_part F 1 v39 v40 h) fun r41 h42 => xl h42 (-1) (w32 (6 * n + 1)) fun v43 => xl h42 (-1) (w32 (6 * n + 2)) fun v44 => iv h42 194 112 (Mod_part F 194 v43 v44 h42) fun r45 h46 => if r41 = r45 then (R (-1) 1 194 (w32 (6 * n + 6)) h46) else (rz 0 h46)) = _
    rw [X1 1 (by decide) (by decide), X1 2 (by decide) (by decide), ivT s, e1, cl_some, Y 1 (by decide) (by decide), Y 2 (by decide) (by decide), ivM s1, e2, cl_some, if_pos rfl, w6]
  · rw [tsw_at 5 c (by decide)]
    obtain ⟨r, h1, h2, Λ', e1, s1, e2, jj, sc1, sc2⟩ : Okc n h (Tide_worker F 1 (rd h (-1) (6 * n + 1)) (rd h (-1) (6 * n + 2)) h) (fun h1 => Mod_worker F 194 (rd h (-1) (6 * n + 1)) (rd h (-1) (6 * n + 2)) h1) := k_worker (F := F) j
    have Y := X h1 (sc1.1.trans hL) sc1.2
    refine ⟨h2, Λ', ?_, jj, sc2.1.trans (sc1.1.trans hL)⟩
    dsimp only at e2
    show (xl h (-1) (w32 (6 * n + 1)) fun v47 => xl h (-1) (w32 (6 * n + 2)) fun v48 => iv h 1 111 (Tide_worker F 1 v47 v48 h) fun r49 h50 => xl h50 (-1) (w32 (6 * n + 1)) fun v51 => xl h50 (-1) (w32 (6 * n + 2)) fun v52 => iv h50 194 112 (Mod_worker F 194 v51 v52 h50) fun r53 h54 => if r49 = r53 then (R (-1) 1 194 (w32 (6 * n + 6)) h54) else (rz 0 h54)) = _
    rw [X1 1 (by decide) (by decide), X1 2 (by decide) (by decide), ivT s, e1, cl_some, Y 1 (by decide) (by decide), Y 2 (by decide) (by decide), ivM s1, e2, cl_some, if_pos rfl, w6]
  · rw [tsw_at 6 c (by decide)]
    obtain ⟨r, h1, h2, Λ', e1, s1, e2, jj, sc1, sc2⟩ : Okc n h (Tide_minute F 1 (rd h (-1) (6 * n + 1)) (rd h (-1) (6 * n + 2)) h) (fun h1 => Mod_minute F 194 (rd h (-1) (6 * n + 1)) (rd h (-1) (6 * n + 2)) h1) := k_minute (F := F) j
    have Y := X h1 (sc1.1.trans hL) sc1.2
    refine ⟨h2, Λ', ?_, jj, sc2.1.trans (sc1.1.trans hL)⟩
    dsimp only at e2
    show (xl h (-1) (w32 (6 * n + 1)) fun v55 => xl h (-1) (w32 (6 * n + 2)) fun v56 => iv h 1 111 (Tide_minute F 1 v55 v56 h) fun r57 h58 => xl h58 (-1) (w32 (6 * n + 1)) fun v59 => xl h58 (-1) (w32 (6 * n + 2)) fun v60 => iv h58 194 112 (Mod_minute F 194 v59 v60 h58) fun r61 h62 => if r57 = r61 then (R (-1) 1 194 (w32 (6 * n + 6)) h62) else (rz 0 h62)) = _
    rw [X1 1 (by decide) (by decide), X1 2 (by decide) (by decide), ivT s, e1, cl_some, Y 1 (by decide) (by decide), Y 2 (by decide) (by decide), ivM s1, e2, cl_some, if_pos rfl, w6]
  · rw [tsw_at 7 c (by decide)]
    obtain ⟨r, h1, h2, Λ', e1, s1, e2, jj, sc1, sc2⟩ : Okc n h (Tide_free F 1 (rd h (-1) (6 * n + 1)) (rd h (-1) (6 * n + 2)) h) (fun h1 => Mod_free F 194 (rd h (-1) (6 * n + 1)) (rd h (-1) (6 * n + 2)) h1) := k_free (F := F) j
    have Y := X h1 (sc1.1.trans hL) sc1.2
    refine ⟨h2, Λ', ?_, jj, sc2.1.trans (sc1.1.trans hL)⟩
    dsimp only at e2
    show (xl h (-1) (w32 (6 * n + 1)) fun v63 => xl h (-1) (w32 (6 * n + 2)) fun v64 => iv h 1 111 (Tide_free F 1 v63 v64 h) fun r65 h66 => xl h66 (-1) (w32 (6 * n + 1)) fun v67 => xl h66 (-1) (w32 (6 * n + 2)) fun v68 => iv h66 194 112 (Mod_free F 194 v67 v68 h66) fun r69 h70 => if r65 = r69 then (R (-1) 1 194 (w32 (6 * n + 6)) h70) else (rz 0 h70)) = _
    rw [X1 1 (by decide) (by decide), X1 2 (by decide) (by decide), ivT s, e1, cl_some, Y 1 (by decide) (by decide), Y 2 (by decide) (by decide), ivM s1, e2, cl_some, if_pos rfl, w6]
  · rw [tsw_at 8 c (by decide)]
    obtain ⟨r, h1, h2, Λ', e1, s1, e2, jj, sc1, sc2⟩ : Okc n h (Tide_when F 1 (rd h (-1) (6 * n + 1)) (rd h (-1) (6 * n + 2)) h) (fun h1 => Mod_when F 194 (rd h (-1) (6 * n + 1)) (rd h (-1) (6 * n + 2)) h1) := k_when (F := F) j
    have Y := X h1 (sc1.1.trans hL) sc1.2
    refine ⟨h2, Λ', ?_, jj, sc2.1.trans (sc1.1.trans hL)⟩
    dsimp only at e2
    show (xl h (-1) (w32 (6 * n + 1)) fun v71 => xl h (-1) (w32 (6 * n + 2)) fun v72 => iv h 1 111 (Tide_when F 1 v71 v72 h) fun r73 h74 => xl h74 (-1) (w32 (6 * n + 1)) fun v75 => xl h74 (-1) (w32 (6 * n + 2)) fun v76 => iv h74 194 112 (Mod_when F 194 v75 v76 h74) fun r77 h78 => if r73 = r77 then (R (-1) 1 194 (w32 (6 * n + 6)) h78) else (rz 0 h78)) = _
    rw [X1 1 (by decide) (by decide), X1 2 (by decide) (by decide), ivT s, e1, cl_some, Y 1 (by decide) (by decide), Y 2 (by decide) (by decide), ivM s1, e2, cl_some, if_pos rfl, w6]
  · rw [tsw_at 9 c (by decide)]
    obtain ⟨r, h1, h2, Λ', e1, s1, e2, jj, sc1, sc2⟩ : Okc n h (Tide_send F 1 (rd h (-1) (6 * n + 1)) (rd h (-1) (6 * n + 2)) h) (fun h1 => Mod_send F 194 (rd h (-1) (6 * n + 1)) (rd h (-1) (6 * n + 2)) h1) := k_send (F := F) hF hn j
    have Y := X h1 (sc1.1.trans hL) sc1.2
    refine ⟨h2, Λ', ?_, jj, sc2.1.trans (sc1.1.trans hL)⟩
    dsimp only at e2
    show (xl h (-1) (w32 (6 * n + 1)) fun v79 => xl h (-1) (w32 (6 * n + 2)) fun v80 => iv h 1 111 (Tide_send F 1 v79 v80 h) fun r81 h82 => xl h82 (-1) (w32 (6 * n + 1)) fun v83 => xl h82 (-1) (w32 (6 * n + 2)) fun v84 => iv h82 194 112 (Mod_send F 194 v83 v84 h82) fun r85 h86 => if r81 = r85 then (R (-1) 1 194 (w32 (6 * n + 6)) h86) else (rz 0 h86)) = _
    rw [X1 1 (by decide) (by decide), X1 2 (by decide) (by decide), ivT s, e1, cl_some, Y 1 (by decide) (by decide), Y 2 (by decide) (by decide), ivM s1, e2, cl_some, if_pos rfl, w6]
  · rw [tsw_at 10 c (by decide)]
    obtain ⟨r, h1, h2, Λ', e1, s1, e2, jj, sc1, sc2⟩ : Okc n h (Tide_cross F 1 (rd h (-1) (6 * n + 1)) h) (fun h1 => Mod_cross F 194 (rd h (-1) (6 * n + 1)) h1) := k_cross (F := F) hF hn j
    have Y := X h1 (sc1.1.trans hL) sc1.2
    refine ⟨h2, Λ', ?_, jj, sc2.1.trans (sc1.1.trans hL)⟩
    dsimp only at e2
    show (xl h (-1) (w32 (6 * n + 1)) fun v87 => iv h 1 111 (Tide_cross F 1 v87 h) fun r88 h89 => xl h89 (-1) (w32 (6 * n + 1)) fun v90 => iv h89 194 112 (Mod_cross F 194 v90 h89) fun r91 h92 => if r88 = r91 then (R (-1) 1 194 (w32 (6 * n + 6)) h92) else (rz 0 h92)) = _
    rw [X1 1 (by decide) (by decide), ivT s, e1, cl_some, Y 1 (by decide) (by decide), ivM s1, e2, cl_some, if_pos rfl, w6]
  · rw [tsw_at 11 c (by decide)]
    obtain ⟨r, h1, h2, Λ', e1, s1, e2, jj, sc1, sc2⟩ : Okc n h (Tide_mend F 1 (rd h (-1) (6 * n + 1)) (rd h (-1) (6 * n + 2)) h) (fun h1 => Mod_mend F 194 (rd h (-1) (6 * n + 1)) (rd h (-1) (6 * n + 2)) h1) := k_mend (F := F) hF hn j
    have Y := X h1 (sc1.1.trans hL) sc1.2
    refine ⟨h2, Λ', ?_, jj, sc2.1.trans (sc1.1.trans hL)⟩
    dsimp only at e2
    show (xl h (-1) (w32 (6 * n + 1)) fun v93 => xl h (-1) (w32 (6 * n + 2)) fun v94 => iv h 1 111 (Tide_mend F 1 v93 v94 h) fun r95 h96 => xl h96 (-1) (w32 (6 * n + 1)) fun v97 => xl h96 (-1) (w32 (6 * n + 2)) fun v98 => iv h96 194 112 (Mod_mend F 194 v97 v98 h96) fun r99 h100 => if r95 = r99 then (R (-1) 1 194 (w32 (6 * n + 6)) h100) else (rz 0 h100)) = _
    rw [X1 1 (by decide) (by decide), X1 2 (by decide) (by decide), ivT s, e1, cl_some, Y 1 (by decide) (by decide), Y 2 (by decide) (by decide), ivM s1, e2, cl_some, if_pos rfl, w6]
  · rw [tsw_at 12 c (by decide)]
    obtain ⟨r, h1, h2, Λ', e1, s1, e2, jj, sc1, sc2⟩ : Okc n h (Tide_undo F 1  h) (fun h1 => Mod_undo F 194  h1) := k_undo (F := F) hF hn j
    have Y := X h1 (sc1.1.trans hL) sc1.2
    refine ⟨h2, Λ', ?_, jj, sc2.1.trans (sc1.1.trans hL)⟩
    dsimp only at e2
    show (iv h 1 111 (Tide_undo F 1 h) fun r101 h102 => iv h102 194 112 (Mod_undo F 194 h102) fun r103 h104 => if r101 = r103 then (R (-1) 1 194 (w32 (6 * n + 6)) h104) else (rz 0 h104)) = _
    rw [ivT s, e1, cl_some, ivM s1, e2, cl_some, if_pos rfl, w6]
  · rw [tsw_at 13 c (by decide)]
    obtain ⟨r, h1, h2, Λ', e1, s1, e2, jj, sc1, sc2⟩ : Okc n h (Tide_seen F 1 (rd h (-1) (6 * n + 1)) h) (fun h1 => Mod_seen F 194 (rd h (-1) (6 * n + 1)) h1) := k_seen (F := F) hF j
    have Y := X h1 (sc1.1.trans hL) sc1.2
    refine ⟨h2, Λ', ?_, jj, sc2.1.trans (sc1.1.trans hL)⟩
    dsimp only at e2
    show (xl h (-1) (w32 (6 * n + 1)) fun v105 => iv h 1 111 (Tide_seen F 1 v105 h) fun r106 h107 => xl h107 (-1) (w32 (6 * n + 1)) fun v108 => iv h107 194 112 (Mod_seen F 194 v108 h107) fun r109 h110 => if r106 = r109 then (R (-1) 1 194 (w32 (6 * n + 6)) h110) else (rz 0 h110)) = _
    rw [X1 1 (by decide) (by decide), ivT s, e1, cl_some, Y 1 (by decide) (by decide), ivM s1, e2, cl_some, if_pos rfl, w6]
  · rw [tsw_at 14 c (by decide)]
    obtain ⟨r, h1, h2, Λ', e1, s1, e2, jj, sc1, sc2⟩ : Okc n h (Tide_photo F 1 (rd h (-1) (6 * n + 1)) h) (fun h1 => Mod_photo F 194 (rd h (-1) (6 * n + 1)) h1) := k_photo (F := F) hF j
    have Y := X h1 (sc1.1.trans hL) sc1.2
    refine ⟨h2, Λ', ?_, jj, sc2.1.trans (sc1.1.trans hL)⟩
    dsimp only at e2
    show (xl h (-1) (w32 (6 * n + 1)) fun v111 => iv h 1 111 (Tide_photo F 1 v111 h) fun r112 h113 => xl h113 (-1) (w32 (6 * n + 1)) fun v114 => iv h113 194 112 (Mod_photo F 194 v114 h113) fun r115 h116 => if r112 = r115 then (R (-1) 1 194 (w32 (6 * n + 6)) h116) else (rz 0 h116)) = _
    rw [X1 1 (by decide) (by decide), ivT s, e1, cl_some, Y 1 (by decide) (by decide), ivM s1, e2, cl_some, if_pos rfl, w6]
  · rw [tsw_at 15 c (by decide)]
    obtain ⟨r, h1, h2, Λ', e1, s1, e2, jj, sc1, sc2⟩ : Okc n h (Tide_bestMinute F 1  h) (fun h1 => Mod_bestMinute F 194  h1) := k_bestMinute (F := F) hF j
    have Y := X h1 (sc1.1.trans hL) sc1.2
    refine ⟨h2, Λ', ?_, jj, sc2.1.trans (sc1.1.trans hL)⟩
    dsimp only at e2
    show (iv h 1 111 (Tide_bestMinute F 1 h) fun r117 h118 => iv h118 194 112 (Mod_bestMinute F 194 h118) fun r119 h120 => if r117 = r119 then (R (-1) 1 194 (w32 (6 * n + 6)) h120) else (rz 0 h120)) = _
    rw [ivT s, e1, cl_some, ivM s1, e2, cl_some, if_pos rfl, w6]
  · rw [tsw_at 16 c (by decide)]
    obtain ⟨r, h1, h2, Λ', e1, s1, e2, jj, sc1, sc2⟩ : Okc n h (Tide_stays F 1 (rd h (-1) (6 * n + 1)) (rd h (-1) (6 * n + 2)) h) (fun h1 => Mod_stays F 194 (rd h (-1) (6 * n + 1)) (rd h (-1) (6 * n + 2)) h1) := k_stays (F := F) hF j
    have Y := X h1 (sc1.1.trans hL) sc1.2
    refine ⟨h2, Λ', ?_, jj, sc2.1.trans (sc1.1.trans hL)⟩
    dsimp only at e2
    show (xl h (-1) (w32 (6 * n + 1)) fun v121 => xl h (-1) (w32 (6 * n + 2)) fun v122 => iv h 1 111 (Tide_stays F 1 v121 v122 h) fun r123 h124 => xl h124 (-1) (w32 (6 * n + 1)) fun v125 => xl h124 (-1) (w32 (6 * n + 2)) fun v126 => iv h124 194 112 (Mod_stays F 194 v125 v126 h124) fun r127 h128 => if r123 = r127 then (R (-1) 1 194 (w32 (6 * n + 6)) h128) else (rz 0 h128)) = _
    rw [X1 1 (by decide) (by decide), X1 2 (by decide) (by decide), ivT s, e1, cl_some, Y 1 (by decide) (by decide), Y 2 (by decide) (by decide), ivM s1, e2, cl_some, if_pos rfl, w6]
  · rw [tsw_at 17 c (by decide)]
    obtain ⟨r, h1, h2, Λ', e1, s1, e2, jj, sc1, sc2⟩ : Okc n h (Tide_plan F 1 (rd h (-1) (6 * n + 1)) (rd h (-1) (6 * n + 2)) (rd h (-1) (6 * n + 3)) h) (fun h1 => Mod_plan F 194 (rd h (-1) (6 * n + 1)) (rd h (-1) (6 * n + 2)) (rd h (-1) (6 * n + 3)) h1) := k_plan (F := F) hF j
    have Y := X h1 (sc1.1.trans hL) sc1.2
    refine ⟨h2, Λ', ?_, jj, sc2.1.trans (sc1.1.trans hL)⟩
    dsimp only at e2
    show (xl h (-1) (w32 (6 * n + 1)) fun v129 => xl h (-1) (w32 (6 * n + 2)) fun v130 => xl h (-1) (w32 (6 * n + 3)) fun v131 => iv h 1 111 (Tide_plan F 1 v129 v130 v131 h) fun r132 h133 => xl h133 (-1) (w32 (6 * n + 1)) fun v134 => xl h133 (-1) (w32 (6 * n + 2)) fun v135 => xl h133 (-1) (w32 (6 * n + 3)) fun v136 => iv h133 194 112 (Mod_plan F 194 v134 v135 v136 h133) fun r137 h138 => if r132 = r137 then (R (-1) 1 194 (w32 (6 * n + 6)) h138) else (rz 0 h138)) = _
    rw [X1 1 (by decide) (by decide), X1 2 (by decide) (by decide), X1 3 (by decide) (by decide), ivT s, e1, cl_some, Y 1 (by decide) (by decide), Y 2 (by decide) (by decide), Y 3 (by decide) (by decide), ivM s1, e2, cl_some, if_pos rfl, w6]
  · rw [tsw_at 18 c (by decide)]
    obtain ⟨r, h1, h2, Λ', e1, s1, e2, jj, sc1, sc2⟩ : Okc n h (Tide_planAt F 1 (rd h (-1) (6 * n + 1)) (rd h (-1) (6 * n + 2)) (rd h (-1) (6 * n + 3)) h) (fun h1 => Mod_planAt F 194 (rd h (-1) (6 * n + 1)) (rd h (-1) (6 * n + 2)) (rd h (-1) (6 * n + 3)) h1) := k_planAt (F := F) hF j
    have Y := X h1 (sc1.1.trans hL) sc1.2
    refine ⟨h2, Λ', ?_, jj, sc2.1.trans (sc1.1.trans hL)⟩
    dsimp only at e2
    show (xl h (-1) (w32 (6 * n + 1)) fun v139 => xl h (-1) (w32 (6 * n + 2)) fun v140 => xl h (-1) (w32 (6 * n + 3)) fun v141 => iv h 1 111 (Tide_planAt F 1 v139 v140 v141 h) fun r142 h143 => xl h143 (-1) (w32 (6 * n + 1)) fun v144 => xl h143 (-1) (w32 (6 * n + 2)) fun v145 => xl h143 (-1) (w32 (6 * n + 3)) fun v146 => iv h143 194 112 (Mod_planAt F 194 v144 v145 v146 h143) fun r147 h148 => if r142 = r147 then (R (-1) 1 194 (w32 (6 * n + 6)) h148) else (rz 0 h148)) = _
    rw [X1 1 (by decide) (by decide), X1 2 (by decide) (by decide), X1 3 (by decide) (by decide), ivT s, e1, cl_some, Y 1 (by decide) (by decide), Y 2 (by decide) (by decide), Y 3 (by decide) (by decide), ivM s1, e2, cl_some, if_pos rfl, w6]
  · rw [tsw_at 19 c (by decide)]
    obtain ⟨r, h1, h2, Λ', e1, s1, e2, jj, sc1, sc2⟩ : Okc n h (Tide_two F 1 (rd h (-1) (6 * n + 1)) (rd h (-1) (6 * n + 2)) (rd h (-1) (6 * n + 3)) (rd h (-1) (6 * n + 4)) h) (fun h1 => Mod_two F 194 (rd h (-1) (6 * n + 1)) (rd h (-1) (6 * n + 2)) (rd h (-1) (6 * n + 3)) (rd h (-1) (6 * n + 4)) h1) := k_two (F := F) hF j
    have Y := X h1 (sc1.1.trans hL) sc1.2
    refine ⟨h2, Λ', ?_, jj, sc2.1.trans (sc1.1.trans hL)⟩
    dsimp only at e2
    show (xl h (-1) (w32 (6 * n + 1)) fun v149 => xl h (-1) (w32 (6 * n + 2)) fun v150 => xl h (-1) (w32 (6 * n + 3)) fun v151 => xl h (-1) (w32 (6 * n + 4)) fun v152 => iv h 1 111 (Tide_two F 1 v149 v150 v151 v152 h) fun r153 h154 => xl h154 (-1) (w32 (6 * n + 1)) fun v155 => xl h154 (-1) (w32 (6 * n + 2)) fun v156 => xl h154 (-1) (w32 (6 * n + 3)) fun v157 => xl h154 (-1) (w32 (6 * n + 4)) fun v158 => iv h154 194 112 (Mod_two F 194 v155 v156 v157 v158 h154) fun r159 h160 => if r153 = r159 then (R (-1) 1 194 (w32 (6 * n + 6)) h160) else (rz 0 h160)) = _
    rw [X1 1 (by decide) (by decide), X1 2 (by decide) (by decide), X1 3 (by decide) (by decide), X1 4 (by decide) (by decide), ivT s, e1, cl_some, Y 1 (by decide) (by decide), Y 2 (by decide) (by decide), Y 3 (by decide) (by decide), Y 4 (by decide) (by decide), ivM s1, e2, cl_some, if_pos rfl, w6]
  · rw [tsw_at 20 c (by decide)]
    obtain ⟨r, h1, h2, Λ', e1, s1, e2, jj, sc1, sc2⟩ : Okc n h (Tide_hands F 1 (rd h (-1) (6 * n + 1)) (rd h (-1) (6 * n + 2)) h) (fun h1 => Mod_hands F 194 (rd h (-1) (6 * n + 1)) (rd h (-1) (6 * n + 2)) h1) := k_hands (F := F) hF j
    have Y := X h1 (sc1.1.trans hL) sc1.2
    refine ⟨h2, Λ', ?_, jj, sc2.1.trans (sc1.1.trans hL)⟩
    dsimp only at e2
    show (xl h (-1) (w32 (6 * n + 1)) fun v161 => xl h (-1) (w32 (6 * n + 2)) fun v162 => iv h 1 111 (Tide_hands F 1 v161 v162 h) fun r163 h164 => xl h164 (-1) (w32 (6 * n + 1)) fun v165 => xl h164 (-1) (w32 (6 * n + 2)) fun v166 => iv h164 194 112 (Mod_hands F 194 v165 v166 h164) fun r167 h168 => if r163 = r167 then (R (-1) 1 194 (w32 (6 * n + 6)) h168) else (rz 0 h168)) = _
    rw [X1 1 (by decide) (by decide), X1 2 (by decide) (by decide), ivT s, e1, cl_some, Y 1 (by decide) (by decide), Y 2 (by decide) (by decide), ivM s1, e2, cl_some, if_pos rfl, w6]
  · rw [tsw_at 21 c (by decide)]
    obtain ⟨r, h1, h2, Λ', e1, s1, e2, jj, sc1, sc2⟩ : Okc n h (Tide_spare F 1 (rd h (-1) (6 * n + 1)) (rd h (-1) (6 * n + 2)) h) (fun h1 => Mod_spare F 194 (rd h (-1) (6 * n + 1)) (rd h (-1) (6 * n + 2)) h1) := k_spare (F := F) hF j
    have Y := X h1 (sc1.1.trans hL) sc1.2
    refine ⟨h2, Λ', ?_, jj, sc2.1.trans (sc1.1.trans hL)⟩
    dsimp only at e2
    show (xl h (-1) (w32 (6 * n + 1)) fun v169 => xl h (-1) (w32 (6 * n + 2)) fun v170 => iv h 1 111 (Tide_spare F 1 v169 v170 h) fun r171 h172 => xl h172 (-1) (w32 (6 * n + 1)) fun v173 => xl h172 (-1) (w32 (6 * n + 2)) fun v174 => iv h172 194 112 (Mod_spare F 194 v173 v174 h172) fun r175 h176 => if r171 = r175 then (R (-1) 1 194 (w32 (6 * n + 6)) h176) else (rz 0 h176)) = _
    rw [X1 1 (by decide) (by decide), X1 2 (by decide) (by decide), ivT s, e1, cl_some, Y 1 (by decide) (by decide), Y 2 (by decide) (by decide), ivM s1, e2, cl_some, if_pos rfl, w6]
  · rw [tsw_at 22 c (by decide)]
    obtain ⟨r, h1, h2, Λ', e1, s1, e2, jj, sc1, sc2⟩ : Okc n h (Tide_quickest F 1 (rd h (-1) (6 * n + 1)) (rd h (-1) (6 * n + 2)) h) (fun h1 => Mod_quickest F 194 (rd h (-1) (6 * n + 1)) (rd h (-1) (6 * n + 2)) h1) := k_quickest (F := F) hF j
    have Y := X h1 (sc1.1.trans hL) sc1.2
    refine ⟨h2, Λ', ?_, jj, sc2.1.trans (sc1.1.trans hL)⟩
    dsimp only at e2
    show (xl h (-1) (w32 (6 * n + 1)) fun v177 => xl h (-1) (w32 (6 * n + 2)) fun v178 => iv h 1 111 (Tide_quickest F 1 v177 v178 h) fun r179 h180 => xl h180 (-1) (w32 (6 * n + 1)) fun v181 => xl h180 (-1) (w32 (6 * n + 2)) fun v182 => iv h180 194 112 (Mod_quickest F 194 v181 v182 h180) fun r183 h184 => if r179 = r183 then (R (-1) 1 194 (w32 (6 * n + 6)) h184) else (rz 0 h184)) = _
    rw [X1 1 (by decide) (by decide), X1 2 (by decide) (by decide), ivT s, e1, cl_some, Y 1 (by decide) (by decide), Y 2 (by decide) (by decide), ivM s1, e2, cl_some, if_pos rfl, w6]
  · rw [tsw_at 23 c (by decide)]
    obtain ⟨r, h1, h2, Λ', e1, s1, e2, jj, sc1, sc2⟩ : Okc n h (Tide_mends F 1 (rd h (-1) (6 * n + 1)) (rd h (-1) (6 * n + 2)) (rd h (-1) (6 * n + 3)) h) (fun h1 => Mod_mends F 194 (rd h (-1) (6 * n + 1)) (rd h (-1) (6 * n + 2)) (rd h (-1) (6 * n + 3)) h1) := k_mends (F := F) hF j
    have Y := X h1 (sc1.1.trans hL) sc1.2
    refine ⟨h2, Λ', ?_, jj, sc2.1.trans (sc1.1.trans hL)⟩
    dsimp only at e2
    show (xl h (-1) (w32 (6 * n + 1)) fun v185 => xl h (-1) (w32 (6 * n + 2)) fun v186 => xl h (-1) (w32 (6 * n + 3)) fun v187 => iv h 1 111 (Tide_mends F 1 v185 v186 v187 h) fun r188 h189 => xl h189 (-1) (w32 (6 * n + 1)) fun v190 => xl h189 (-1) (w32 (6 * n + 2)) fun v191 => xl h189 (-1) (w32 (6 * n + 3)) fun v192 => iv h189 194 112 (Mod_mends F 194 v190 v191 v192 h189) fun r193 h194 => if r188 = r193 then (R (-1) 1 194 (w32 (6 * n + 6)) h194) else (rz 0 h194)) = _
    rw [X1 1 (by decide) (by decide), X1 2 (by decide) (by decide), X1 3 (by decide) (by decide), ivT s, e1, cl_some, Y 1 (by decide) (by decide), Y 2 (by decide) (by decide), Y 3 (by decide) (by decide), ivM s1, e2, cl_some, if_pos rfl, w6]
  · rw [tsw_at 24 c (by decide)]
    obtain ⟨r, h1, h2, Λ', e1, s1, e2, jj, sc1, sc2⟩ : Okc n h (Tide_after F 1 (rd h (-1) (6 * n + 1)) (rd h (-1) (6 * n + 2)) (rd h (-1) (6 * n + 3)) h) (fun h1 => Mod_after F 194 (rd h (-1) (6 * n + 1)) (rd h (-1) (6 * n + 2)) (rd h (-1) (6 * n + 3)) h1) := k_after (F := F) hF j
    have Y := X h1 (sc1.1.trans hL) sc1.2
    refine ⟨h2, Λ', ?_, jj, sc2.1.trans (sc1.1.trans hL)⟩
    dsimp only at e2
    show (xl h (-1) (w32 (6 * n + 1)) fun v195 => xl h (-1) (w32 (6 * n + 2)) fun v196 => xl h (-1) (w32 (6 * n + 3)) fun v197 => iv h 1 111 (Tide_after F 1 v195 v196 v197 h) fun r198 h199 => xl h199 (-1) (w32 (6 * n + 1)) fun v200 => xl h199 (-1) (w32 (6 * n + 2)) fun v201 => xl h199 (-1) (w32 (6 * n + 3)) fun v202 => iv h199 194 112 (Mod_after F 194 v200 v201 v202 h199) fun r203 h204 => if r198 = r203 then (R (-1) 1 194 (w32 (6 * n + 6)) h204) else (rz 0 h204)) = _
    rw [X1 1 (by decide) (by decide), X1 2 (by decide) (by decide), X1 3 (by decide) (by decide), ivT s, e1, cl_some, Y 1 (by decide) (by decide), Y 2 (by decide) (by decide), Y 3 (by decide) (by decide), ivM s1, e2, cl_some, if_pos rfl, w6]
  · rw [tsw_at 25 c (by decide)]
    by_cases z : rd h (-1) (6 * n + 3) = 0
    · obtain ⟨r, h1, h2, Λ', e1, s1, e2, jj, sc1, sc2⟩ : Okc n h (Tide_window F 1 (rd h (-1) (6 * n + 1)) (rd h (-1) (6 * n + 2)) 0 h) (fun h1 => Mod_window F 194 (rd h (-1) (6 * n + 1)) (rd h (-1) (6 * n + 2)) 0 h1) := k_window (F := F) hF j
      have Y := X h1 (sc1.1.trans hL) sc1.2
      refine ⟨h2, Λ', ?_, jj, sc2.1.trans (sc1.1.trans hL)⟩
      dsimp only at e2
      show (xl h (-1) (w32 (6 * n + 1)) fun v205 => xl h (-1) (w32 (6 * n + 2)) fun v206 => xl h (-1) (w32 (6 * n + 3)) fun v207 => if v207 = 0 then (Law_law_B1019 F R (-1) 1 194 (6 * n) 0 v206 v205 1 h) else (Law_law_B1019 F R (-1) 1 194 (6 * n) 1 v206 v205 1 h)) = _
      rw [X1 1 (by decide) (by decide), X1 2 (by decide) (by decide), X1 3 (by decide) (by decide), if_pos z]
      unfold Law_law_B1019 Law_law_B1046
      rw [ivT s, e1, cl_some, Y 1 (by decide) (by decide), Y 2 (by decide) (by decide), Y 3 (by decide) (by decide), if_pos z, ivM s1, e2, cl_some, if_pos rfl, w6]
    · obtain ⟨r, h1, h2, Λ', e1, s1, e2, jj, sc1, sc2⟩ : Okc n h (Tide_window F 1 (rd h (-1) (6 * n + 1)) (rd h (-1) (6 * n + 2)) 1 h) (fun h1 => Mod_window F 194 (rd h (-1) (6 * n + 1)) (rd h (-1) (6 * n + 2)) 1 h1) := k_window (F := F) hF j
      have Y := X h1 (sc1.1.trans hL) sc1.2
      refine ⟨h2, Λ', ?_, jj, sc2.1.trans (sc1.1.trans hL)⟩
      dsimp only at e2
      show (xl h (-1) (w32 (6 * n + 1)) fun v205 => xl h (-1) (w32 (6 * n + 2)) fun v206 => xl h (-1) (w32 (6 * n + 3)) fun v207 => if v207 = 0 then (Law_law_B1019 F R (-1) 1 194 (6 * n) 0 v206 v205 1 h) else (Law_law_B1019 F R (-1) 1 194 (6 * n) 1 v206 v205 1 h)) = _
      rw [X1 1 (by decide) (by decide), X1 2 (by decide) (by decide), X1 3 (by decide) (by decide), if_neg z]
      unfold Law_law_B1019 Law_law_B1046
      rw [ivT s, e1, cl_some, Y 1 (by decide) (by decide), Y 2 (by decide) (by decide), Y 3 (by decide) (by decide), if_neg z, ivM s1, e2, cl_some, if_pos rfl, w6]
  · rw [tsw_at 26 c (by decide)]
    obtain ⟨r, h1, h2, Λ', e1, s1, e2, jj, sc1, sc2⟩ : Okc n h (Tide_large F 1 (rd h (-1) (6 * n + 1)) h) (fun h1 => Mod_large F 194 (rd h (-1) (6 * n + 1)) h1) := k_large (F := F) hF j
    have Y := X h1 (sc1.1.trans hL) sc1.2
    refine ⟨h2, Λ', ?_, jj, sc2.1.trans (sc1.1.trans hL)⟩
    dsimp only at e2
    show (xl h (-1) (w32 (6 * n + 1)) fun v208 => iv h 1 111 (Tide_large F 1 v208 h) fun r209 h210 => xl h210 (-1) (w32 (6 * n + 1)) fun v211 => iv h210 194 112 (Mod_large F 194 v211 h210) fun r212 h213 => if r209 = r212 then (R (-1) 1 194 (w32 (6 * n + 6)) h213) else (rz 0 h213)) = _
    rw [X1 1 (by decide) (by decide), ivT s, e1, cl_some, Y 1 (by decide) (by decide), ivM s1, e2, cl_some, if_pos rfl, w6]
  · rw [tsw_at 27 c (by decide)]
    obtain ⟨r, h1, h2, Λ', e1, s1, e2, jj, sc1, sc2⟩ : Okc n h (Tide_hopes F 1 (rd h (-1) (6 * n + 1)) (rd h (-1) (6 * n + 2)) (rd h (-1) (6 * n + 3)) h) (fun h1 => Mod_hopes F 194 (rd h (-1) (6 * n + 1)) (rd h (-1) (6 * n + 2)) (rd h (-1) (6 * n + 3)) h1) := k_hopes (F := F) hF j
    have Y := X h1 (sc1.1.trans hL) sc1.2
    refine ⟨h2, Λ', ?_, jj, sc2.1.trans (sc1.1.trans hL)⟩
    dsimp only at e2
    show (xl h (-1) (w32 (6 * n + 1)) fun v214 => xl h (-1) (w32 (6 * n + 2)) fun v215 => xl h (-1) (w32 (6 * n + 3)) fun v216 => iv h 1 111 (Tide_hopes F 1 v214 v215 v216 h) fun r217 h218 => xl h218 (-1) (w32 (6 * n + 1)) fun v219 => xl h218 (-1) (w32 (6 * n + 2)) fun v220 => xl h218 (-1) (w32 (6 * n + 3)) fun v221 => iv h218 194 112 (Mod_hopes F 194 v219 v220 v221 h218) fun r222 h223 => if r217 = r222 then (R (-1) 1 194 (w32 (6 * n + 6)) h223) else (rz 0 h223)) = _
    rw [X1 1 (by decide) (by decide), X1 2 (by decide) (by decide), X1 3 (by decide) (by decide), ivT s, e1, cl_some, Y 1 (by decide) (by decide), Y 2 (by decide) (by decide), Y 3 (by decide) (by decide), ivM s1, e2, cl_some, if_pos rfl, w6]
  · rw [tsw_at 28 c (by decide)]
    obtain ⟨r, h1, h2, Λ', e1, s1, e2, jj, sc1, sc2⟩ : Okc n h (Tide_hope F 1 (rd h (-1) (6 * n + 1)) (rd h (-1) (6 * n + 2)) h) (fun h1 => Mod_hope F 194 (rd h (-1) (6 * n + 1)) (rd h (-1) (6 * n + 2)) h1) := k_hope (F := F) hF j
    have Y := X h1 (sc1.1.trans hL) sc1.2
    refine ⟨h2, Λ', ?_, jj, sc2.1.trans (sc1.1.trans hL)⟩
    dsimp only at e2
    show (xl h (-1) (w32 (6 * n + 1)) fun v224 => xl h (-1) (w32 (6 * n + 2)) fun v225 => iv h 1 111 (Tide_hope F 1 v224 v225 h) fun r226 h227 => xl h227 (-1) (w32 (6 * n + 1)) fun v228 => xl h227 (-1) (w32 (6 * n + 2)) fun v229 => iv h227 194 112 (Mod_hope F 194 v228 v229 h227) fun r230 h231 => if r226 = r230 then (R (-1) 1 194 (w32 (6 * n + 6)) h231) else (rz 0 h231)) = _
    rw [X1 1 (by decide) (by decide), X1 2 (by decide) (by decide), ivT s, e1, cl_some, Y 1 (by decide) (by decide), Y 2 (by decide) (by decide), ivM s1, e2, cl_some, if_pos rfl, w6]
  · rw [tsw_at 29 c (by decide)]
    obtain ⟨r, h1, h2, Λ', e1, s1, e2, jj, sc1, sc2⟩ : Okc n h (Tide_dog F 1 (rd h (-1) (6 * n + 1)) (rd h (-1) (6 * n + 2)) h) (fun h1 => Mod_dog F 194 (rd h (-1) (6 * n + 1)) (rd h (-1) (6 * n + 2)) h1) := k_dog (F := F) hF j
    have Y := X h1 (sc1.1.trans hL) sc1.2
    refine ⟨h2, Λ', ?_, jj, sc2.1.trans (sc1.1.trans hL)⟩
    dsimp only at e2
    show (xl h (-1) (w32 (6 * n + 1)) fun v232 => xl h (-1) (w32 (6 * n + 2)) fun v233 => iv h 1 111 (Tide_dog F 1 v232 v233 h) fun r234 h235 => xl h235 (-1) (w32 (6 * n + 1)) fun v236 => xl h235 (-1) (w32 (6 * n + 2)) fun v237 => iv h235 194 112 (Mod_dog F 194 v236 v237 h235) fun r238 h239 => if r234 = r238 then (R (-1) 1 194 (w32 (6 * n + 6)) h239) else (rz 0 h239)) = _
    rw [X1 1 (by decide) (by decide), X1 2 (by decide) (by decide), ivT s, e1, cl_some, Y 1 (by decide) (by decide), Y 2 (by decide) (by decide), ivM s1, e2, cl_some, if_pos rfl, w6]
  · rw [tsw_at 30 c (by decide)]
    by_cases z : rd h (-1) (6 * n + 2) = 0
    · obtain ⟨r, h1, h2, Λ', e1, s1, e2, jj, sc1, sc2⟩ : Okc n h (Tide_error F 1 (rd h (-1) (6 * n + 1)) 0 h) (fun h1 => Mod_error F 194 (rd h (-1) (6 * n + 1)) 0 h1) := k_error (F := F) hF j
      have Y := X h1 (sc1.1.trans hL) sc1.2
      refine ⟨h2, Λ', ?_, jj, sc2.1.trans (sc1.1.trans hL)⟩
      dsimp only at e2
      show (xl h (-1) (w32 (6 * n + 1)) fun v240 => xl h (-1) (w32 (6 * n + 2)) fun v241 => if v241 = 0 then (Law_law_B1205 F R (-1) 1 194 (6 * n) 0 v240 1 h) else (Law_law_B1205 F R (-1) 1 194 (6 * n) 1 v240 1 h)) = _
      rw [X1 1 (by decide) (by decide), X1 2 (by decide) (by decide), if_pos z]
      unfold Law_law_B1205 Law_law_B1227
      rw [ivT s, e1, cl_some, Y 1 (by decide) (by decide), Y 2 (by decide) (by decide), if_pos z, ivM s1, e2, cl_some, if_pos rfl, w6]
    · obtain ⟨r, h1, h2, Λ', e1, s1, e2, jj, sc1, sc2⟩ : Okc n h (Tide_error F 1 (rd h (-1) (6 * n + 1)) 1 h) (fun h1 => Mod_error F 194 (rd h (-1) (6 * n + 1)) 1 h1) := k_error (F := F) hF j
      have Y := X h1 (sc1.1.trans hL) sc1.2
      refine ⟨h2, Λ', ?_, jj, sc2.1.trans (sc1.1.trans hL)⟩
      dsimp only at e2
      show (xl h (-1) (w32 (6 * n + 1)) fun v240 => xl h (-1) (w32 (6 * n + 2)) fun v241 => if v241 = 0 then (Law_law_B1205 F R (-1) 1 194 (6 * n) 0 v240 1 h) else (Law_law_B1205 F R (-1) 1 194 (6 * n) 1 v240 1 h)) = _
      rw [X1 1 (by decide) (by decide), X1 2 (by decide) (by decide), if_neg z]
      unfold Law_law_B1205 Law_law_B1227
      rw [ivT s, e1, cl_some, Y 1 (by decide) (by decide), Y 2 (by decide) (by decide), if_neg z, ivM s1, e2, cl_some, if_pos rfl, w6]
  · rw [tsw_at 31 c (by decide)]
    obtain ⟨r, h1, h2, Λ', e1, s1, e2, jj, sc1, sc2⟩ : Okc n h (Tide_fails F 1 (rd h (-1) (6 * n + 1)) h) (fun h1 => Mod_fails F 194 (rd h (-1) (6 * n + 1)) h1) := k_fails (F := F) hF j
    have Y := X h1 (sc1.1.trans hL) sc1.2
    refine ⟨h2, Λ', ?_, jj, sc2.1.trans (sc1.1.trans hL)⟩
    dsimp only at e2
    show (xl h (-1) (w32 (6 * n + 1)) fun v242 => iv h 1 111 (Tide_fails F 1 v242 h) fun r243 h244 => xl h244 (-1) (w32 (6 * n + 1)) fun v245 => iv h244 194 112 (Mod_fails F 194 v245 h244) fun r246 h247 => if r243 = r246 then (R (-1) 1 194 (w32 (6 * n + 6)) h247) else (rz 0 h247)) = _
    rw [X1 1 (by decide) (by decide), ivT s, e1, cl_some, Y 1 (by decide) (by decide), ivM s1, e2, cl_some, if_pos rfl, w6]
  · rw [tsw_at 32 c (by decide)]
    by_cases z : rd h (-1) (6 * n + 3) = 0
    · obtain ⟨r, h1, h2, Λ', e1, s1, e2, jj, sc1, sc2⟩ : Okc n h (Tide_tell F 1 (rd h (-1) (6 * n + 1)) (rd h (-1) (6 * n + 2)) 0 h) (fun h1 => Mod_tell F 194 (rd h (-1) (6 * n + 1)) (rd h (-1) (6 * n + 2)) 0 h1) := k_tell (F := F) hn j (Or.inl rfl)
      have Y := X h1 (sc1.1.trans hL) sc1.2
      refine ⟨h2, Λ', ?_, jj, sc2.1.trans (sc1.1.trans hL)⟩
      dsimp only at e2
      show (xl h (-1) (w32 (6 * n + 1)) fun v248 => xl h (-1) (w32 (6 * n + 2)) fun v249 => xl h (-1) (w32 (6 * n + 3)) fun v250 => if v250 = 0 then (Law_law_B1282 F R (-1) 1 194 (6 * n) 0 v249 v248 1 h) else (Law_law_B1282 F R (-1) 1 194 (6 * n) 1 v249 v248 1 h)) = _
      rw [X1 1 (by decide) (by decide), X1 2 (by decide) (by decide), X1 3 (by decide) (by decide), if_pos z]
      unfold Law_law_B1282 Law_law_B1309
      rw [ivT s, e1, cl_some, Y 1 (by decide) (by decide), Y 2 (by decide) (by decide), Y 3 (by decide) (by decide), if_pos z, ivM s1, e2, cl_some, if_pos rfl, w6]
    · obtain ⟨r, h1, h2, Λ', e1, s1, e2, jj, sc1, sc2⟩ : Okc n h (Tide_tell F 1 (rd h (-1) (6 * n + 1)) (rd h (-1) (6 * n + 2)) 1 h) (fun h1 => Mod_tell F 194 (rd h (-1) (6 * n + 1)) (rd h (-1) (6 * n + 2)) 1 h1) := k_tell (F := F) hn j (Or.inr rfl)
      have Y := X h1 (sc1.1.trans hL) sc1.2
      refine ⟨h2, Λ', ?_, jj, sc2.1.trans (sc1.1.trans hL)⟩
      dsimp only at e2
      show (xl h (-1) (w32 (6 * n + 1)) fun v248 => xl h (-1) (w32 (6 * n + 2)) fun v249 => xl h (-1) (w32 (6 * n + 3)) fun v250 => if v250 = 0 then (Law_law_B1282 F R (-1) 1 194 (6 * n) 0 v249 v248 1 h) else (Law_law_B1282 F R (-1) 1 194 (6 * n) 1 v249 v248 1 h)) = _
      rw [X1 1 (by decide) (by decide), X1 2 (by decide) (by decide), X1 3 (by decide) (by decide), if_neg z]
      unfold Law_law_B1282 Law_law_B1309
      rw [ivT s, e1, cl_some, Y 1 (by decide) (by decide), Y 2 (by decide) (by decide), Y 3 (by decide) (by decide), if_neg z, ivM s1, e2, cl_some, if_pos rfl, w6]
  · rw [tsw_at 33 c (by decide)]
    obtain ⟨r, h1, h2, Λ', e1, s1, e2, jj, sc1, sc2⟩ : Okc n h (Tide_forget F 1  h) (fun h1 => Mod_forget F 194  h1) := k_forget (F := F) hn j
    have Y := X h1 (sc1.1.trans hL) sc1.2
    refine ⟨h2, Λ', ?_, jj, sc2.1.trans (sc1.1.trans hL)⟩
    dsimp only at e2
    show (iv h 1 111 (Tide_forget F 1 h) fun r251 h252 => iv h252 194 112 (Mod_forget F 194 h252) fun r253 h254 => if r251 = r253 then (R (-1) 1 194 (w32 (6 * n + 6)) h254) else (rz 0 h254)) = _
    rw [ivT s, e1, cl_some, ivM s1, e2, cl_some, if_pos rfl, w6]
  · rw [tsw_at 34 c (by decide)]
    obtain ⟨r, h1, h2, Λ', e1, s1, e2, jj, sc1, sc2⟩ : Okc n h (Tide_late F 1 (rd h (-1) (6 * n + 1)) (rd h (-1) (6 * n + 2)) h) (fun h1 => Mod_late F 194 (rd h (-1) (6 * n + 1)) (rd h (-1) (6 * n + 2)) h1) := k_late (F := F) hF j
    have Y := X h1 (sc1.1.trans hL) sc1.2
    refine ⟨h2, Λ', ?_, jj, sc2.1.trans (sc1.1.trans hL)⟩
    dsimp only at e2
    show (xl h (-1) (w32 (6 * n + 1)) fun v255 => xl h (-1) (w32 (6 * n + 2)) fun v256 => iv h 1 111 (Tide_late F 1 v255 v256 h) fun r257 h258 => xl h258 (-1) (w32 (6 * n + 1)) fun v259 => xl h258 (-1) (w32 (6 * n + 2)) fun v260 => iv h258 194 112 (Mod_late F 194 v259 v260 h258) fun r261 h262 => if r257 = r261 then (R (-1) 1 194 (w32 (6 * n + 6)) h262) else (rz 0 h262)) = _
    rw [X1 1 (by decide) (by decide), X1 2 (by decide) (by decide), ivT s, e1, cl_some, Y 1 (by decide) (by decide), Y 2 (by decide) (by decide), ivM s1, e2, cl_some, if_pos rfl, w6]
  · rw [tsw_at 35 c (by decide)]
    obtain ⟨r, h1, h2, Λ', e1, s1, e2, jj, sc1, sc2⟩ : Okc n h (Tide_hold F 1 (rd h (-1) (6 * n + 1)) h) (fun h1 => Mod_hold F 194 (rd h (-1) (6 * n + 1)) h1) := k_hold (F := F) hF hn j
    have Y := X h1 (sc1.1.trans hL) sc1.2
    refine ⟨h2, Λ', ?_, jj, sc2.1.trans (sc1.1.trans hL)⟩
    dsimp only at e2
    show (xl h (-1) (w32 (6 * n + 1)) fun v263 => iv h 1 111 (Tide_hold F 1 v263 h) fun r264 h265 => xl h265 (-1) (w32 (6 * n + 1)) fun v266 => iv h265 194 112 (Mod_hold F 194 v266 h265) fun r267 h268 => if r264 = r267 then (R (-1) 1 194 (w32 (6 * n + 6)) h268) else (rz 0 h268)) = _
    rw [X1 1 (by decide) (by decide), ivT s, e1, cl_some, Y 1 (by decide) (by decide), ivM s1, e2, cl_some, if_pos rfl, w6]
  · rw [tsw_at 36 c (by decide)]
    obtain ⟨r, h1, h2, Λ', e1, s1, e2, jj, sc1, sc2⟩ : Okc n h (Tide_restore F 1 (rd h (-1) (6 * n + 1)) h) (fun h1 => Mod_restore F 194 (rd h (-1) (6 * n + 1)) h1) := k_restore (F := F) hF hn j
    have Y := X h1 (sc1.1.trans hL) sc1.2
    refine ⟨h2, Λ', ?_, jj, sc2.1.trans (sc1.1.trans hL)⟩
    dsimp only at e2
    show (xl h (-1) (w32 (6 * n + 1)) fun v269 => iv h 1 111 (Tide_restore F 1 v269 h) fun r270 h271 => xl h271 (-1) (w32 (6 * n + 1)) fun v272 => iv h271 194 112 (Mod_restore F 194 v272 h271) fun r273 h274 => if r270 = r273 then (R (-1) 1 194 (w32 (6 * n + 6)) h274) else (rz 0 h274)) = _
    rw [X1 1 (by decide) (by decide), ivT s, e1, cl_some, Y 1 (by decide) (by decide), ivM s1, e2, cl_some, if_pos rfl, w6]
  · rw [tsw_at 37 c (by decide)]
    obtain ⟨r, h1, h2, Λ', e1, s1, e2, jj, sc1, sc2⟩ : Okc n h (Tide_count F 1 (rd h (-1) (6 * n + 1)) h) (fun h1 => Mod_count F 194 (rd h (-1) (6 * n + 1)) h1) := k_count (F := F) hF j
    have Y := X h1 (sc1.1.trans hL) sc1.2
    refine ⟨h2, Λ', ?_, jj, sc2.1.trans (sc1.1.trans hL)⟩
    dsimp only at e2
    show (xl h (-1) (w32 (6 * n + 1)) fun v275 => iv h 1 111 (Tide_count F 1 v275 h) fun r276 h277 => xl h277 (-1) (w32 (6 * n + 1)) fun v278 => iv h277 194 112 (Mod_count F 194 v278 h277) fun r279 h280 => if r276 = r279 then (R (-1) 1 194 (w32 (6 * n + 6)) h280) else (rz 0 h280)) = _
    rw [X1 1 (by decide) (by decide), ivT s, e1, cl_some, Y 1 (by decide) (by decide), ivM s1, e2, cl_some, if_pos rfl, w6]
