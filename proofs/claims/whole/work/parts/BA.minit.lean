/-! the constructor of the reference, up to its first day; written by gen_mod.py -/
def m0 : List Lgr := (0, 194, 112, 0, 86) :: th16
def ma0 : List Lgr := (1, 194, 8, 200, 0) :: (0, 200, 3, 403, 403) :: (1, 194, 7, 199, 0) :: (0, 199, 0, 403, 403) :: (1, 194, 6, 198, 0) :: (0, 198, 0, 403, 403) :: (1, 194, 5, 197, 0) :: (0, 197, 0, 403, 403) :: (1, 194, 3, 196, 0) :: (0, 196, 1, 2000, 2000) :: (1, 194, 1, 195, 0) :: (0, 195, 1, 2000, 2000) :: m0
def ma1 : List Lgr := (0, 206, 0, 16, 16) :: (1, 194, 24, 205, 0) :: (0, 205, 0, 16, 16) :: (1, 194, 23, 204, 0) :: (0, 204, 0, 16, 16) :: (1, 194, 22, 203, 0) :: (0, 203, 0, 2, 2) :: (1, 194, 21, 202, 0) :: (0, 202, 3, 11, 11) :: (1, 194, 17, (-1), 0) :: (1, 194, 9, 201, 0) :: (0, 201, 3, 18, 18) :: ma0
def ma2 : List Lgr := (0, 212, 0, 2, 2) :: (1, 194, 30, 211, 0) :: (0, 211, 0, 6, 6) :: (1, 194, 29, 210, 0) :: (0, 210, 0, 6, 6) :: (1, 194, 28, 209, 0) :: (0, 209, 0, 6, 6) :: (1, 194, 27, 208, 0) :: (0, 208, 0, 2, 2) :: (1, 194, 26, 207, 0) :: (0, 207, 0, 16, 16) :: (1, 194, 25, 206, 0) :: ma1
def ma3 : List Lgr := (0, 218, 0, 10, 10) :: (1, 194, 36, 217, 0) :: (0, 217, 0, 10, 10) :: (1, 194, 35, 216, 0) :: (0, 216, 0, 2, 2) :: (1, 194, 34, 215, 0) :: (0, 215, 0, 2, 2) :: (1, 194, 33, 214, 0) :: (0, 214, 0, 2, 2) :: (1, 194, 32, 213, 0) :: (0, 213, 0, 2, 2) :: (1, 194, 31, 212, 0) :: ma2
def ma4 : List Lgr := (0, 224, 0, 840, 840) :: (1, 194, 43, 223, 0) :: (0, 223, 0, 260, 260) :: (1, 194, 42, 222, 0) :: (0, 222, 0, 260, 260) :: (1, 194, 41, 221, 0) :: (0, 221, 0, 260, 260) :: (1, 194, 40, 220, 0) :: (0, 220, 0, 260, 260) :: (1, 194, 39, 219, 0) :: (0, 219, 2, 260, 260) :: (1, 194, 37, 218, 0) :: ma3
def ma5 : List Lgr := (0, 230, 0, 600, 600) :: (1, 194, 52, 229, 0) :: (0, 229, 0, 600, 600) :: (1, 194, 50, 228, 0) :: (0, 228, 0, 400, 400) :: (1, 194, 49, 227, 0) :: (0, 227, 0, 5, 5) :: (1, 194, 47, 226, 0) :: (0, 226, 0, 64, 64) :: (1, 194, 46, 225, 0) :: (0, 225, 0, 840, 840) :: (1, 194, 45, 224, 0) :: ma4
def ma6 : List Lgr := (0, 236, 0, 9600, 9600) :: (1, 194, 58, 235, 0) :: (0, 235, 0, 16, 16) :: (1, 194, 57, 234, 0) :: (0, 234, 0, 16, 16) :: (1, 194, 56, 233, 0) :: (0, 233, 0, 16, 16) :: (1, 194, 55, 232, 0) :: (0, 232, 0, 16, 16) :: (1, 194, 54, 231, 0) :: (0, 231, 0, 4800, 4800) :: (1, 194, 53, 230, 0) :: ma5
def ma7 : List Lgr := (0, 242, 0, 2048, 2048) :: (1, 194, 65, 241, 0) :: (0, 241, 0, 5600, 5600) :: (1, 194, 63, 240, 0) :: (0, 240, 0, 140, 140) :: (1, 194, 62, 239, 0) :: (0, 239, 0, 140, 140) :: (1, 194, 61, 238, 0) :: (0, 238, 0, 9616, 9616) :: (1, 194, 60, 237, 0) :: (0, 237, 0, 9600, 9600) :: (1, 194, 59, 236, 0) :: ma6
def ma8 : List Lgr := (0, 248, 0, 8, 8) :: (1, 194, 77, 247, 0) :: (0, 247, 0, 8, 8) :: (1, 194, 76, 246, 0) :: (0, 246, 2, 256, 256) :: (1, 194, 75, 245, 0) :: (0, 245, 2, 256, 256) :: (1, 194, 74, 244, 0) :: (0, 244, 2, 768, 768) :: (1, 194, 72, 243, 0) :: (0, 243, 0, 8, 8) :: (1, 194, 66, 242, 0) :: ma7
def ma9 : List Lgr := (1, 194, 85, 253, 0) :: (0, 253, 0, 420, 420) :: (1, 194, 84, 252, 0) :: (0, 252, 2, 3, 3) :: (1, 194, 83, 251, 0) :: (0, 251, 2, 20, 20) :: (1, 194, 82, 250, 0) :: (0, 250, 0, 20, 20) :: (1, 194, 81, 249, 0) :: (0, 249, 0, 20, 20) :: (1, 194, 78, 248, 0) :: ma8
def mp0 : List Lgr := (1, 216, 0, 0, 0) :: (1, 215, 0, 0, 0) :: (1, 214, 0, 0, 0) :: (1, 213, 0, 600, 0) :: (1, 212, 0, 1, 0) :: (1, 208, 0, 0, 0) :: (1, 203, 0, 0, 0) :: ma9
def mp : List Lgr := (1, 218, 4, 0, 0) :: (1, 217, 4, 0, 0) :: (1, 218, 3, 0, 0) :: (1, 217, 3, 0, 0) :: (1, 218, 2, 0, 0) :: (1, 217, 2, 0, 0) :: (1, 218, 1, 0, 0) :: (1, 217, 1, 0, 0) :: (1, 218, 0, 0, 0) :: (1, 217, 0, 0, 0) :: mp0
theorem d_plain {F L : Nat} {xs : Nat → Int32} (hF : 20 ≤ F) : Mod_plain F 194 0 (lh (hini L xs) ma9) = some (0, lh (hini L xs) mp) := by
  obtain ⟨k, hk⟩ : ∃ k, F = k + 6 := ⟨F - 6, by omega⟩
  have u : ∀ (l : Int) (q : Hp), Mod_plain_L53 F F 194 0 l q = Mod_plain_L53s F (Mod_plain_L53 F (k + 5)) 194 0 l q := fun l q => by
    conv => lhs; arg 2; rw [hk]
    rfl
  unfold Mod_plain
  rw [gf_c (v := 203) (by decide +kernel) (by decide +kernel), as_c (by decide +kernel)]
  rw [gf_c (v := 208) (by decide +kernel) (by decide +kernel), as_c (by decide +kernel)]
  rw [gf_c (v := 212) (by decide +kernel) (by decide +kernel), as_c (by decide +kernel)]
  rw [gf_c (v := 213) (by decide +kernel) (by decide +kernel), as_c (by decide +kernel)]
  rw [gf_c (v := 214) (by decide +kernel) (by decide +kernel), as_c (by decide +kernel)]
  rw [gf_c (v := 215) (by decide +kernel) (by decide +kernel), as_c (by decide +kernel)]
  rw [gf_c (v := 216) (by decide +kernel) (by decide +kernel), as_c (by decide +kernel)]
  rw [u]
  unfold Mod_plain_L53s
  rw [if_pos (by decide), gf_c (v := 217) (by decide +kernel) (by decide +kernel), show w32 (w32 (5 * 0) + 0) = 0 by decide, as_c (by decide +kernel), gf_c (v := 218) (by decide +kernel) (by decide +kernel), as_c (by decide +kernel), show w32 (0 + 1) = 1 by decide]
  show Mod_plain_L53s F (Mod_plain_L53 F (k + 4)) 194 0 1 _ = _
  unfold Mod_plain_L53s
  rw [if_pos (by decide), gf_c (v := 217) (by decide +kernel) (by decide +kernel), show w32 (w32 (5 * 0) + 1) = 1 by decide, as_c (by decide +kernel), gf_c (v := 218) (by decide +kernel) (by decide +kernel), as_c (by decide +kernel), show w32 (1 + 1) = 2 by decide]
  show Mod_plain_L53s F (Mod_plain_L53 F (k + 3)) 194 0 2 _ = _
  unfold Mod_plain_L53s
  rw [if_pos (by decide), gf_c (v := 217) (by decide +kernel) (by decide +kernel), show w32 (w32 (5 * 0) + 2) = 2 by decide, as_c (by decide +kernel), gf_c (v := 218) (by decide +kernel) (by decide +kernel), as_c (by decide +kernel), show w32 (2 + 1) = 3 by decide]
  show Mod_plain_L53s F (Mod_plain_L53 F (k + 2)) 194 0 3 _ = _
  unfold Mod_plain_L53s
  rw [if_pos (by decide), gf_c (v := 217) (by decide +kernel) (by decide +kernel), show w32 (w32 (5 * 0) + 3) = 3 by decide, as_c (by decide +kernel), gf_c (v := 218) (by decide +kernel) (by decide +kernel), as_c (by decide +kernel), show w32 (3 + 1) = 4 by decide]
  show Mod_plain_L53s F (Mod_plain_L53 F (k + 1)) 194 0 4 _ = _
  unfold Mod_plain_L53s
  rw [if_pos (by decide), gf_c (v := 217) (by decide +kernel) (by decide +kernel), show w32 (w32 (5 * 0) + 4) = 4 by decide, as_c (by decide +kernel), gf_c (v := 218) (by decide +kernel) (by decide +kernel), as_c (by decide +kernel), show w32 (4 + 1) = 5 by decide]
  show Mod_plain_L53s F (Mod_plain_L53 F k) 194 0 5 _ = _
  unfold Mod_plain_L53s
  rw [if_neg (by decide)]
  rfl
theorem d_word0 (F : Nat) (h : Hp) : Mod_word F 112 97 114 116 0 0 0 h = some (316163, h) := by
  unfold Mod_word Mod_appends
  rfl
theorem d_word1 (F : Nat) (h : Hp) : Mod_word F 119 111 114 107 101 114 0 h = some (338358942, h) := by
  unfold Mod_word Mod_appends
  rfl
theorem d_word2 (F : Nat) (h : Hp) : Mod_word F 104 105 103 104 0 0 0 h = some (164222, h) := by
  unfold Mod_word Mod_appends
  rfl
theorem d_word3 (F : Nat) (h : Hp) : Mod_word F 116 105 100 101 0 0 0 h = some (400334, h) := by
  unfold Mod_word Mod_appends
  rfl
theorem d_word4 (F : Nat) (h : Hp) : Mod_word F 115 117 110 0 0 0 0 h = some (14432, h) := by
  unfold Mod_word Mod_appends
  rfl
theorem d_word5 (F : Nat) (h : Hp) : Mod_word F 115 108 105 112 0 0 0 h = some (382984, h) := by
  unfold Mod_word Mod_appends
  rfl
theorem d_word6 (F : Nat) (h : Hp) : Mod_word F 100 111 103 0 0 0 0 h = some (3328, h) := by
  unfold Mod_word Mod_appends
  rfl
theorem d_word7 (F : Nat) (h : Hp) : Mod_word F 104 111 108 100 115 0 0 h = some (4555648, h) := by
  unfold Mod_word Mod_appends
  rfl
theorem d_word8 (F : Nat) (h : Hp) : Mod_word F 112 101 103 0 0 0 0 h = some (11806, h) := by
  unfold Mod_word Mod_appends
  rfl
theorem d_word9 (F : Nat) (h : Hp) : Mod_word F 115 101 101 100 0 0 0 h = some (377761, h) := by
  unfold Mod_word Mod_appends
  rfl
theorem d_word10 (F : Nat) (h : Hp) : Mod_word F 105 102 0 0 0 0 0 h = some (249, h) := by
  unfold Mod_word Mod_appends
  rfl
theorem d_word11 (F : Nat) (h : Hp) : Mod_word F 116 104 101 110 0 0 0 h = some (399641, h) := by
  unfold Mod_word Mod_appends
  rfl
theorem d_word12 (F : Nat) (h : Hp) : Mod_word F 101 108 115 101 0 0 0 h = some (107681, h) := by
  unfold Mod_word Mod_appends
  rfl
theorem d_word13 (F : Nat) (h : Hp) : Mod_word F 120 0 0 0 0 0 0 h = some (24, h) := by
  unfold Mod_word Mod_appends
  rfl
theorem d_word14 (F : Nat) (h : Hp) : Mod_word F 121 0 0 0 0 0 0 h = some (25, h) := by
  unfold Mod_word Mod_appends
  rfl
theorem d_word15 (F : Nat) (h : Hp) : Mod_word F 109 105 110 117 116 101 0 h = some (191610176, h) := by
  unfold Mod_word Mod_appends
  rfl
theorem d_word16 (F : Nat) (h : Hp) : Mod_word F 102 97 114 0 0 0 0 h = some (4419, h) := by
  unfold Mod_word Mod_appends
  rfl
theorem d_word17 (F : Nat) (h : Hp) : Mod_word F 111 102 102 0 0 0 0 h = some (11103, h) := by
  unfold Mod_word Mod_appends
  rfl
def mw : List Lgr := (1, 201, 17, 11103, 0) :: (1, 201, 16, 4419, 0) :: (1, 201, 15, 191610176, 0) :: (1, 201, 14, 25, 0) :: (1, 201, 13, 24, 0) :: (1, 201, 12, 107681, 0) :: (1, 201, 11, 399641, 0) :: (1, 201, 10, 249, 0) :: (1, 201, 9, 377761, 0) :: (1, 201, 8, 11806, 0) :: (1, 201, 7, 4555648, 0) :: (1, 201, 6, 3328, 0) :: (1, 201, 5, 382984, 0) :: (1, 201, 4, 14432, 0) :: (1, 201, 3, 400334, 0) :: (1, 201, 2, 164222, 0) :: (1, 201, 1, 338358942, 0) :: (1, 201, 0, 316163, 0) :: mp
theorem d_mod {F L : Nat} {xs : Nat → Int32} (hF : 20 ≤ F) : Mod_init F 194 (lh (hini L xs) m0) = iv (lh (hini L xs) mw) 194 112 (Mod_layOut F 194 (lh (hini L xs) mw)) (fun _ h254 => iv h254 194 112 (Mod_begins F 194 h254) (fun _ h256 => iv h256 194 112 (Mod_keepsRow F 194 h256) (fun _ h258 => some (0, h258)))) := by
  unfold Mod_init
  rw [vc_c (by decide +kernel)]
  rw [na_c (s := 195) (k := 1) (by decide +kernel) rfl (by decide)]
  rw [pf_c (by decide +kernel)]
  rw [na_c (s := 196) (k := 1) (by decide +kernel) rfl (by decide)]
  rw [pf_c (by decide +kernel)]
  rw [na_c (s := 197) (k := 0) (by decide +kernel) rfl (by decide)]
  rw [pf_c (by decide +kernel)]
  rw [na_c (s := 198) (k := 0) (by decide +kernel) rfl (by decide)]
  rw [pf_c (by decide +kernel)]
  rw [na_c (s := 199) (k := 0) (by decide +kernel) rfl (by decide)]
  rw [pf_c (by decide +kernel)]
  rw [na_c (s := 200) (k := 3) (by decide +kernel) rfl (by decide)]
  rw [pf_c (by decide +kernel)]
  rw [show (1, 194, 8, 200, 0) :: (0, 200, 3, 403, 403) :: (1, 194, 7, 199, 0) :: (0, 199, 0, 403, 403) :: (1, 194, 6, 198, 0) :: (0, 198, 0, 403, 403) :: (1, 194, 5, 197, 0) :: (0, 197, 0, 403, 403) :: (1, 194, 3, 196, 0) :: (0, 196, 1, 2000, 2000) :: (1, 194, 1, 195, 0) :: (0, 195, 1, 2000, 2000) :: m0 = ma0 from rfl]
  rw [na_c (s := 201) (k := 3) (by decide +kernel) rfl (by decide)]
  rw [pf_c (by decide +kernel)]
  rw [pf_c (by decide +kernel)]
  rw [na_c (s := 202) (k := 3) (by decide +kernel) rfl (by decide)]
  rw [pf_c (by decide +kernel)]
  rw [na_c (s := 203) (k := 0) (by decide +kernel) rfl (by decide)]
  rw [pf_c (by decide +kernel)]
  rw [na_c (s := 204) (k := 0) (by decide +kernel) rfl (by decide)]
  rw [pf_c (by decide +kernel)]
  rw [na_c (s := 205) (k := 0) (by decide +kernel) rfl (by decide)]
  rw [pf_c (by decide +kernel)]
  rw [na_c (s := 206) (k := 0) (by decide +kernel) rfl (by decide)]
  rw [show (0, 206, 0, 16, 16) :: (1, 194, 24, 205, 0) :: (0, 205, 0, 16, 16) :: (1, 194, 23, 204, 0) :: (0, 204, 0, 16, 16) :: (1, 194, 22, 203, 0) :: (0, 203, 0, 2, 2) :: (1, 194, 21, 202, 0) :: (0, 202, 3, 11, 11) :: (1, 194, 17, (-1), 0) :: (1, 194, 9, 201, 0) :: (0, 201, 3, 18, 18) :: ma0 = ma1 from rfl]
  rw [pf_c (by decide +kernel)]
  rw [na_c (s := 207) (k := 0) (by decide +kernel) rfl (by decide)]
  rw [pf_c (by decide +kernel)]
  rw [na_c (s := 208) (k := 0) (by decide +kernel) rfl (by decide)]
  rw [pf_c (by decide +kernel)]
  rw [na_c (s := 209) (k := 0) (by decide +kernel) rfl (by decide)]
  rw [pf_c (by decide +kernel)]
  rw [na_c (s := 210) (k := 0) (by decide +kernel) rfl (by decide)]
  rw [pf_c (by decide +kernel)]
  rw [na_c (s := 211) (k := 0) (by decide +kernel) rfl (by decide)]
  rw [pf_c (by decide +kernel)]
  rw [na_c (s := 212) (k := 0) (by decide +kernel) rfl (by decide)]
  rw [show (0, 212, 0, 2, 2) :: (1, 194, 30, 211, 0) :: (0, 211, 0, 6, 6) :: (1, 194, 29, 210, 0) :: (0, 210, 0, 6, 6) :: (1, 194, 28, 209, 0) :: (0, 209, 0, 6, 6) :: (1, 194, 27, 208, 0) :: (0, 208, 0, 2, 2) :: (1, 194, 26, 207, 0) :: (0, 207, 0, 16, 16) :: (1, 194, 25, 206, 0) :: ma1 = ma2 from rfl]
  rw [pf_c (by decide +kernel)]
  rw [na_c (s := 213) (k := 0) (by decide +kernel) rfl (by decide)]
  rw [pf_c (by decide +kernel)]
  rw [na_c (s := 214) (k := 0) (by decide +kernel) rfl (by decide)]
  rw [pf_c (by decide +kernel)]
  rw [na_c (s := 215) (k := 0) (by decide +kernel) rfl (by decide)]
  rw [pf_c (by decide +kernel)]
  rw [na_c (s := 216) (k := 0) (by decide +kernel) rfl (by decide)]
  rw [pf_c (by decide +kernel)]
  rw [na_c (s := 217) (k := 0) (by decide +kernel) rfl (by decide)]
  rw [pf_c (by decide +kernel)]
  rw [na_c (s := 218) (k := 0) (by decide +kernel) rfl (by decide)]
  rw [show (0, 218, 0, 10, 10) :: (1, 194, 36, 217, 0) :: (0, 217, 0, 10, 10) :: (1, 194, 35, 216, 0) :: (0, 216, 0, 2, 2) :: (1, 194, 34, 215, 0) :: (0, 215, 0, 2, 2) :: (1, 194, 33, 214, 0) :: (0, 214, 0, 2, 2) :: (1, 194, 32, 213, 0) :: (0, 213, 0, 2, 2) :: (1, 194, 31, 212, 0) :: ma2 = ma3 from rfl]
  rw [pf_c (by decide +kernel)]
  rw [na_c (s := 219) (k := 2) (by decide +kernel) rfl (by decide)]
  rw [pf_c (by decide +kernel)]
  rw [na_c (s := 220) (k := 0) (by decide +kernel) rfl (by decide)]
  rw [pf_c (by decide +kernel)]
  rw [na_c (s := 221) (k := 0) (by decide +kernel) rfl (by decide)]
  rw [pf_c (by decide +kernel)]
  rw [na_c (s := 222) (k := 0) (by decide +kernel) rfl (by decide)]
  rw [pf_c (by decide +kernel)]
  rw [na_c (s := 223) (k := 0) (by decide +kernel) rfl (by decide)]
  rw [pf_c (by decide +kernel)]
  rw [na_c (s := 224) (k := 0) (by decide +kernel) rfl (by decide)]
  rw [show (0, 224, 0, 840, 840) :: (1, 194, 43, 223, 0) :: (0, 223, 0, 260, 260) :: (1, 194, 42, 222, 0) :: (0, 222, 0, 260, 260) :: (1, 194, 41, 221, 0) :: (0, 221, 0, 260, 260) :: (1, 194, 40, 220, 0) :: (0, 220, 0, 260, 260) :: (1, 194, 39, 219, 0) :: (0, 219, 2, 260, 260) :: (1, 194, 37, 218, 0) :: ma3 = ma4 from rfl]
  rw [pf_c (by decide +kernel)]
  rw [na_c (s := 225) (k := 0) (by decide +kernel) rfl (by decide)]
  rw [pf_c (by decide +kernel)]
  rw [na_c (s := 226) (k := 0) (by decide +kernel) rfl (by decide)]
  rw [pf_c (by decide +kernel)]
  rw [na_c (s := 227) (k := 0) (by decide +kernel) rfl (by decide)]
  rw [pf_c (by decide +kernel)]
  rw [na_c (s := 228) (k := 0) (by decide +kernel) rfl (by decide)]
  rw [pf_c (by decide +kernel)]
  rw [na_c (s := 229) (k := 0) (by decide +kernel) rfl (by decide)]
  rw [pf_c (by decide +kernel)]
  rw [na_c (s := 230) (k := 0) (by decide +kernel) rfl (by decide)]
  rw [show (0, 230, 0, 600, 600) :: (1, 194, 52, 229, 0) :: (0, 229, 0, 600, 600) :: (1, 194, 50, 228, 0) :: (0, 228, 0, 400, 400) :: (1, 194, 49, 227, 0) :: (0, 227, 0, 5, 5) :: (1, 194, 47, 226, 0) :: (0, 226, 0, 64, 64) :: (1, 194, 46, 225, 0) :: (0, 225, 0, 840, 840) :: (1, 194, 45, 224, 0) :: ma4 = ma5 from rfl]
  rw [pf_c (by decide +kernel)]
  rw [na_c (s := 231) (k := 0) (by decide +kernel) rfl (by decide)]
  rw [pf_c (by decide +kernel)]
  rw [na_c (s := 232) (k := 0) (by decide +kernel) rfl (by decide)]
  rw [pf_c (by decide +kernel)]
  rw [na_c (s := 233) (k := 0) (by decide +kernel) rfl (by decide)]
  rw [pf_c (by decide +kernel)]
  rw [na_c (s := 234) (k := 0) (by decide +kernel) rfl (by decide)]
  rw [pf_c (by decide +kernel)]
  rw [na_c (s := 235) (k := 0) (by decide +kernel) rfl (by decide)]
  rw [pf_c (by decide +kernel)]
  rw [na_c (s := 236) (k := 0) (by decide +kernel) rfl (by decide)]
  rw [show (0, 236, 0, 9600, 9600) :: (1, 194, 58, 235, 0) :: (0, 235, 0, 16, 16) :: (1, 194, 57, 234, 0) :: (0, 234, 0, 16, 16) :: (1, 194, 56, 233, 0) :: (0, 233, 0, 16, 16) :: (1, 194, 55, 232, 0) :: (0, 232, 0, 16, 16) :: (1, 194, 54, 231, 0) :: (0, 231, 0, 4800, 4800) :: (1, 194, 53, 230, 0) :: ma5 = ma6 from rfl]
  rw [pf_c (by decide +kernel)]
  rw [na_c (s := 237) (k := 0) (by decide +kernel) rfl (by decide)]
  rw [pf_c (by decide +kernel)]
  rw [na_c (s := 238) (k := 0) (by decide +kernel) rfl (by decide)]
  rw [pf_c (by decide +kernel)]
  rw [na_c (s := 239) (k := 0) (by decide +kernel) rfl (by decide)]
  rw [pf_c (by decide +kernel)]
  rw [na_c (s := 240) (k := 0) (by decide +kernel) rfl (by decide)]
  rw [pf_c (by decide +kernel)]
  rw [na_c (s := 241) (k := 0) (by decide +kernel) rfl (by decide)]
  rw [pf_c (by decide +kernel)]
  rw [na_c (s := 242) (k := 0) (by decide +kernel) rfl (by decide)]
  rw [show (0, 242, 0, 2048, 2048) :: (1, 194, 65, 241, 0) :: (0, 241, 0, 5600, 5600) :: (1, 194, 63, 240, 0) :: (0, 240, 0, 140, 140) :: (1, 194, 62, 239, 0) :: (0, 239, 0, 140, 140) :: (1, 194, 61, 238, 0) :: (0, 238, 0, 9616, 9616) :: (1, 194, 60, 237, 0) :: (0, 237, 0, 9600, 9600) :: (1, 194, 59, 236, 0) :: ma6 = ma7 from rfl]
  rw [pf_c (by decide +kernel)]
  rw [na_c (s := 243) (k := 0) (by decide +kernel) rfl (by decide)]
  rw [pf_c (by decide +kernel)]
  rw [na_c (s := 244) (k := 2) (by decide +kernel) rfl (by decide)]
  rw [pf_c (by decide +kernel)]
  rw [na_c (s := 245) (k := 2) (by decide +kernel) rfl (by decide)]
  rw [pf_c (by decide +kernel)]
  rw [na_c (s := 246) (k := 2) (by decide +kernel) rfl (by decide)]
  rw [pf_c (by decide +kernel)]
  rw [na_c (s := 247) (k := 0) (by decide +kernel) rfl (by decide)]
  rw [pf_c (by decide +kernel)]
  rw [na_c (s := 248) (k := 0) (by decide +kernel) rfl (by decide)]
  rw [show (0, 248, 0, 8, 8) :: (1, 194, 77, 247, 0) :: (0, 247, 0, 8, 8) :: (1, 194, 76, 246, 0) :: (0, 246, 2, 256, 256) :: (1, 194, 75, 245, 0) :: (0, 245, 2, 256, 256) :: (1, 194, 74, 244, 0) :: (0, 244, 2, 768, 768) :: (1, 194, 72, 243, 0) :: (0, 243, 0, 8, 8) :: (1, 194, 66, 242, 0) :: ma7 = ma8 from rfl]
  rw [pf_c (by decide +kernel)]
  rw [na_c (s := 249) (k := 0) (by decide +kernel) rfl (by decide)]
  rw [pf_c (by decide +kernel)]
  rw [na_c (s := 250) (k := 0) (by decide +kernel) rfl (by decide)]
  rw [pf_c (by decide +kernel)]
  rw [na_c (s := 251) (k := 2) (by decide +kernel) rfl (by decide)]
  rw [pf_c (by decide +kernel)]
  rw [na_c (s := 252) (k := 2) (by decide +kernel) rfl (by decide)]
  rw [pf_c (by decide +kernel)]
  rw [na_c (s := 253) (k := 0) (by decide +kernel) rfl (by decide)]
  rw [pf_c (by decide +kernel)]
  rw [show (1, 194, 85, 253, 0) :: (0, 253, 0, 420, 420) :: (1, 194, 84, 252, 0) :: (0, 252, 2, 3, 3) :: (1, 194, 83, 251, 0) :: (0, 251, 2, 20, 20) :: (1, 194, 82, 250, 0) :: (0, 250, 0, 20, 20) :: (1, 194, 81, 249, 0) :: (0, 249, 0, 20, 20) :: (1, 194, 78, 248, 0) :: ma8 = ma9 from rfl]
  rw [iv_c (by decide +kernel), d_plain hF, cl_s]
  rw [gf_c (v := 201) (by decide +kernel) (by decide +kernel), d_word0, cl_s, as_c (by decide +kernel)]
  rw [gf_c (v := 201) (by decide +kernel) (by decide +kernel), d_word1, cl_s, as_c (by decide +kernel)]
  rw [gf_c (v := 201) (by decide +kernel) (by decide +kernel), d_word2, cl_s, as_c (by decide +kernel)]
  rw [gf_c (v := 201) (by decide +kernel) (by decide +kernel), d_word3, cl_s, as_c (by decide +kernel)]
  rw [gf_c (v := 201) (by decide +kernel) (by decide +kernel), d_word4, cl_s, as_c (by decide +kernel)]
  rw [gf_c (v := 201) (by decide +kernel) (by decide +kernel), d_word5, cl_s, as_c (by decide +kernel)]
  rw [gf_c (v := 201) (by decide +kernel) (by decide +kernel), d_word6, cl_s, as_c (by decide +kernel)]
  rw [gf_c (v := 201) (by decide +kernel) (by decide +kernel), d_word7, cl_s, as_c (by decide +kernel)]
  rw [gf_c (v := 201) (by decide +kernel) (by decide +kernel), d_word8, cl_s, as_c (by decide +kernel)]
  rw [gf_c (v := 201) (by decide +kernel) (by decide +kernel), d_word9, cl_s, as_c (by decide +kernel)]
  rw [gf_c (v := 201) (by decide +kernel) (by decide +kernel), d_word10, cl_s, as_c (by decide +kernel)]
  rw [gf_c (v := 201) (by decide +kernel) (by decide +kernel), d_word11, cl_s, as_c (by decide +kernel)]
  rw [gf_c (v := 201) (by decide +kernel) (by decide +kernel), d_word12, cl_s, as_c (by decide +kernel)]
  rw [gf_c (v := 201) (by decide +kernel) (by decide +kernel), d_word13, cl_s, as_c (by decide +kernel)]
  rw [gf_c (v := 201) (by decide +kernel) (by decide +kernel), d_word14, cl_s, as_c (by decide +kernel)]
  rw [gf_c (v := 201) (by decide +kernel) (by decide +kernel), d_word15, cl_s, as_c (by decide +kernel)]
  rw [gf_c (v := 201) (by decide +kernel) (by decide +kernel), d_word16, cl_s, as_c (by decide +kernel)]
  rw [gf_c (v := 201) (by decide +kernel) (by decide +kernel), d_word17, cl_s, as_c (by decide +kernel)]
  rfl
theorem s_mw {L : Nat} {xs : Nat → Int32} : Sh (lh (hini L xs) mw) := by
  refine ⟨by rw [hsz_lh]; decide +kernel, fun a h1 h2 => ?_, fun q hq => ?_⟩
  · have k : ∀ n : Nat, n < 253 → lkd ((n : Int) + 1) mw = kL.getD (n + 1) 0 ∧ lln ((n : Int) + 1) mw = nL.getD (n + 1) 0 := by decide +kernel
    have := k (a.toNat - 1) (by omega)
    rw [show ((a.toNat - 1 : Nat) : Int) + 1 = a by omega, show a.toNat - 1 + 1 = a.toNat by omega] at this
    rw [hkd_lh, hln_lh L xs (by omega)]
    exact this
  · have k : ∀ q ∈ refL, lrd q.1 q.2.1 mw = q.2.2 ∧ q.1 ≠ -1 := by decide +kernel
    rw [rd_lh L xs (k q hq).2]
    exact (k q hq).1
theorem z_mw : lsz mw = 254 ∧ lus mw ≤ 100000 ∧ lpo mw = true := by decide +kernel
