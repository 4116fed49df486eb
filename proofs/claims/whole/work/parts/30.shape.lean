/-! THE FIXED CELLS: what the two constructors made; kinds and lengths never change, these references neither -/
def kL : List Nat := [999, 111, 1, 103, 3, 0, 3, 0, 3, 106, 0, 0, 0, 0, 0, 0, 0, 100, 0, 0, 0, 0, 107, 106, 0, 0, 0, 0, 0, 0, 0, 100, 0, 0, 0, 0, 0, 0, 5, 0, 0, 0, 105, 0, 0, 105, 0, 0, 105, 0, 0, 105, 0, 0, 105, 0, 0, 105, 0, 0, 105, 0, 0, 105, 0, 0, 108, 7, 0, 0, 0, 2, 0, 0, 0, 110, 110, 110, 101, 0, 6, 2, 102, 4, 2, 104, 5, 0, 0, 0, 0, 110, 0, 0, 0, 5, 0, 104, 5, 0, 0, 0, 0, 104, 5, 0, 0, 0, 0, 104, 5, 0, 0, 0, 0, 105, 0, 0, 105, 0, 0, 105, 0, 0, 105, 0, 0, 105, 0, 0, 105, 0, 0, 105, 0, 0, 105, 0, 0, 109, 0, 0, 2, 108, 7, 0, 0, 0, 2, 0, 0, 0, 110, 110, 110, 0, 0, 0, 108, 7, 0, 0, 0, 2, 0, 0, 0, 110, 110, 110, 108, 7, 0, 0, 0, 2, 0, 0, 0, 110, 110, 110, 108, 7, 0, 0, 0, 2, 0, 0, 0, 110, 110, 110, 112, 1, 1, 0, 0, 0, 3, 3, 3, 0, 0, 0, 0, 0, 0, 0, 0, 0, 0, 0, 0, 0, 0, 0, 0, 2, 0, 0, 0, 0, 0, 0, 0, 0, 0, 0, 0, 0, 0, 0, 0, 0, 0, 0, 0, 0, 0, 0, 0, 0, 2, 2, 2, 0, 0, 0, 0, 2, 2, 0]
def nL : List Int := [0, 0, 2000, 0, 18, 402, 402, 402, 11, 0, 8, 8, 8, 8, 3, 3, 3, 0, 450, 5, 5, 20, 0, 0, 8, 8, 8, 8, 3, 3, 3, 0, 450, 5, 5, 20, 600, 600, 8, 256, 8, 8, 0, 0, 0, 0, 0, 0, 0, 0, 0, 0, 0, 0, 0, 0, 0, 0, 0, 0, 0, 0, 0, 0, 0, 0, 0, 3, 8, 8, 8, 8, 30, 30, 30, 0, 0, 0, 0, 410, 3, 3, 0, 3, 3, 0, 0, 64, 8, 0, 1, 0, 8, 256, 256, 8, 17, 0, 0, 64, 8, 0, 1, 0, 0, 64, 8, 0, 1, 0, 0, 64, 8, 0, 1, 0, 0, 0, 0, 0, 0, 0, 0, 0, 0, 0, 0, 0, 0, 0, 0, 0, 0, 0, 0, 0, 0, 0, 0, 0, 20, 20, 20, 0, 3, 8, 8, 8, 8, 30, 30, 30, 0, 0, 0, 50, 50, 600, 0, 3, 8, 8, 8, 8, 30, 30, 30, 0, 0, 0, 0, 3, 8, 8, 8, 8, 30, 30, 30, 0, 0, 0, 0, 3, 8, 8, 8, 8, 30, 30, 30, 0, 0, 0, 0, 2000, 2000, 403, 403, 403, 403, 18, 11, 2, 16, 16, 16, 16, 2, 6, 6, 6, 2, 2, 2, 2, 2, 10, 10, 260, 260, 260, 260, 260, 840, 840, 64, 5, 400, 600, 600, 4800, 16, 16, 16, 16, 9600, 9600, 9616, 140, 140, 5600, 2048, 8, 768, 256, 256, 8, 8, 20, 20, 20, 3, 420]
def refL : List (Int × Int × Int) := [(1, 0, 2), (1, 3, 3), (1, 4, 22), (1, 5, 66), (1, 6, 78), (1, 7, 80), (1, 8, 81), (1, 9, 82), (1, 10, 139), (1, 11, 155), (1, 12, 156), (1, 13, 157), (3, 0, 4), (3, 1, 5), (3, 2, 6), (3, 3, 7), (3, 4, 8), (9, 0, 10), (9, 1, 11), (9, 2, 12), (9, 3, 13), (9, 5, 14), (9, 6, 15), (9, 7, 16), (9, 14, 17), (17, 0, 18), (17, 1, 19), (17, 2, 20), (17, 3, 21), (22, 1, 36), (22, 2, 37), (22, 3, 38), (22, 4, 39), (22, 5, 40), (22, 6, 41), (23, 0, 24), (23, 1, 25), (23, 2, 26), (23, 3, 27), (23, 5, 28), (23, 6, 29), (23, 7, 30), (23, 14, 31), (31, 0, 32), (31, 1, 33), (31, 2, 34), (31, 3, 35), (38, 0, 42), (38, 1, 45), (38, 2, 48), (38, 3, 51), (38, 4, 54), (38, 5, 57), (38, 6, 60), (38, 7, 63), (66, 0, 67), (66, 1, 68), (66, 2, 69), (66, 3, 70), (66, 4, 71), (66, 5, 72), (66, 6, 73), (66, 7, 74), (67, 0, 75), (67, 1, 76), (67, 2, 77), (78, 0, 79), (80, 0, 158), (80, 1, 170), (80, 2, 182), (82, 0, 83), (82, 1, 84), (82, 2, 85), (82, 3, 91), (82, 4, 92), (82, 5, 93), (82, 7, 94), (82, 8, 95), (82, 9, 96), (83, 0, 97), (83, 1, 103), (83, 2, 109), (85, 3, 87), (85, 4, 88), (95, 0, 115), (95, 1, 118), (95, 2, 121), (95, 3, 124), (95, 4, 127), (95, 5, 130), (95, 6, 133), (95, 7, 136), (97, 3, 99), (97, 4, 100), (103, 3, 105), (103, 4, 106), (109, 3, 111), (109, 4, 112), (139, 0, 140), (139, 1, 141), (139, 2, 142), (139, 3, 143), (143, 0, 144), (143, 1, 145), (143, 2, 146), (143, 3, 147), (143, 4, 148), (143, 5, 149), (143, 6, 150), (143, 7, 151), (144, 0, 152), (144, 1, 153), (144, 2, 154), (158, 0, 159), (158, 1, 160), (158, 2, 161), (158, 3, 162), (158, 4, 163), (158, 5, 164), (158, 6, 165), (158, 7, 166), (159, 0, 167), (159, 1, 168), (159, 2, 169), (170, 0, 171), (170, 1, 172), (170, 2, 173), (170, 3, 174), (170, 4, 175), (170, 5, 176), (170, 6, 177), (170, 7, 178), (171, 0, 179), (171, 1, 180), (171, 2, 181), (182, 0, 183), (182, 1, 184), (182, 2, 185), (182, 3, 186), (182, 4, 187), (182, 5, 188), (182, 6, 189), (182, 7, 190), (183, 0, 191), (183, 1, 192), (183, 2, 193), (194, 1, 195), (194, 3, 196), (194, 5, 197), (194, 6, 198), (194, 7, 199), (194, 8, 200), (194, 9, 201), (194, 21, 202), (194, 22, 203), (194, 23, 204), (194, 24, 205), (194, 25, 206), (194, 26, 207), (194, 27, 208), (194, 28, 209), (194, 29, 210), (194, 30, 211), (194, 31, 212), (194, 32, 213), (194, 33, 214), (194, 34, 215), (194, 35, 216), (194, 36, 217), (194, 37, 218), (194, 39, 219), (194, 40, 220), (194, 41, 221), (194, 42, 222), (194, 43, 223), (194, 45, 224), (194, 46, 225), (194, 47, 226), (194, 49, 227), (194, 50, 228), (194, 52, 229), (194, 53, 230), (194, 54, 231), (194, 55, 232), (194, 56, 233), (194, 57, 234), (194, 58, 235), (194, 59, 236), (194, 60, 237), (194, 61, 238), (194, 62, 239), (194, 63, 240), (194, 65, 241), (194, 66, 242), (194, 72, 243), (194, 74, 244), (194, 75, 245), (194, 76, 246), (194, 77, 247), (194, 78, 248), (194, 81, 249), (194, 82, 250), (194, 83, 251), (194, 84, 252), (194, 85, 253)]
def Sh (h : Hp) : Prop := 254 ≤ hsz h ∧ (∀ a : Int, 1 ≤ a → a < 254 → hkd h a = kL.getD a.toNat 0 ∧ hln h a = nL.getD a.toNat 0) ∧ ∀ q ∈ refL, rd h q.1 q.2.1 = q.2.2
theorem w32_id {x : Int} (h1 : -2147483648 ≤ x) (h2 : x < 2147483648) : w32 x = x := by unfold w32; exact Int.bmod_eq_of_le (by omega) (by omega)

theorem Sh.vo {h : Hp} (s : Sh h) (a : Int) (κ : Nat) (h1 : 1 ≤ a) (h2 : a < 254) (h3 : kL.getD a.toNat 0 = κ) : vo h a κ := ⟨h1, by have := s.1; omega, (s.2.1 a h1 h2).1.trans h3⟩
theorem Sh.ln {h : Hp} (s : Sh h) (a : Int) (n : Int) (h1 : 1 ≤ a) (h2 : a < 254) (h3 : nL.getD a.toNat 0 = n) : hln h a = n := (s.2.1 a h1 h2).2.trans h3
theorem Sh.rf {h : Hp} (s : Sh h) (i : Nat) {a k v : Int} (hq : refL[i]? = some (a, k, v)) : rd h a k = v := s.2.2 (a, k, v) (List.mem_of_getElem? hq)
theorem refL_kinds : ∀ q ∈ refL, 4 ≤ kL.getD q.1.toNat 0 ∧ 1 ≤ q.1 ∧ q.1 < 254 := by decide +kernel
/-- a number is written into an array of numbers -/
theorem Sh_arr {h : Hp} (s : Sh h) {a i v : Int} (h1 : 1 ≤ a) (hk : a < 254 → kL.getD a.toNat 0 < 4) : Sh (wr h a i v) := by
  refine ⟨s.1, s.2.1, fun q hq => ?_⟩
  obtain ⟨g1, g2, g3⟩ := refL_kinds q hq
  rw [rd_wr, if_neg (fun e => by
    have e1 := e.1
    rw [e1] at g1 g3
    have := hk g3
    omega)]
  exact s.2.2 q hq
/-- into a field that holds no fixed reference -/
theorem Sh_fld {h : Hp} (s : Sh h) {a i v : Int} (hk : ∀ q ∈ refL, ¬ (q.1 = a ∧ q.2.1 = i)) : Sh (wr h a i v) := by
  refine ⟨s.1, s.2.1, fun q hq => ?_⟩
  rw [rd_wr, if_neg (hk q hq)]
  exact s.2.2 q hq
/-- a new cell -/
theorem Sh_nw {h : Hp} (s : Sh h) {k : Nat} {n u : Int} : Sh (nw h k n u) := by
  have h1 := s.1
  refine ⟨by rw [hsz_nw]; omega, fun a ha1 ha2 => ?_, fun q hq => ?_⟩
  · rw [hkd_nw, hln_nw, if_neg (by omega), if_neg (by omega)]
    exact s.2.1 a ha1 ha2
  · obtain ⟨g1, g2, g3⟩ := refL_kinds q hq
    rw [rd_nw, if_neg (by omega)]
    exact s.2.2 q hq
theorem gf_ok {h : Hp} {a : Int} {κ : Nat} {k : Int} {f : Int → Option (Int × Hp)} (hv : vo h a κ) : gf h a κ k f = f (rd h a k) := if_pos hv
theorem pf_ok {h : Hp} {a : Int} {κ : Nat} {k x : Int} {f : Hp → Option (Int × Hp)} (hv : vo h a κ) : pf h a κ k x f = f (wr h a k x) := if_pos hv
theorem pz_ok {h : Hp} {a : Int} {κ : Nat} {k x : Int} {f : Hp → Option (Int × Hp)} (hv : vo h a κ) (hx : x = 0 ∨ x = 1) : pz h a κ k x f = f (wr h a k x) := if_pos ⟨hv, hx⟩
theorem al_ok {h : Hp} {a : Int} {κ : Nat} {i n : Int} {f : Int → Option (Int × Hp)} (hv : vo h a κ) (hn : hln h a = n) (h0 : 0 ≤ i) (h1 : i < n) : al h a κ i f = f (rd h a i) := if_pos ⟨hv, h0, by rw [hn]; exact h1⟩
theorem as_ok {h : Hp} {a : Int} {κ : Nat} {i n x : Int} {f : Hp → Option (Int × Hp)} (hv : vo h a κ) (hn : hln h a = n) (h0 : 0 ≤ i) (h1 : i < n) : as h a κ i x f = f (wr h a i x) := if_pos ⟨hv, h0, by rw [hn]; exact h1⟩
theorem az_ok {h : Hp} {a : Int} {i n x : Int} {f : Hp → Option (Int × Hp)} (hv : vo h a 2) (hn : hln h a = n) (h0 : 0 ≤ i) (h1 : i < n) (hx : x = 0 ∨ x = 1) : az h a i x f = f (wr h a i x) := if_pos ⟨hv, h0, by rw [hn]; exact h1, hx⟩
theorem aln_ok {h : Hp} {a : Int} {κ : Nat} {n : Int} {f : Int → Option (Int × Hp)} (hv : vo h a κ) (hn : hln h a = n) : aln h a κ f = f n := by unfold aln; rw [if_pos hv, hn]
theorem iv_ok {h : Hp} {a : Int} {κ : Nat} {o : Option (Int × Hp)} {f : Int → Hp → Option (Int × Hp)} (hv : vo h a κ) : iv h a κ o f = cl o f := if_pos hv
theorem cl_some (r : Int) (h : Hp) (f : Int → Hp → Option (Int × Hp)) : cl (some (r, h)) f = f r h := rfl
theorem rz_0 (h : Hp) : rz 0 h = some (0, h) := rfl
theorem rz_1 (h : Hp) : rz 1 h = some (1, h) := rfl
theorem lt_eq (x : Int) (f : Int → Option (Int × Hp)) : lt x f = f x := rfl
theorem dv_ok {x y : Int} {f : Int → Option (Int × Hp)} (hy : y ≠ 0) : dv x y f = f (w32 (x.tdiv y)) := if_neg hy
theorem dm_ok {x y : Int} {f : Int → Option (Int × Hp)} (hy : y ≠ 0) : dm x y f = f (irem x y) := if_neg hy
theorem rd_same (h : Hp) (a i v : Int) : rd (wr h a i v) a i = v := by rw [rd_wr, if_pos ⟨rfl, rfl⟩]
theorem rd_a {h : Hp} {a i v b j : Int} (hb : b ≠ a) : rd (wr h a i v) b j = rd h b j := by rw [rd_wr, if_neg (fun q => hb q.1)]
theorem rd_i {h : Hp} {a i v j : Int} (hj : j ≠ i) : rd (wr h a i v) a j = rd h a j := by rw [rd_wr, if_neg (fun q => hj q.2)]

theorem gM0 {h : Hp} (s : Sh h) (f : Int → Option (Int × Hp)) : gf h 194 112 0 f = f (rd h 194 0) := gf_ok (s.vo 194 112 (by decide) (by decide) rfl)
theorem pM0 {h : Hp} (s : Sh h) (x : Int) (f : Hp → Option (Int × Hp)) : pf h 194 112 0 x f = f (wr h 194 0 x) := pf_ok (s.vo 194 112 (by decide) (by decide) rfl)
theorem sh0 {h : Hp} (s : Sh h) (x : Int) : Sh (wr h 194 0 x) := Sh_fld s (by decide +kernel)
theorem gM1 {h : Hp} (s : Sh h) (f : Int → Option (Int × Hp)) : gf h 194 112 1 f = f 195 := by rw [gf_ok (s.vo 194 112 (by decide) (by decide) rfl), s.rf 146 rfl]
theorem aM1 {h : Hp} (s : Sh h) {i : Int} (h0 : 0 ≤ i) (h1 : i < 2000) (f : Int → Option (Int × Hp)) : al h 195 1 i f = f (rd h 195 i) := al_ok (s.vo 195 1 (by decide) (by decide) rfl) (s.ln 195 2000 (by decide) (by decide) rfl) h0 h1
theorem sM1 {h : Hp} (s : Sh h) {i x : Int} (h0 : 0 ≤ i) (h1 : i < 2000) (f : Hp → Option (Int × Hp)) : as h 195 1 i x f = f (wr h 195 i x) := as_ok (s.vo 195 1 (by decide) (by decide) rfl) (s.ln 195 2000 (by decide) (by decide) rfl) h0 h1
theorem gM2 {h : Hp} (s : Sh h) (f : Int → Option (Int × Hp)) : gf h 194 112 2 f = f (rd h 194 2) := gf_ok (s.vo 194 112 (by decide) (by decide) rfl)
theorem pM2 {h : Hp} (s : Sh h) (x : Int) (f : Hp → Option (Int × Hp)) : pf h 194 112 2 x f = f (wr h 194 2 x) := pf_ok (s.vo 194 112 (by decide) (by decide) rfl)
theorem sh2 {h : Hp} (s : Sh h) (x : Int) : Sh (wr h 194 2 x) := Sh_fld s (by decide +kernel)
theorem gM3 {h : Hp} (s : Sh h) (f : Int → Option (Int × Hp)) : gf h 194 112 3 f = f 196 := by rw [gf_ok (s.vo 194 112 (by decide) (by decide) rfl), s.rf 147 rfl]
theorem aM3 {h : Hp} (s : Sh h) {i : Int} (h0 : 0 ≤ i) (h1 : i < 2000) (f : Int → Option (Int × Hp)) : al h 196 1 i f = f (rd h 196 i) := al_ok (s.vo 196 1 (by decide) (by decide) rfl) (s.ln 196 2000 (by decide) (by decide) rfl) h0 h1
theorem sM3 {h : Hp} (s : Sh h) {i x : Int} (h0 : 0 ≤ i) (h1 : i < 2000) (f : Hp → Option (Int × Hp)) : as h 196 1 i x f = f (wr h 196 i x) := as_ok (s.vo 196 1 (by decide) (by decide) rfl) (s.ln 196 2000 (by decide) (by decide) rfl) h0 h1
theorem gM4 {h : Hp} (s : Sh h) (f : Int → Option (Int × Hp)) : gf h 194 112 4 f = f (rd h 194 4) := gf_ok (s.vo 194 112 (by decide) (by decide) rfl)
theorem pM4 {h : Hp} (s : Sh h) (x : Int) (f : Hp → Option (Int × Hp)) : pf h 194 112 4 x f = f (wr h 194 4 x) := pf_ok (s.vo 194 112 (by decide) (by decide) rfl)
theorem sh4 {h : Hp} (s : Sh h) (x : Int) : Sh (wr h 194 4 x) := Sh_fld s (by decide +kernel)
theorem gM5 {h : Hp} (s : Sh h) (f : Int → Option (Int × Hp)) : gf h 194 112 5 f = f 197 := by rw [gf_ok (s.vo 194 112 (by decide) (by decide) rfl), s.rf 148 rfl]
theorem aM5 {h : Hp} (s : Sh h) {i : Int} (h0 : 0 ≤ i) (h1 : i < 403) (f : Int → Option (Int × Hp)) : al h 197 0 i f = f (rd h 197 i) := al_ok (s.vo 197 0 (by decide) (by decide) rfl) (s.ln 197 403 (by decide) (by decide) rfl) h0 h1
theorem sM5 {h : Hp} (s : Sh h) {i x : Int} (h0 : 0 ≤ i) (h1 : i < 403) (f : Hp → Option (Int × Hp)) : as h 197 0 i x f = f (wr h 197 i x) := as_ok (s.vo 197 0 (by decide) (by decide) rfl) (s.ln 197 403 (by decide) (by decide) rfl) h0 h1
theorem gM6 {h : Hp} (s : Sh h) (f : Int → Option (Int × Hp)) : gf h 194 112 6 f = f 198 := by rw [gf_ok (s.vo 194 112 (by decide) (by decide) rfl), s.rf 149 rfl]
theorem aM6 {h : Hp} (s : Sh h) {i : Int} (h0 : 0 ≤ i) (h1 : i < 403) (f : Int → Option (Int × Hp)) : al h 198 0 i f = f (rd h 198 i) := al_ok (s.vo 198 0 (by decide) (by decide) rfl) (s.ln 198 403 (by decide) (by decide) rfl) h0 h1
theorem sM6 {h : Hp} (s : Sh h) {i x : Int} (h0 : 0 ≤ i) (h1 : i < 403) (f : Hp → Option (Int × Hp)) : as h 198 0 i x f = f (wr h 198 i x) := as_ok (s.vo 198 0 (by decide) (by decide) rfl) (s.ln 198 403 (by decide) (by decide) rfl) h0 h1
theorem gM7 {h : Hp} (s : Sh h) (f : Int → Option (Int × Hp)) : gf h 194 112 7 f = f 199 := by rw [gf_ok (s.vo 194 112 (by decide) (by decide) rfl), s.rf 150 rfl]
theorem aM7 {h : Hp} (s : Sh h) {i : Int} (h0 : 0 ≤ i) (h1 : i < 403) (f : Int → Option (Int × Hp)) : al h 199 0 i f = f (rd h 199 i) := al_ok (s.vo 199 0 (by decide) (by decide) rfl) (s.ln 199 403 (by decide) (by decide) rfl) h0 h1
theorem sM7 {h : Hp} (s : Sh h) {i x : Int} (h0 : 0 ≤ i) (h1 : i < 403) (f : Hp → Option (Int × Hp)) : as h 199 0 i x f = f (wr h 199 i x) := as_ok (s.vo 199 0 (by decide) (by decide) rfl) (s.ln 199 403 (by decide) (by decide) rfl) h0 h1
theorem gM8 {h : Hp} (s : Sh h) (f : Int → Option (Int × Hp)) : gf h 194 112 8 f = f 200 := by rw [gf_ok (s.vo 194 112 (by decide) (by decide) rfl), s.rf 151 rfl]
theorem aM8 {h : Hp} (s : Sh h) {i : Int} (h0 : 0 ≤ i) (h1 : i < 403) (f : Int → Option (Int × Hp)) : al h 200 3 i f = f (rd h 200 i) := al_ok (s.vo 200 3 (by decide) (by decide) rfl) (s.ln 200 403 (by decide) (by decide) rfl) h0 h1
theorem sM8 {h : Hp} (s : Sh h) {i x : Int} (h0 : 0 ≤ i) (h1 : i < 403) (f : Hp → Option (Int × Hp)) : as h 200 3 i x f = f (wr h 200 i x) := as_ok (s.vo 200 3 (by decide) (by decide) rfl) (s.ln 200 403 (by decide) (by decide) rfl) h0 h1
theorem gM9 {h : Hp} (s : Sh h) (f : Int → Option (Int × Hp)) : gf h 194 112 9 f = f 201 := by rw [gf_ok (s.vo 194 112 (by decide) (by decide) rfl), s.rf 152 rfl]
theorem aM9 {h : Hp} (s : Sh h) {i : Int} (h0 : 0 ≤ i) (h1 : i < 18) (f : Int → Option (Int × Hp)) : al h 201 3 i f = f (rd h 201 i) := al_ok (s.vo 201 3 (by decide) (by decide) rfl) (s.ln 201 18 (by decide) (by decide) rfl) h0 h1
theorem sM9 {h : Hp} (s : Sh h) {i x : Int} (h0 : 0 ≤ i) (h1 : i < 18) (f : Hp → Option (Int × Hp)) : as h 201 3 i x f = f (wr h 201 i x) := as_ok (s.vo 201 3 (by decide) (by decide) rfl) (s.ln 201 18 (by decide) (by decide) rfl) h0 h1
theorem gM10 {h : Hp} (s : Sh h) (f : Int → Option (Int × Hp)) : gf h 194 112 10 f = f (rd h 194 10) := gf_ok (s.vo 194 112 (by decide) (by decide) rfl)
theorem pM10 {h : Hp} (s : Sh h) (x : Int) (f : Hp → Option (Int × Hp)) : pf h 194 112 10 x f = f (wr h 194 10 x) := pf_ok (s.vo 194 112 (by decide) (by decide) rfl)
theorem sh10 {h : Hp} (s : Sh h) (x : Int) : Sh (wr h 194 10 x) := Sh_fld s (by decide +kernel)
theorem gM11 {h : Hp} (s : Sh h) (f : Int → Option (Int × Hp)) : gf h 194 112 11 f = f (rd h 194 11) := gf_ok (s.vo 194 112 (by decide) (by decide) rfl)
theorem pM11 {h : Hp} (s : Sh h) (x : Int) (f : Hp → Option (Int × Hp)) : pf h 194 112 11 x f = f (wr h 194 11 x) := pf_ok (s.vo 194 112 (by decide) (by decide) rfl)
theorem sh11 {h : Hp} (s : Sh h) (x : Int) : Sh (wr h 194 11 x) := Sh_fld s (by decide +kernel)
theorem gM12 {h : Hp} (s : Sh h) (f : Int → Option (Int × Hp)) : gf h 194 112 12 f = f (rd h 194 12) := gf_ok (s.vo 194 112 (by decide) (by decide) rfl)
theorem pM12 {h : Hp} (s : Sh h) (x : Int) (f : Hp → Option (Int × Hp)) : pf h 194 112 12 x f = f (wr h 194 12 x) := pf_ok (s.vo 194 112 (by decide) (by decide) rfl)
theorem sh12 {h : Hp} (s : Sh h) (x : Int) : Sh (wr h 194 12 x) := Sh_fld s (by decide +kernel)
theorem gM13 {h : Hp} (s : Sh h) (f : Int → Option (Int × Hp)) : gf h 194 112 13 f = f (rd h 194 13) := gf_ok (s.vo 194 112 (by decide) (by decide) rfl)
theorem pM13 {h : Hp} (s : Sh h) (x : Int) (f : Hp → Option (Int × Hp)) : pf h 194 112 13 x f = f (wr h 194 13 x) := pf_ok (s.vo 194 112 (by decide) (by decide) rfl)
theorem sh13 {h : Hp} (s : Sh h) (x : Int) : Sh (wr h 194 13 x) := Sh_fld s (by decide +kernel)
theorem gM14 {h : Hp} (s : Sh h) (f : Int → Option (Int × Hp)) : gf h 194 112 14 f = f (rd h 194 14) := gf_ok (s.vo 194 112 (by decide) (by decide) rfl)
theorem pM14 {h : Hp} (s : Sh h) (x : Int) (f : Hp → Option (Int × Hp)) : pf h 194 112 14 x f = f (wr h 194 14 x) := pf_ok (s.vo 194 112 (by decide) (by decide) rfl)
theorem sh14 {h : Hp} (s : Sh h) (x : Int) : Sh (wr h 194 14 x) := Sh_fld s (by decide +kernel)
theorem gM15 {h : Hp} (s : Sh h) (f : Int → Option (Int × Hp)) : gf h 194 112 15 f = f (rd h 194 15) := gf_ok (s.vo 194 112 (by decide) (by decide) rfl)
theorem pM15 {h : Hp} (s : Sh h) (x : Int) (f : Hp → Option (Int × Hp)) : pf h 194 112 15 x f = f (wr h 194 15 x) := pf_ok (s.vo 194 112 (by decide) (by decide) rfl)
theorem sh15 {h : Hp} (s : Sh h) (x : Int) : Sh (wr h 194 15 x) := Sh_fld s (by decide +kernel)
theorem gM16 {h : Hp} (s : Sh h) (f : Int → Option (Int × Hp)) : gf h 194 112 16 f = f (rd h 194 16) := gf_ok (s.vo 194 112 (by decide) (by decide) rfl)
theorem pM16 {h : Hp} (s : Sh h) (x : Int) (f : Hp → Option (Int × Hp)) : pf h 194 112 16 x f = f (wr h 194 16 x) := pf_ok (s.vo 194 112 (by decide) (by decide) rfl)
theorem sh16 {h : Hp} (s : Sh h) (x : Int) : Sh (wr h 194 16 x) := Sh_fld s (by decide +kernel)
theorem gM17 {h : Hp} (s : Sh h) (f : Int → Option (Int × Hp)) : gf h 194 112 17 f = f (rd h 194 17) := gf_ok (s.vo 194 112 (by decide) (by decide) rfl)
theorem pM17 {h : Hp} (s : Sh h) (x : Int) (f : Hp → Option (Int × Hp)) : pf h 194 112 17 x f = f (wr h 194 17 x) := pf_ok (s.vo 194 112 (by decide) (by decide) rfl)
theorem sh17 {h : Hp} (s : Sh h) (x : Int) : Sh (wr h 194 17 x) := Sh_fld s (by decide +kernel)
theorem gM18 {h : Hp} (s : Sh h) (f : Int → Option (Int × Hp)) : gf h 194 112 18 f = f (rd h 194 18) := gf_ok (s.vo 194 112 (by decide) (by decide) rfl)
theorem pM18 {h : Hp} (s : Sh h) (x : Int) (f : Hp → Option (Int × Hp)) : pf h 194 112 18 x f = f (wr h 194 18 x) := pf_ok (s.vo 194 112 (by decide) (by decide) rfl)
theorem sh18 {h : Hp} (s : Sh h) (x : Int) : Sh (wr h 194 18 x) := Sh_fld s (by decide +kernel)
theorem gM19 {h : Hp} (s : Sh h) (f : Int → Option (Int × Hp)) : gf h 194 112 19 f = f (rd h 194 19) := gf_ok (s.vo 194 112 (by decide) (by decide) rfl)
theorem pM19 {h : Hp} (s : Sh h) (x : Int) (f : Hp → Option (Int × Hp)) : pf h 194 112 19 x f = f (wr h 194 19 x) := pf_ok (s.vo 194 112 (by decide) (by decide) rfl)
theorem sh19 {h : Hp} (s : Sh h) (x : Int) : Sh (wr h 194 19 x) := Sh_fld s (by decide +kernel)
theorem gM20 {h : Hp} (s : Sh h) (f : Int → Option (Int × Hp)) : gf h 194 112 20 f = f (rd h 194 20) := gf_ok (s.vo 194 112 (by decide) (by decide) rfl)
theorem pM20 {h : Hp} (s : Sh h) (x : Int) (f : Hp → Option (Int × Hp)) : pf h 194 112 20 x f = f (wr h 194 20 x) := pf_ok (s.vo 194 112 (by decide) (by decide) rfl)
theorem sh20 {h : Hp} (s : Sh h) (x : Int) : Sh (wr h 194 20 x) := Sh_fld s (by decide +kernel)
theorem gM21 {h : Hp} (s : Sh h) (f : Int → Option (Int × Hp)) : gf h 194 112 21 f = f 202 := by rw [gf_ok (s.vo 194 112 (by decide) (by decide) rfl), s.rf 153 rfl]
theorem aM21 {h : Hp} (s : Sh h) {i : Int} (h0 : 0 ≤ i) (h1 : i < 11) (f : Int → Option (Int × Hp)) : al h 202 3 i f = f (rd h 202 i) := al_ok (s.vo 202 3 (by decide) (by decide) rfl) (s.ln 202 11 (by decide) (by decide) rfl) h0 h1
theorem sM21 {h : Hp} (s : Sh h) {i x : Int} (h0 : 0 ≤ i) (h1 : i < 11) (f : Hp → Option (Int × Hp)) : as h 202 3 i x f = f (wr h 202 i x) := as_ok (s.vo 202 3 (by decide) (by decide) rfl) (s.ln 202 11 (by decide) (by decide) rfl) h0 h1
theorem gM22 {h : Hp} (s : Sh h) (f : Int → Option (Int × Hp)) : gf h 194 112 22 f = f 203 := by rw [gf_ok (s.vo 194 112 (by decide) (by decide) rfl), s.rf 154 rfl]
theorem aM22 {h : Hp} (s : Sh h) {i : Int} (h0 : 0 ≤ i) (h1 : i < 2) (f : Int → Option (Int × Hp)) : al h 203 0 i f = f (rd h 203 i) := al_ok (s.vo 203 0 (by decide) (by decide) rfl) (s.ln 203 2 (by decide) (by decide) rfl) h0 h1
theorem sM22 {h : Hp} (s : Sh h) {i x : Int} (h0 : 0 ≤ i) (h1 : i < 2) (f : Hp → Option (Int × Hp)) : as h 203 0 i x f = f (wr h 203 i x) := as_ok (s.vo 203 0 (by decide) (by decide) rfl) (s.ln 203 2 (by decide) (by decide) rfl) h0 h1
theorem gM23 {h : Hp} (s : Sh h) (f : Int → Option (Int × Hp)) : gf h 194 112 23 f = f 204 := by rw [gf_ok (s.vo 194 112 (by decide) (by decide) rfl), s.rf 155 rfl]
theorem aM23 {h : Hp} (s : Sh h) {i : Int} (h0 : 0 ≤ i) (h1 : i < 16) (f : Int → Option (Int × Hp)) : al h 204 0 i f = f (rd h 204 i) := al_ok (s.vo 204 0 (by decide) (by decide) rfl) (s.ln 204 16 (by decide) (by decide) rfl) h0 h1
theorem sM23 {h : Hp} (s : Sh h) {i x : Int} (h0 : 0 ≤ i) (h1 : i < 16) (f : Hp → Option (Int × Hp)) : as h 204 0 i x f = f (wr h 204 i x) := as_ok (s.vo 204 0 (by decide) (by decide) rfl) (s.ln 204 16 (by decide) (by decide) rfl) h0 h1
theorem gM24 {h : Hp} (s : Sh h) (f : Int → Option (Int × Hp)) : gf h 194 112 24 f = f 205 := by rw [gf_ok (s.vo 194 112 (by decide) (by decide) rfl), s.rf 156 rfl]
theorem aM24 {h : Hp} (s : Sh h) {i : Int} (h0 : 0 ≤ i) (h1 : i < 16) (f : Int → Option (Int × Hp)) : al h 205 0 i f = f (rd h 205 i) := al_ok (s.vo 205 0 (by decide) (by decide) rfl) (s.ln 205 16 (by decide) (by decide) rfl) h0 h1
theorem sM24 {h : Hp} (s : Sh h) {i x : Int} (h0 : 0 ≤ i) (h1 : i < 16) (f : Hp → Option (Int × Hp)) : as h 205 0 i x f = f (wr h 205 i x) := as_ok (s.vo 205 0 (by decide) (by decide) rfl) (s.ln 205 16 (by decide) (by decide) rfl) h0 h1
theorem gM25 {h : Hp} (s : Sh h) (f : Int → Option (Int × Hp)) : gf h 194 112 25 f = f 206 := by rw [gf_ok (s.vo 194 112 (by decide) (by decide) rfl), s.rf 157 rfl]
theorem aM25 {h : Hp} (s : Sh h) {i : Int} (h0 : 0 ≤ i) (h1 : i < 16) (f : Int → Option (Int × Hp)) : al h 206 0 i f = f (rd h 206 i) := al_ok (s.vo 206 0 (by decide) (by decide) rfl) (s.ln 206 16 (by decide) (by decide) rfl) h0 h1
theorem sM25 {h : Hp} (s : Sh h) {i x : Int} (h0 : 0 ≤ i) (h1 : i < 16) (f : Hp → Option (Int × Hp)) : as h 206 0 i x f = f (wr h 206 i x) := as_ok (s.vo 206 0 (by decide) (by decide) rfl) (s.ln 206 16 (by decide) (by decide) rfl) h0 h1
theorem gM26 {h : Hp} (s : Sh h) (f : Int → Option (Int × Hp)) : gf h 194 112 26 f = f 207 := by rw [gf_ok (s.vo 194 112 (by decide) (by decide) rfl), s.rf 158 rfl]
theorem aM26 {h : Hp} (s : Sh h) {i : Int} (h0 : 0 ≤ i) (h1 : i < 16) (f : Int → Option (Int × Hp)) : al h 207 0 i f = f (rd h 207 i) := al_ok (s.vo 207 0 (by decide) (by decide) rfl) (s.ln 207 16 (by decide) (by decide) rfl) h0 h1
theorem sM26 {h : Hp} (s : Sh h) {i x : Int} (h0 : 0 ≤ i) (h1 : i < 16) (f : Hp → Option (Int × Hp)) : as h 207 0 i x f = f (wr h 207 i x) := as_ok (s.vo 207 0 (by decide) (by decide) rfl) (s.ln 207 16 (by decide) (by decide) rfl) h0 h1
theorem gM27 {h : Hp} (s : Sh h) (f : Int → Option (Int × Hp)) : gf h 194 112 27 f = f 208 := by rw [gf_ok (s.vo 194 112 (by decide) (by decide) rfl), s.rf 159 rfl]
theorem aM27 {h : Hp} (s : Sh h) {i : Int} (h0 : 0 ≤ i) (h1 : i < 2) (f : Int → Option (Int × Hp)) : al h 208 0 i f = f (rd h 208 i) := al_ok (s.vo 208 0 (by decide) (by decide) rfl) (s.ln 208 2 (by decide) (by decide) rfl) h0 h1
theorem sM27 {h : Hp} (s : Sh h) {i x : Int} (h0 : 0 ≤ i) (h1 : i < 2) (f : Hp → Option (Int × Hp)) : as h 208 0 i x f = f (wr h 208 i x) := as_ok (s.vo 208 0 (by decide) (by decide) rfl) (s.ln 208 2 (by decide) (by decide) rfl) h0 h1
theorem gM28 {h : Hp} (s : Sh h) (f : Int → Option (Int × Hp)) : gf h 194 112 28 f = f 209 := by rw [gf_ok (s.vo 194 112 (by decide) (by decide) rfl), s.rf 160 rfl]
theorem aM28 {h : Hp} (s : Sh h) {i : Int} (h0 : 0 ≤ i) (h1 : i < 6) (f : Int → Option (Int × Hp)) : al h 209 0 i f = f (rd h 209 i) := al_ok (s.vo 209 0 (by decide) (by decide) rfl) (s.ln 209 6 (by decide) (by decide) rfl) h0 h1
theorem sM28 {h : Hp} (s : Sh h) {i x : Int} (h0 : 0 ≤ i) (h1 : i < 6) (f : Hp → Option (Int × Hp)) : as h 209 0 i x f = f (wr h 209 i x) := as_ok (s.vo 209 0 (by decide) (by decide) rfl) (s.ln 209 6 (by decide) (by decide) rfl) h0 h1
theorem gM29 {h : Hp} (s : Sh h) (f : Int → Option (Int × Hp)) : gf h 194 112 29 f = f 210 := by rw [gf_ok (s.vo 194 112 (by decide) (by decide) rfl), s.rf 161 rfl]
theorem aM29 {h : Hp} (s : Sh h) {i : Int} (h0 : 0 ≤ i) (h1 : i < 6) (f : Int → Option (Int × Hp)) : al h 210 0 i f = f (rd h 210 i) := al_ok (s.vo 210 0 (by decide) (by decide) rfl) (s.ln 210 6 (by decide) (by decide) rfl) h0 h1
theorem sM29 {h : Hp} (s : Sh h) {i x : Int} (h0 : 0 ≤ i) (h1 : i < 6) (f : Hp → Option (Int × Hp)) : as h 210 0 i x f = f (wr h 210 i x) := as_ok (s.vo 210 0 (by decide) (by decide) rfl) (s.ln 210 6 (by decide) (by decide) rfl) h0 h1
theorem gM30 {h : Hp} (s : Sh h) (f : Int → Option (Int × Hp)) : gf h 194 112 30 f = f 211 := by rw [gf_ok (s.vo 194 112 (by decide) (by decide) rfl), s.rf 162 rfl]
theorem aM30 {h : Hp} (s : Sh h) {i : Int} (h0 : 0 ≤ i) (h1 : i < 6) (f : Int → Option (Int × Hp)) : al h 211 0 i f = f (rd h 211 i) := al_ok (s.vo 211 0 (by decide) (by decide) rfl) (s.ln 211 6 (by decide) (by decide) rfl) h0 h1
theorem sM30 {h : Hp} (s : Sh h) {i x : Int} (h0 : 0 ≤ i) (h1 : i < 6) (f : Hp → Option (Int × Hp)) : as h 211 0 i x f = f (wr h 211 i x) := as_ok (s.vo 211 0 (by decide) (by decide) rfl) (s.ln 211 6 (by decide) (by decide) rfl) h0 h1
theorem gM31 {h : Hp} (s : Sh h) (f : Int → Option (Int × Hp)) : gf h 194 112 31 f = f 212 := by rw [gf_ok (s.vo 194 112 (by decide) (by decide) rfl), s.rf 163 rfl]
theorem aM31 {h : Hp} (s : Sh h) {i : Int} (h0 : 0 ≤ i) (h1 : i < 2) (f : Int → Option (Int × Hp)) : al h 212 0 i f = f (rd h 212 i) := al_ok (s.vo 212 0 (by decide) (by decide) rfl) (s.ln 212 2 (by decide) (by decide) rfl) h0 h1
theorem sM31 {h : Hp} (s : Sh h) {i x : Int} (h0 : 0 ≤ i) (h1 : i < 2) (f : Hp → Option (Int × Hp)) : as h 212 0 i x f = f (wr h 212 i x) := as_ok (s.vo 212 0 (by decide) (by decide) rfl) (s.ln 212 2 (by decide) (by decide) rfl) h0 h1
theorem gM32 {h : Hp} (s : Sh h) (f : Int → Option (Int × Hp)) : gf h 194 112 32 f = f 213 := by rw [gf_ok (s.vo 194 112 (by decide) (by decide) rfl), s.rf 164 rfl]
theorem aM32 {h : Hp} (s : Sh h) {i : Int} (h0 : 0 ≤ i) (h1 : i < 2) (f : Int → Option (Int × Hp)) : al h 213 0 i f = f (rd h 213 i) := al_ok (s.vo 213 0 (by decide) (by decide) rfl) (s.ln 213 2 (by decide) (by decide) rfl) h0 h1
theorem sM32 {h : Hp} (s : Sh h) {i x : Int} (h0 : 0 ≤ i) (h1 : i < 2) (f : Hp → Option (Int × Hp)) : as h 213 0 i x f = f (wr h 213 i x) := as_ok (s.vo 213 0 (by decide) (by decide) rfl) (s.ln 213 2 (by decide) (by decide) rfl) h0 h1
theorem gM33 {h : Hp} (s : Sh h) (f : Int → Option (Int × Hp)) : gf h 194 112 33 f = f 214 := by rw [gf_ok (s.vo 194 112 (by decide) (by decide) rfl), s.rf 165 rfl]
theorem aM33 {h : Hp} (s : Sh h) {i : Int} (h0 : 0 ≤ i) (h1 : i < 2) (f : Int → Option (Int × Hp)) : al h 214 0 i f = f (rd h 214 i) := al_ok (s.vo 214 0 (by decide) (by decide) rfl) (s.ln 214 2 (by decide) (by decide) rfl) h0 h1
theorem sM33 {h : Hp} (s : Sh h) {i x : Int} (h0 : 0 ≤ i) (h1 : i < 2) (f : Hp → Option (Int × Hp)) : as h 214 0 i x f = f (wr h 214 i x) := as_ok (s.vo 214 0 (by decide) (by decide) rfl) (s.ln 214 2 (by decide) (by decide) rfl) h0 h1
theorem gM34 {h : Hp} (s : Sh h) (f : Int → Option (Int × Hp)) : gf h 194 112 34 f = f 215 := by rw [gf_ok (s.vo 194 112 (by decide) (by decide) rfl), s.rf 166 rfl]
theorem aM34 {h : Hp} (s : Sh h) {i : Int} (h0 : 0 ≤ i) (h1 : i < 2) (f : Int → Option (Int × Hp)) : al h 215 0 i f = f (rd h 215 i) := al_ok (s.vo 215 0 (by decide) (by decide) rfl) (s.ln 215 2 (by decide) (by decide) rfl) h0 h1
theorem sM34 {h : Hp} (s : Sh h) {i x : Int} (h0 : 0 ≤ i) (h1 : i < 2) (f : Hp → Option (Int × Hp)) : as h 215 0 i x f = f (wr h 215 i x) := as_ok (s.vo 215 0 (by decide) (by decide) rfl) (s.ln 215 2 (by decide) (by decide) rfl) h0 h1
theorem gM35 {h : Hp} (s : Sh h) (f : Int → Option (Int × Hp)) : gf h 194 112 35 f = f 216 := by rw [gf_ok (s.vo 194 112 (by decide) (by decide) rfl), s.rf 167 rfl]
theorem aM35 {h : Hp} (s : Sh h) {i : Int} (h0 : 0 ≤ i) (h1 : i < 2) (f : Int → Option (Int × Hp)) : al h 216 0 i f = f (rd h 216 i) := al_ok (s.vo 216 0 (by decide) (by decide) rfl) (s.ln 216 2 (by decide) (by decide) rfl) h0 h1
theorem sM35 {h : Hp} (s : Sh h) {i x : Int} (h0 : 0 ≤ i) (h1 : i < 2) (f : Hp → Option (Int × Hp)) : as h 216 0 i x f = f (wr h 216 i x) := as_ok (s.vo 216 0 (by decide) (by decide) rfl) (s.ln 216 2 (by decide) (by decide) rfl) h0 h1
theorem gM36 {h : Hp} (s : Sh h) (f : Int → Option (Int × Hp)) : gf h 194 112 36 f = f 217 := by rw [gf_ok (s.vo 194 112 (by decide) (by decide) rfl), s.rf 168 rfl]
theorem aM36 {h : Hp} (s : Sh h) {i : Int} (h0 : 0 ≤ i) (h1 : i < 10) (f : Int → Option (Int × Hp)) : al h 217 0 i f = f (rd h 217 i) := al_ok (s.vo 217 0 (by decide) (by decide) rfl) (s.ln 217 10 (by decide) (by decide) rfl) h0 h1
theorem sM36 {h : Hp} (s : Sh h) {i x : Int} (h0 : 0 ≤ i) (h1 : i < 10) (f : Hp → Option (Int × Hp)) : as h 217 0 i x f = f (wr h 217 i x) := as_ok (s.vo 217 0 (by decide) (by decide) rfl) (s.ln 217 10 (by decide) (by decide) rfl) h0 h1
theorem gM37 {h : Hp} (s : Sh h) (f : Int → Option (Int × Hp)) : gf h 194 112 37 f = f 218 := by rw [gf_ok (s.vo 194 112 (by decide) (by decide) rfl), s.rf 169 rfl]
theorem aM37 {h : Hp} (s : Sh h) {i : Int} (h0 : 0 ≤ i) (h1 : i < 10) (f : Int → Option (Int × Hp)) : al h 218 0 i f = f (rd h 218 i) := al_ok (s.vo 218 0 (by decide) (by decide) rfl) (s.ln 218 10 (by decide) (by decide) rfl) h0 h1
theorem sM37 {h : Hp} (s : Sh h) {i x : Int} (h0 : 0 ≤ i) (h1 : i < 10) (f : Hp → Option (Int × Hp)) : as h 218 0 i x f = f (wr h 218 i x) := as_ok (s.vo 218 0 (by decide) (by decide) rfl) (s.ln 218 10 (by decide) (by decide) rfl) h0 h1
theorem gM38 {h : Hp} (s : Sh h) (f : Int → Option (Int × Hp)) : gf h 194 112 38 f = f (rd h 194 38) := gf_ok (s.vo 194 112 (by decide) (by decide) rfl)
theorem pM38 {h : Hp} (s : Sh h) (x : Int) (f : Hp → Option (Int × Hp)) : pf h 194 112 38 x f = f (wr h 194 38 x) := pf_ok (s.vo 194 112 (by decide) (by decide) rfl)
theorem sh38 {h : Hp} (s : Sh h) (x : Int) : Sh (wr h 194 38 x) := Sh_fld s (by decide +kernel)
theorem gM39 {h : Hp} (s : Sh h) (f : Int → Option (Int × Hp)) : gf h 194 112 39 f = f 219 := by rw [gf_ok (s.vo 194 112 (by decide) (by decide) rfl), s.rf 170 rfl]
theorem aM39 {h : Hp} (s : Sh h) {i : Int} (h0 : 0 ≤ i) (h1 : i < 260) (f : Int → Option (Int × Hp)) : al h 219 2 i f = f (rd h 219 i) := al_ok (s.vo 219 2 (by decide) (by decide) rfl) (s.ln 219 260 (by decide) (by decide) rfl) h0 h1
theorem sM39 {h : Hp} (s : Sh h) {i x : Int} (h0 : 0 ≤ i) (h1 : i < 260) (hx : x = 0 ∨ x = 1) (f : Hp → Option (Int × Hp)) : az h 219 i x f = f (wr h 219 i x) := az_ok (s.vo 219 2 (by decide) (by decide) rfl) (s.ln 219 260 (by decide) (by decide) rfl) h0 h1 hx
theorem gM40 {h : Hp} (s : Sh h) (f : Int → Option (Int × Hp)) : gf h 194 112 40 f = f 220 := by rw [gf_ok (s.vo 194 112 (by decide) (by decide) rfl), s.rf 171 rfl]
theorem aM40 {h : Hp} (s : Sh h) {i : Int} (h0 : 0 ≤ i) (h1 : i < 260) (f : Int → Option (Int × Hp)) : al h 220 0 i f = f (rd h 220 i) := al_ok (s.vo 220 0 (by decide) (by decide) rfl) (s.ln 220 260 (by decide) (by decide) rfl) h0 h1
theorem sM40 {h : Hp} (s : Sh h) {i x : Int} (h0 : 0 ≤ i) (h1 : i < 260) (f : Hp → Option (Int × Hp)) : as h 220 0 i x f = f (wr h 220 i x) := as_ok (s.vo 220 0 (by decide) (by decide) rfl) (s.ln 220 260 (by decide) (by decide) rfl) h0 h1
theorem gM41 {h : Hp} (s : Sh h) (f : Int → Option (Int × Hp)) : gf h 194 112 41 f = f 221 := by rw [gf_ok (s.vo 194 112 (by decide) (by decide) rfl), s.rf 172 rfl]
theorem aM41 {h : Hp} (s : Sh h) {i : Int} (h0 : 0 ≤ i) (h1 : i < 260) (f : Int → Option (Int × Hp)) : al h 221 0 i f = f (rd h 221 i) := al_ok (s.vo 221 0 (by decide) (by decide) rfl) (s.ln 221 260 (by decide) (by decide) rfl) h0 h1
theorem sM41 {h : Hp} (s : Sh h) {i x : Int} (h0 : 0 ≤ i) (h1 : i < 260) (f : Hp → Option (Int × Hp)) : as h 221 0 i x f = f (wr h 221 i x) := as_ok (s.vo 221 0 (by decide) (by decide) rfl) (s.ln 221 260 (by decide) (by decide) rfl) h0 h1
theorem gM42 {h : Hp} (s : Sh h) (f : Int → Option (Int × Hp)) : gf h 194 112 42 f = f 222 := by rw [gf_ok (s.vo 194 112 (by decide) (by decide) rfl), s.rf 173 rfl]
theorem aM42 {h : Hp} (s : Sh h) {i : Int} (h0 : 0 ≤ i) (h1 : i < 260) (f : Int → Option (Int × Hp)) : al h 222 0 i f = f (rd h 222 i) := al_ok (s.vo 222 0 (by decide) (by decide) rfl) (s.ln 222 260 (by decide) (by decide) rfl) h0 h1
theorem sM42 {h : Hp} (s : Sh h) {i x : Int} (h0 : 0 ≤ i) (h1 : i < 260) (f : Hp → Option (Int × Hp)) : as h 222 0 i x f = f (wr h 222 i x) := as_ok (s.vo 222 0 (by decide) (by decide) rfl) (s.ln 222 260 (by decide) (by decide) rfl) h0 h1
theorem gM43 {h : Hp} (s : Sh h) (f : Int → Option (Int × Hp)) : gf h 194 112 43 f = f 223 := by rw [gf_ok (s.vo 194 112 (by decide) (by decide) rfl), s.rf 174 rfl]
theorem aM43 {h : Hp} (s : Sh h) {i : Int} (h0 : 0 ≤ i) (h1 : i < 260) (f : Int → Option (Int × Hp)) : al h 223 0 i f = f (rd h 223 i) := al_ok (s.vo 223 0 (by decide) (by decide) rfl) (s.ln 223 260 (by decide) (by decide) rfl) h0 h1
theorem sM43 {h : Hp} (s : Sh h) {i x : Int} (h0 : 0 ≤ i) (h1 : i < 260) (f : Hp → Option (Int × Hp)) : as h 223 0 i x f = f (wr h 223 i x) := as_ok (s.vo 223 0 (by decide) (by decide) rfl) (s.ln 223 260 (by decide) (by decide) rfl) h0 h1
theorem gM44 {h : Hp} (s : Sh h) (f : Int → Option (Int × Hp)) : gf h 194 112 44 f = f (rd h 194 44) := gf_ok (s.vo 194 112 (by decide) (by decide) rfl)
theorem pM44 {h : Hp} (s : Sh h) (x : Int) (f : Hp → Option (Int × Hp)) : pf h 194 112 44 x f = f (wr h 194 44 x) := pf_ok (s.vo 194 112 (by decide) (by decide) rfl)
theorem sh44 {h : Hp} (s : Sh h) (x : Int) : Sh (wr h 194 44 x) := Sh_fld s (by decide +kernel)
theorem gM45 {h : Hp} (s : Sh h) (f : Int → Option (Int × Hp)) : gf h 194 112 45 f = f 224 := by rw [gf_ok (s.vo 194 112 (by decide) (by decide) rfl), s.rf 175 rfl]
theorem aM45 {h : Hp} (s : Sh h) {i : Int} (h0 : 0 ≤ i) (h1 : i < 840) (f : Int → Option (Int × Hp)) : al h 224 0 i f = f (rd h 224 i) := al_ok (s.vo 224 0 (by decide) (by decide) rfl) (s.ln 224 840 (by decide) (by decide) rfl) h0 h1
theorem sM45 {h : Hp} (s : Sh h) {i x : Int} (h0 : 0 ≤ i) (h1 : i < 840) (f : Hp → Option (Int × Hp)) : as h 224 0 i x f = f (wr h 224 i x) := as_ok (s.vo 224 0 (by decide) (by decide) rfl) (s.ln 224 840 (by decide) (by decide) rfl) h0 h1
theorem gM46 {h : Hp} (s : Sh h) (f : Int → Option (Int × Hp)) : gf h 194 112 46 f = f 225 := by rw [gf_ok (s.vo 194 112 (by decide) (by decide) rfl), s.rf 176 rfl]
theorem aM46 {h : Hp} (s : Sh h) {i : Int} (h0 : 0 ≤ i) (h1 : i < 840) (f : Int → Option (Int × Hp)) : al h 225 0 i f = f (rd h 225 i) := al_ok (s.vo 225 0 (by decide) (by decide) rfl) (s.ln 225 840 (by decide) (by decide) rfl) h0 h1
theorem sM46 {h : Hp} (s : Sh h) {i x : Int} (h0 : 0 ≤ i) (h1 : i < 840) (f : Hp → Option (Int × Hp)) : as h 225 0 i x f = f (wr h 225 i x) := as_ok (s.vo 225 0 (by decide) (by decide) rfl) (s.ln 225 840 (by decide) (by decide) rfl) h0 h1
theorem gM47 {h : Hp} (s : Sh h) (f : Int → Option (Int × Hp)) : gf h 194 112 47 f = f 226 := by rw [gf_ok (s.vo 194 112 (by decide) (by decide) rfl), s.rf 177 rfl]
theorem aM47 {h : Hp} (s : Sh h) {i : Int} (h0 : 0 ≤ i) (h1 : i < 64) (f : Int → Option (Int × Hp)) : al h 226 0 i f = f (rd h 226 i) := al_ok (s.vo 226 0 (by decide) (by decide) rfl) (s.ln 226 64 (by decide) (by decide) rfl) h0 h1
theorem sM47 {h : Hp} (s : Sh h) {i x : Int} (h0 : 0 ≤ i) (h1 : i < 64) (f : Hp → Option (Int × Hp)) : as h 226 0 i x f = f (wr h 226 i x) := as_ok (s.vo 226 0 (by decide) (by decide) rfl) (s.ln 226 64 (by decide) (by decide) rfl) h0 h1
theorem gM48 {h : Hp} (s : Sh h) (f : Int → Option (Int × Hp)) : gf h 194 112 48 f = f (rd h 194 48) := gf_ok (s.vo 194 112 (by decide) (by decide) rfl)
theorem pM48 {h : Hp} (s : Sh h) (x : Int) (f : Hp → Option (Int × Hp)) : pf h 194 112 48 x f = f (wr h 194 48 x) := pf_ok (s.vo 194 112 (by decide) (by decide) rfl)
theorem sh48 {h : Hp} (s : Sh h) (x : Int) : Sh (wr h 194 48 x) := Sh_fld s (by decide +kernel)
theorem gM49 {h : Hp} (s : Sh h) (f : Int → Option (Int × Hp)) : gf h 194 112 49 f = f 227 := by rw [gf_ok (s.vo 194 112 (by decide) (by decide) rfl), s.rf 178 rfl]
theorem aM49 {h : Hp} (s : Sh h) {i : Int} (h0 : 0 ≤ i) (h1 : i < 5) (f : Int → Option (Int × Hp)) : al h 227 0 i f = f (rd h 227 i) := al_ok (s.vo 227 0 (by decide) (by decide) rfl) (s.ln 227 5 (by decide) (by decide) rfl) h0 h1
theorem sM49 {h : Hp} (s : Sh h) {i x : Int} (h0 : 0 ≤ i) (h1 : i < 5) (f : Hp → Option (Int × Hp)) : as h 227 0 i x f = f (wr h 227 i x) := as_ok (s.vo 227 0 (by decide) (by decide) rfl) (s.ln 227 5 (by decide) (by decide) rfl) h0 h1
theorem gM50 {h : Hp} (s : Sh h) (f : Int → Option (Int × Hp)) : gf h 194 112 50 f = f 228 := by rw [gf_ok (s.vo 194 112 (by decide) (by decide) rfl), s.rf 179 rfl]
theorem aM50 {h : Hp} (s : Sh h) {i : Int} (h0 : 0 ≤ i) (h1 : i < 400) (f : Int → Option (Int × Hp)) : al h 228 0 i f = f (rd h 228 i) := al_ok (s.vo 228 0 (by decide) (by decide) rfl) (s.ln 228 400 (by decide) (by decide) rfl) h0 h1
theorem sM50 {h : Hp} (s : Sh h) {i x : Int} (h0 : 0 ≤ i) (h1 : i < 400) (f : Hp → Option (Int × Hp)) : as h 228 0 i x f = f (wr h 228 i x) := as_ok (s.vo 228 0 (by decide) (by decide) rfl) (s.ln 228 400 (by decide) (by decide) rfl) h0 h1
theorem gM51 {h : Hp} (s : Sh h) (f : Int → Option (Int × Hp)) : gf h 194 112 51 f = f (rd h 194 51) := gf_ok (s.vo 194 112 (by decide) (by decide) rfl)
theorem pM51 {h : Hp} (s : Sh h) {x : Int} (hx : x = 0 ∨ x = 1) (f : Hp → Option (Int × Hp)) : pz h 194 112 51 x f = f (wr h 194 51 x) := pz_ok (s.vo 194 112 (by decide) (by decide) rfl) hx
theorem sh51 {h : Hp} (s : Sh h) (x : Int) : Sh (wr h 194 51 x) := Sh_fld s (by decide +kernel)
theorem gM52 {h : Hp} (s : Sh h) (f : Int → Option (Int × Hp)) : gf h 194 112 52 f = f 229 := by rw [gf_ok (s.vo 194 112 (by decide) (by decide) rfl), s.rf 180 rfl]
theorem aM52 {h : Hp} (s : Sh h) {i : Int} (h0 : 0 ≤ i) (h1 : i < 600) (f : Int → Option (Int × Hp)) : al h 229 0 i f = f (rd h 229 i) := al_ok (s.vo 229 0 (by decide) (by decide) rfl) (s.ln 229 600 (by decide) (by decide) rfl) h0 h1
theorem sM52 {h : Hp} (s : Sh h) {i x : Int} (h0 : 0 ≤ i) (h1 : i < 600) (f : Hp → Option (Int × Hp)) : as h 229 0 i x f = f (wr h 229 i x) := as_ok (s.vo 229 0 (by decide) (by decide) rfl) (s.ln 229 600 (by decide) (by decide) rfl) h0 h1
theorem gM53 {h : Hp} (s : Sh h) (f : Int → Option (Int × Hp)) : gf h 194 112 53 f = f 230 := by rw [gf_ok (s.vo 194 112 (by decide) (by decide) rfl), s.rf 181 rfl]
theorem aM53 {h : Hp} (s : Sh h) {i : Int} (h0 : 0 ≤ i) (h1 : i < 600) (f : Int → Option (Int × Hp)) : al h 230 0 i f = f (rd h 230 i) := al_ok (s.vo 230 0 (by decide) (by decide) rfl) (s.ln 230 600 (by decide) (by decide) rfl) h0 h1
theorem sM53 {h : Hp} (s : Sh h) {i x : Int} (h0 : 0 ≤ i) (h1 : i < 600) (f : Hp → Option (Int × Hp)) : as h 230 0 i x f = f (wr h 230 i x) := as_ok (s.vo 230 0 (by decide) (by decide) rfl) (s.ln 230 600 (by decide) (by decide) rfl) h0 h1
theorem gM54 {h : Hp} (s : Sh h) (f : Int → Option (Int × Hp)) : gf h 194 112 54 f = f 231 := by rw [gf_ok (s.vo 194 112 (by decide) (by decide) rfl), s.rf 182 rfl]
theorem aM54 {h : Hp} (s : Sh h) {i : Int} (h0 : 0 ≤ i) (h1 : i < 4800) (f : Int → Option (Int × Hp)) : al h 231 0 i f = f (rd h 231 i) := al_ok (s.vo 231 0 (by decide) (by decide) rfl) (s.ln 231 4800 (by decide) (by decide) rfl) h0 h1
theorem sM54 {h : Hp} (s : Sh h) {i x : Int} (h0 : 0 ≤ i) (h1 : i < 4800) (f : Hp → Option (Int × Hp)) : as h 231 0 i x f = f (wr h 231 i x) := as_ok (s.vo 231 0 (by decide) (by decide) rfl) (s.ln 231 4800 (by decide) (by decide) rfl) h0 h1
theorem gM55 {h : Hp} (s : Sh h) (f : Int → Option (Int × Hp)) : gf h 194 112 55 f = f 232 := by rw [gf_ok (s.vo 194 112 (by decide) (by decide) rfl), s.rf 183 rfl]
theorem aM55 {h : Hp} (s : Sh h) {i : Int} (h0 : 0 ≤ i) (h1 : i < 16) (f : Int → Option (Int × Hp)) : al h 232 0 i f = f (rd h 232 i) := al_ok (s.vo 232 0 (by decide) (by decide) rfl) (s.ln 232 16 (by decide) (by decide) rfl) h0 h1
theorem sM55 {h : Hp} (s : Sh h) {i x : Int} (h0 : 0 ≤ i) (h1 : i < 16) (f : Hp → Option (Int × Hp)) : as h 232 0 i x f = f (wr h 232 i x) := as_ok (s.vo 232 0 (by decide) (by decide) rfl) (s.ln 232 16 (by decide) (by decide) rfl) h0 h1
theorem gM56 {h : Hp} (s : Sh h) (f : Int → Option (Int × Hp)) : gf h 194 112 56 f = f 233 := by rw [gf_ok (s.vo 194 112 (by decide) (by decide) rfl), s.rf 184 rfl]
theorem aM56 {h : Hp} (s : Sh h) {i : Int} (h0 : 0 ≤ i) (h1 : i < 16) (f : Int → Option (Int × Hp)) : al h 233 0 i f = f (rd h 233 i) := al_ok (s.vo 233 0 (by decide) (by decide) rfl) (s.ln 233 16 (by decide) (by decide) rfl) h0 h1
theorem sM56 {h : Hp} (s : Sh h) {i x : Int} (h0 : 0 ≤ i) (h1 : i < 16) (f : Hp → Option (Int × Hp)) : as h 233 0 i x f = f (wr h 233 i x) := as_ok (s.vo 233 0 (by decide) (by decide) rfl) (s.ln 233 16 (by decide) (by decide) rfl) h0 h1
theorem gM57 {h : Hp} (s : Sh h) (f : Int → Option (Int × Hp)) : gf h 194 112 57 f = f 234 := by rw [gf_ok (s.vo 194 112 (by decide) (by decide) rfl), s.rf 185 rfl]
theorem aM57 {h : Hp} (s : Sh h) {i : Int} (h0 : 0 ≤ i) (h1 : i < 16) (f : Int → Option (Int × Hp)) : al h 234 0 i f = f (rd h 234 i) := al_ok (s.vo 234 0 (by decide) (by decide) rfl) (s.ln 234 16 (by decide) (by decide) rfl) h0 h1
theorem sM57 {h : Hp} (s : Sh h) {i x : Int} (h0 : 0 ≤ i) (h1 : i < 16) (f : Hp → Option (Int × Hp)) : as h 234 0 i x f = f (wr h 234 i x) := as_ok (s.vo 234 0 (by decide) (by decide) rfl) (s.ln 234 16 (by decide) (by decide) rfl) h0 h1
theorem gM58 {h : Hp} (s : Sh h) (f : Int → Option (Int × Hp)) : gf h 194 112 58 f = f 235 := by rw [gf_ok (s.vo 194 112 (by decide) (by decide) rfl), s.rf 186 rfl]
theorem aM58 {h : Hp} (s : Sh h) {i : Int} (h0 : 0 ≤ i) (h1 : i < 16) (f : Int → Option (Int × Hp)) : al h 235 0 i f = f (rd h 235 i) := al_ok (s.vo 235 0 (by decide) (by decide) rfl) (s.ln 235 16 (by decide) (by decide) rfl) h0 h1
theorem sM58 {h : Hp} (s : Sh h) {i x : Int} (h0 : 0 ≤ i) (h1 : i < 16) (f : Hp → Option (Int × Hp)) : as h 235 0 i x f = f (wr h 235 i x) := as_ok (s.vo 235 0 (by decide) (by decide) rfl) (s.ln 235 16 (by decide) (by decide) rfl) h0 h1
theorem gM59 {h : Hp} (s : Sh h) (f : Int → Option (Int × Hp)) : gf h 194 112 59 f = f 236 := by rw [gf_ok (s.vo 194 112 (by decide) (by decide) rfl), s.rf 187 rfl]
theorem aM59 {h : Hp} (s : Sh h) {i : Int} (h0 : 0 ≤ i) (h1 : i < 9600) (f : Int → Option (Int × Hp)) : al h 236 0 i f = f (rd h 236 i) := al_ok (s.vo 236 0 (by decide) (by decide) rfl) (s.ln 236 9600 (by decide) (by decide) rfl) h0 h1
theorem sM59 {h : Hp} (s : Sh h) {i x : Int} (h0 : 0 ≤ i) (h1 : i < 9600) (f : Hp → Option (Int × Hp)) : as h 236 0 i x f = f (wr h 236 i x) := as_ok (s.vo 236 0 (by decide) (by decide) rfl) (s.ln 236 9600 (by decide) (by decide) rfl) h0 h1
theorem gM60 {h : Hp} (s : Sh h) (f : Int → Option (Int × Hp)) : gf h 194 112 60 f = f 237 := by rw [gf_ok (s.vo 194 112 (by decide) (by decide) rfl), s.rf 188 rfl]
theorem aM60 {h : Hp} (s : Sh h) {i : Int} (h0 : 0 ≤ i) (h1 : i < 9600) (f : Int → Option (Int × Hp)) : al h 237 0 i f = f (rd h 237 i) := al_ok (s.vo 237 0 (by decide) (by decide) rfl) (s.ln 237 9600 (by decide) (by decide) rfl) h0 h1
theorem sM60 {h : Hp} (s : Sh h) {i x : Int} (h0 : 0 ≤ i) (h1 : i < 9600) (f : Hp → Option (Int × Hp)) : as h 237 0 i x f = f (wr h 237 i x) := as_ok (s.vo 237 0 (by decide) (by decide) rfl) (s.ln 237 9600 (by decide) (by decide) rfl) h0 h1
theorem gM61 {h : Hp} (s : Sh h) (f : Int → Option (Int × Hp)) : gf h 194 112 61 f = f 238 := by rw [gf_ok (s.vo 194 112 (by decide) (by decide) rfl), s.rf 189 rfl]
theorem aM61 {h : Hp} (s : Sh h) {i : Int} (h0 : 0 ≤ i) (h1 : i < 9616) (f : Int → Option (Int × Hp)) : al h 238 0 i f = f (rd h 238 i) := al_ok (s.vo 238 0 (by decide) (by decide) rfl) (s.ln 238 9616 (by decide) (by decide) rfl) h0 h1
theorem sM61 {h : Hp} (s : Sh h) {i x : Int} (h0 : 0 ≤ i) (h1 : i < 9616) (f : Hp → Option (Int × Hp)) : as h 238 0 i x f = f (wr h 238 i x) := as_ok (s.vo 238 0 (by decide) (by decide) rfl) (s.ln 238 9616 (by decide) (by decide) rfl) h0 h1
theorem gM62 {h : Hp} (s : Sh h) (f : Int → Option (Int × Hp)) : gf h 194 112 62 f = f 239 := by rw [gf_ok (s.vo 194 112 (by decide) (by decide) rfl), s.rf 190 rfl]
theorem aM62 {h : Hp} (s : Sh h) {i : Int} (h0 : 0 ≤ i) (h1 : i < 140) (f : Int → Option (Int × Hp)) : al h 239 0 i f = f (rd h 239 i) := al_ok (s.vo 239 0 (by decide) (by decide) rfl) (s.ln 239 140 (by decide) (by decide) rfl) h0 h1
theorem sM62 {h : Hp} (s : Sh h) {i x : Int} (h0 : 0 ≤ i) (h1 : i < 140) (f : Hp → Option (Int × Hp)) : as h 239 0 i x f = f (wr h 239 i x) := as_ok (s.vo 239 0 (by decide) (by decide) rfl) (s.ln 239 140 (by decide) (by decide) rfl) h0 h1
theorem gM63 {h : Hp} (s : Sh h) (f : Int → Option (Int × Hp)) : gf h 194 112 63 f = f 240 := by rw [gf_ok (s.vo 194 112 (by decide) (by decide) rfl), s.rf 191 rfl]
theorem aM63 {h : Hp} (s : Sh h) {i : Int} (h0 : 0 ≤ i) (h1 : i < 140) (f : Int → Option (Int × Hp)) : al h 240 0 i f = f (rd h 240 i) := al_ok (s.vo 240 0 (by decide) (by decide) rfl) (s.ln 240 140 (by decide) (by decide) rfl) h0 h1
theorem sM63 {h : Hp} (s : Sh h) {i x : Int} (h0 : 0 ≤ i) (h1 : i < 140) (f : Hp → Option (Int × Hp)) : as h 240 0 i x f = f (wr h 240 i x) := as_ok (s.vo 240 0 (by decide) (by decide) rfl) (s.ln 240 140 (by decide) (by decide) rfl) h0 h1
theorem gM64 {h : Hp} (s : Sh h) (f : Int → Option (Int × Hp)) : gf h 194 112 64 f = f (rd h 194 64) := gf_ok (s.vo 194 112 (by decide) (by decide) rfl)
theorem pM64 {h : Hp} (s : Sh h) (x : Int) (f : Hp → Option (Int × Hp)) : pf h 194 112 64 x f = f (wr h 194 64 x) := pf_ok (s.vo 194 112 (by decide) (by decide) rfl)
theorem sh64 {h : Hp} (s : Sh h) (x : Int) : Sh (wr h 194 64 x) := Sh_fld s (by decide +kernel)
theorem gM65 {h : Hp} (s : Sh h) (f : Int → Option (Int × Hp)) : gf h 194 112 65 f = f 241 := by rw [gf_ok (s.vo 194 112 (by decide) (by decide) rfl), s.rf 192 rfl]
theorem aM65 {h : Hp} (s : Sh h) {i : Int} (h0 : 0 ≤ i) (h1 : i < 5600) (f : Int → Option (Int × Hp)) : al h 241 0 i f = f (rd h 241 i) := al_ok (s.vo 241 0 (by decide) (by decide) rfl) (s.ln 241 5600 (by decide) (by decide) rfl) h0 h1
theorem sM65 {h : Hp} (s : Sh h) {i x : Int} (h0 : 0 ≤ i) (h1 : i < 5600) (f : Hp → Option (Int × Hp)) : as h 241 0 i x f = f (wr h 241 i x) := as_ok (s.vo 241 0 (by decide) (by decide) rfl) (s.ln 241 5600 (by decide) (by decide) rfl) h0 h1
theorem gM66 {h : Hp} (s : Sh h) (f : Int → Option (Int × Hp)) : gf h 194 112 66 f = f 242 := by rw [gf_ok (s.vo 194 112 (by decide) (by decide) rfl), s.rf 193 rfl]
theorem aM66 {h : Hp} (s : Sh h) {i : Int} (h0 : 0 ≤ i) (h1 : i < 2048) (f : Int → Option (Int × Hp)) : al h 242 0 i f = f (rd h 242 i) := al_ok (s.vo 242 0 (by decide) (by decide) rfl) (s.ln 242 2048 (by decide) (by decide) rfl) h0 h1
theorem sM66 {h : Hp} (s : Sh h) {i x : Int} (h0 : 0 ≤ i) (h1 : i < 2048) (f : Hp → Option (Int × Hp)) : as h 242 0 i x f = f (wr h 242 i x) := as_ok (s.vo 242 0 (by decide) (by decide) rfl) (s.ln 242 2048 (by decide) (by decide) rfl) h0 h1
theorem gM67 {h : Hp} (s : Sh h) (f : Int → Option (Int × Hp)) : gf h 194 112 67 f = f (rd h 194 67) := gf_ok (s.vo 194 112 (by decide) (by decide) rfl)
theorem pM67 {h : Hp} (s : Sh h) (x : Int) (f : Hp → Option (Int × Hp)) : pf h 194 112 67 x f = f (wr h 194 67 x) := pf_ok (s.vo 194 112 (by decide) (by decide) rfl)
theorem sh67 {h : Hp} (s : Sh h) (x : Int) : Sh (wr h 194 67 x) := Sh_fld s (by decide +kernel)
theorem gM68 {h : Hp} (s : Sh h) (f : Int → Option (Int × Hp)) : gf h 194 112 68 f = f (rd h 194 68) := gf_ok (s.vo 194 112 (by decide) (by decide) rfl)
theorem pM68 {h : Hp} (s : Sh h) (x : Int) (f : Hp → Option (Int × Hp)) : pf h 194 112 68 x f = f (wr h 194 68 x) := pf_ok (s.vo 194 112 (by decide) (by decide) rfl)
theorem sh68 {h : Hp} (s : Sh h) (x : Int) : Sh (wr h 194 68 x) := Sh_fld s (by decide +kernel)
theorem gM69 {h : Hp} (s : Sh h) (f : Int → Option (Int × Hp)) : gf h 194 112 69 f = f (rd h 194 69) := gf_ok (s.vo 194 112 (by decide) (by decide) rfl)
theorem pM69 {h : Hp} (s : Sh h) (x : Int) (f : Hp → Option (Int × Hp)) : pf h 194 112 69 x f = f (wr h 194 69 x) := pf_ok (s.vo 194 112 (by decide) (by decide) rfl)
theorem sh69 {h : Hp} (s : Sh h) (x : Int) : Sh (wr h 194 69 x) := Sh_fld s (by decide +kernel)
theorem gM70 {h : Hp} (s : Sh h) (f : Int → Option (Int × Hp)) : gf h 194 112 70 f = f (rd h 194 70) := gf_ok (s.vo 194 112 (by decide) (by decide) rfl)
theorem pM70 {h : Hp} (s : Sh h) (x : Int) (f : Hp → Option (Int × Hp)) : pf h 194 112 70 x f = f (wr h 194 70 x) := pf_ok (s.vo 194 112 (by decide) (by decide) rfl)
theorem sh70 {h : Hp} (s : Sh h) (x : Int) : Sh (wr h 194 70 x) := Sh_fld s (by decide +kernel)
theorem gM71 {h : Hp} (s : Sh h) (f : Int → Option (Int × Hp)) : gf h 194 112 71 f = f (rd h 194 71) := gf_ok (s.vo 194 112 (by decide) (by decide) rfl)
theorem pM71 {h : Hp} (s : Sh h) {x : Int} (hx : x = 0 ∨ x = 1) (f : Hp → Option (Int × Hp)) : pz h 194 112 71 x f = f (wr h 194 71 x) := pz_ok (s.vo 194 112 (by decide) (by decide) rfl) hx
theorem sh71 {h : Hp} (s : Sh h) (x : Int) : Sh (wr h 194 71 x) := Sh_fld s (by decide +kernel)
theorem gM72 {h : Hp} (s : Sh h) (f : Int → Option (Int × Hp)) : gf h 194 112 72 f = f 243 := by rw [gf_ok (s.vo 194 112 (by decide) (by decide) rfl), s.rf 194 rfl]
theorem aM72 {h : Hp} (s : Sh h) {i : Int} (h0 : 0 ≤ i) (h1 : i < 8) (f : Int → Option (Int × Hp)) : al h 243 0 i f = f (rd h 243 i) := al_ok (s.vo 243 0 (by decide) (by decide) rfl) (s.ln 243 8 (by decide) (by decide) rfl) h0 h1
theorem sM72 {h : Hp} (s : Sh h) {i x : Int} (h0 : 0 ≤ i) (h1 : i < 8) (f : Hp → Option (Int × Hp)) : as h 243 0 i x f = f (wr h 243 i x) := as_ok (s.vo 243 0 (by decide) (by decide) rfl) (s.ln 243 8 (by decide) (by decide) rfl) h0 h1
theorem gM73 {h : Hp} (s : Sh h) (f : Int → Option (Int × Hp)) : gf h 194 112 73 f = f (rd h 194 73) := gf_ok (s.vo 194 112 (by decide) (by decide) rfl)
theorem pM73 {h : Hp} (s : Sh h) (x : Int) (f : Hp → Option (Int × Hp)) : pf h 194 112 73 x f = f (wr h 194 73 x) := pf_ok (s.vo 194 112 (by decide) (by decide) rfl)
theorem sh73 {h : Hp} (s : Sh h) (x : Int) : Sh (wr h 194 73 x) := Sh_fld s (by decide +kernel)
theorem gM74 {h : Hp} (s : Sh h) (f : Int → Option (Int × Hp)) : gf h 194 112 74 f = f 244 := by rw [gf_ok (s.vo 194 112 (by decide) (by decide) rfl), s.rf 195 rfl]
theorem aM74 {h : Hp} (s : Sh h) {i : Int} (h0 : 0 ≤ i) (h1 : i < 768) (f : Int → Option (Int × Hp)) : al h 244 2 i f = f (rd h 244 i) := al_ok (s.vo 244 2 (by decide) (by decide) rfl) (s.ln 244 768 (by decide) (by decide) rfl) h0 h1
theorem sM74 {h : Hp} (s : Sh h) {i x : Int} (h0 : 0 ≤ i) (h1 : i < 768) (hx : x = 0 ∨ x = 1) (f : Hp → Option (Int × Hp)) : az h 244 i x f = f (wr h 244 i x) := az_ok (s.vo 244 2 (by decide) (by decide) rfl) (s.ln 244 768 (by decide) (by decide) rfl) h0 h1 hx
theorem gM75 {h : Hp} (s : Sh h) (f : Int → Option (Int × Hp)) : gf h 194 112 75 f = f 245 := by rw [gf_ok (s.vo 194 112 (by decide) (by decide) rfl), s.rf 196 rfl]
theorem aM75 {h : Hp} (s : Sh h) {i : Int} (h0 : 0 ≤ i) (h1 : i < 256) (f : Int → Option (Int × Hp)) : al h 245 2 i f = f (rd h 245 i) := al_ok (s.vo 245 2 (by decide) (by decide) rfl) (s.ln 245 256 (by decide) (by decide) rfl) h0 h1
theorem sM75 {h : Hp} (s : Sh h) {i x : Int} (h0 : 0 ≤ i) (h1 : i < 256) (hx : x = 0 ∨ x = 1) (f : Hp → Option (Int × Hp)) : az h 245 i x f = f (wr h 245 i x) := az_ok (s.vo 245 2 (by decide) (by decide) rfl) (s.ln 245 256 (by decide) (by decide) rfl) h0 h1 hx
theorem gM76 {h : Hp} (s : Sh h) (f : Int → Option (Int × Hp)) : gf h 194 112 76 f = f 246 := by rw [gf_ok (s.vo 194 112 (by decide) (by decide) rfl), s.rf 197 rfl]
theorem aM76 {h : Hp} (s : Sh h) {i : Int} (h0 : 0 ≤ i) (h1 : i < 256) (f : Int → Option (Int × Hp)) : al h 246 2 i f = f (rd h 246 i) := al_ok (s.vo 246 2 (by decide) (by decide) rfl) (s.ln 246 256 (by decide) (by decide) rfl) h0 h1
theorem sM76 {h : Hp} (s : Sh h) {i x : Int} (h0 : 0 ≤ i) (h1 : i < 256) (hx : x = 0 ∨ x = 1) (f : Hp → Option (Int × Hp)) : az h 246 i x f = f (wr h 246 i x) := az_ok (s.vo 246 2 (by decide) (by decide) rfl) (s.ln 246 256 (by decide) (by decide) rfl) h0 h1 hx
theorem gM77 {h : Hp} (s : Sh h) (f : Int → Option (Int × Hp)) : gf h 194 112 77 f = f 247 := by rw [gf_ok (s.vo 194 112 (by decide) (by decide) rfl), s.rf 198 rfl]
theorem aM77 {h : Hp} (s : Sh h) {i : Int} (h0 : 0 ≤ i) (h1 : i < 8) (f : Int → Option (Int × Hp)) : al h 247 0 i f = f (rd h 247 i) := al_ok (s.vo 247 0 (by decide) (by decide) rfl) (s.ln 247 8 (by decide) (by decide) rfl) h0 h1
theorem sM77 {h : Hp} (s : Sh h) {i x : Int} (h0 : 0 ≤ i) (h1 : i < 8) (f : Hp → Option (Int × Hp)) : as h 247 0 i x f = f (wr h 247 i x) := as_ok (s.vo 247 0 (by decide) (by decide) rfl) (s.ln 247 8 (by decide) (by decide) rfl) h0 h1
theorem gM78 {h : Hp} (s : Sh h) (f : Int → Option (Int × Hp)) : gf h 194 112 78 f = f 248 := by rw [gf_ok (s.vo 194 112 (by decide) (by decide) rfl), s.rf 199 rfl]
theorem aM78 {h : Hp} (s : Sh h) {i : Int} (h0 : 0 ≤ i) (h1 : i < 8) (f : Int → Option (Int × Hp)) : al h 248 0 i f = f (rd h 248 i) := al_ok (s.vo 248 0 (by decide) (by decide) rfl) (s.ln 248 8 (by decide) (by decide) rfl) h0 h1
theorem sM78 {h : Hp} (s : Sh h) {i x : Int} (h0 : 0 ≤ i) (h1 : i < 8) (f : Hp → Option (Int × Hp)) : as h 248 0 i x f = f (wr h 248 i x) := as_ok (s.vo 248 0 (by decide) (by decide) rfl) (s.ln 248 8 (by decide) (by decide) rfl) h0 h1
theorem gM79 {h : Hp} (s : Sh h) (f : Int → Option (Int × Hp)) : gf h 194 112 79 f = f (rd h 194 79) := gf_ok (s.vo 194 112 (by decide) (by decide) rfl)
theorem pM79 {h : Hp} (s : Sh h) (x : Int) (f : Hp → Option (Int × Hp)) : pf h 194 112 79 x f = f (wr h 194 79 x) := pf_ok (s.vo 194 112 (by decide) (by decide) rfl)
theorem sh79 {h : Hp} (s : Sh h) (x : Int) : Sh (wr h 194 79 x) := Sh_fld s (by decide +kernel)
theorem gM80 {h : Hp} (s : Sh h) (f : Int → Option (Int × Hp)) : gf h 194 112 80 f = f (rd h 194 80) := gf_ok (s.vo 194 112 (by decide) (by decide) rfl)
theorem pM80 {h : Hp} (s : Sh h) (x : Int) (f : Hp → Option (Int × Hp)) : pf h 194 112 80 x f = f (wr h 194 80 x) := pf_ok (s.vo 194 112 (by decide) (by decide) rfl)
theorem sh80 {h : Hp} (s : Sh h) (x : Int) : Sh (wr h 194 80 x) := Sh_fld s (by decide +kernel)
theorem gM81 {h : Hp} (s : Sh h) (f : Int → Option (Int × Hp)) : gf h 194 112 81 f = f 249 := by rw [gf_ok (s.vo 194 112 (by decide) (by decide) rfl), s.rf 200 rfl]
theorem aM81 {h : Hp} (s : Sh h) {i : Int} (h0 : 0 ≤ i) (h1 : i < 20) (f : Int → Option (Int × Hp)) : al h 249 0 i f = f (rd h 249 i) := al_ok (s.vo 249 0 (by decide) (by decide) rfl) (s.ln 249 20 (by decide) (by decide) rfl) h0 h1
theorem sM81 {h : Hp} (s : Sh h) {i x : Int} (h0 : 0 ≤ i) (h1 : i < 20) (f : Hp → Option (Int × Hp)) : as h 249 0 i x f = f (wr h 249 i x) := as_ok (s.vo 249 0 (by decide) (by decide) rfl) (s.ln 249 20 (by decide) (by decide) rfl) h0 h1
theorem gM82 {h : Hp} (s : Sh h) (f : Int → Option (Int × Hp)) : gf h 194 112 82 f = f 250 := by rw [gf_ok (s.vo 194 112 (by decide) (by decide) rfl), s.rf 201 rfl]
theorem aM82 {h : Hp} (s : Sh h) {i : Int} (h0 : 0 ≤ i) (h1 : i < 20) (f : Int → Option (Int × Hp)) : al h 250 0 i f = f (rd h 250 i) := al_ok (s.vo 250 0 (by decide) (by decide) rfl) (s.ln 250 20 (by decide) (by decide) rfl) h0 h1
theorem sM82 {h : Hp} (s : Sh h) {i x : Int} (h0 : 0 ≤ i) (h1 : i < 20) (f : Hp → Option (Int × Hp)) : as h 250 0 i x f = f (wr h 250 i x) := as_ok (s.vo 250 0 (by decide) (by decide) rfl) (s.ln 250 20 (by decide) (by decide) rfl) h0 h1
theorem gM83 {h : Hp} (s : Sh h) (f : Int → Option (Int × Hp)) : gf h 194 112 83 f = f 251 := by rw [gf_ok (s.vo 194 112 (by decide) (by decide) rfl), s.rf 202 rfl]
theorem aM83 {h : Hp} (s : Sh h) {i : Int} (h0 : 0 ≤ i) (h1 : i < 20) (f : Int → Option (Int × Hp)) : al h 251 2 i f = f (rd h 251 i) := al_ok (s.vo 251 2 (by decide) (by decide) rfl) (s.ln 251 20 (by decide) (by decide) rfl) h0 h1
theorem sM83 {h : Hp} (s : Sh h) {i x : Int} (h0 : 0 ≤ i) (h1 : i < 20) (hx : x = 0 ∨ x = 1) (f : Hp → Option (Int × Hp)) : az h 251 i x f = f (wr h 251 i x) := az_ok (s.vo 251 2 (by decide) (by decide) rfl) (s.ln 251 20 (by decide) (by decide) rfl) h0 h1 hx
theorem gM84 {h : Hp} (s : Sh h) (f : Int → Option (Int × Hp)) : gf h 194 112 84 f = f 252 := by rw [gf_ok (s.vo 194 112 (by decide) (by decide) rfl), s.rf 203 rfl]
theorem aM84 {h : Hp} (s : Sh h) {i : Int} (h0 : 0 ≤ i) (h1 : i < 3) (f : Int → Option (Int × Hp)) : al h 252 2 i f = f (rd h 252 i) := al_ok (s.vo 252 2 (by decide) (by decide) rfl) (s.ln 252 3 (by decide) (by decide) rfl) h0 h1
theorem sM84 {h : Hp} (s : Sh h) {i x : Int} (h0 : 0 ≤ i) (h1 : i < 3) (hx : x = 0 ∨ x = 1) (f : Hp → Option (Int × Hp)) : az h 252 i x f = f (wr h 252 i x) := az_ok (s.vo 252 2 (by decide) (by decide) rfl) (s.ln 252 3 (by decide) (by decide) rfl) h0 h1 hx
theorem gM85 {h : Hp} (s : Sh h) (f : Int → Option (Int × Hp)) : gf h 194 112 85 f = f 253 := by rw [gf_ok (s.vo 194 112 (by decide) (by decide) rfl), s.rf 204 rfl]
theorem aM85 {h : Hp} (s : Sh h) {i : Int} (h0 : 0 ≤ i) (h1 : i < 420) (f : Int → Option (Int × Hp)) : al h 253 0 i f = f (rd h 253 i) := al_ok (s.vo 253 0 (by decide) (by decide) rfl) (s.ln 253 420 (by decide) (by decide) rfl) h0 h1
theorem sM85 {h : Hp} (s : Sh h) {i x : Int} (h0 : 0 ≤ i) (h1 : i < 420) (f : Hp → Option (Int × Hp)) : as h 253 0 i x f = f (wr h 253 i x) := as_ok (s.vo 253 0 (by decide) (by decide) rfl) (s.ln 253 420 (by decide) (by decide) rfl) h0 h1
theorem ivM {h : Hp} (s : Sh h) (o : Option (Int × Hp)) (f : Int → Hp → Option (Int × Hp)) : iv h 194 112 o f = cl o f := iv_ok (s.vo 194 112 (by decide) (by decide) rfl)
theorem shA {h : Hp} (s : Sh h) {a i v : Int} (h1 : 195 ≤ a) (h2 : a ≤ 253) : Sh (wr h a i v) := Sh_arr s (by omega) (fun h => by
  have : ∀ n : Nat, n < 254 → 195 ≤ n → kL.getD n 0 < 4 := by decide +kernel
  exact this a.toNat (by omega) (by omega))
