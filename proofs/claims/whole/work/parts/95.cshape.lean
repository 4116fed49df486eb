/-! the class's fixed cells: rules of reading and writing -/
theorem ivT {h : Hp} (s : Sh h) (o : Option (Int × Hp)) (f : Int → Hp → Option (Int × Hp)) : iv h 1 111 o f = cl o f := iv_ok (s.vo 1 111 (by decide) (by decide) rfl)
theorem gT0 {h : Hp} (s : Sh h) (f : Int → Option (Int × Hp)) : gf h 1 111 0 f = f 2 := by rw [gf_ok (s.vo 1 111 (by decide) (by decide) rfl), s.rf 0 rfl]
theorem aT0 {h : Hp} (s : Sh h) {i : Int} (h0 : 0 ≤ i) (h1 : i < 2000) (f : Int → Option (Int × Hp)) : al h 2 1 i f = f (rd h 2 i) := al_ok (s.vo 2 1 (by decide) (by decide) rfl) (s.ln 2 2000 (by decide) (by decide) rfl) h0 h1
theorem sT0 {h : Hp} (s : Sh h) {i x : Int} (h0 : 0 ≤ i) (h1 : i < 2000) (f : Hp → Option (Int × Hp)) : as h 2 1 i x f = f (wr h 2 i x) := as_ok (s.vo 2 1 (by decide) (by decide) rfl) (s.ln 2 2000 (by decide) (by decide) rfl) h0 h1
theorem nT0 {h : Hp} (s : Sh h) (f : Int → Option (Int × Hp)) : aln h 2 1 f = f 2000 := aln_ok (s.vo 2 1 (by decide) (by decide) rfl) (s.ln 2 2000 (by decide) (by decide) rfl)
theorem gT1 {h : Hp} (s : Sh h) (f : Int → Option (Int × Hp)) : gf h 1 111 1 f = f (rd h 1 1) := gf_ok (s.vo 1 111 (by decide) (by decide) rfl)
theorem pT1 {h : Hp} (s : Sh h) (x : Int) (f : Hp → Option (Int × Hp)) : pf h 1 111 1 x f = f (wr h 1 1 x) := pf_ok (s.vo 1 111 (by decide) (by decide) rfl)
theorem gT2 {h : Hp} (s : Sh h) (f : Int → Option (Int × Hp)) : gf h 1 111 2 f = f (rd h 1 2) := gf_ok (s.vo 1 111 (by decide) (by decide) rfl)
theorem pT2 {h : Hp} (s : Sh h) (x : Int) (f : Hp → Option (Int × Hp)) : pf h 1 111 2 x f = f (wr h 1 2 x) := pf_ok (s.vo 1 111 (by decide) (by decide) rfl)
theorem gT3 {h : Hp} (s : Sh h) (f : Int → Option (Int × Hp)) : gf h 1 111 3 f = f 3 := by rw [gf_ok (s.vo 1 111 (by decide) (by decide) rfl), s.rf 1 rfl]
theorem gT4 {h : Hp} (s : Sh h) (f : Int → Option (Int × Hp)) : gf h 1 111 4 f = f 22 := by rw [gf_ok (s.vo 1 111 (by decide) (by decide) rfl), s.rf 2 rfl]
theorem gT5 {h : Hp} (s : Sh h) (f : Int → Option (Int × Hp)) : gf h 1 111 5 f = f 66 := by rw [gf_ok (s.vo 1 111 (by decide) (by decide) rfl), s.rf 3 rfl]
theorem gT6 {h : Hp} (s : Sh h) (f : Int → Option (Int × Hp)) : gf h 1 111 6 f = f 78 := by rw [gf_ok (s.vo 1 111 (by decide) (by decide) rfl), s.rf 4 rfl]
theorem gT7 {h : Hp} (s : Sh h) (f : Int → Option (Int × Hp)) : gf h 1 111 7 f = f 80 := by rw [gf_ok (s.vo 1 111 (by decide) (by decide) rfl), s.rf 5 rfl]
theorem gT8 {h : Hp} (s : Sh h) (f : Int → Option (Int × Hp)) : gf h 1 111 8 f = f 81 := by rw [gf_ok (s.vo 1 111 (by decide) (by decide) rfl), s.rf 6 rfl]
theorem aT8 {h : Hp} (s : Sh h) {i : Int} (h0 : 0 ≤ i) (h1 : i < 3) (f : Int → Option (Int × Hp)) : al h 81 2 i f = f (rd h 81 i) := al_ok (s.vo 81 2 (by decide) (by decide) rfl) (s.ln 81 3 (by decide) (by decide) rfl) h0 h1
theorem sT8 {h : Hp} (s : Sh h) {i x : Int} (h0 : 0 ≤ i) (h1 : i < 3) (hx : x = 0 ∨ x = 1) (f : Hp → Option (Int × Hp)) : az h 81 i x f = f (wr h 81 i x) := az_ok (s.vo 81 2 (by decide) (by decide) rfl) (s.ln 81 3 (by decide) (by decide) rfl) h0 h1 hx
theorem nT8 {h : Hp} (s : Sh h) (f : Int → Option (Int × Hp)) : aln h 81 2 f = f 3 := aln_ok (s.vo 81 2 (by decide) (by decide) rfl) (s.ln 81 3 (by decide) (by decide) rfl)
theorem gT9 {h : Hp} (s : Sh h) (f : Int → Option (Int × Hp)) : gf h 1 111 9 f = f 82 := by rw [gf_ok (s.vo 1 111 (by decide) (by decide) rfl), s.rf 7 rfl]
theorem gT10 {h : Hp} (s : Sh h) (f : Int → Option (Int × Hp)) : gf h 1 111 10 f = f 139 := by rw [gf_ok (s.vo 1 111 (by decide) (by decide) rfl), s.rf 8 rfl]
theorem gT11 {h : Hp} (s : Sh h) (f : Int → Option (Int × Hp)) : gf h 1 111 11 f = f 155 := by rw [gf_ok (s.vo 1 111 (by decide) (by decide) rfl), s.rf 9 rfl]
theorem aT11 {h : Hp} (s : Sh h) {i : Int} (h0 : 0 ≤ i) (h1 : i < 50) (f : Int → Option (Int × Hp)) : al h 155 0 i f = f (rd h 155 i) := al_ok (s.vo 155 0 (by decide) (by decide) rfl) (s.ln 155 50 (by decide) (by decide) rfl) h0 h1
theorem sT11 {h : Hp} (s : Sh h) {i x : Int} (h0 : 0 ≤ i) (h1 : i < 50) (f : Hp → Option (Int × Hp)) : as h 155 0 i x f = f (wr h 155 i x) := as_ok (s.vo 155 0 (by decide) (by decide) rfl) (s.ln 155 50 (by decide) (by decide) rfl) h0 h1
theorem nT11 {h : Hp} (s : Sh h) (f : Int → Option (Int × Hp)) : aln h 155 0 f = f 50 := aln_ok (s.vo 155 0 (by decide) (by decide) rfl) (s.ln 155 50 (by decide) (by decide) rfl)
theorem gT12 {h : Hp} (s : Sh h) (f : Int → Option (Int × Hp)) : gf h 1 111 12 f = f 156 := by rw [gf_ok (s.vo 1 111 (by decide) (by decide) rfl), s.rf 10 rfl]
theorem aT12 {h : Hp} (s : Sh h) {i : Int} (h0 : 0 ≤ i) (h1 : i < 50) (f : Int → Option (Int × Hp)) : al h 156 0 i f = f (rd h 156 i) := al_ok (s.vo 156 0 (by decide) (by decide) rfl) (s.ln 156 50 (by decide) (by decide) rfl) h0 h1
theorem sT12 {h : Hp} (s : Sh h) {i x : Int} (h0 : 0 ≤ i) (h1 : i < 50) (f : Hp → Option (Int × Hp)) : as h 156 0 i x f = f (wr h 156 i x) := as_ok (s.vo 156 0 (by decide) (by decide) rfl) (s.ln 156 50 (by decide) (by decide) rfl) h0 h1
theorem nT12 {h : Hp} (s : Sh h) (f : Int → Option (Int × Hp)) : aln h 156 0 f = f 50 := aln_ok (s.vo 156 0 (by decide) (by decide) rfl) (s.ln 156 50 (by decide) (by decide) rfl)
theorem gT13 {h : Hp} (s : Sh h) (f : Int → Option (Int × Hp)) : gf h 1 111 13 f = f 157 := by rw [gf_ok (s.vo 1 111 (by decide) (by decide) rfl), s.rf 11 rfl]
theorem aT13 {h : Hp} (s : Sh h) {i : Int} (h0 : 0 ≤ i) (h1 : i < 600) (f : Int → Option (Int × Hp)) : al h 157 0 i f = f (rd h 157 i) := al_ok (s.vo 157 0 (by decide) (by decide) rfl) (s.ln 157 600 (by decide) (by decide) rfl) h0 h1
theorem sT13 {h : Hp} (s : Sh h) {i x : Int} (h0 : 0 ≤ i) (h1 : i < 600) (f : Hp → Option (Int × Hp)) : as h 157 0 i x f = f (wr h 157 i x) := as_ok (s.vo 157 0 (by decide) (by decide) rfl) (s.ln 157 600 (by decide) (by decide) rfl) h0 h1
theorem nT13 {h : Hp} (s : Sh h) (f : Int → Option (Int × Hp)) : aln h 157 0 f = f 600 := aln_ok (s.vo 157 0 (by decide) (by decide) rfl) (s.ln 157 600 (by decide) (by decide) rfl)
theorem ivR {h : Hp} (s : Sh h) (o : Option (Int × Hp)) (f : Int → Hp → Option (Int × Hp)) : iv h 3 103 o f = cl o f := iv_ok (s.vo 3 103 (by decide) (by decide) rfl)
theorem gR0 {h : Hp} (s : Sh h) (f : Int → Option (Int × Hp)) : gf h 3 103 0 f = f 4 := by rw [gf_ok (s.vo 3 103 (by decide) (by decide) rfl), s.rf 12 rfl]
theorem aR0 {h : Hp} (s : Sh h) {i : Int} (h0 : 0 ≤ i) (h1 : i < 18) (f : Int → Option (Int × Hp)) : al h 4 3 i f = f (rd h 4 i) := al_ok (s.vo 4 3 (by decide) (by decide) rfl) (s.ln 4 18 (by decide) (by decide) rfl) h0 h1
theorem sR0 {h : Hp} (s : Sh h) {i x : Int} (h0 : 0 ≤ i) (h1 : i < 18) (f : Hp → Option (Int × Hp)) : as h 4 3 i x f = f (wr h 4 i x) := as_ok (s.vo 4 3 (by decide) (by decide) rfl) (s.ln 4 18 (by decide) (by decide) rfl) h0 h1
theorem nR0 {h : Hp} (s : Sh h) (f : Int → Option (Int × Hp)) : aln h 4 3 f = f 18 := aln_ok (s.vo 4 3 (by decide) (by decide) rfl) (s.ln 4 18 (by decide) (by decide) rfl)
theorem gR1 {h : Hp} (s : Sh h) (f : Int → Option (Int × Hp)) : gf h 3 103 1 f = f 5 := by rw [gf_ok (s.vo 3 103 (by decide) (by decide) rfl), s.rf 13 rfl]
theorem aR1 {h : Hp} (s : Sh h) {i : Int} (h0 : 0 ≤ i) (h1 : i < 402) (f : Int → Option (Int × Hp)) : al h 5 0 i f = f (rd h 5 i) := al_ok (s.vo 5 0 (by decide) (by decide) rfl) (s.ln 5 402 (by decide) (by decide) rfl) h0 h1
theorem sR1 {h : Hp} (s : Sh h) {i x : Int} (h0 : 0 ≤ i) (h1 : i < 402) (f : Hp → Option (Int × Hp)) : as h 5 0 i x f = f (wr h 5 i x) := as_ok (s.vo 5 0 (by decide) (by decide) rfl) (s.ln 5 402 (by decide) (by decide) rfl) h0 h1
theorem nR1 {h : Hp} (s : Sh h) (f : Int → Option (Int × Hp)) : aln h 5 0 f = f 402 := aln_ok (s.vo 5 0 (by decide) (by decide) rfl) (s.ln 5 402 (by decide) (by decide) rfl)
theorem gR2 {h : Hp} (s : Sh h) (f : Int → Option (Int × Hp)) : gf h 3 103 2 f = f 6 := by rw [gf_ok (s.vo 3 103 (by decide) (by decide) rfl), s.rf 14 rfl]
theorem aR2 {h : Hp} (s : Sh h) {i : Int} (h0 : 0 ≤ i) (h1 : i < 402) (f : Int → Option (Int × Hp)) : al h 6 3 i f = f (rd h 6 i) := al_ok (s.vo 6 3 (by decide) (by decide) rfl) (s.ln 6 402 (by decide) (by decide) rfl) h0 h1
theorem sR2 {h : Hp} (s : Sh h) {i x : Int} (h0 : 0 ≤ i) (h1 : i < 402) (f : Hp → Option (Int × Hp)) : as h 6 3 i x f = f (wr h 6 i x) := as_ok (s.vo 6 3 (by decide) (by decide) rfl) (s.ln 6 402 (by decide) (by decide) rfl) h0 h1
theorem nR2 {h : Hp} (s : Sh h) (f : Int → Option (Int × Hp)) : aln h 6 3 f = f 402 := aln_ok (s.vo 6 3 (by decide) (by decide) rfl) (s.ln 6 402 (by decide) (by decide) rfl)
theorem gR3 {h : Hp} (s : Sh h) (f : Int → Option (Int × Hp)) : gf h 3 103 3 f = f 7 := by rw [gf_ok (s.vo 3 103 (by decide) (by decide) rfl), s.rf 15 rfl]
theorem aR3 {h : Hp} (s : Sh h) {i : Int} (h0 : 0 ≤ i) (h1 : i < 402) (f : Int → Option (Int × Hp)) : al h 7 0 i f = f (rd h 7 i) := al_ok (s.vo 7 0 (by decide) (by decide) rfl) (s.ln 7 402 (by decide) (by decide) rfl) h0 h1
theorem sR3 {h : Hp} (s : Sh h) {i x : Int} (h0 : 0 ≤ i) (h1 : i < 402) (f : Hp → Option (Int × Hp)) : as h 7 0 i x f = f (wr h 7 i x) := as_ok (s.vo 7 0 (by decide) (by decide) rfl) (s.ln 7 402 (by decide) (by decide) rfl) h0 h1
theorem nR3 {h : Hp} (s : Sh h) (f : Int → Option (Int × Hp)) : aln h 7 0 f = f 402 := aln_ok (s.vo 7 0 (by decide) (by decide) rfl) (s.ln 7 402 (by decide) (by decide) rfl)
theorem gR4 {h : Hp} (s : Sh h) (f : Int → Option (Int × Hp)) : gf h 3 103 4 f = f 8 := by rw [gf_ok (s.vo 3 103 (by decide) (by decide) rfl), s.rf 16 rfl]
theorem aR4 {h : Hp} (s : Sh h) {i : Int} (h0 : 0 ≤ i) (h1 : i < 11) (f : Int → Option (Int × Hp)) : al h 8 3 i f = f (rd h 8 i) := al_ok (s.vo 8 3 (by decide) (by decide) rfl) (s.ln 8 11 (by decide) (by decide) rfl) h0 h1
theorem sR4 {h : Hp} (s : Sh h) {i x : Int} (h0 : 0 ≤ i) (h1 : i < 11) (f : Hp → Option (Int × Hp)) : as h 8 3 i x f = f (wr h 8 i x) := as_ok (s.vo 8 3 (by decide) (by decide) rfl) (s.ln 8 11 (by decide) (by decide) rfl) h0 h1
theorem nR4 {h : Hp} (s : Sh h) (f : Int → Option (Int × Hp)) : aln h 8 3 f = f 11 := aln_ok (s.vo 8 3 (by decide) (by decide) rfl) (s.ln 8 11 (by decide) (by decide) rfl)
theorem gR5 {h : Hp} (s : Sh h) (f : Int → Option (Int × Hp)) : gf h 3 103 5 f = f (rd h 3 5) := gf_ok (s.vo 3 103 (by decide) (by decide) rfl)
theorem pR5 {h : Hp} (s : Sh h) (x : Int) (f : Hp → Option (Int × Hp)) : pf h 3 103 5 x f = f (wr h 3 5 x) := pf_ok (s.vo 3 103 (by decide) (by decide) rfl)
theorem gR6 {h : Hp} (s : Sh h) (f : Int → Option (Int × Hp)) : gf h 3 103 6 f = f (rd h 3 6) := gf_ok (s.vo 3 103 (by decide) (by decide) rfl)
theorem pR6 {h : Hp} (s : Sh h) (x : Int) (f : Hp → Option (Int × Hp)) : pf h 3 103 6 x f = f (wr h 3 6 x) := pf_ok (s.vo 3 103 (by decide) (by decide) rfl)
theorem gR7 {h : Hp} (s : Sh h) (f : Int → Option (Int × Hp)) : gf h 3 103 7 f = f (rd h 3 7) := gf_ok (s.vo 3 103 (by decide) (by decide) rfl)
theorem pR7 {h : Hp} (s : Sh h) (x : Int) (f : Hp → Option (Int × Hp)) : pf h 3 103 7 x f = f (wr h 3 7 x) := pf_ok (s.vo 3 103 (by decide) (by decide) rfl)
theorem gR8 {h : Hp} (s : Sh h) (f : Int → Option (Int × Hp)) : gf h 3 103 8 f = f (rd h 3 8) := gf_ok (s.vo 3 103 (by decide) (by decide) rfl)
theorem pR8 {h : Hp} (s : Sh h) (x : Int) (f : Hp → Option (Int × Hp)) : pf h 3 103 8 x f = f (wr h 3 8 x) := pf_ok (s.vo 3 103 (by decide) (by decide) rfl)
theorem gR9 {h : Hp} (s : Sh h) (f : Int → Option (Int × Hp)) : gf h 3 103 9 f = f (rd h 3 9) := gf_ok (s.vo 3 103 (by decide) (by decide) rfl)
theorem pR9 {h : Hp} (s : Sh h) (x : Int) (f : Hp → Option (Int × Hp)) : pf h 3 103 9 x f = f (wr h 3 9 x) := pf_ok (s.vo 3 103 (by decide) (by decide) rfl)
theorem gR10 {h : Hp} (s : Sh h) (f : Int → Option (Int × Hp)) : gf h 3 103 10 f = f (rd h 3 10) := gf_ok (s.vo 3 103 (by decide) (by decide) rfl)
theorem pR10 {h : Hp} (s : Sh h) (x : Int) (f : Hp → Option (Int × Hp)) : pf h 3 103 10 x f = f (wr h 3 10 x) := pf_ok (s.vo 3 103 (by decide) (by decide) rfl)
theorem gR11 {h : Hp} (s : Sh h) (f : Int → Option (Int × Hp)) : gf h 3 103 11 f = f (rd h 3 11) := gf_ok (s.vo 3 103 (by decide) (by decide) rfl)
theorem pR11 {h : Hp} (s : Sh h) (x : Int) (f : Hp → Option (Int × Hp)) : pf h 3 103 11 x f = f (wr h 3 11 x) := pf_ok (s.vo 3 103 (by decide) (by decide) rfl)
theorem ivH {h : Hp} (s : Sh h) (o : Option (Int × Hp)) (f : Int → Hp → Option (Int × Hp)) : iv h 22 107 o f = cl o f := iv_ok (s.vo 22 107 (by decide) (by decide) rfl)
theorem gH0 {h : Hp} (s : Sh h) (f : Int → Option (Int × Hp)) : gf h 22 107 0 f = f (rd h 22 0) := gf_ok (s.vo 22 107 (by decide) (by decide) rfl)
theorem pH0 {h : Hp} (s : Sh h) (x : Int) (f : Hp → Option (Int × Hp)) : pf h 22 107 0 x f = f (wr h 22 0 x) := pf_ok (s.vo 22 107 (by decide) (by decide) rfl)
theorem gH1 {h : Hp} (s : Sh h) (f : Int → Option (Int × Hp)) : gf h 22 107 1 f = f 36 := by rw [gf_ok (s.vo 22 107 (by decide) (by decide) rfl), s.rf 29 rfl]
theorem aH1 {h : Hp} (s : Sh h) {i : Int} (h0 : 0 ≤ i) (h1 : i < 600) (f : Int → Option (Int × Hp)) : al h 36 0 i f = f (rd h 36 i) := al_ok (s.vo 36 0 (by decide) (by decide) rfl) (s.ln 36 600 (by decide) (by decide) rfl) h0 h1
theorem sH1 {h : Hp} (s : Sh h) {i x : Int} (h0 : 0 ≤ i) (h1 : i < 600) (f : Hp → Option (Int × Hp)) : as h 36 0 i x f = f (wr h 36 i x) := as_ok (s.vo 36 0 (by decide) (by decide) rfl) (s.ln 36 600 (by decide) (by decide) rfl) h0 h1
theorem nH1 {h : Hp} (s : Sh h) (f : Int → Option (Int × Hp)) : aln h 36 0 f = f 600 := aln_ok (s.vo 36 0 (by decide) (by decide) rfl) (s.ln 36 600 (by decide) (by decide) rfl)
theorem gH2 {h : Hp} (s : Sh h) (f : Int → Option (Int × Hp)) : gf h 22 107 2 f = f 37 := by rw [gf_ok (s.vo 22 107 (by decide) (by decide) rfl), s.rf 30 rfl]
theorem aH2 {h : Hp} (s : Sh h) {i : Int} (h0 : 0 ≤ i) (h1 : i < 600) (f : Int → Option (Int × Hp)) : al h 37 0 i f = f (rd h 37 i) := al_ok (s.vo 37 0 (by decide) (by decide) rfl) (s.ln 37 600 (by decide) (by decide) rfl) h0 h1
theorem sH2 {h : Hp} (s : Sh h) {i x : Int} (h0 : 0 ≤ i) (h1 : i < 600) (f : Hp → Option (Int × Hp)) : as h 37 0 i x f = f (wr h 37 i x) := as_ok (s.vo 37 0 (by decide) (by decide) rfl) (s.ln 37 600 (by decide) (by decide) rfl) h0 h1
theorem nH2 {h : Hp} (s : Sh h) (f : Int → Option (Int × Hp)) : aln h 37 0 f = f 600 := aln_ok (s.vo 37 0 (by decide) (by decide) rfl) (s.ln 37 600 (by decide) (by decide) rfl)
theorem gH3 {h : Hp} (s : Sh h) (f : Int → Option (Int × Hp)) : gf h 22 107 3 f = f 38 := by rw [gf_ok (s.vo 22 107 (by decide) (by decide) rfl), s.rf 31 rfl]
theorem gH4 {h : Hp} (s : Sh h) (f : Int → Option (Int × Hp)) : gf h 22 107 4 f = f 39 := by rw [gf_ok (s.vo 22 107 (by decide) (by decide) rfl), s.rf 32 rfl]
theorem aH4 {h : Hp} (s : Sh h) {i : Int} (h0 : 0 ≤ i) (h1 : i < 256) (f : Int → Option (Int × Hp)) : al h 39 0 i f = f (rd h 39 i) := al_ok (s.vo 39 0 (by decide) (by decide) rfl) (s.ln 39 256 (by decide) (by decide) rfl) h0 h1
theorem sH4 {h : Hp} (s : Sh h) {i x : Int} (h0 : 0 ≤ i) (h1 : i < 256) (f : Hp → Option (Int × Hp)) : as h 39 0 i x f = f (wr h 39 i x) := as_ok (s.vo 39 0 (by decide) (by decide) rfl) (s.ln 39 256 (by decide) (by decide) rfl) h0 h1
theorem nH4 {h : Hp} (s : Sh h) (f : Int → Option (Int × Hp)) : aln h 39 0 f = f 256 := aln_ok (s.vo 39 0 (by decide) (by decide) rfl) (s.ln 39 256 (by decide) (by decide) rfl)
theorem gH5 {h : Hp} (s : Sh h) (f : Int → Option (Int × Hp)) : gf h 22 107 5 f = f 40 := by rw [gf_ok (s.vo 22 107 (by decide) (by decide) rfl), s.rf 33 rfl]
theorem aH5 {h : Hp} (s : Sh h) {i : Int} (h0 : 0 ≤ i) (h1 : i < 8) (f : Int → Option (Int × Hp)) : al h 40 0 i f = f (rd h 40 i) := al_ok (s.vo 40 0 (by decide) (by decide) rfl) (s.ln 40 8 (by decide) (by decide) rfl) h0 h1
theorem sH5 {h : Hp} (s : Sh h) {i x : Int} (h0 : 0 ≤ i) (h1 : i < 8) (f : Hp → Option (Int × Hp)) : as h 40 0 i x f = f (wr h 40 i x) := as_ok (s.vo 40 0 (by decide) (by decide) rfl) (s.ln 40 8 (by decide) (by decide) rfl) h0 h1
theorem nH5 {h : Hp} (s : Sh h) (f : Int → Option (Int × Hp)) : aln h 40 0 f = f 8 := aln_ok (s.vo 40 0 (by decide) (by decide) rfl) (s.ln 40 8 (by decide) (by decide) rfl)
theorem gH6 {h : Hp} (s : Sh h) (f : Int → Option (Int × Hp)) : gf h 22 107 6 f = f 41 := by rw [gf_ok (s.vo 22 107 (by decide) (by decide) rfl), s.rf 34 rfl]
theorem aH6 {h : Hp} (s : Sh h) {i : Int} (h0 : 0 ≤ i) (h1 : i < 8) (f : Int → Option (Int × Hp)) : al h 41 0 i f = f (rd h 41 i) := al_ok (s.vo 41 0 (by decide) (by decide) rfl) (s.ln 41 8 (by decide) (by decide) rfl) h0 h1
theorem sH6 {h : Hp} (s : Sh h) {i x : Int} (h0 : 0 ≤ i) (h1 : i < 8) (f : Hp → Option (Int × Hp)) : as h 41 0 i x f = f (wr h 41 i x) := as_ok (s.vo 41 0 (by decide) (by decide) rfl) (s.ln 41 8 (by decide) (by decide) rfl) h0 h1
theorem nH6 {h : Hp} (s : Sh h) (f : Int → Option (Int × Hp)) : aln h 41 0 f = f 8 := aln_ok (s.vo 41 0 (by decide) (by decide) rfl) (s.ln 41 8 (by decide) (by decide) rfl)
theorem ivP {h : Hp} (s : Sh h) (o : Option (Int × Hp)) (f : Int → Hp → Option (Int × Hp)) : iv h 78 101 o f = cl o f := iv_ok (s.vo 78 101 (by decide) (by decide) rfl)
theorem gP0 {h : Hp} (s : Sh h) (f : Int → Option (Int × Hp)) : gf h 78 101 0 f = f 79 := by rw [gf_ok (s.vo 78 101 (by decide) (by decide) rfl), s.rf 66 rfl]
theorem aP0 {h : Hp} (s : Sh h) {i : Int} (h0 : 0 ≤ i) (h1 : i < 410) (f : Int → Option (Int × Hp)) : al h 79 0 i f = f (rd h 79 i) := al_ok (s.vo 79 0 (by decide) (by decide) rfl) (s.ln 79 410 (by decide) (by decide) rfl) h0 h1
theorem sP0 {h : Hp} (s : Sh h) {i x : Int} (h0 : 0 ≤ i) (h1 : i < 410) (f : Hp → Option (Int × Hp)) : as h 79 0 i x f = f (wr h 79 i x) := as_ok (s.vo 79 0 (by decide) (by decide) rfl) (s.ln 79 410 (by decide) (by decide) rfl) h0 h1
theorem nP0 {h : Hp} (s : Sh h) (f : Int → Option (Int × Hp)) : aln h 79 0 f = f 410 := aln_ok (s.vo 79 0 (by decide) (by decide) rfl) (s.ln 79 410 (by decide) (by decide) rfl)
theorem gP1 {h : Hp} (s : Sh h) (f : Int → Option (Int × Hp)) : gf h 78 101 1 f = f (rd h 78 1) := gf_ok (s.vo 78 101 (by decide) (by decide) rfl)
theorem pP1 {h : Hp} (s : Sh h) (x : Int) (f : Hp → Option (Int × Hp)) : pf h 78 101 1 x f = f (wr h 78 1 x) := pf_ok (s.vo 78 101 (by decide) (by decide) rfl)
theorem gP2 {h : Hp} (s : Sh h) (f : Int → Option (Int × Hp)) : gf h 78 101 2 f = f (rd h 78 2) := gf_ok (s.vo 78 101 (by decide) (by decide) rfl)
theorem pP2 {h : Hp} (s : Sh h) (x : Int) (f : Hp → Option (Int × Hp)) : pf h 78 101 2 x f = f (wr h 78 2 x) := pf_ok (s.vo 78 101 (by decide) (by decide) rfl)
theorem ivN {h : Hp} (s : Sh h) (o : Option (Int × Hp)) (f : Int → Hp → Option (Int × Hp)) : iv h 82 102 o f = cl o f := iv_ok (s.vo 82 102 (by decide) (by decide) rfl)
theorem gN0 {h : Hp} (s : Sh h) (f : Int → Option (Int × Hp)) : gf h 82 102 0 f = f 83 := by rw [gf_ok (s.vo 82 102 (by decide) (by decide) rfl), s.rf 70 rfl]
theorem gN1 {h : Hp} (s : Sh h) (f : Int → Option (Int × Hp)) : gf h 82 102 1 f = f 84 := by rw [gf_ok (s.vo 82 102 (by decide) (by decide) rfl), s.rf 71 rfl]
theorem aN1 {h : Hp} (s : Sh h) {i : Int} (h0 : 0 ≤ i) (h1 : i < 3) (f : Int → Option (Int × Hp)) : al h 84 2 i f = f (rd h 84 i) := al_ok (s.vo 84 2 (by decide) (by decide) rfl) (s.ln 84 3 (by decide) (by decide) rfl) h0 h1
theorem sN1 {h : Hp} (s : Sh h) {i x : Int} (h0 : 0 ≤ i) (h1 : i < 3) (hx : x = 0 ∨ x = 1) (f : Hp → Option (Int × Hp)) : az h 84 i x f = f (wr h 84 i x) := az_ok (s.vo 84 2 (by decide) (by decide) rfl) (s.ln 84 3 (by decide) (by decide) rfl) h0 h1 hx
theorem nN1 {h : Hp} (s : Sh h) (f : Int → Option (Int × Hp)) : aln h 84 2 f = f 3 := aln_ok (s.vo 84 2 (by decide) (by decide) rfl) (s.ln 84 3 (by decide) (by decide) rfl)
theorem gN2 {h : Hp} (s : Sh h) (f : Int → Option (Int × Hp)) : gf h 82 102 2 f = f 85 := by rw [gf_ok (s.vo 82 102 (by decide) (by decide) rfl), s.rf 72 rfl]
theorem gN3 {h : Hp} (s : Sh h) (f : Int → Option (Int × Hp)) : gf h 82 102 3 f = f 91 := by rw [gf_ok (s.vo 82 102 (by decide) (by decide) rfl), s.rf 73 rfl]
theorem gN4 {h : Hp} (s : Sh h) (f : Int → Option (Int × Hp)) : gf h 82 102 4 f = f 92 := by rw [gf_ok (s.vo 82 102 (by decide) (by decide) rfl), s.rf 74 rfl]
theorem aN4 {h : Hp} (s : Sh h) {i : Int} (h0 : 0 ≤ i) (h1 : i < 8) (f : Int → Option (Int × Hp)) : al h 92 0 i f = f (rd h 92 i) := al_ok (s.vo 92 0 (by decide) (by decide) rfl) (s.ln 92 8 (by decide) (by decide) rfl) h0 h1
theorem sN4 {h : Hp} (s : Sh h) {i x : Int} (h0 : 0 ≤ i) (h1 : i < 8) (f : Hp → Option (Int × Hp)) : as h 92 0 i x f = f (wr h 92 i x) := as_ok (s.vo 92 0 (by decide) (by decide) rfl) (s.ln 92 8 (by decide) (by decide) rfl) h0 h1
theorem nN4 {h : Hp} (s : Sh h) (f : Int → Option (Int × Hp)) : aln h 92 0 f = f 8 := aln_ok (s.vo 92 0 (by decide) (by decide) rfl) (s.ln 92 8 (by decide) (by decide) rfl)
theorem gN5 {h : Hp} (s : Sh h) (f : Int → Option (Int × Hp)) : gf h 82 102 5 f = f 93 := by rw [gf_ok (s.vo 82 102 (by decide) (by decide) rfl), s.rf 75 rfl]
theorem aN5 {h : Hp} (s : Sh h) {i : Int} (h0 : 0 ≤ i) (h1 : i < 256) (f : Int → Option (Int × Hp)) : al h 93 0 i f = f (rd h 93 i) := al_ok (s.vo 93 0 (by decide) (by decide) rfl) (s.ln 93 256 (by decide) (by decide) rfl) h0 h1
theorem sN5 {h : Hp} (s : Sh h) {i x : Int} (h0 : 0 ≤ i) (h1 : i < 256) (f : Hp → Option (Int × Hp)) : as h 93 0 i x f = f (wr h 93 i x) := as_ok (s.vo 93 0 (by decide) (by decide) rfl) (s.ln 93 256 (by decide) (by decide) rfl) h0 h1
theorem nN5 {h : Hp} (s : Sh h) (f : Int → Option (Int × Hp)) : aln h 93 0 f = f 256 := aln_ok (s.vo 93 0 (by decide) (by decide) rfl) (s.ln 93 256 (by decide) (by decide) rfl)
theorem gN6 {h : Hp} (s : Sh h) (f : Int → Option (Int × Hp)) : gf h 82 102 6 f = f (rd h 82 6) := gf_ok (s.vo 82 102 (by decide) (by decide) rfl)
theorem pN6 {h : Hp} (s : Sh h) {x : Int} (hx : x = 0 ∨ x = 1) (f : Hp → Option (Int × Hp)) : pz h 82 102 6 x f = f (wr h 82 6 x) := pz_ok (s.vo 82 102 (by decide) (by decide) rfl) hx
theorem gN7 {h : Hp} (s : Sh h) (f : Int → Option (Int × Hp)) : gf h 82 102 7 f = f 94 := by rw [gf_ok (s.vo 82 102 (by decide) (by decide) rfl), s.rf 76 rfl]
theorem aN7 {h : Hp} (s : Sh h) {i : Int} (h0 : 0 ≤ i) (h1 : i < 256) (f : Int → Option (Int × Hp)) : al h 94 0 i f = f (rd h 94 i) := al_ok (s.vo 94 0 (by decide) (by decide) rfl) (s.ln 94 256 (by decide) (by decide) rfl) h0 h1
theorem sN7 {h : Hp} (s : Sh h) {i x : Int} (h0 : 0 ≤ i) (h1 : i < 256) (f : Hp → Option (Int × Hp)) : as h 94 0 i x f = f (wr h 94 i x) := as_ok (s.vo 94 0 (by decide) (by decide) rfl) (s.ln 94 256 (by decide) (by decide) rfl) h0 h1
theorem nN7 {h : Hp} (s : Sh h) (f : Int → Option (Int × Hp)) : aln h 94 0 f = f 256 := aln_ok (s.vo 94 0 (by decide) (by decide) rfl) (s.ln 94 256 (by decide) (by decide) rfl)
theorem gN8 {h : Hp} (s : Sh h) (f : Int → Option (Int × Hp)) : gf h 82 102 8 f = f 95 := by rw [gf_ok (s.vo 82 102 (by decide) (by decide) rfl), s.rf 77 rfl]
theorem gN9 {h : Hp} (s : Sh h) (f : Int → Option (Int × Hp)) : gf h 82 102 9 f = f 96 := by rw [gf_ok (s.vo 82 102 (by decide) (by decide) rfl), s.rf 78 rfl]
theorem aN9 {h : Hp} (s : Sh h) {i : Int} (h0 : 0 ≤ i) (h1 : i < 17) (f : Int → Option (Int × Hp)) : al h 96 0 i f = f (rd h 96 i) := al_ok (s.vo 96 0 (by decide) (by decide) rfl) (s.ln 96 17 (by decide) (by decide) rfl) h0 h1
theorem sN9 {h : Hp} (s : Sh h) {i x : Int} (h0 : 0 ≤ i) (h1 : i < 17) (f : Hp → Option (Int × Hp)) : as h 96 0 i x f = f (wr h 96 i x) := as_ok (s.vo 96 0 (by decide) (by decide) rfl) (s.ln 96 17 (by decide) (by decide) rfl) h0 h1
theorem nN9 {h : Hp} (s : Sh h) (f : Int → Option (Int × Hp)) : aln h 96 0 f = f 17 := aln_ok (s.vo 96 0 (by decide) (by decide) rfl) (s.ln 96 17 (by decide) (by decide) rfl)
theorem ivD {h : Hp} (s : Sh h) (o : Option (Int × Hp)) (f : Int → Hp → Option (Int × Hp)) : iv h 139 109 o f = cl o f := iv_ok (s.vo 139 109 (by decide) (by decide) rfl)
theorem gD0 {h : Hp} (s : Sh h) (f : Int → Option (Int × Hp)) : gf h 139 109 0 f = f 140 := by rw [gf_ok (s.vo 139 109 (by decide) (by decide) rfl), s.rf 98 rfl]
theorem aD0 {h : Hp} (s : Sh h) {i : Int} (h0 : 0 ≤ i) (h1 : i < 20) (f : Int → Option (Int × Hp)) : al h 140 0 i f = f (rd h 140 i) := al_ok (s.vo 140 0 (by decide) (by decide) rfl) (s.ln 140 20 (by decide) (by decide) rfl) h0 h1
theorem sD0 {h : Hp} (s : Sh h) {i x : Int} (h0 : 0 ≤ i) (h1 : i < 20) (f : Hp → Option (Int × Hp)) : as h 140 0 i x f = f (wr h 140 i x) := as_ok (s.vo 140 0 (by decide) (by decide) rfl) (s.ln 140 20 (by decide) (by decide) rfl) h0 h1
theorem nD0 {h : Hp} (s : Sh h) (f : Int → Option (Int × Hp)) : aln h 140 0 f = f 20 := aln_ok (s.vo 140 0 (by decide) (by decide) rfl) (s.ln 140 20 (by decide) (by decide) rfl)
theorem gD1 {h : Hp} (s : Sh h) (f : Int → Option (Int × Hp)) : gf h 139 109 1 f = f 141 := by rw [gf_ok (s.vo 139 109 (by decide) (by decide) rfl), s.rf 99 rfl]
theorem aD1 {h : Hp} (s : Sh h) {i : Int} (h0 : 0 ≤ i) (h1 : i < 20) (f : Int → Option (Int × Hp)) : al h 141 0 i f = f (rd h 141 i) := al_ok (s.vo 141 0 (by decide) (by decide) rfl) (s.ln 141 20 (by decide) (by decide) rfl) h0 h1
theorem sD1 {h : Hp} (s : Sh h) {i x : Int} (h0 : 0 ≤ i) (h1 : i < 20) (f : Hp → Option (Int × Hp)) : as h 141 0 i x f = f (wr h 141 i x) := as_ok (s.vo 141 0 (by decide) (by decide) rfl) (s.ln 141 20 (by decide) (by decide) rfl) h0 h1
theorem nD1 {h : Hp} (s : Sh h) (f : Int → Option (Int × Hp)) : aln h 141 0 f = f 20 := aln_ok (s.vo 141 0 (by decide) (by decide) rfl) (s.ln 141 20 (by decide) (by decide) rfl)
theorem gD2 {h : Hp} (s : Sh h) (f : Int → Option (Int × Hp)) : gf h 139 109 2 f = f 142 := by rw [gf_ok (s.vo 139 109 (by decide) (by decide) rfl), s.rf 100 rfl]
theorem aD2 {h : Hp} (s : Sh h) {i : Int} (h0 : 0 ≤ i) (h1 : i < 20) (f : Int → Option (Int × Hp)) : al h 142 2 i f = f (rd h 142 i) := al_ok (s.vo 142 2 (by decide) (by decide) rfl) (s.ln 142 20 (by decide) (by decide) rfl) h0 h1
theorem sD2 {h : Hp} (s : Sh h) {i x : Int} (h0 : 0 ≤ i) (h1 : i < 20) (hx : x = 0 ∨ x = 1) (f : Hp → Option (Int × Hp)) : az h 142 i x f = f (wr h 142 i x) := az_ok (s.vo 142 2 (by decide) (by decide) rfl) (s.ln 142 20 (by decide) (by decide) rfl) h0 h1 hx
theorem nD2 {h : Hp} (s : Sh h) (f : Int → Option (Int × Hp)) : aln h 142 2 f = f 20 := aln_ok (s.vo 142 2 (by decide) (by decide) rfl) (s.ln 142 20 (by decide) (by decide) rfl)
theorem gD3 {h : Hp} (s : Sh h) (f : Int → Option (Int × Hp)) : gf h 139 109 3 f = f 143 := by rw [gf_ok (s.vo 139 109 (by decide) (by decide) rfl), s.rf 101 rfl]
theorem gD4 {h : Hp} (s : Sh h) (f : Int → Option (Int × Hp)) : gf h 139 109 4 f = f (rd h 139 4) := gf_ok (s.vo 139 109 (by decide) (by decide) rfl)
theorem pD4 {h : Hp} (s : Sh h) (x : Int) (f : Hp → Option (Int × Hp)) : pf h 139 109 4 x f = f (wr h 139 4 x) := pf_ok (s.vo 139 109 (by decide) (by decide) rfl)
def isWkB (a : Int) : Bool := [75, 76, 77, 91, 152, 153, 154, 167, 168, 169, 179, 180, 181, 191, 192, 193].contains a
def isSdB (a : Int) : Bool := [42, 45, 48, 51, 54, 57, 60, 63, 115, 118, 121, 124, 127, 130, 133, 136].contains a
/-- may a cell be written without touching a fixed reference -/
def okW (a i : Int) : Bool := !(refL.any (fun q => q.1 == a && q.2.1 == i))
theorem shOk {h : Hp} (s : Sh h) {a i v : Int} (hk : okW a i = true) : Sh (wr h a i v) := Sh_fld s (fun q hq e => by
  unfold okW at hk
  rw [Bool.not_eq_true', List.any_eq_false] at hk
  have := hk q hq
  simp [e.1, e.2] at this)
theorem okW_arr {a i : Int} (h1 : 1 ≤ a) (hk : a < 254 → kL.getD a.toNat 0 < 4) : okW a i = true := by
  unfold okW
  rw [Bool.not_eq_true', List.any_eq_false]
  intro q hq
  obtain ⟨g1, g2, g3⟩ := refL_kinds q hq
  intro e
  rw [Bool.and_eq_true, beq_iff_eq, beq_iff_eq] at e
  rw [e.1] at g1 g3
  have := hk g3
  omega
/-- a stand, a worker's place, a script, a part's sand, rows: their cells -/
def isSt (s : Int) : Prop := s = 66 ∨ s = 143 ∨ s = 158 ∨ s = 170 ∨ s = 182
def isWk (a : Int) : Prop := a = 75 ∨ a = 76 ∨ a = 77 ∨ a = 91 ∨ a = 152 ∨ a = 153 ∨ a = 154 ∨ a = 167 ∨ a = 168 ∨ a = 169 ∨ a = 179 ∨ a = 180 ∨ a = 181 ∨ a = 191 ∨ a = 192 ∨ a = 193
def isSc (c : Int) : Prop := c = 9 ∨ c = 23
def isSd (a : Int) : Prop := ∃ p, 0 ≤ p ∧ p < 8 ∧ (a = 42 + 3 * p ∨ a = 115 + 3 * p)
def isRw (r : Int) : Prop := r = 85 ∨ r = 97 ∨ r = 103 ∨ r = 109
theorem sd_cases {a : Int} (h : isSd a) : a = 42 ∨ a = 45 ∨ a = 48 ∨ a = 51 ∨ a = 54 ∨ a = 57 ∨ a = 60 ∨ a = 63 ∨ a = 115 ∨ a = 118 ∨ a = 121 ∨ a = 124 ∨ a = 127 ∨ a = 130 ∨ a = 133 ∨ a = 136 := by
  obtain ⟨p, h1, h2, h3⟩ := h
  omega
theorem sd_vo {h : Hp} (s : Sh h) {a : Int} (ha : isSd a) : vo h a 105 := by
  rcases sd_cases ha with e | e | e | e | e | e | e | e | e | e | e | e | e | e | e | e <;> subst e <;> exact s.vo _ 105 (by decide) (by decide) rfl
theorem wk_vo {h : Hp} (s : Sh h) {a : Int} (ha : isWk a) : vo h a 110 := by
  rcases ha with e | e | e | e | e | e | e | e | e | e | e | e | e | e | e | e <;> subst e <;> exact s.vo _ 110 (by decide) (by decide) rfl
theorem wk_ok {a i : Int} (ha : isWk a) : okW a i = true := by
  unfold okW
  rw [Bool.not_eq_true', List.any_eq_false]
  intro q hq e
  rw [Bool.and_eq_true, beq_iff_eq, beq_iff_eq] at e
  have key : ∀ q ∈ refL, ¬ isWkB q.1 = true := by decide +kernel
  refine key q hq ?_
  rw [e.1]
  rcases ha with e | e | e | e | e | e | e | e | e | e | e | e | e | e | e | e <;> subst e <;> rfl
theorem sd_ok {a i : Int} (ha : isSd a) : okW a i = true := by
  unfold okW
  rw [Bool.not_eq_true', List.any_eq_false]
  intro q hq e
  rw [Bool.and_eq_true, beq_iff_eq, beq_iff_eq] at e
  have key : ∀ q ∈ refL, ¬ isSdB q.1 = true := by decide +kernel
  refine key q hq ?_
  rw [e.1]
  rcases sd_cases ha with e | e | e | e | e | e | e | e | e | e | e | e | e | e | e | e <;> subst e <;> rfl
theorem gW {h : Hp} (s : Sh h) {a k : Int} (ha : isWk a) (f : Int → Option (Int × Hp)) : gf h a 110 k f = f (rd h a k) := gf_ok (wk_vo s ha)
theorem pW {h : Hp} (s : Sh h) {a k x : Int} (ha : isWk a) (f : Hp → Option (Int × Hp)) : pf h a 110 k x f = f (wr h a k x) := pf_ok (wk_vo s ha)
theorem ivW {h : Hp} (s : Sh h) {a : Int} (ha : isWk a) (o : Option (Int × Hp)) (f : Int → Hp → Option (Int × Hp)) : iv h a 110 o f = cl o f := iv_ok (wk_vo s ha)
theorem gA {h : Hp} (s : Sh h) {a k : Int} (ha : isSd a) (f : Int → Option (Int × Hp)) : gf h a 105 k f = f (rd h a k) := gf_ok (sd_vo s ha)
theorem pA {h : Hp} (s : Sh h) {a k x : Int} (ha : isSd a) (f : Hp → Option (Int × Hp)) : pf h a 105 k x f = f (wr h a k x) := pf_ok (sd_vo s ha)
theorem ivA {h : Hp} (s : Sh h) {a : Int} (ha : isSd a) (o : Option (Int × Hp)) (f : Int → Hp → Option (Int × Hp)) : iv h a 105 o f = cl o f := iv_ok (sd_vo s ha)
theorem st_vo {h : Hp} (s : Sh h) {b : Int} (hb : isSt b) : vo h b 108 := by
  rcases hb with e | e | e | e | e <;> subst e
  all_goals exact s.vo _ 108 (by decide) (by decide) rfl
theorem ivS {h : Hp} (s : Sh h) {b : Int} (hb : isSt b) (o : Option (Int × Hp)) (f : Int → Hp → Option (Int × Hp)) : iv h b 108 o f = cl o f := iv_ok (st_vo s hb)
theorem gS0 {h : Hp} (s : Sh h) {b : Int} (hb : isSt b) (f : Int → Option (Int × Hp)) : gf h b 108 0 f = f (b + 1) := by
  rcases hb with e | e | e | e | e <;> subst e
  · rw [gf_ok (s.vo 66 108 (by decide) (by decide) rfl), s.rf 55 rfl]; rfl
  · rw [gf_ok (s.vo 143 108 (by decide) (by decide) rfl), s.rf 102 rfl]; rfl
  · rw [gf_ok (s.vo 158 108 (by decide) (by decide) rfl), s.rf 113 rfl]; rfl
  · rw [gf_ok (s.vo 170 108 (by decide) (by decide) rfl), s.rf 124 rfl]; rfl
  · rw [gf_ok (s.vo 182 108 (by decide) (by decide) rfl), s.rf 135 rfl]; rfl
theorem gS1 {h : Hp} (s : Sh h) {b : Int} (hb : isSt b) (f : Int → Option (Int × Hp)) : gf h b 108 1 f = f (b + 2) := by
  rcases hb with e | e | e | e | e <;> subst e
  · rw [gf_ok (s.vo 66 108 (by decide) (by decide) rfl), s.rf 56 rfl]; rfl
  · rw [gf_ok (s.vo 143 108 (by decide) (by decide) rfl), s.rf 103 rfl]; rfl
  · rw [gf_ok (s.vo 158 108 (by decide) (by decide) rfl), s.rf 114 rfl]; rfl
  · rw [gf_ok (s.vo 170 108 (by decide) (by decide) rfl), s.rf 125 rfl]; rfl
  · rw [gf_ok (s.vo 182 108 (by decide) (by decide) rfl), s.rf 136 rfl]; rfl
theorem gS2 {h : Hp} (s : Sh h) {b : Int} (hb : isSt b) (f : Int → Option (Int × Hp)) : gf h b 108 2 f = f (b + 3) := by
  rcases hb with e | e | e | e | e <;> subst e
  · rw [gf_ok (s.vo 66 108 (by decide) (by decide) rfl), s.rf 57 rfl]; rfl
  · rw [gf_ok (s.vo 143 108 (by decide) (by decide) rfl), s.rf 104 rfl]; rfl
  · rw [gf_ok (s.vo 158 108 (by decide) (by decide) rfl), s.rf 115 rfl]; rfl
  · rw [gf_ok (s.vo 170 108 (by decide) (by decide) rfl), s.rf 126 rfl]; rfl
  · rw [gf_ok (s.vo 182 108 (by decide) (by decide) rfl), s.rf 137 rfl]; rfl
theorem gS3 {h : Hp} (s : Sh h) {b : Int} (hb : isSt b) (f : Int → Option (Int × Hp)) : gf h b 108 3 f = f (b + 4) := by
  rcases hb with e | e | e | e | e <;> subst e
  · rw [gf_ok (s.vo 66 108 (by decide) (by decide) rfl), s.rf 58 rfl]; rfl
  · rw [gf_ok (s.vo 143 108 (by decide) (by decide) rfl), s.rf 105 rfl]; rfl
  · rw [gf_ok (s.vo 158 108 (by decide) (by decide) rfl), s.rf 116 rfl]; rfl
  · rw [gf_ok (s.vo 170 108 (by decide) (by decide) rfl), s.rf 127 rfl]; rfl
  · rw [gf_ok (s.vo 182 108 (by decide) (by decide) rfl), s.rf 138 rfl]; rfl
theorem gS4 {h : Hp} (s : Sh h) {b : Int} (hb : isSt b) (f : Int → Option (Int × Hp)) : gf h b 108 4 f = f (b + 5) := by
  rcases hb with e | e | e | e | e <;> subst e
  · rw [gf_ok (s.vo 66 108 (by decide) (by decide) rfl), s.rf 59 rfl]; rfl
  · rw [gf_ok (s.vo 143 108 (by decide) (by decide) rfl), s.rf 106 rfl]; rfl
  · rw [gf_ok (s.vo 158 108 (by decide) (by decide) rfl), s.rf 117 rfl]; rfl
  · rw [gf_ok (s.vo 170 108 (by decide) (by decide) rfl), s.rf 128 rfl]; rfl
  · rw [gf_ok (s.vo 182 108 (by decide) (by decide) rfl), s.rf 139 rfl]; rfl
theorem gS5 {h : Hp} (s : Sh h) {b : Int} (hb : isSt b) (f : Int → Option (Int × Hp)) : gf h b 108 5 f = f (b + 6) := by
  rcases hb with e | e | e | e | e <;> subst e
  · rw [gf_ok (s.vo 66 108 (by decide) (by decide) rfl), s.rf 60 rfl]; rfl
  · rw [gf_ok (s.vo 143 108 (by decide) (by decide) rfl), s.rf 107 rfl]; rfl
  · rw [gf_ok (s.vo 158 108 (by decide) (by decide) rfl), s.rf 118 rfl]; rfl
  · rw [gf_ok (s.vo 170 108 (by decide) (by decide) rfl), s.rf 129 rfl]; rfl
  · rw [gf_ok (s.vo 182 108 (by decide) (by decide) rfl), s.rf 140 rfl]; rfl
theorem gS6 {h : Hp} (s : Sh h) {b : Int} (hb : isSt b) (f : Int → Option (Int × Hp)) : gf h b 108 6 f = f (b + 7) := by
  rcases hb with e | e | e | e | e <;> subst e
  · rw [gf_ok (s.vo 66 108 (by decide) (by decide) rfl), s.rf 61 rfl]; rfl
  · rw [gf_ok (s.vo 143 108 (by decide) (by decide) rfl), s.rf 108 rfl]; rfl
  · rw [gf_ok (s.vo 158 108 (by decide) (by decide) rfl), s.rf 119 rfl]; rfl
  · rw [gf_ok (s.vo 170 108 (by decide) (by decide) rfl), s.rf 130 rfl]; rfl
  · rw [gf_ok (s.vo 182 108 (by decide) (by decide) rfl), s.rf 141 rfl]; rfl
theorem gS7 {h : Hp} (s : Sh h) {b : Int} (hb : isSt b) (f : Int → Option (Int × Hp)) : gf h b 108 7 f = f (b + 8) := by
  rcases hb with e | e | e | e | e <;> subst e
  · rw [gf_ok (s.vo 66 108 (by decide) (by decide) rfl), s.rf 62 rfl]; rfl
  · rw [gf_ok (s.vo 143 108 (by decide) (by decide) rfl), s.rf 109 rfl]; rfl
  · rw [gf_ok (s.vo 158 108 (by decide) (by decide) rfl), s.rf 120 rfl]; rfl
  · rw [gf_ok (s.vo 170 108 (by decide) (by decide) rfl), s.rf 131 rfl]; rfl
  · rw [gf_ok (s.vo 182 108 (by decide) (by decide) rfl), s.rf 142 rfl]; rfl
theorem gS8 {h : Hp} (s : Sh h) {b : Int} (hb : isSt b) (f : Int → Option (Int × Hp)) : gf h b 108 8 f = f (rd h b 8) := gf_ok (st_vo s hb)
theorem pS8 {h : Hp} (s : Sh h) {b : Int} (hb : isSt b) (x : Int) (f : Hp → Option (Int × Hp)) : pf h b 108 8 x f = f (wr h b 8 x) := pf_ok (st_vo s hb)
theorem aS0 {h : Hp} (s : Sh h) {b i : Int} (hb : isSt b) (h0 : 0 ≤ i) (h1 : i < 3) (f : Int → Option (Int × Hp)) : al h (b + 1) 7 i f = f (b + 9 + i) := by
  rcases hb with e | e | e | e | e <;> subst e
  · obtain rfl | rfl | rfl : i = 0 ∨ i = 1 ∨ i = 2 := by omega
    · show al h 67 7 0 f = f 75; rw [al_ok (s.vo 67 7 (by decide) (by decide) rfl) (s.ln 67 3 (by decide) (by decide) rfl) (by decide) (by decide), s.rf 63 rfl]
    · show al h 67 7 1 f = f 76; rw [al_ok (s.vo 67 7 (by decide) (by decide) rfl) (s.ln 67 3 (by decide) (by decide) rfl) (by decide) (by decide), s.rf 64 rfl]
    · show al h 67 7 2 f = f 77; rw [al_ok (s.vo 67 7 (by decide) (by decide) rfl) (s.ln 67 3 (by decide) (by decide) rfl) (by decide) (by decide), s.rf 65 rfl]
  · obtain rfl | rfl | rfl : i = 0 ∨ i = 1 ∨ i = 2 := by omega
    · show al h 144 7 0 f = f 152; rw [al_ok (s.vo 144 7 (by decide) (by decide) rfl) (s.ln 144 3 (by decide) (by decide) rfl) (by decide) (by decide), s.rf 110 rfl]
    · show al h 144 7 1 f = f 153; rw [al_ok (s.vo 144 7 (by decide) (by decide) rfl) (s.ln 144 3 (by decide) (by decide) rfl) (by decide) (by decide), s.rf 111 rfl]
    · show al h 144 7 2 f = f 154; rw [al_ok (s.vo 144 7 (by decide) (by decide) rfl) (s.ln 144 3 (by decide) (by decide) rfl) (by decide) (by decide), s.rf 112 rfl]
  · obtain rfl | rfl | rfl : i = 0 ∨ i = 1 ∨ i = 2 := by omega
    · show al h 159 7 0 f = f 167; rw [al_ok (s.vo 159 7 (by decide) (by decide) rfl) (s.ln 159 3 (by decide) (by decide) rfl) (by decide) (by decide), s.rf 121 rfl]
    · show al h 159 7 1 f = f 168; rw [al_ok (s.vo 159 7 (by decide) (by decide) rfl) (s.ln 159 3 (by decide) (by decide) rfl) (by decide) (by decide), s.rf 122 rfl]
    · show al h 159 7 2 f = f 169; rw [al_ok (s.vo 159 7 (by decide) (by decide) rfl) (s.ln 159 3 (by decide) (by decide) rfl) (by decide) (by decide), s.rf 123 rfl]
  · obtain rfl | rfl | rfl : i = 0 ∨ i = 1 ∨ i = 2 := by omega
    · show al h 171 7 0 f = f 179; rw [al_ok (s.vo 171 7 (by decide) (by decide) rfl) (s.ln 171 3 (by decide) (by decide) rfl) (by decide) (by decide), s.rf 132 rfl]
    · show al h 171 7 1 f = f 180; rw [al_ok (s.vo 171 7 (by decide) (by decide) rfl) (s.ln 171 3 (by decide) (by decide) rfl) (by decide) (by decide), s.rf 133 rfl]
    · show al h 171 7 2 f = f 181; rw [al_ok (s.vo 171 7 (by decide) (by decide) rfl) (s.ln 171 3 (by decide) (by decide) rfl) (by decide) (by decide), s.rf 134 rfl]
  · obtain rfl | rfl | rfl : i = 0 ∨ i = 1 ∨ i = 2 := by omega
    · show al h 183 7 0 f = f 191; rw [al_ok (s.vo 183 7 (by decide) (by decide) rfl) (s.ln 183 3 (by decide) (by decide) rfl) (by decide) (by decide), s.rf 143 rfl]
    · show al h 183 7 1 f = f 192; rw [al_ok (s.vo 183 7 (by decide) (by decide) rfl) (s.ln 183 3 (by decide) (by decide) rfl) (by decide) (by decide), s.rf 144 rfl]
    · show al h 183 7 2 f = f 193; rw [al_ok (s.vo 183 7 (by decide) (by decide) rfl) (s.ln 183 3 (by decide) (by decide) rfl) (by decide) (by decide), s.rf 145 rfl]
theorem aS1 {h : Hp} (s : Sh h) {b i : Int} (hb : isSt b) (h0 : 0 ≤ i) (h1 : i < 8) (f : Int → Option (Int × Hp)) : al h (b + 2) 0 i f = f (rd h (b + 2) i) := by
  rcases hb with e | e | e | e | e <;> subst e
  all_goals exact al_ok (s.vo _ 0 (by decide) (by decide) rfl) (s.ln _ 8 (by decide) (by decide) rfl) h0 h1
theorem sS1 {h : Hp} (s : Sh h) {b i x : Int} (hb : isSt b) (h0 : 0 ≤ i) (h1 : i < 8) (f : Hp → Option (Int × Hp)) : as h (b + 2) 0 i x f = f (wr h (b + 2) i x) := by
  rcases hb with e | e | e | e | e <;> subst e
  all_goals exact as_ok (s.vo _ 0 (by decide) (by decide) rfl) (s.ln _ 8 (by decide) (by decide) rfl) h0 h1
theorem aS2 {h : Hp} (s : Sh h) {b i : Int} (hb : isSt b) (h0 : 0 ≤ i) (h1 : i < 8) (f : Int → Option (Int × Hp)) : al h (b + 3) 0 i f = f (rd h (b + 3) i) := by
  rcases hb with e | e | e | e | e <;> subst e
  all_goals exact al_ok (s.vo _ 0 (by decide) (by decide) rfl) (s.ln _ 8 (by decide) (by decide) rfl) h0 h1
theorem sS2 {h : Hp} (s : Sh h) {b i x : Int} (hb : isSt b) (h0 : 0 ≤ i) (h1 : i < 8) (f : Hp → Option (Int × Hp)) : as h (b + 3) 0 i x f = f (wr h (b + 3) i x) := by
  rcases hb with e | e | e | e | e <;> subst e
  all_goals exact as_ok (s.vo _ 0 (by decide) (by decide) rfl) (s.ln _ 8 (by decide) (by decide) rfl) h0 h1
theorem aS3 {h : Hp} (s : Sh h) {b i : Int} (hb : isSt b) (h0 : 0 ≤ i) (h1 : i < 8) (f : Int → Option (Int × Hp)) : al h (b + 4) 0 i f = f (rd h (b + 4) i) := by
  rcases hb with e | e | e | e | e <;> subst e
  all_goals exact al_ok (s.vo _ 0 (by decide) (by decide) rfl) (s.ln _ 8 (by decide) (by decide) rfl) h0 h1
theorem sS3 {h : Hp} (s : Sh h) {b i x : Int} (hb : isSt b) (h0 : 0 ≤ i) (h1 : i < 8) (f : Hp → Option (Int × Hp)) : as h (b + 4) 0 i x f = f (wr h (b + 4) i x) := by
  rcases hb with e | e | e | e | e <;> subst e
  all_goals exact as_ok (s.vo _ 0 (by decide) (by decide) rfl) (s.ln _ 8 (by decide) (by decide) rfl) h0 h1
theorem aS4 {h : Hp} (s : Sh h) {b i : Int} (hb : isSt b) (h0 : 0 ≤ i) (h1 : i < 8) (f : Int → Option (Int × Hp)) : al h (b + 5) 2 i f = f (rd h (b + 5) i) := by
  rcases hb with e | e | e | e | e <;> subst e
  all_goals exact al_ok (s.vo _ 2 (by decide) (by decide) rfl) (s.ln _ 8 (by decide) (by decide) rfl) h0 h1
theorem sS4 {h : Hp} (s : Sh h) {b i x : Int} (hb : isSt b) (h0 : 0 ≤ i) (h1 : i < 8) (hx : x = 0 ∨ x = 1) (f : Hp → Option (Int × Hp)) : az h (b + 5) i x f = f (wr h (b + 5) i x) := by
  rcases hb with e | e | e | e | e <;> subst e
  all_goals exact az_ok (s.vo _ 2 (by decide) (by decide) rfl) (s.ln _ 8 (by decide) (by decide) rfl) h0 h1 hx
theorem aS5 {h : Hp} (s : Sh h) {b i : Int} (hb : isSt b) (h0 : 0 ≤ i) (h1 : i < 30) (f : Int → Option (Int × Hp)) : al h (b + 6) 0 i f = f (rd h (b + 6) i) := by
  rcases hb with e | e | e | e | e <;> subst e
  all_goals exact al_ok (s.vo _ 0 (by decide) (by decide) rfl) (s.ln _ 30 (by decide) (by decide) rfl) h0 h1
theorem sS5 {h : Hp} (s : Sh h) {b i x : Int} (hb : isSt b) (h0 : 0 ≤ i) (h1 : i < 30) (f : Hp → Option (Int × Hp)) : as h (b + 6) 0 i x f = f (wr h (b + 6) i x) := by
  rcases hb with e | e | e | e | e <;> subst e
  all_goals exact as_ok (s.vo _ 0 (by decide) (by decide) rfl) (s.ln _ 30 (by decide) (by decide) rfl) h0 h1
theorem aS6 {h : Hp} (s : Sh h) {b i : Int} (hb : isSt b) (h0 : 0 ≤ i) (h1 : i < 30) (f : Int → Option (Int × Hp)) : al h (b + 7) 0 i f = f (rd h (b + 7) i) := by
  rcases hb with e | e | e | e | e <;> subst e
  all_goals exact al_ok (s.vo _ 0 (by decide) (by decide) rfl) (s.ln _ 30 (by decide) (by decide) rfl) h0 h1
theorem sS6 {h : Hp} (s : Sh h) {b i x : Int} (hb : isSt b) (h0 : 0 ≤ i) (h1 : i < 30) (f : Hp → Option (Int × Hp)) : as h (b + 7) 0 i x f = f (wr h (b + 7) i x) := by
  rcases hb with e | e | e | e | e <;> subst e
  all_goals exact as_ok (s.vo _ 0 (by decide) (by decide) rfl) (s.ln _ 30 (by decide) (by decide) rfl) h0 h1
theorem aS7 {h : Hp} (s : Sh h) {b i : Int} (hb : isSt b) (h0 : 0 ≤ i) (h1 : i < 30) (f : Int → Option (Int × Hp)) : al h (b + 8) 0 i f = f (rd h (b + 8) i) := by
  rcases hb with e | e | e | e | e <;> subst e
  all_goals exact al_ok (s.vo _ 0 (by decide) (by decide) rfl) (s.ln _ 30 (by decide) (by decide) rfl) h0 h1
theorem sS7 {h : Hp} (s : Sh h) {b i x : Int} (hb : isSt b) (h0 : 0 ≤ i) (h1 : i < 30) (f : Hp → Option (Int × Hp)) : as h (b + 8) 0 i x f = f (wr h (b + 8) i x) := by
  rcases hb with e | e | e | e | e <;> subst e
  all_goals exact as_ok (s.vo _ 0 (by decide) (by decide) rfl) (s.ln _ 30 (by decide) (by decide) rfl) h0 h1
theorem okS {b j i : Int} (hb : isSt b) (hj : 2 ≤ j ∧ j ≤ 8) : okW (b + j) i = true := by
  refine okW_arr (by unfold isSt at hb; omega) (fun _ => ?_)
  have hj2 : j = 2 ∨ j = 3 ∨ j = 4 ∨ j = 5 ∨ j = 6 ∨ j = 7 ∨ j = 8 := by omega
  rcases hb with e | e | e | e | e <;> subst e <;> rcases hj2 with e | e | e | e | e | e | e <;> subst e <;> decide
theorem okS8 {b : Int} (hb : isSt b) : okW b 8 = true := by
  rcases hb with e | e | e | e | e <;> subst e
  all_goals decide +kernel
theorem stWk {b i : Int} (hb : isSt b) (h0 : 0 ≤ i ∧ i < 3) : isWk (b + 9 + i) := by
  unfold isSt at hb
  unfold isWk
  omega
theorem sc_vo {h : Hp} (s : Sh h) {b : Int} (hb : isSc b) : vo h b 106 := by
  rcases hb with e | e <;> subst e
  all_goals exact s.vo _ 106 (by decide) (by decide) rfl
theorem ivC {h : Hp} (s : Sh h) {b : Int} (hb : isSc b) (o : Option (Int × Hp)) (f : Int → Hp → Option (Int × Hp)) : iv h b 106 o f = cl o f := iv_ok (sc_vo s hb)
theorem gC0 {h : Hp} (s : Sh h) {b : Int} (hb : isSc b) (f : Int → Option (Int × Hp)) : gf h b 106 0 f = f (b + 1) := by
  rcases hb with e | e <;> subst e
  · rw [gf_ok (s.vo 9 106 (by decide) (by decide) rfl), s.rf 17 rfl]; rfl
  · rw [gf_ok (s.vo 23 106 (by decide) (by decide) rfl), s.rf 35 rfl]; rfl
theorem aC0 {h : Hp} (s : Sh h) {b i : Int} (hb : isSc b) (h0 : 0 ≤ i) (h1 : i < 8) (f : Int → Option (Int × Hp)) : al h (b + 1) 0 i f = f (rd h (b + 1) i) := by
  rcases hb with e | e <;> subst e
  all_goals exact al_ok (s.vo _ 0 (by decide) (by decide) rfl) (s.ln _ 8 (by decide) (by decide) rfl) h0 h1
theorem sC0 {h : Hp} (s : Sh h) {b i x : Int} (hb : isSc b) (h0 : 0 ≤ i) (h1 : i < 8) (f : Hp → Option (Int × Hp)) : as h (b + 1) 0 i x f = f (wr h (b + 1) i x) := by
  rcases hb with e | e <;> subst e
  all_goals exact as_ok (s.vo _ 0 (by decide) (by decide) rfl) (s.ln _ 8 (by decide) (by decide) rfl) h0 h1
theorem gC1 {h : Hp} (s : Sh h) {b : Int} (hb : isSc b) (f : Int → Option (Int × Hp)) : gf h b 106 1 f = f (b + 2) := by
  rcases hb with e | e <;> subst e
  · rw [gf_ok (s.vo 9 106 (by decide) (by decide) rfl), s.rf 18 rfl]; rfl
  · rw [gf_ok (s.vo 23 106 (by decide) (by decide) rfl), s.rf 36 rfl]; rfl
theorem aC1 {h : Hp} (s : Sh h) {b i : Int} (hb : isSc b) (h0 : 0 ≤ i) (h1 : i < 8) (f : Int → Option (Int × Hp)) : al h (b + 2) 0 i f = f (rd h (b + 2) i) := by
  rcases hb with e | e <;> subst e
  all_goals exact al_ok (s.vo _ 0 (by decide) (by decide) rfl) (s.ln _ 8 (by decide) (by decide) rfl) h0 h1
theorem sC1 {h : Hp} (s : Sh h) {b i x : Int} (hb : isSc b) (h0 : 0 ≤ i) (h1 : i < 8) (f : Hp → Option (Int × Hp)) : as h (b + 2) 0 i x f = f (wr h (b + 2) i x) := by
  rcases hb with e | e <;> subst e
  all_goals exact as_ok (s.vo _ 0 (by decide) (by decide) rfl) (s.ln _ 8 (by decide) (by decide) rfl) h0 h1
theorem gC2 {h : Hp} (s : Sh h) {b : Int} (hb : isSc b) (f : Int → Option (Int × Hp)) : gf h b 106 2 f = f (b + 3) := by
  rcases hb with e | e <;> subst e
  · rw [gf_ok (s.vo 9 106 (by decide) (by decide) rfl), s.rf 19 rfl]; rfl
  · rw [gf_ok (s.vo 23 106 (by decide) (by decide) rfl), s.rf 37 rfl]; rfl
theorem aC2 {h : Hp} (s : Sh h) {b i : Int} (hb : isSc b) (h0 : 0 ≤ i) (h1 : i < 8) (f : Int → Option (Int × Hp)) : al h (b + 3) 0 i f = f (rd h (b + 3) i) := by
  rcases hb with e | e <;> subst e
  all_goals exact al_ok (s.vo _ 0 (by decide) (by decide) rfl) (s.ln _ 8 (by decide) (by decide) rfl) h0 h1
theorem sC2 {h : Hp} (s : Sh h) {b i x : Int} (hb : isSc b) (h0 : 0 ≤ i) (h1 : i < 8) (f : Hp → Option (Int × Hp)) : as h (b + 3) 0 i x f = f (wr h (b + 3) i x) := by
  rcases hb with e | e <;> subst e
  all_goals exact as_ok (s.vo _ 0 (by decide) (by decide) rfl) (s.ln _ 8 (by decide) (by decide) rfl) h0 h1
theorem gC3 {h : Hp} (s : Sh h) {b : Int} (hb : isSc b) (f : Int → Option (Int × Hp)) : gf h b 106 3 f = f (b + 4) := by
  rcases hb with e | e <;> subst e
  · rw [gf_ok (s.vo 9 106 (by decide) (by decide) rfl), s.rf 20 rfl]; rfl
  · rw [gf_ok (s.vo 23 106 (by decide) (by decide) rfl), s.rf 38 rfl]; rfl
theorem aC3 {h : Hp} (s : Sh h) {b i : Int} (hb : isSc b) (h0 : 0 ≤ i) (h1 : i < 8) (f : Int → Option (Int × Hp)) : al h (b + 4) 0 i f = f (rd h (b + 4) i) := by
  rcases hb with e | e <;> subst e
  all_goals exact al_ok (s.vo _ 0 (by decide) (by decide) rfl) (s.ln _ 8 (by decide) (by decide) rfl) h0 h1
theorem sC3 {h : Hp} (s : Sh h) {b i x : Int} (hb : isSc b) (h0 : 0 ≤ i) (h1 : i < 8) (f : Hp → Option (Int × Hp)) : as h (b + 4) 0 i x f = f (wr h (b + 4) i x) := by
  rcases hb with e | e <;> subst e
  all_goals exact as_ok (s.vo _ 0 (by decide) (by decide) rfl) (s.ln _ 8 (by decide) (by decide) rfl) h0 h1
theorem gC4 {h : Hp} (s : Sh h) {b : Int} (hb : isSc b) (f : Int → Option (Int × Hp)) : gf h b 106 4 f = f (rd h b 4) := gf_ok (sc_vo s hb)
theorem pC4 {h : Hp} (s : Sh h) {b : Int} (hb : isSc b) (x : Int) (f : Hp → Option (Int × Hp)) : pf h b 106 4 x f = f (wr h b 4 x) := pf_ok (sc_vo s hb)
theorem okC4 {b : Int} (hb : isSc b) : okW b 4 = true := by
  rcases hb with e | e <;> subst e
  all_goals decide +kernel
theorem gC5 {h : Hp} (s : Sh h) {b : Int} (hb : isSc b) (f : Int → Option (Int × Hp)) : gf h b 106 5 f = f (b + 5) := by
  rcases hb with e | e <;> subst e
  · rw [gf_ok (s.vo 9 106 (by decide) (by decide) rfl), s.rf 21 rfl]; rfl
  · rw [gf_ok (s.vo 23 106 (by decide) (by decide) rfl), s.rf 39 rfl]; rfl
theorem aC5 {h : Hp} (s : Sh h) {b i : Int} (hb : isSc b) (h0 : 0 ≤ i) (h1 : i < 3) (f : Int → Option (Int × Hp)) : al h (b + 5) 0 i f = f (rd h (b + 5) i) := by
  rcases hb with e | e <;> subst e
  all_goals exact al_ok (s.vo _ 0 (by decide) (by decide) rfl) (s.ln _ 3 (by decide) (by decide) rfl) h0 h1
theorem sC5 {h : Hp} (s : Sh h) {b i x : Int} (hb : isSc b) (h0 : 0 ≤ i) (h1 : i < 3) (f : Hp → Option (Int × Hp)) : as h (b + 5) 0 i x f = f (wr h (b + 5) i x) := by
  rcases hb with e | e <;> subst e
  all_goals exact as_ok (s.vo _ 0 (by decide) (by decide) rfl) (s.ln _ 3 (by decide) (by decide) rfl) h0 h1
theorem gC6 {h : Hp} (s : Sh h) {b : Int} (hb : isSc b) (f : Int → Option (Int × Hp)) : gf h b 106 6 f = f (b + 6) := by
  rcases hb with e | e <;> subst e
  · rw [gf_ok (s.vo 9 106 (by decide) (by decide) rfl), s.rf 22 rfl]; rfl
  · rw [gf_ok (s.vo 23 106 (by decide) (by decide) rfl), s.rf 40 rfl]; rfl
theorem aC6 {h : Hp} (s : Sh h) {b i : Int} (hb : isSc b) (h0 : 0 ≤ i) (h1 : i < 3) (f : Int → Option (Int × Hp)) : al h (b + 6) 0 i f = f (rd h (b + 6) i) := by
  rcases hb with e | e <;> subst e
  all_goals exact al_ok (s.vo _ 0 (by decide) (by decide) rfl) (s.ln _ 3 (by decide) (by decide) rfl) h0 h1
theorem sC6 {h : Hp} (s : Sh h) {b i x : Int} (hb : isSc b) (h0 : 0 ≤ i) (h1 : i < 3) (f : Hp → Option (Int × Hp)) : as h (b + 6) 0 i x f = f (wr h (b + 6) i x) := by
  rcases hb with e | e <;> subst e
  all_goals exact as_ok (s.vo _ 0 (by decide) (by decide) rfl) (s.ln _ 3 (by decide) (by decide) rfl) h0 h1
theorem gC7 {h : Hp} (s : Sh h) {b : Int} (hb : isSc b) (f : Int → Option (Int × Hp)) : gf h b 106 7 f = f (b + 7) := by
  rcases hb with e | e <;> subst e
  · rw [gf_ok (s.vo 9 106 (by decide) (by decide) rfl), s.rf 23 rfl]; rfl
  · rw [gf_ok (s.vo 23 106 (by decide) (by decide) rfl), s.rf 41 rfl]; rfl
theorem aC7 {h : Hp} (s : Sh h) {b i : Int} (hb : isSc b) (h0 : 0 ≤ i) (h1 : i < 3) (f : Int → Option (Int × Hp)) : al h (b + 7) 0 i f = f (rd h (b + 7) i) := by
  rcases hb with e | e <;> subst e
  all_goals exact al_ok (s.vo _ 0 (by decide) (by decide) rfl) (s.ln _ 3 (by decide) (by decide) rfl) h0 h1
theorem sC7 {h : Hp} (s : Sh h) {b i x : Int} (hb : isSc b) (h0 : 0 ≤ i) (h1 : i < 3) (f : Hp → Option (Int × Hp)) : as h (b + 7) 0 i x f = f (wr h (b + 7) i x) := by
  rcases hb with e | e <;> subst e
  all_goals exact as_ok (s.vo _ 0 (by decide) (by decide) rfl) (s.ln _ 3 (by decide) (by decide) rfl) h0 h1
theorem gC8 {h : Hp} (s : Sh h) {b : Int} (hb : isSc b) (f : Int → Option (Int × Hp)) : gf h b 106 8 f = f (rd h b 8) := gf_ok (sc_vo s hb)
theorem pC8 {h : Hp} (s : Sh h) {b : Int} (hb : isSc b) (x : Int) (f : Hp → Option (Int × Hp)) : pf h b 106 8 x f = f (wr h b 8 x) := pf_ok (sc_vo s hb)
theorem okC8 {b : Int} (hb : isSc b) : okW b 8 = true := by
  rcases hb with e | e <;> subst e
  all_goals decide +kernel
theorem gC9 {h : Hp} (s : Sh h) {b : Int} (hb : isSc b) (f : Int → Option (Int × Hp)) : gf h b 106 9 f = f (rd h b 9) := gf_ok (sc_vo s hb)
theorem pC9 {h : Hp} (s : Sh h) {b : Int} (hb : isSc b) (x : Int) (f : Hp → Option (Int × Hp)) : pf h b 106 9 x f = f (wr h b 9 x) := pf_ok (sc_vo s hb)
theorem okC9 {b : Int} (hb : isSc b) : okW b 9 = true := by
  rcases hb with e | e <;> subst e
  all_goals decide +kernel
theorem gC10 {h : Hp} (s : Sh h) {b : Int} (hb : isSc b) (f : Int → Option (Int × Hp)) : gf h b 106 10 f = f (rd h b 10) := gf_ok (sc_vo s hb)
theorem pC10 {h : Hp} (s : Sh h) {b : Int} (hb : isSc b) (x : Int) (f : Hp → Option (Int × Hp)) : pf h b 106 10 x f = f (wr h b 10 x) := pf_ok (sc_vo s hb)
theorem okC10 {b : Int} (hb : isSc b) : okW b 10 = true := by
  rcases hb with e | e <;> subst e
  all_goals decide +kernel
theorem gC11 {h : Hp} (s : Sh h) {b : Int} (hb : isSc b) (f : Int → Option (Int × Hp)) : gf h b 106 11 f = f (rd h b 11) := gf_ok (sc_vo s hb)
theorem pC11 {h : Hp} (s : Sh h) {b : Int} (hb : isSc b) (x : Int) (f : Hp → Option (Int × Hp)) : pf h b 106 11 x f = f (wr h b 11 x) := pf_ok (sc_vo s hb)
theorem okC11 {b : Int} (hb : isSc b) : okW b 11 = true := by
  rcases hb with e | e <;> subst e
  all_goals decide +kernel
theorem gC12 {h : Hp} (s : Sh h) {b : Int} (hb : isSc b) (f : Int → Option (Int × Hp)) : gf h b 106 12 f = f (rd h b 12) := gf_ok (sc_vo s hb)
theorem pC12 {h : Hp} (s : Sh h) {b : Int} (hb : isSc b) (x : Int) (f : Hp → Option (Int × Hp)) : pf h b 106 12 x f = f (wr h b 12 x) := pf_ok (sc_vo s hb)
theorem okC12 {b : Int} (hb : isSc b) : okW b 12 = true := by
  rcases hb with e | e <;> subst e
  all_goals decide +kernel
theorem gC13 {h : Hp} (s : Sh h) {b : Int} (hb : isSc b) (f : Int → Option (Int × Hp)) : gf h b 106 13 f = f (rd h b 13) := gf_ok (sc_vo s hb)
theorem pC13 {h : Hp} (s : Sh h) {b : Int} (hb : isSc b) (x : Int) (f : Hp → Option (Int × Hp)) : pf h b 106 13 x f = f (wr h b 13 x) := pf_ok (sc_vo s hb)
theorem okC13 {b : Int} (hb : isSc b) : okW b 13 = true := by
  rcases hb with e | e <;> subst e
  all_goals decide +kernel
theorem gC14 {h : Hp} (s : Sh h) {b : Int} (hb : isSc b) (f : Int → Option (Int × Hp)) : gf h b 106 14 f = f (b + 8) := by
  rcases hb with e | e <;> subst e
  · rw [gf_ok (s.vo 9 106 (by decide) (by decide) rfl), s.rf 24 rfl]; rfl
  · rw [gf_ok (s.vo 23 106 (by decide) (by decide) rfl), s.rf 42 rfl]; rfl
theorem lw_vo {h : Hp} (s : Sh h) {b : Int} (hb : isSc b) : vo h (b + 8) 100 := by
  rcases hb with e | e <;> subst e
  all_goals exact s.vo _ 100 (by decide) (by decide) rfl
theorem ivL {h : Hp} (s : Sh h) {b : Int} (hb : isSc b) (o : Option (Int × Hp)) (f : Int → Hp → Option (Int × Hp)) : iv h (b + 8) 100 o f = cl o f := iv_ok (lw_vo s hb)
theorem gL0 {h : Hp} (s : Sh h) {b : Int} (hb : isSc b) (f : Int → Option (Int × Hp)) : gf h (b + 8) 100 0 f = f (b + 9) := by
  rcases hb with e | e <;> subst e
  · show gf h 17 100 0 f = f 18; rw [gf_ok (s.vo 17 100 (by decide) (by decide) rfl), s.rf 25 rfl]
  · show gf h 31 100 0 f = f 32; rw [gf_ok (s.vo 31 100 (by decide) (by decide) rfl), s.rf 43 rfl]
theorem aL0 {h : Hp} (s : Sh h) {b i : Int} (hb : isSc b) (h0 : 0 ≤ i) (h1 : i < 450) (f : Int → Option (Int × Hp)) : al h (b + 9) 0 i f = f (rd h (b + 9) i) := by
  rcases hb with e | e <;> subst e
  all_goals exact al_ok (s.vo _ 0 (by decide) (by decide) rfl) (s.ln _ 450 (by decide) (by decide) rfl) h0 h1
theorem sL0 {h : Hp} (s : Sh h) {b i x : Int} (hb : isSc b) (h0 : 0 ≤ i) (h1 : i < 450) (f : Hp → Option (Int × Hp)) : as h (b + 9) 0 i x f = f (wr h (b + 9) i x) := by
  rcases hb with e | e <;> subst e
  all_goals exact as_ok (s.vo _ 0 (by decide) (by decide) rfl) (s.ln _ 450 (by decide) (by decide) rfl) h0 h1
theorem gL1 {h : Hp} (s : Sh h) {b : Int} (hb : isSc b) (f : Int → Option (Int × Hp)) : gf h (b + 8) 100 1 f = f (b + 10) := by
  rcases hb with e | e <;> subst e
  · show gf h 17 100 1 f = f 19; rw [gf_ok (s.vo 17 100 (by decide) (by decide) rfl), s.rf 26 rfl]
  · show gf h 31 100 1 f = f 33; rw [gf_ok (s.vo 31 100 (by decide) (by decide) rfl), s.rf 44 rfl]
theorem aL1 {h : Hp} (s : Sh h) {b i : Int} (hb : isSc b) (h0 : 0 ≤ i) (h1 : i < 5) (f : Int → Option (Int × Hp)) : al h (b + 10) 0 i f = f (rd h (b + 10) i) := by
  rcases hb with e | e <;> subst e
  all_goals exact al_ok (s.vo _ 0 (by decide) (by decide) rfl) (s.ln _ 5 (by decide) (by decide) rfl) h0 h1
theorem sL1 {h : Hp} (s : Sh h) {b i x : Int} (hb : isSc b) (h0 : 0 ≤ i) (h1 : i < 5) (f : Hp → Option (Int × Hp)) : as h (b + 10) 0 i x f = f (wr h (b + 10) i x) := by
  rcases hb with e | e <;> subst e
  all_goals exact as_ok (s.vo _ 0 (by decide) (by decide) rfl) (s.ln _ 5 (by decide) (by decide) rfl) h0 h1
theorem gL2 {h : Hp} (s : Sh h) {b : Int} (hb : isSc b) (f : Int → Option (Int × Hp)) : gf h (b + 8) 100 2 f = f (b + 11) := by
  rcases hb with e | e <;> subst e
  · show gf h 17 100 2 f = f 20; rw [gf_ok (s.vo 17 100 (by decide) (by decide) rfl), s.rf 27 rfl]
  · show gf h 31 100 2 f = f 34; rw [gf_ok (s.vo 31 100 (by decide) (by decide) rfl), s.rf 45 rfl]
theorem aL2 {h : Hp} (s : Sh h) {b i : Int} (hb : isSc b) (h0 : 0 ≤ i) (h1 : i < 5) (f : Int → Option (Int × Hp)) : al h (b + 11) 0 i f = f (rd h (b + 11) i) := by
  rcases hb with e | e <;> subst e
  all_goals exact al_ok (s.vo _ 0 (by decide) (by decide) rfl) (s.ln _ 5 (by decide) (by decide) rfl) h0 h1
theorem sL2 {h : Hp} (s : Sh h) {b i x : Int} (hb : isSc b) (h0 : 0 ≤ i) (h1 : i < 5) (f : Hp → Option (Int × Hp)) : as h (b + 11) 0 i x f = f (wr h (b + 11) i x) := by
  rcases hb with e | e <;> subst e
  all_goals exact as_ok (s.vo _ 0 (by decide) (by decide) rfl) (s.ln _ 5 (by decide) (by decide) rfl) h0 h1
theorem gL3 {h : Hp} (s : Sh h) {b : Int} (hb : isSc b) (f : Int → Option (Int × Hp)) : gf h (b + 8) 100 3 f = f (b + 12) := by
  rcases hb with e | e <;> subst e
  · show gf h 17 100 3 f = f 21; rw [gf_ok (s.vo 17 100 (by decide) (by decide) rfl), s.rf 28 rfl]
  · show gf h 31 100 3 f = f 35; rw [gf_ok (s.vo 31 100 (by decide) (by decide) rfl), s.rf 46 rfl]
theorem aL3 {h : Hp} (s : Sh h) {b i : Int} (hb : isSc b) (h0 : 0 ≤ i) (h1 : i < 20) (f : Int → Option (Int × Hp)) : al h (b + 12) 0 i f = f (rd h (b + 12) i) := by
  rcases hb with e | e <;> subst e
  all_goals exact al_ok (s.vo _ 0 (by decide) (by decide) rfl) (s.ln _ 20 (by decide) (by decide) rfl) h0 h1
theorem sL3 {h : Hp} (s : Sh h) {b i x : Int} (hb : isSc b) (h0 : 0 ≤ i) (h1 : i < 20) (f : Hp → Option (Int × Hp)) : as h (b + 12) 0 i x f = f (wr h (b + 12) i x) := by
  rcases hb with e | e <;> subst e
  all_goals exact as_ok (s.vo _ 0 (by decide) (by decide) rfl) (s.ln _ 20 (by decide) (by decide) rfl) h0 h1
theorem gL4 {h : Hp} (s : Sh h) {b : Int} (hb : isSc b) (f : Int → Option (Int × Hp)) : gf h (b + 8) 100 4 f = f (rd h (b + 8) 4) := gf_ok (lw_vo s hb)
theorem pL4 {h : Hp} (s : Sh h) {b : Int} (hb : isSc b) (x : Int) (f : Hp → Option (Int × Hp)) : pf h (b + 8) 100 4 x f = f (wr h (b + 8) 4 x) := pf_ok (lw_vo s hb)
theorem okL4 {b : Int} (hb : isSc b) : okW (b + 8) 4 = true := by
  rcases hb with e | e <;> subst e
  all_goals decide +kernel
theorem okC {b j i : Int} (hb : isSc b) (hj : (1 ≤ j ∧ j ≤ 7) ∨ (9 ≤ j ∧ j ≤ 12)) : okW (b + j) i = true := by
  refine okW_arr (by unfold isSc at hb; omega) (fun _ => ?_)
  have hj2 : j = 1 ∨ j = 2 ∨ j = 3 ∨ j = 4 ∨ j = 5 ∨ j = 6 ∨ j = 7 ∨ j = 9 ∨ j = 10 ∨ j = 11 ∨ j = 12 := by omega
  rcases hb with e | e <;> subst e <;> rcases hj2 with e | e | e | e | e | e | e | e | e | e | e <;> subst e <;> decide
theorem rw_vo {h : Hp} (s : Sh h) {b : Int} (hb : isRw b) : vo h b 104 := by
  rcases hb with e | e | e | e <;> subst e
  all_goals exact s.vo _ 104 (by decide) (by decide) rfl
theorem ivQ {h : Hp} (s : Sh h) {b : Int} (hb : isRw b) (o : Option (Int × Hp)) (f : Int → Hp → Option (Int × Hp)) : iv h b 104 o f = cl o f := iv_ok (rw_vo s hb)
theorem gQ0 {h : Hp} (s : Sh h) {b : Int} (hb : isRw b) (f : Int → Option (Int × Hp)) : gf h b 104 0 f = f (rd h b 0) := gf_ok (rw_vo s hb)
theorem pQ0 {h : Hp} (s : Sh h) {b : Int} (hb : isRw b) (x : Int) (f : Hp → Option (Int × Hp)) : pf h b 104 0 x f = f (wr h b 0 x) := pf_ok (rw_vo s hb)
theorem okQ0 {b : Int} (hb : isRw b) : okW b 0 = true := by
  rcases hb with e | e | e | e <;> subst e
  all_goals decide +kernel
theorem gQ1 {h : Hp} (s : Sh h) {b : Int} (hb : isRw b) (f : Int → Option (Int × Hp)) : gf h b 104 1 f = f (rd h b 1) := gf_ok (rw_vo s hb)
theorem pQ1 {h : Hp} (s : Sh h) {b : Int} (hb : isRw b) (x : Int) (f : Hp → Option (Int × Hp)) : pf h b 104 1 x f = f (wr h b 1 x) := pf_ok (rw_vo s hb)
theorem okQ1 {b : Int} (hb : isRw b) : okW b 1 = true := by
  rcases hb with e | e | e | e <;> subst e
  all_goals decide +kernel
theorem gQ2 {h : Hp} (s : Sh h) {b : Int} (hb : isRw b) (f : Int → Option (Int × Hp)) : gf h b 104 2 f = f (rd h b 2) := gf_ok (rw_vo s hb)
theorem pQ2 {h : Hp} (s : Sh h) {b x : Int} (hb : isRw b) (hx : x = 0 ∨ x = 1) (f : Hp → Option (Int × Hp)) : pz h b 104 2 x f = f (wr h b 2 x) := pz_ok (rw_vo s hb) hx
theorem okQ2 {b : Int} (hb : isRw b) : okW b 2 = true := by
  rcases hb with e | e | e | e <;> subst e
  all_goals decide +kernel
theorem gQ3 {h : Hp} (s : Sh h) {b : Int} (hb : isRw b) (f : Int → Option (Int × Hp)) : gf h b 104 3 f = f (b + 2) := by
  rcases hb with e | e | e | e <;> subst e
  · rw [gf_ok (s.vo 85 104 (by decide) (by decide) rfl), s.rf 82 rfl]; rfl
  · rw [gf_ok (s.vo 97 104 (by decide) (by decide) rfl), s.rf 92 rfl]; rfl
  · rw [gf_ok (s.vo 103 104 (by decide) (by decide) rfl), s.rf 94 rfl]; rfl
  · rw [gf_ok (s.vo 109 104 (by decide) (by decide) rfl), s.rf 96 rfl]; rfl
theorem aQ3 {h : Hp} (s : Sh h) {b i : Int} (hb : isRw b) (h0 : 0 ≤ i) (h1 : i < 64) (f : Int → Option (Int × Hp)) : al h (b + 2) 0 i f = f (rd h (b + 2) i) := by
  rcases hb with e | e | e | e <;> subst e
  all_goals exact al_ok (s.vo _ 0 (by decide) (by decide) rfl) (s.ln _ 64 (by decide) (by decide) rfl) h0 h1
theorem sQ3 {h : Hp} (s : Sh h) {b i x : Int} (hb : isRw b) (h0 : 0 ≤ i) (h1 : i < 64) (f : Hp → Option (Int × Hp)) : as h (b + 2) 0 i x f = f (wr h (b + 2) i x) := by
  rcases hb with e | e | e | e <;> subst e
  all_goals exact as_ok (s.vo _ 0 (by decide) (by decide) rfl) (s.ln _ 64 (by decide) (by decide) rfl) h0 h1
theorem gQ4 {h : Hp} (s : Sh h) {b : Int} (hb : isRw b) (f : Int → Option (Int × Hp)) : gf h b 104 4 f = f (b + 3) := by
  rcases hb with e | e | e | e <;> subst e
  · rw [gf_ok (s.vo 85 104 (by decide) (by decide) rfl), s.rf 83 rfl]; rfl
  · rw [gf_ok (s.vo 97 104 (by decide) (by decide) rfl), s.rf 93 rfl]; rfl
  · rw [gf_ok (s.vo 103 104 (by decide) (by decide) rfl), s.rf 95 rfl]; rfl
  · rw [gf_ok (s.vo 109 104 (by decide) (by decide) rfl), s.rf 97 rfl]; rfl
theorem aQ4 {h : Hp} (s : Sh h) {b i : Int} (hb : isRw b) (h0 : 0 ≤ i) (h1 : i < 8) (f : Int → Option (Int × Hp)) : al h (b + 3) 0 i f = f (rd h (b + 3) i) := by
  rcases hb with e | e | e | e <;> subst e
  all_goals exact al_ok (s.vo _ 0 (by decide) (by decide) rfl) (s.ln _ 8 (by decide) (by decide) rfl) h0 h1
theorem sQ4 {h : Hp} (s : Sh h) {b i x : Int} (hb : isRw b) (h0 : 0 ≤ i) (h1 : i < 8) (f : Hp → Option (Int × Hp)) : as h (b + 3) 0 i x f = f (wr h (b + 3) i x) := by
  rcases hb with e | e | e | e <;> subst e
  all_goals exact as_ok (s.vo _ 0 (by decide) (by decide) rfl) (s.ln _ 8 (by decide) (by decide) rfl) h0 h1
theorem gQ5 {h : Hp} (s : Sh h) {b : Int} (hb : isRw b) (f : Int → Option (Int × Hp)) : gf h b 104 5 f = f (rd h b 5) := gf_ok (rw_vo s hb)
theorem pQ5 {h : Hp} (s : Sh h) {b : Int} (hb : isRw b) (x : Int) (f : Hp → Option (Int × Hp)) : pf h b 104 5 x f = f (wr h b 5 x) := pf_ok (rw_vo s hb)
theorem okQ5 {b : Int} (hb : isRw b) : okW b 5 = true := by
  rcases hb with e | e | e | e <;> subst e
  all_goals decide +kernel
theorem gQ6 {h : Hp} (s : Sh h) {b : Int} (hb : isRw b) (f : Int → Option (Int × Hp)) : gf h b 104 6 f = f (rd h b 6) := gf_ok (rw_vo s hb)
theorem pQ6 {h : Hp} (s : Sh h) {b : Int} (hb : isRw b) (x : Int) (f : Hp → Option (Int × Hp)) : pf h b 104 6 x f = f (wr h b 6 x) := pf_ok (rw_vo s hb)
theorem okQ6 {b : Int} (hb : isRw b) : okW b 6 = true := by
  rcases hb with e | e | e | e <;> subst e
  all_goals decide +kernel
theorem okQA {b j i : Int} (hb : isRw b) (hj : j = 2 ∨ j = 3) : okW (b + j) i = true := by
  refine okW_arr (by unfold isRw at hb; omega) (fun _ => ?_)
  rcases hb with e | e | e | e <;> subst e <;> rcases hj with e | e <;> subst e <;> decide
theorem aH3 {h : Hp} (s : Sh h) {i : Int} (h0 : 0 ≤ i) (h1 : i < 8) (f : Int → Option (Int × Hp)) : al h 38 5 i f = f (42 + 3 * i) := by
  obtain e | e | e | e | e | e | e | e : i = 0 ∨ i = 1 ∨ i = 2 ∨ i = 3 ∨ i = 4 ∨ i = 5 ∨ i = 6 ∨ i = 7 := by omega
  · subst e; rw [al_ok (s.vo 38 5 (by decide) (by decide) rfl) (s.ln 38 8 (by decide) (by decide) rfl) (by decide) (by decide), s.rf 47 rfl]; rfl
  · subst e; rw [al_ok (s.vo 38 5 (by decide) (by decide) rfl) (s.ln 38 8 (by decide) (by decide) rfl) (by decide) (by decide), s.rf 48 rfl]; rfl
  · subst e; rw [al_ok (s.vo 38 5 (by decide) (by decide) rfl) (s.ln 38 8 (by decide) (by decide) rfl) (by decide) (by decide), s.rf 49 rfl]; rfl
  · subst e; rw [al_ok (s.vo 38 5 (by decide) (by decide) rfl) (s.ln 38 8 (by decide) (by decide) rfl) (by decide) (by decide), s.rf 50 rfl]; rfl
  · subst e; rw [al_ok (s.vo 38 5 (by decide) (by decide) rfl) (s.ln 38 8 (by decide) (by decide) rfl) (by decide) (by decide), s.rf 51 rfl]; rfl
  · subst e; rw [al_ok (s.vo 38 5 (by decide) (by decide) rfl) (s.ln 38 8 (by decide) (by decide) rfl) (by decide) (by decide), s.rf 52 rfl]; rfl
  · subst e; rw [al_ok (s.vo 38 5 (by decide) (by decide) rfl) (s.ln 38 8 (by decide) (by decide) rfl) (by decide) (by decide), s.rf 53 rfl]; rfl
  · subst e; rw [al_ok (s.vo 38 5 (by decide) (by decide) rfl) (s.ln 38 8 (by decide) (by decide) rfl) (by decide) (by decide), s.rf 54 rfl]; rfl
theorem nH3 {h : Hp} (s : Sh h) (f : Int → Option (Int × Hp)) : aln h 38 5 f = f 8 := aln_ok (s.vo 38 5 (by decide) (by decide) rfl) (s.ln 38 8 (by decide) (by decide) rfl)
theorem aN8 {h : Hp} (s : Sh h) {i : Int} (h0 : 0 ≤ i) (h1 : i < 8) (f : Int → Option (Int × Hp)) : al h 95 5 i f = f (115 + 3 * i) := by
  obtain e | e | e | e | e | e | e | e : i = 0 ∨ i = 1 ∨ i = 2 ∨ i = 3 ∨ i = 4 ∨ i = 5 ∨ i = 6 ∨ i = 7 := by omega
  · subst e; rw [al_ok (s.vo 95 5 (by decide) (by decide) rfl) (s.ln 95 8 (by decide) (by decide) rfl) (by decide) (by decide), s.rf 84 rfl]; rfl
  · subst e; rw [al_ok (s.vo 95 5 (by decide) (by decide) rfl) (s.ln 95 8 (by decide) (by decide) rfl) (by decide) (by decide), s.rf 85 rfl]; rfl
  · subst e; rw [al_ok (s.vo 95 5 (by decide) (by decide) rfl) (s.ln 95 8 (by decide) (by decide) rfl) (by decide) (by decide), s.rf 86 rfl]; rfl
  · subst e; rw [al_ok (s.vo 95 5 (by decide) (by decide) rfl) (s.ln 95 8 (by decide) (by decide) rfl) (by decide) (by decide), s.rf 87 rfl]; rfl
  · subst e; rw [al_ok (s.vo 95 5 (by decide) (by decide) rfl) (s.ln 95 8 (by decide) (by decide) rfl) (by decide) (by decide), s.rf 88 rfl]; rfl
  · subst e; rw [al_ok (s.vo 95 5 (by decide) (by decide) rfl) (s.ln 95 8 (by decide) (by decide) rfl) (by decide) (by decide), s.rf 89 rfl]; rfl
  · subst e; rw [al_ok (s.vo 95 5 (by decide) (by decide) rfl) (s.ln 95 8 (by decide) (by decide) rfl) (by decide) (by decide), s.rf 90 rfl]; rfl
  · subst e; rw [al_ok (s.vo 95 5 (by decide) (by decide) rfl) (s.ln 95 8 (by decide) (by decide) rfl) (by decide) (by decide), s.rf 91 rfl]; rfl
theorem nN8 {h : Hp} (s : Sh h) (f : Int → Option (Int × Hp)) : aln h 95 5 f = f 8 := aln_ok (s.vo 95 5 (by decide) (by decide) rfl) (s.ln 95 8 (by decide) (by decide) rfl)
theorem aN0 {h : Hp} (s : Sh h) {i : Int} (h0 : 0 ≤ i) (h1 : i < 3) (f : Int → Option (Int × Hp)) : al h 83 4 i f = f (97 + 6 * i) := by
  obtain e | e | e : i = 0 ∨ i = 1 ∨ i = 2 := by omega
  · subst e; rw [al_ok (s.vo 83 4 (by decide) (by decide) rfl) (s.ln 83 3 (by decide) (by decide) rfl) (by decide) (by decide), s.rf 79 rfl]; rfl
  · subst e; rw [al_ok (s.vo 83 4 (by decide) (by decide) rfl) (s.ln 83 3 (by decide) (by decide) rfl) (by decide) (by decide), s.rf 80 rfl]; rfl
  · subst e; rw [al_ok (s.vo 83 4 (by decide) (by decide) rfl) (s.ln 83 3 (by decide) (by decide) rfl) (by decide) (by decide), s.rf 81 rfl]; rfl
theorem aT7 {h : Hp} (s : Sh h) {i : Int} (h0 : 0 ≤ i) (h1 : i < 3) (f : Int → Option (Int × Hp)) : al h 80 6 i f = f (158 + 12 * i) := by
  obtain e | e | e : i = 0 ∨ i = 1 ∨ i = 2 := by omega
  · subst e; rw [al_ok (s.vo 80 6 (by decide) (by decide) rfl) (s.ln 80 3 (by decide) (by decide) rfl) (by decide) (by decide), s.rf 67 rfl]; rfl
  · subst e; rw [al_ok (s.vo 80 6 (by decide) (by decide) rfl) (s.ln 80 3 (by decide) (by decide) rfl) (by decide) (by decide), s.rf 68 rfl]; rfl
  · subst e; rw [al_ok (s.vo 80 6 (by decide) (by decide) rfl) (s.ln 80 3 (by decide) (by decide) rfl) (by decide) (by decide), s.rf 69 rfl]; rfl
