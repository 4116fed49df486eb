/-! late -/
def ltI (f : Int → Bool) (i w : Int) : Nat → Int → Int → Int ⊕ Int
  | 0, _, c => Sum.inr c
  | n + 1, d, c => if f d = true then (if c = i then Sum.inl (100 * w + d) else ltI f i w n (d + 1) (c + 1)) else ltI f i w n (d + 1) c
def ltO (f : Int → Int → Bool) (i : Int) : Nat → Int → Int → Int
  | 0, _, c => if i = -1 then c else -1
  | n + 1, w, c => match ltI (f w) i w (if w = 0 then 61 else 60) (if w = 0 then 0 else 1) c with | Sum.inl v => v | Sum.inr c' => ltO f i n (w + 1) c'
def latF (h : Hp) (k : Nat) (w d : Int) : Bool := alN (sayD h (soR h w d)) k
def latA (h : Hp) (k i : Int) : Int := if ¬ ((0 ≤ k ∧ k ≤ rd h 194 80) ∧ -1 ≤ i) then -1 else if 30 < rd h 239 44 then -2 else ltO (latF h k.toNat) i (dt h 1 0).toNat 0 0
