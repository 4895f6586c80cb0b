/-! ===== what the class's variables have to do with the reference's ===== -/
def bitAt (bits : Nat → Int64) (p : Nat) : Bool := (bits (p / 64)).toBitVec.getLsbD (p % 64)
/-- a state of the reference, as it always is -/
def okS (st : Nat → Int32) : Prop :=
  (∀ p, p < 266 → st p = 0 ∨ st p = 1) ∧ (∃ u, 10 ≤ u ∧ u ≤ 200 ∧ st 266 = nI u) ∧ (∃ n, (n = 2 ∨ n = 3 ∨ n = 4 ∨ n = 6 ∨ n = 8 ∨ n = 12) ∧ st 267 = nI n) ∧ (∃ k, k ≤ 3 ∧ st 268 = nI k) ∧ (∃ n, n ≤ 8 ∧ st 269 = nI n ∧ ∀ i, i < n → ∃ p, p < 266 ∧ st (270 + i) = nI p) ∧ (∃ d, d < 2 ^ 31 ∧ st 278 = nI d)
/-- a globe of the class beside a state of the reference -/
def relG (g : GS) (st : Nat → Int32) : Prop :=
  okS st ∧ (∀ p, p < 320 → bitAt g.1 p = decide (p < 266 ∧ st p = 1)) ∧ (∀ i, i < 8 → g.2.1 i = st (270 + i)) ∧ g.2.2.1 = st 269 ∧ g.2.2.2.1 = st 266 ∧ g.2.2.2.2.1 = st 267 ∧ g.2.2.2.2.2.1 = st 268 ∧ g.2.2.2.2.2.2 = st 278
def relP (oldest known : Int32) (ring : Nat → GS) (past : Nat → Int32) (acts : Int32) : Prop :=
  ∃ o k : Nat, o < 6 ∧ k ≤ 6 ∧ oldest = nI o ∧ known = nI k ∧ acts = nI k ∧ ∀ i, i < k → relG (ring ((o + i) % 6)) (fun j => past (279 * i + j))
def relI (im : GS) (iold iknown : Int32) (iring : Nat → GS) (hasIm : Int32) (image ipast : Nat → Int32) (iacts : Int32) : Prop :=
  (hasIm = 0 ∧ iacts = -1) ∨ (hasIm = 1 ∧ relG im image ∧ relP iold iknown iring ipast iacts)
def relT (letters : Nat → Int32) (tlen : Int32) (tape : Nat → Int32) (tmany : Int32) : Prop :=
  ∃ n : Nat, n ≤ 90 ∧ tlen = nI n ∧ tmany = nI n ∧ ∀ i, i < n → letters i = tape i ∧ ∃ c : Nat, 32 ≤ c ∧ c ≤ 126 ∧ tape i = nI c
def relS (shI : Nat → Nat → Int64) (shH shL shS laneOf sizeOf : Nat → Int32) (items : Nat → Int64) : Prop :=
  ∀ k, k < 4 → ∃ n : Nat, n ≤ 30 ∧ shS k = nI n ∧ sizeOf k = nI n ∧ ((shH k = 0 ∧ laneOf k = -4) ∨ (shH k = 1 ∧ ∃ la : Nat, la < 4 ∧ shL k = nI la ∧ laneOf k = nI la ∧ ∀ i, i < n → shI k i = items (30 * k + i)))
def Rel (bits : Nat → Int64) (stops : Nat → Int32) (num unit strips caps draw : Int32) (oldest known : Int32) (ring : Nat → GS) (im : GS) (iold iknown : Int32) (iring : Nat → GS) (hasIm : Int32) (letters : Nat → Int32) (tlen : Int32) (shI : Nat → Nat → Int64) (shH shL shS : Nat → Int32) (st past : Nat → Int32) (acts : Int32) (image ipast : Nat → Int32) (iacts : Int32) (tape : Nat → Int32) (tmany : Int32) (laneOf sizeOf : Nat → Int32) (items : Nat → Int64) : Prop :=
  relG (bits, stops, num, unit, strips, caps, draw) st ∧ relP oldest known ring past acts ∧ relI im iold iknown iring hasIm image ipast iacts ∧ relT letters tlen tape tmany ∧ relS shI shH shL shS laneOf sizeOf items
