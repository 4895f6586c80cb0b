/-! ===== found back ===== -/
def dJ (x unit w g l : Int32) (j : Int32) : Int32 := absI (x - fX unit w g j l)
def bJ (x unit w g l : Int32) : Nat → Int32
  | 0 => 0
  | i + 1 => if dJ x unit w g l (bJ x unit w g l i) ≤ dJ x unit w g l (nI (i + 1)) then bJ x unit w g l i else nI (i + 1)
def mod24 (a : Int32) : Int32 := a - a / 24 * 24
/-- what is found on strips: row l, strip g -/
def fFS (x unit w g l caps : Int32) (wn : Nat) : Int32 := if fOnS l caps = 0 then -4 else if absI (x - (((2 * g + 1) * w) * unit)) ≤ ((w * unit) * cosR l) / 10000 then fNumber l (mod24 (w * g + bJ x unit w g l wn)) else -4
theorem y_row {u y : Nat} (hu : 10 ≤ u) (hu2 : u ≤ 200) (hy : y ≤ 24 * u) : ∃ i, i < 13 ∧ ((nI y + nI u) / (2 * nI u)) - 6 = nI i - 6 := by
  refine ⟨(y + u) / (2 * u), ?_, ?_⟩
  · exact (Nat.div_lt_iff_lt_mul (by omega)).2 (by omega)
  · rw [nI_add, show (2 : Int32) = nI 2 from rfl, pk_mul, pk_div (by omega) (by omega) (by omega)]
theorem x_strip {u n x : Nat} (hn : stripN n) (hu : 10 ≤ u) (hu2 : u ≤ 200) (hx : x ≤ 48 * u) : nI x / ((2 * nI (24 / n)) * nI u) = nI (x / (2 * (24 / n) * u)) ∧ x / (2 * (24 / n) * u) ≤ n ∧ 0 < 2 * (24 / n) * u ∧ 2 * (24 / n) * u ≤ 4800 := by
  have hw := stripN_w hn
  have h1 : 0 < 2 * (24 / n) * u := Nat.mul_pos (by omega) (by omega)
  have h2 : 2 * (24 / n) * u ≤ 24 * 200 := Nat.mul_le_mul (by omega) hu2
  refine ⟨?_, ?_, h1, h2⟩
  · rw [show (2 : Int32) = nI 2 from rfl, pk_mul, pk_mul, pk_div (by omega) h1 (by omega)]
  · have h3 : n * (2 * (24 / n) * u) = 48 * u := by
      rw [← Nat.mul_assoc, ← Nat.mul_assoc, Nat.mul_comm n 2, Nat.mul_assoc 2 n, Nat.mul_comm n (24 / n), hw.2.2.1]
    have : x / (2 * (24 / n) * u) ≤ (n * (2 * (24 / n) * u)) / (2 * (24 / n) * u) := Nat.div_le_div_right (by omega)
    rw [Nat.mul_div_cancel _ h1] at this
    exact this
theorem loop_mu {n i : Nat} {x : Int32} (h : x = nI i + 1) (hi : i < n) (hn : n < 2 ^ 30) : n - x.toNatClampNeg < n - (nI i).toNatClampNeg := by
  subst h
  rw [nI_1, nI_clamp (by omega), nI_clamp (by omega)]
  omega
theorem s3_foundS {u n x y k : Nat} (hn : stripN n) (hu : 10 ≤ u) (hu2 : u ≤ 200) (hx : x ≤ 48 * u) (hy : y ≤ 24 * u) {post : Int32 → Prop} (h : ∀ g l, l = ((nI y + nI u) / (2 * nI u)) - 6 → g = (if x / (2 * (24 / n) * u) = n then nI n - 1 else nI (x / (2 * (24 / n) * u))) → post (fFS (nI x) (nI u) (nI (24 / n)) g l (nI k) (24 / n))) : wX3_foundOnStrips (nI x) (nI y) (nI u) (nI n) (nI k) post := by
  have hw := stripN_w hn
  obtain ⟨ex, hxn, hp0, hp1⟩ := x_strip hn hu hu2 hx
  obtain ⟨i, hi, ey⟩ := y_row hu hu2 hy
  unfold wX3_foundOnStrips
  refine q0_width hn ⟨?_, fun l hl => ⟨?_, fun g hg => ?_⟩⟩
  · rw [show (2 : Int32) = nI 2 from rfl, pk_mul]; exact nI_ne0 (by omega) (by omega)
  · rw [show (2 : Int32) = nI 2 from rfl, pk_mul, pk_mul]; exact nI_ne0 hp0 (by omega)
  have hlok : rowOK l := ⟨i, hi, hl.trans ey⟩
  have hg2 : g = (if x / (2 * (24 / n) * u) = n then nI n - 1 else nI (x / (2 * (24 / n) * u))) := by
    rw [hg, ex]
    by_cases c : x / (2 * (24 / n) * u) = n
    · rw [if_pos c, show (1 : Int32) = nI 1 from rfl, pk_sub (by omega), if_pos (nI_lt (by omega) (by omega))]
    · rw [if_neg c, show (1 : Int32) = nI 1 from rfl, pk_sub (by omega), if_neg (nI_nlt (by omega) (by omega))]
  replace h := h g l hl hg2
  clear hg hg2 ex hl ey
  intro x6 hx6
  have hx6 : x6 = absI (nI x - (((2 * g + 1) * nI (24 / n)) * nI u)) := hx6
  subst hx6
  unfold fFS at h
  refine q0_onS (br_c (fun c => ?_) (fun c => ?_))
  · rw [if_pos c] at h; exact h
  rw [if_neg c] at h
  refine q1_rowCosine hlok (br_c (fun d => ?_) (fun d => ?_))
  · rw [if_pos d] at h
    refine ⟨fun b l9 => ∃ i, i ≤ 24 / n ∧ l9 = nI (i + 1) ∧ b = bJ (nI x) (nI u) (nI (24 / n)) g l i, fun _ l9 => 100 - l9.toNatClampNeg, ⟨0, by omega, rfl, rfl⟩, ?_⟩
    rintro b l9 ⟨i, hi, rfl, rfl⟩
    refine pk_lt (24 / n) (i + 1) (fun e => ?_) (fun e => ?_)
    · have e : i = 24 / n := by omega
      subst e
      exact q1_numberOf h
    · refine q3_x hlok ?_
      intro z hz
      have hz : z = dJ (nI x) (nI u) (nI (24 / n)) g l (bJ (nI x) (nI u) (nI (24 / n)) g l i) := hz
      subst hz
      refine q3_x hlok ?_
      refine br_c (fun f => ?_) (fun f => ?_)
      · intro z hz
        refine ⟨⟨i + 1, by omega, hz.trans (nI_1 _), ?_⟩, loop_mu hz (by omega) (by omega)⟩
        rw [bJ, if_pos (show dJ (nI x) (nI u) (nI (24 / n)) g l (bJ (nI x) (nI u) (nI (24 / n)) g l i) ≤ dJ (nI x) (nI u) (nI (24 / n)) g l (nI (i + 1)) from f)]
      · intro z hz
        refine ⟨⟨i + 1, by omega, hz.trans (nI_1 _), ?_⟩, loop_mu hz (by omega) (by omega)⟩
        rw [bJ, if_neg (show ¬ dJ (nI x) (nI u) (nI (24 / n)) g l (bJ (nI x) (nI u) (nI (24 / n)) g l i) ≤ dJ (nI x) (nI u) (nI (24 / n)) g l (nI (i + 1)) from f)]
  · rw [if_neg d] at h
    exact h
theorem s11_foundS {u n x y : Nat} (hn : stripN n) (hu : 10 ≤ u) (hu2 : u ≤ 200) (hx : x ≤ 48 * u) (hy : y ≤ 24 * u) {st : Nat → Int32} (eu : st 266 = nI u) (en : st 267 = nI n) {post : Int32 → Prop} {g l : Int32} (hl : l = ((nI y + nI u) / (2 * nI u)) - 6) (hg : g = (if x / (2 * (24 / n) * u) = n then nI n - 1 else nI (x / (2 * (24 / n) * u)))) (h : post (fFS (nI x) (nI u) (nI (24 / n)) g l (st 268) (24 / n))) : wX11_onStrips (nI x) (nI y) st post := by
  have hw := stripN_w hn
  obtain ⟨ex, hxn, hp0, hp1⟩ := x_strip hn hu hu2 hx
  obtain ⟨i, hi, ey⟩ := y_row hu hu2 hy
  have hlok : rowOK l := ⟨i, hi, hl.trans ey⟩
  unfold wX11_onStrips
  rw [eu, en]
  refine ⟨?_, fun l' hl' => q11_wide hn en ⟨?_, fun q hq => ?_⟩⟩
  · rw [show (2 : Int32) = nI 2 from rfl, pk_mul]; exact nI_ne0 (by omega) (by omega)
  · rw [show (2 : Int32) = nI 2 from rfl, pk_mul, pk_mul]; exact nI_ne0 hp0 (by omega)
  rw [← hl] at hl'
  subst hl'
  rw [ex] at hq
  subst hq
  refine ⟨fun t => t = g, ?_, ?_⟩
  case refine_2 =>
    refine pk_eq _ n (fun c => ?_) (fun c => ?_) rfl rfl (by omega) (by omega)
    · rw [if_pos c] at hg
      show _ = g
      rw [hg, c]
    · rw [if_neg c] at hg
      exact hg.symm
  rintro t rfl
  refine q11_wide hn en ?_
  intro z hz
  subst hz
  unfold fFS at h
  refine q11_onS (br_c (fun c => ?_) (fun c => ?_))
  · rw [if_pos c] at h; exact h
  rw [if_neg c] at h
  refine q11_size (q11_wide hn en (q11_wideOf hlok (br_c (fun d => ?_) (fun d => ?_))))
  · rw [if_pos d] at h
    refine ⟨fun b l9 => ∃ i, i ≤ 24 / n ∧ l9 = nI (i + 1) ∧ b = bJ (nI x) (nI u) (nI (24 / n)) t l' i, fun _ l9 => 100 - l9.toNatClampNeg, ⟨0, by omega, rfl, rfl⟩, ?_⟩
    rintro b l9 ⟨i, hi, rfl, rfl⟩
    refine q11_wide hn en (pk_lt (24 / n) (i + 1) (fun e => ?_) (fun e => ?_))
    · have e : i = 24 / n := by omega
      refine q11_wide hn en (q11_numberOf ?_)
      rw [Int32.mul_comm t, e]
      exact h
    · refine q11_x hn hlok en (q11_size (q11_x hn hlok en (q11_size ?_)))
      rw [eu]
      refine br_c (fun f => ?_) (fun f => ?_)
      · intro z hz
        refine ⟨⟨i + 1, by omega, hz.trans (nI_1 _), ?_⟩, loop_mu hz (by omega) (by omega)⟩
        rw [bJ, if_pos (show dJ (nI x) (nI u) (nI (24 / n)) t l' (bJ (nI x) (nI u) (nI (24 / n)) t l' i) ≤ dJ (nI x) (nI u) (nI (24 / n)) t l' (nI (i + 1)) from f)]
      · intro z hz
        refine ⟨⟨i + 1, by omega, hz.trans (nI_1 _), ?_⟩, loop_mu hz (by omega) (by omega)⟩
        rw [bJ, if_neg (show ¬ dJ (nI x) (nI u) (nI (24 / n)) t l' (bJ (nI x) (nI u) (nI (24 / n)) t l' i) ≤ dJ (nI x) (nI u) (nI (24 / n)) t l' (nI (i + 1)) from f)]
  · rw [if_neg d] at h
    exact h
/-! on a cap -/
def offC (x y unit caps : Int32) (p : Nat) : Int32 := (x - fCX (rowI p) unit caps (stepN p)) * (x - fCX (rowI p) unit caps (stepN p)) + (y - fCY (rowI p) unit caps (stepN p)) * (y - fCY (rowI p) unit caps (stepN p))
def firstC (k : Nat) (nn : Bool) : Nat := if nn then 265 - 24 * k else 0
def inC (k : Nat) (nn : Bool) (p : Nat) : Bool := decide (¬ fOnC (rowI p) (nI k) = 0) && (decide (¬ rowI p ≤ 0) == nn)
theorem t_inC : ∀ k, k < 4 → ∀ p, p < 266 → (inC k true p = decide (1 ≤ k ∧ 265 - 24 * k ≤ p)) ∧ (inC k false p = decide (1 ≤ k ∧ p ≤ 24 * k)) := by decide +kernel
theorem inC_is {k p : Nat} (nn : Bool) (hk : k < 4) (hp : p < 266) : inC k nn p = decide (1 ≤ k ∧ firstC k nn ≤ p ∧ p ≤ firstC k nn + 24 * k) := by
  obtain ⟨h1, h2⟩ := t_inC k hk p hp
  cases nn with
  | true =>
    rw [h1]
    exact decide_eq_decide.2 ⟨fun z => ⟨z.1, z.2, by show p ≤ 265 - 24 * k + 24 * k; omega⟩, fun z => ⟨z.1, z.2.1⟩⟩
  | false =>
    rw [h2]
    exact decide_eq_decide.2 ⟨fun z => ⟨z.1, Nat.zero_le _, by show p ≤ 0 + 24 * k; omega⟩, fun z => ⟨z.1, by have : p ≤ 0 + 24 * k := z.2.2; omega⟩⟩
def rC (x y unit caps : Int32) (k : Nat) (nn : Bool) : Nat → Int32 × Int32
  | 0 => (-4, 100000000)
  | p + 1 => if inC k nn p = true then (if (rC x y unit caps k nn p).2 ≤ offC x y unit caps p then rC x y unit caps k nn p else (nI p, offC x y unit caps p)) else rC x y unit caps k nn p
def cC (x y unit caps : Int32) (f : Nat) : Nat → Int32 × Int32
  | 0 => (nI f, 2147483647)
  | i + 1 => if (cC x y unit caps f i).2 ≤ offC x y unit caps (f + i) then cC x y unit caps f i else (nI (f + i), offC x y unit caps (f + i))
theorem rC_none (x y unit caps : Int32) (nn : Bool) : ∀ p, p ≤ 266 → rC x y unit caps 0 nn p = (-4, 100000000) := by
  intro p
  induction p with
  | zero => exact fun _ => rfl
  | succ p ih =>
    intro hp
    rw [rC, if_neg (by rw [inC_is nn (by omega) (by omega)]; simp)]
    exact ih (by omega)
theorem rC_low {x y unit caps : Int32} {k : Nat} {nn : Bool} (hk : k < 4) : ∀ p, p ≤ 266 → p ≤ firstC k nn → rC x y unit caps k nn p = (-4, 100000000) := by
  intro p
  induction p with
  | zero => exact fun _ _ => rfl
  | succ p ih =>
    intro hp hf
    rw [rC, if_neg (by rw [inC_is nn hk (by omega), decide_eq_true_iff]; omega)]
    exact ih (by omega) (by omega)
theorem rC_mid {x y unit caps : Int32} {k : Nat} {nn : Bool} (hk0 : 1 ≤ k) (hk : k < 4) (h1 : ¬ (100000000 : Int32) ≤ offC x y unit caps (firstC k nn)) (h2 : ¬ (2147483647 : Int32) ≤ offC x y unit caps (firstC k nn)) : ∀ i, i ≤ 24 * k → rC x y unit caps k nn (firstC k nn + (i + 1)) = cC x y unit caps (firstC k nn) (i + 1) := by
  have hf : firstC k nn + 24 * k ≤ 265 := by
    unfold firstC
    split <;> omega
  intro i
  induction i with
  | zero =>
    intro _
    show rC x y unit caps k nn (firstC k nn + 1) = _
    rw [rC, if_pos (by rw [inC_is nn hk (by omega), decide_eq_true_iff]; omega), rC_low hk _ (by omega) (Nat.le_refl _), if_neg h1, cC, cC]
    show _ = if (2147483647 : Int32) ≤ offC x y unit caps (firstC k nn + 0) then _ else _
    rw [Nat.add_zero, if_neg h2]
  | succ i ih =>
    intro hi
    show rC x y unit caps k nn ((firstC k nn + (i + 1)) + 1) = _
    rw [rC, if_pos (by rw [inC_is nn hk (by omega), decide_eq_true_iff]; omega), ih (by omega)]
    rfl
theorem rC_high {x y unit caps : Int32} {k : Nat} {nn : Bool} (hk : k < 4) : ∀ d, firstC k nn + 24 * k + 1 + d ≤ 266 → rC x y unit caps k nn (firstC k nn + 24 * k + 1 + d) = rC x y unit caps k nn (firstC k nn + 24 * k + 1) := by
  intro d
  induction d with
  | zero => exact fun _ => rfl
  | succ d ih =>
    intro hd
    show rC x y unit caps k nn ((firstC k nn + 24 * k + 1 + d) + 1) = _
    rw [rC, if_neg (by rw [inC_is nn hk (by omega), decide_eq_true_iff]; omega)]
    exact ih (by omega)
theorem rC_end {x y unit caps : Int32} {k : Nat} {nn : Bool} (hk0 : 1 ≤ k) (hk : k < 4) (h1 : ¬ (100000000 : Int32) ≤ offC x y unit caps (firstC k nn)) (h2 : ¬ (2147483647 : Int32) ≤ offC x y unit caps (firstC k nn)) : rC x y unit caps k nn 266 = cC x y unit caps (firstC k nn) (24 * k + 1) := by
  have hf : firstC k nn + 24 * k ≤ 265 := by
    unfold firstC
    split <;> omega
  have e := rC_high (x := x) (y := y) (unit := unit) (caps := caps) (k := k) (nn := nn) hk (265 - (firstC k nn + 24 * k)) (by omega)
  rw [show firstC k nn + 24 * k + 1 + (265 - (firstC k nn + 24 * k)) = 266 by omega] at e
  rw [e]
  exact rC_mid hk0 hk h1 h2 (24 * k) (Nat.le_refl _)
theorem s3_foundC {x y : Int32} {u k : Nat} {nn : Bool} (hk0 : 1 ≤ k) (hk : k < 4) {post : Int32 → Prop} (h : post (cC x y (nI u) (nI k) (firstC k nn) (24 * k + 1)).1) : wX3_foundOnCap (if nn then 1 else 0) x y (nI u) (nI k) post := by
  have hf : firstC k nn + 24 * k ≤ 265 := by
    unfold firstC
    split <;> omega
  have e24 : (24 : Int32) * nI k = nI (24 * k) := pk_mul 24 k
  unfold wX3_foundOnCap
  rw [e24]
  refine ⟨fun t => t = nI (firstC k nn), ?_, ?_⟩
  · rintro t rfl x1 hx1
    rw [nI_add] at hx1
    subst hx1
    refine ⟨fun b v l => ∃ i, i ≤ 24 * k + 1 ∧ l = nI (firstC k nn + i) ∧ (b, v) = cC x y (nI u) (nI k) (firstC k nn) i, fun _ _ l => 300 - l.toNatClampNeg, ⟨0, by omega, rfl, rfl⟩, ?_⟩
    rintro b v l ⟨i, hi, rfl, he⟩
    refine pk_lt (firstC k nn + 24 * k) (firstC k nn + i) (fun c => ?_) (fun c => ?_)
    · have e : i = 24 * k + 1 := by omega
      subst e
      rw [← he] at h
      exact h
    · have hp : firstC k nn + i < 266 := by omega
      refine s1_row hp (s1_step hp (s3_capX (stepN_lt _) ?_))
      intro a ea
      refine s3_capY (stepN_lt _) ?_
      intro b' eb z ez
      subst ea eb
      have ez : z = offC x y (nI u) (nI k) (firstC k nn + i) := ez
      subst ez
      have e1 : (cC x y (nI u) (nI k) (firstC k nn) i).2 = v := by rw [← he]
      refine br_c (fun d => ?_) (fun d => ?_)
      · intro z hz
        refine ⟨⟨i + 1, by omega, hz.trans (nI_1 _), ?_⟩, loop_mu hz (by omega) (by omega)⟩
        rw [cC, e1, if_pos d]
        exact he
      · intro z hz
        refine ⟨⟨i + 1, by omega, hz.trans (nI_1 _), ?_⟩, loop_mu hz (by omega) (by omega)⟩
        rw [cC, e1, if_neg d]
  · cases nn with
    | true =>
      refine br_f (by decide) ?_
      show (265 : Int32) - nI (24 * k) = nI (265 - 24 * k)
      exact pk_sub (a := 265) (by omega)
    | false => exact br_t rfl rfl
theorem s11_onCap {x y : Int32} {u k : Nat} {nn : Bool} (hk : k < 4) {st : Nat → Int32} (eu : st 266 = nI u) (ek : st 268 = nI k) {post : Int32 → Prop} (h : post (rC x y (nI u) (nI k) k nn 266).1) : wX11_onCap x y (if nn then 1 else 0) st post := by
  unfold wX11_onCap
  refine ⟨fun b v l => ∃ p, p ≤ 266 ∧ l = nI p ∧ (b, v) = rC x y (nI u) (nI k) k nn p, fun _ _ l => 266 - l.toNatClampNeg, ⟨0, by omega, rfl, rfl⟩, ?_⟩
  rintro b v l ⟨p, hp, rfl, he⟩
  refine pk_le 266 p (fun c => ?_) (fun c => ?_)
  · have e : p = 266 := by omega
    subst e
    rw [← he] at h
    exact h
  · refine s11_row c (q11_onC ?_)
    rw [ek]
    have e1 : (rC x y (nI u) (nI k) k nn p).2 = v := by rw [← he]
    refine br_c (fun d => ?_) (fun d => ?_)
    · intro z hz
      refine ⟨⟨p + 1, by omega, hz.trans (nI_1 _), ?_⟩, loop_mu hz (by omega) (by omega)⟩
      rw [rC, if_neg (by unfold inC; rw [decide_eq_false (fun w => w d)]; simp)]
      exact he
    · refine ⟨fun t => t = (if decide (¬ rowI p ≤ 0) = true then 1 else 0), ?_, ?_⟩
      · rintro t rfl
        have hb : inC k nn p = (decide (¬ rowI p ≤ 0) == nn) := by
          unfold inC
          rw [decide_eq_true d, Bool.true_and]
        refine br_c (fun f => ?_) (fun f => ?_)
        · have hin : inC k nn p = true := by
            rw [hb]
            revert f
            cases decide (¬ rowI p ≤ 0) <;> cases nn <;> simp
          refine s11_capX c ?_
          intro a ea
          refine s11_capY c ?_
          intro b' eb z ez
          rw [eu, ek] at ea eb
          subst ea eb
          have ez : z = offC x y (nI u) (nI k) p := ez
          subst ez
          refine ⟨fun t => t = if v ≤ offC x y (nI u) (nI k) p then b else nI p, ?_, br_c (fun g => (if_pos g).symm) (fun g => (if_neg g).symm)⟩
          rintro t rfl
          refine br_c (fun g => ?_) (fun g => ?_)
          · intro z hz
            refine ⟨⟨p + 1, by omega, hz.trans (nI_1 _), ?_⟩, loop_mu hz (by omega) (by omega)⟩
            rw [rC, if_pos hin, e1, if_pos g, if_pos g]
            exact he
          · intro z hz
            refine ⟨⟨p + 1, by omega, hz.trans (nI_1 _), ?_⟩, loop_mu hz (by omega) (by omega)⟩
            rw [rC, if_pos hin, e1, if_neg g, if_neg g]
        · have hin : ¬ inC k nn p = true := by
            rw [hb]
            revert f
            cases decide (¬ rowI p ≤ 0) <;> cases nn <;> simp
          intro z hz
          refine ⟨⟨p + 1, by omega, hz.trans (nI_1 _), ?_⟩, loop_mu hz (by omega) (by omega)⟩
          rw [rC, if_neg hin]
          exact he
      · refine br_c (fun f => ?_) (fun f => ?_)
        · rw [decide_eq_false (fun w => w f)]; rfl
        · rw [decide_eq_true f]; rfl
theorem mul_0 (a : Int32) : a * 0 / 10000 = 0 := by rw [Int32.mul_zero]; decide
theorem t_first : ∀ k, k < 4 → 1 ≤ k → stepN (265 - 24 * k) = 0 ∧ stepN 0 = 0 ∧ (6 : Int32) - absI (rowI (265 - 24 * k)) = nI k ∧ (6 : Int32) - absI (rowI 0) = 0 ∧ ¬ rowI (265 - 24 * k) ≤ 0 ∧ rowI 0 ≤ 0 ∧ sinesF 0 = 0 ∧ sinesF ((0 + 6) % 24) = nI 10000 := by decide +kernel
theorem first_off {u k x y : Nat} {nn : Bool} (hu : u ≤ 200) (hk0 : 1 ≤ k) (hk : k < 4) (hx : x ≤ 4 * u * k) (hy : y ≤ 4 * u * k) : ∃ v : Nat, v < 100000000 ∧ offC (nI x) (nI y) (nI u) (nI k) (firstC k nn) = nI v := by
  obtain ⟨t1, t2, t3, t4, t5, t6, t7, t8⟩ := t_first k hk hk0
  have huk : u * k ≤ 200 * 3 := Nat.mul_le_mul hu (by omega)
  have e4 : 4 * u * k = 4 * (u * k) := Nat.mul_assoc 4 u k
  have e2 : (2 * nI u) * nI k = nI (2 * (u * k)) := by
    rw [show (2 : Int32) = nI 2 from rfl, pk_mul, pk_mul, Nat.mul_assoc]
  have eX : fCX (rowI (firstC k nn)) (nI u) (nI k) (stepN (firstC k nn)) = nI (2 * (u * k)) := by
    cases nn with
    | true =>
      show fCX (rowI (265 - 24 * k)) (nI u) (nI k) (stepN (265 - 24 * k)) = _
      unfold fCX
      rw [if_neg t5, t1, t7, mul_0, Int32.add_zero, e2]
    | false =>
      show fCX (rowI 0) (nI u) (nI k) (stepN 0) = _
      unfold fCX
      rw [if_pos t6, t2, t7, mul_0, show (-(0 : Int32)) = 0 from rfl, Int32.add_zero, e2]
  obtain ⟨c, hc, eY⟩ : ∃ c, c ≤ 2400 ∧ fCY (rowI (firstC k nn)) (nI u) (nI k) (stepN (firstC k nn)) = nI c := by
    cases nn with
    | true =>
      refine ⟨2 * (u * k) + 2 * (u * k), by omega, ?_⟩
      show fCY (rowI (265 - 24 * k)) (nI u) (nI k) (stepN (265 - 24 * k)) = _
      unfold fCY fCR
      rw [t1, t8, t3, e2, pk_mul, show (10000 : Int32) = nI 10000 from rfl, pk_div (by omega) (by omega) (by omega), Nat.mul_div_cancel _ (by omega), nI_add]
    | false =>
      refine ⟨2 * (u * k), by omega, ?_⟩
      show fCY (rowI 0) (nI u) (nI k) (stepN 0) = _
      unfold fCY fCR
      rw [t2, t8, t4, e2, Int32.mul_zero, Int32.zero_mul, show (0 : Int32) / 10000 = 0 from by decide, Int32.add_zero]
  unfold offC
  rw [eX, eY]
  have x1 := pk_sub_toInt (a := x) (b := 2 * (u * k)) (by omega) (by omega)
  have y1 := pk_sub_toInt (a := y) (b := c) (by omega) (by omega)
  obtain ⟨q1, q2⟩ := sqI (X := nI x - nI (2 * (u * k))) (b := 2400) (by omega) (by rw [x1]; omega) (by rw [x1]; omega)
  obtain ⟨q3, q4⟩ := sqI (X := nI y - nI c) (b := 2400) (by omega) (by rw [y1]; omega) (by rw [y1]; omega)
  rw [q1, q3, nI_add]
  exact ⟨_, by omega, rfl⟩
