/-! ===== far, straight ===== -/
theorem tdv (x : Int) : x.tdiv 10000 = if 0 ≤ x then x / 10000 else -((-x) / 10000) := by
  by_cases h : 0 ≤ x
  · rw [if_pos h, Int.tdiv_eq_ediv_of_nonneg h]
  · rw [if_neg h]
    have e : x.tdiv 10000 = (-(-x)).tdiv 10000 := by rw [Int.neg_neg]
    rw [e, Int.neg_tdiv, Int.tdiv_eq_ediv_of_nonneg (by omega)]
theorem tdv_mono {x y : Int} (h : x ≤ y) : x.tdiv 10000 ≤ y.tdiv 10000 := by
  rw [tdv, tdv]
  split <;> split <;> omega
theorem tdv_lo {x : Int} {b : Nat} (h : -(b * 10000) ≤ x) : -(b : Int) ≤ x.tdiv 10000 := by
  rw [tdv]
  split <;> omega
theorem tdv_hi {x : Int} {b : Nat} (h : x ≤ b * 10000) : x.tdiv 10000 ≤ (b : Int) := by
  rw [tdv]
  split <;> omega
theorem div4 (x : Int32) : (x / 10000).toInt = x.toInt.tdiv 10000 := Int32.toInt_div_of_ne_right x 10000 (by decide)
theorem mul_bd {a b lo hi : Int} {U : Int} (hb : 0 ≤ b) (hbU : b ≤ U) (hlo : -lo ≤ a) (hhi : a ≤ hi) (h0 : 0 ≤ lo) (h1 : 0 ≤ hi) : -(lo * U) ≤ a * b ∧ a * b ≤ hi * U := by
  have x1 := Int.mul_le_mul_of_nonneg_right hhi hb
  have x2 := Int.mul_le_mul_of_nonneg_right hlo hb
  have x3 := Int.mul_le_mul_of_nonneg_left hbU h1
  have x4 := Int.mul_le_mul_of_nonneg_left hbU h0
  rw [Int.neg_mul] at x2
  omega
/-- of c: 0 .. 10000 -/
def cosOK (c : Int32) : Prop := 0 ≤ c.toInt ∧ c.toInt ≤ 10000
theorem t_cosOK : ∀ i, i < 13 → 0 ≤ (cosR (nI i - 6)).toInt ∧ (cosR (nI i - 6)).toInt ≤ 10000 := by decide +kernel
theorem cos_ok {l : Int32} (h : rowOK l) : cosOK (cosR l) := by
  obtain ⟨i, hi, rfl⟩ := h
  exact t_cosOK i hi
/-- the way from a strip's middle -/
def aW (u w j : Nat) (c : Int32) : Int32 := (((2 * nI j - nI w) * nI u) * c) / 10000
def zW (u w j : Nat) (c : Int) : Int := (2 * (j : Int) - w) * u * c
theorem aW_toInt {u w j : Nat} {c : Int32} (hu : u ≤ 200) (hw : w ≤ 12) (hj : j ≤ 13) (hc : cosOK c) : (aW u w j c).toInt = (zW u w j c.toInt).tdiv 10000 := by
  unfold aW zW
  have d2 : (2 : Int32).toInt = 2 := rfl
  have m1 : ((2 : Int32) * nI j).toInt = 2 * (j : Int) := by
    have := fb_mulI (x := 2) (y := nI j) (by rw [d2, nI_toInt (by omega)]; omega) (by rw [d2, nI_toInt (by omega)]; omega)
    rw [this, d2, nI_toInt (by omega)]
  have m2 : ((2 : Int32) * nI j - nI w).toInt = 2 * (j : Int) - w := by
    rw [fb_subI (by rw [m1, nI_toInt (by omega)]; omega) (by rw [m1, nI_toInt (by omega)]; omega), m1, nI_toInt (by omega)]
  have b1 := mul_bd (a := 2 * (j : Int) - w) (b := (u : Int)) (lo := 12) (hi := 26) (U := 200) (by omega) (by omega) (by omega) (by omega) (by omega) (by omega)
  have m3 : (((2 : Int32) * nI j - nI w) * nI u).toInt = (2 * (j : Int) - w) * u := by
    rw [fb_mulI (by rw [m2, nI_toInt (by omega)]; omega) (by rw [m2, nI_toInt (by omega)]; omega), m2, nI_toInt (by omega)]
  have b2 := mul_bd (a := (2 * (j : Int) - w) * u) (b := c.toInt) (lo := 2400) (hi := 5200) (U := 10000) hc.1 hc.2 (by omega) (by omega) (by omega) (by omega)
  have m4 : ((((2 : Int32) * nI j - nI w) * nI u) * c).toInt = (2 * (j : Int) - w) * u * c.toInt := by
    rw [fb_mulI (by rw [m3]; omega) (by rw [m3]; omega), m3]
  rw [div4, m4]
theorem aW_bd {u w j : Nat} {c : Int32} (hu : u ≤ 200) (hw : w ≤ 12) (hj : j ≤ 13) (hc : cosOK c) : -2400 ≤ (aW u w j c).toInt ∧ (aW u w j c).toInt ≤ 5200 := by
  rw [aW_toInt hu hw hj hc]
  unfold zW
  have b1 := mul_bd (a := 2 * (j : Int) - w) (b := (u : Int)) (lo := 12) (hi := 26) (U := 200) (by omega) (by omega) (by omega) (by omega) (by omega) (by omega)
  have b2 := mul_bd (a := (2 * (j : Int) - w) * u) (b := c.toInt) (lo := 2400) (hi := 5200) (U := 10000) hc.1 hc.2 (by omega) (by omega) (by omega) (by omega)
  exact ⟨tdv_lo (b := 2400) (by omega), tdv_hi (b := 5200) (by omega)⟩
theorem aW_bd' {u w j : Nat} {c : Int32} (hu : u ≤ 200) (hw : w ≤ 12) (hj : j ≤ w) (hc : cosOK c) : -2400 ≤ (aW u w j c).toInt ∧ (aW u w j c).toInt ≤ 2400 := by
  refine ⟨(aW_bd hu hw (by omega) hc).1, ?_⟩
  rw [aW_toInt hu hw (by omega) hc]
  unfold zW
  have b1 := mul_bd (a := 2 * (j : Int) - w) (b := (u : Int)) (lo := 12) (hi := 12) (U := 200) (by omega) (by omega) (by omega) (by omega) (by omega) (by omega)
  have b2 := mul_bd (a := (2 * (j : Int) - w) * u) (b := c.toInt) (lo := 2400) (hi := 2400) (U := 10000) hc.1 hc.2 (by omega) (by omega) (by omega) (by omega)
  exact tdv_hi (b := 2400) (by omega)
theorem aW_mono {u w j : Nat} {c : Int32} (hu : u ≤ 200) (hw : w ≤ 12) (hj : j ≤ 12) (hc : cosOK c) : (aW u w j c).toInt ≤ (aW u w (j + 1) c).toInt := by
  rw [aW_toInt hu hw (by omega) hc, aW_toInt hu hw (by omega) hc]
  refine tdv_mono ?_
  unfold zW
  refine Int.mul_le_mul_of_nonneg_right ?_ hc.1
  exact Int.mul_le_mul_of_nonneg_right (by omega) (by omega)
theorem sub_mid (M a b : Int32) : (M + a) - (M + b) = a - b := by grind
theorem fX_sub (u w g j j' : Nat) (l l' : Int32) : fX (nI u) (nI w) (nI g) (nI j) l - fX (nI u) (nI w) (nI g) (nI j') l' = aW u w j (cosR l) - aW u w j' (cosR l') := sub_mid _ _ _
theorem fX_row {u w j : Nat} (g : Nat) {l : Int32} (hu : u ≤ 200) (hw : w ≤ 12) (hj : j ≤ 12) (hl : rowOK l) : 0 ≤ (fX (nI u) (nI w) (nI g) (nI (j + 1)) l - fX (nI u) (nI w) (nI g) (nI j) l).toInt ∧ (fX (nI u) (nI w) (nI g) (nI (j + 1)) l - fX (nI u) (nI w) (nI g) (nI j) l).toInt ≤ 7600 := by
  have b1 := aW_bd (j := j) hu hw (by omega) (cos_ok hl)
  have b2 := aW_bd (j := j + 1) hu hw (by omega) (cos_ok hl)
  have b3 := aW_mono hu hw hj (cos_ok hl)
  rw [fX_sub, fb_subI (by omega) (by omega)]
  omega
/-! roots -/
def rootN : Nat → Nat
  | 0 => 0
  | v + 1 => if (rootN v + 1) * (rootN v + 1) ≤ v + 1 then rootN v + 1 else rootN v
theorem sq_s (r : Nat) : (r + 1) * (r + 1) = r * r + 2 * r + 1 := by
  rw [Nat.add_mul, Nat.mul_add, Nat.one_mul, Nat.mul_one]
  omega
theorem rootN_is : ∀ v, rootN v * rootN v ≤ v ∧ v < (rootN v + 1) * (rootN v + 1) := by
  intro v
  induction v with
  | zero => exact ⟨Nat.le_refl _, by decide⟩
  | succ v ih =>
    rw [rootN]
    split
    · rename_i h
      refine ⟨h, ?_⟩
      have h2 := ih.2
      rw [sq_s (rootN v + 1)]
      omega
    · rename_i h
      exact ⟨by omega, by omega⟩
theorem rootN_le {v t : Nat} (h : t * t ≤ v) : t ≤ rootN v := by
  rcases Nat.lt_or_ge (rootN v) t with q | q
  · have := Nat.mul_le_mul (show rootN v + 1 ≤ t from q) (show rootN v + 1 ≤ t from q)
    have := (rootN_is v).2
    omega
  · exact q
theorem rootN_lt {v t : Nat} (h : v < t * t) : rootN v < t := by
  rcases Nat.lt_or_ge (rootN v) t with q | q
  · exact q
  · have := Nat.mul_le_mul q q
    have := (rootN_is v).1
    omega
theorem shr1 {n : Nat} (h : n < 2 ^ 31) : nI n >>> ((1 : Int32) &&& 31) = nI (n / 2) := pk_shrN h _ 1 (by decide)
theorem sq_bd {t b : Nat} (h : t ≤ b) : t * t ≤ b * b := Nat.mul_le_mul h h
theorem s3_root {v : Nat} (hv : v < 8192 * 8192) {post : Int32 → Prop} (h : post (nI (rootN v))) : wX3_root (nI v) post := by
  unfold wX3_root
  have hr := rootN_lt hv
  refine ⟨fun r b => (∃ x k : Nat, r = nI x ∧ b = nI (2 ^ k) ∧ k ≤ 12 ∧ x ≤ rootN v ∧ rootN v < x + 2 * 2 ^ k) ∨ (r = nI (rootN v) ∧ b = 0), fun _ b => b.toNatClampNeg, Or.inl ⟨0, 12, rfl, rfl, by omega, by omega, by omega⟩, ?_⟩
  rintro r b (⟨x, k, rfl, rfl, hk, h1, h2⟩ | ⟨rfl, rfl⟩)
  · have hp : 2 ^ k ≤ 4096 := Nat.pow_le_pow_right (n := 2) (by omega) hk
    have hp0 : 0 < 2 ^ k := Nat.two_pow_pos k
    generalize hB : 2 ^ k = B at *
    refine br_f (nI_nle hp0 (by omega)) ?_
    intro y hy
    rw [nI_add] at hy
    subst hy
    rw [pk_mul, shr1 (by omega)]
    have hsq := sq_bd (show x + B ≤ 12288 by omega)
    have nxt : ∀ x', x' ≤ rootN v → rootN v < x' + B → ((∃ z k : Nat, nI x' = nI z ∧ nI (B / 2) = nI (2 ^ k) ∧ k ≤ 12 ∧ z ≤ rootN v ∧ rootN v < z + 2 * 2 ^ k) ∨ (nI x' = nI (rootN v) ∧ nI (B / 2) = 0)) ∧ (nI (B / 2)).toNatClampNeg < (nI B).toNatClampNeg := by
      intro x' g1 g2
      refine ⟨?_, by rw [nI_clamp (by omega), nI_clamp (by omega)]; omega⟩
      cases k with
      | zero =>
        have : B = 1 := hB.symm
        subst this
        refine Or.inr ⟨congrArg nI (by omega), rfl⟩
      | succ k =>
        have e : B = 2 ^ k * 2 := by rw [← hB, Nat.pow_succ]
        refine Or.inl ⟨x', k, rfl, ?_, by omega, g1, by omega⟩
        exact congrArg nI (by omega)
    refine pk_lt v ((x + B) * (x + B)) (fun c => ?_) (fun c => ?_) rfl rfl (by omega) (by omega)
    · intro z hz
      subst hz
      exact nxt x h1 (rootN_lt c)
    · intro z hz
      subst hz
      exact nxt (x + B) (rootN_le c) (by omega)
  · exact br_t (by decide) h
theorem s11_root {v : Nat} (hv : v < 8192 * 8192) {post : Int32 → Prop} (h : post (nI (rootN v))) : wX11_root (nI v) post := by
  unfold wX11_root
  have hr := rootN_lt hv
  refine ⟨fun a b => ∃ x y : Nat, a = nI x ∧ b = nI y ∧ y ≤ 30000 ∧ x ≤ rootN v ∧ rootN v ≤ y, fun a b => b.toNatClampNeg - a.toNatClampNeg, ⟨0, 30000, rfl, rfl, by omega, by omega, by omega⟩, ?_⟩
  rintro a b ⟨x, y, rfl, rfl, hy, h1, h2⟩
  refine pk_le y x (fun c => ?_) (fun c => ?_)
  · have e : x = rootN v := by omega
    rw [e]; exact h
  · intro m hm
    rw [nI_add, nI_1, show nI (x + y + 1) / 2 = nI ((x + y + 1) / 2) from pk_div (d := 2) (by omega) (by omega) (by omega)] at hm
    subst hm
    generalize hM : (x + y + 1) / 2 = M
    have hM1 : x < M ∧ M ≤ y := by omega
    rw [pk_mul]
    have hsq := sq_bd (show M ≤ 30000 by omega)
    refine pk_lt v (M * M) (fun c => ?_) (fun c => ?_) rfl rfl (by omega) (by omega)
    · intro z hz
      rw [show (1 : Int32) = nI 1 from rfl, pk_sub (by omega)] at hz
      subst hz
      have := rootN_lt c
      refine ⟨⟨x, M - 1, rfl, rfl, by omega, h1, by omega⟩, ?_⟩
      show (nI (M - 1)).toNatClampNeg - (nI x).toNatClampNeg < (nI y).toNatClampNeg - (nI x).toNatClampNeg
      rw [nI_clamp (by omega), nI_clamp (by omega), nI_clamp (by omega)]
      omega
    · have := rootN_le c
      refine ⟨⟨M, y, rfl, rfl, hy, this, h2⟩, ?_⟩
      show (nI y).toNatClampNeg - (nI M).toNatClampNeg < (nI y).toNatClampNeg - (nI x).toNatClampNeg
      rw [nI_clamp (by omega), nI_clamp (by omega), nI_clamp (by omega)]
      omega
theorem sqI {X : Int32} {b : Nat} (hb : b ≤ 5000) (h1 : -(b : Int) ≤ X.toInt) (h2 : X.toInt ≤ b) : X * X = nI (X.toInt.natAbs * X.toInt.natAbs) ∧ X.toInt.natAbs * X.toInt.natAbs ≤ b * b := by
  have hn : X.toInt.natAbs ≤ b := by omega
  have hq := sq_bd hn
  have hbb := sq_bd hb
  have e : X.toInt * X.toInt = ((X.toInt.natAbs * X.toInt.natAbs : Nat) : Int) := Int.natAbs_mul_self.symm
  refine ⟨?_, hq⟩
  rw [fa_eq, fb_mulI (by rw [e]; omega) (by rw [e]; omega), nI_toInt (by omega), e]
/-- the square of what lies between two rows' places -/
def vST (u w g j : Nat) (l l' : Int32) : Nat := (fX (nI u) (nI w) (nI g) (nI j) l - fX (nI u) (nI w) (nI g) (nI j) l').toInt.natAbs * (fX (nI u) (nI w) (nI g) (nI j) l - fX (nI u) (nI w) (nI g) (nI j) l').toInt.natAbs + 4 * u * u
theorem vST_is {u w j : Nat} (g : Nat) {l l' : Int32} (hu : u ≤ 200) (hw : w ≤ 12) (hj : j ≤ w) (hl : rowOK l) (hl' : rowOK l') : (fX (nI u) (nI w) (nI g) (nI j) l - fX (nI u) (nI w) (nI g) (nI j) l') * (fX (nI u) (nI w) (nI g) (nI j) l - fX (nI u) (nI w) (nI g) (nI j) l') + ((4 : Int32) * nI u) * nI u = nI (vST u w g j l l') ∧ vST u w g j l l' < 8192 * 8192 := by
  unfold vST
  have b1 := aW_bd' hu hw hj (cos_ok hl)
  have b2 := aW_bd' hu hw hj (cos_ok hl')
  have e0 : (fX (nI u) (nI w) (nI g) (nI j) l - fX (nI u) (nI w) (nI g) (nI j) l').toInt = (aW u w j (cosR l)).toInt - (aW u w j (cosR l')).toInt := by
    rw [fX_sub, fb_subI (by omega) (by omega)]
  obtain ⟨e, hq⟩ := sqI (X := fX (nI u) (nI w) (nI g) (nI j) l - fX (nI u) (nI w) (nI g) (nI j) l') (b := 4800) (by omega) (by rw [e0]; omega) (by rw [e0]; omega)
  have hu2 := sq_bd hu
  have e4 : 4 * u * u = 4 * (u * u) := Nat.mul_assoc 4 u u
  refine ⟨?_, ?_⟩
  · rw [e, show (4 : Int32) = nI 4 from rfl, pk_mul, pk_mul, nI_add]
  · omega
