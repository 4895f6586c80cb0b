/-! ===== paper: where places lie ===== -/
def absI (x : Int32) : Int32 := if 0 ≤ x then x else 0 - x
theorem neg_z (x : Int32) : 0 - x = -x := Int32.zero_sub x
theorem q11_size {x : Int32} {post : Int32 → Prop} (h : post (absI x)) : wX11_size x post := by
  unfold wX11_size
  unfold absI at h
  refine br_c (fun c => ?_) (fun c => ?_)
  · rw [if_pos c] at h; exact h
  · rw [if_neg c, neg_z] at h; exact h
def rowOK (l : Int32) : Prop := ∃ i, i < 13 ∧ l = nI i - 6
theorem t_rowOK : ∀ p, p < 266 → ∃ i, i < 13 ∧ rowI p = nI i - 6 := by decide +kernel
theorem rowI_ok {p : Nat} (hp : p < 266) : rowOK (rowI p) := t_rowOK p hp
def cosR (l : Int32) : Int32 := sinesF (6 + absI l).toNatClampNeg
theorem t_cos1 : ∀ i, i < 13 → (0 ≤ nI i - 6 → ¬ ((6 : Int32) + (nI i - 6) < 0 ∨ 24 ≤ ((6 : Int32) + (nI i - 6)).toNatClampNeg)) ∧ (¬ 0 ≤ nI i - 6 → ¬ ((6 : Int32) + (-(nI i - 6)) < 0 ∨ 24 ≤ ((6 : Int32) + (-(nI i - 6))).toNatClampNeg)) := by decide +kernel
theorem q1_rowCosine {l : Int32} (hl : rowOK l) {post : Int32 → Prop} (h : post (cosR l)) : wX1_rowCosine l post := by
  obtain ⟨i, hi, rfl⟩ := hl
  unfold wX1_rowCosine
  unfold cosR absI at h
  refine br_c (fun c => ?_) (fun c => ?_)
  · rw [if_pos c] at h; exact ⟨(t_cos1 i hi).1 c, h⟩
  · rw [if_neg c, neg_z] at h; exact ⟨(t_cos1 i hi).2 c, h⟩
def fQuart (a : Int32) : Int32 := if a = 0 then 0 else if a = 1 then 2588 else if a = 2 then 5000 else if a = 3 then 7071 else if a = 4 then 8660 else if a = 5 then 9659 else 10000
theorem q11_quarter {a : Int32} {post : Int32 → Prop} (h : post (fQuart a)) : wX11_quarter a post := by
  unfold wX11_quarter
  unfold fQuart at h
  repeat' first | exact h | (refine ⟨fun c => ?_, fun c => ?_⟩ <;> first | rw [if_pos c] at h | rw [if_neg c] at h)
def fSine11 (a : Int32) : Int32 := if 12 ≤ a then -(fQuart (if a - a / 12 * 12 ≤ 6 then a - a / 12 * 12 else 12 - (a - a / 12 * 12))) else fQuart (if a - a / 12 * 12 ≤ 6 then a - a / 12 * 12 else 12 - (a - a / 12 * 12))
theorem q11_sine {a : Int32} {post : Int32 → Prop} (h : post (fSine11 a)) : wX11_sine a post := by
  unfold wX11_sine
  unfold fSine11 at h
  intro x hx
  subst hx
  refine ⟨fun t => t = (if a - a / 12 * 12 ≤ 6 then a - a / 12 * 12 else 12 - (a - a / 12 * 12)), ?_, br_c (fun c => (if_pos c).symm) (fun c => (if_neg c).symm)⟩
  rintro t rfl
  refine q11_quarter ?_
  refine br_c (fun c => ?_) (fun c => ?_)
  · rw [if_pos c] at h; exact h
  · rw [if_neg c] at h; exact h
theorem t_sine11 : ∀ m, m < 24 → fSine11 (nI m) = sinesF m := by decide +kernel
theorem s11_sine {m : Nat} (hm : m < 24) {post : Int32 → Prop} (h : post (sinesF m)) : wX11_sine (nI m) post := q11_sine (by rw [t_sine11 m hm]; exact h)
theorem s1_sine {m : Nat} (hm : m < 24) {post : Int32 → Prop} (h : post (sinesF m)) : wX1_sine (nI m) post := by
  unfold wX1_sine
  rw [nI_clamp (by omega)]
  exact ⟨vp_in_nI hm (by omega), h⟩
theorem m6_24 {m : Nat} (hm : m < 24) : (nI m + (6 : Int32)) - (nI m + (6 : Int32)) / (24 : Int32) * (24 : Int32) = nI ((m + 6) % 24) := by
  rw [show (6 : Int32) = nI 6 from rfl, nI_add]
  exact mod_nI (d := 24) (by omega) (by omega) (by omega)
theorem s1_cosine {m : Nat} (hm : m < 24) {post : Int32 → Prop} (h : post (sinesF ((m + 6) % 24))) : wX1_cosine (nI m) post := by
  unfold wX1_cosine
  rw [m6_24 hm, nI_clamp (by omega)]
  exact ⟨vp_in_nI (by omega) (by omega), h⟩
theorem s11_cosine {m : Nat} (hm : m < 24) {post : Int32 → Prop} (h : post (sinesF ((m + 6) % 24))) : wX11_cosine (nI m) post := by
  unfold wX11_cosine
  rw [m6_24 hm]
  exact s11_sine (by omega) h
theorem t_absR : ∀ i, i < 13 → ∃ m, m < 7 ∧ absI (nI i - 6) = nI m ∧ sinesF ((m + 6) % 24) = cosR (nI i - 6) := by decide +kernel
theorem q11_wideOf {l : Int32} (hl : rowOK l) {post : Int32 → Prop} (h : post (cosR l)) : wX11_wideOf l post := by
  obtain ⟨i, hi, rfl⟩ := hl
  obtain ⟨m, hm, e1, e2⟩ := t_absR i hi
  unfold wX11_wideOf
  refine q11_size ?_
  rw [e1]
  refine s11_cosine (by omega) ?_
  rw [e2]
  exact h
/-! tests -/
def fPlace (l m : Int32) : Int32 := if fIn l (-6) 6 = 0 then 0 else if fIn m 0 (nI 23) = 0 then 0 else 1
theorem lt24 (m : Int32) : (24 : Int32) ≤ m ↔ nI 23 < m := by
  rw [fa_le, fa_lt]
  have h1 : (24 : Int32).toInt = 24 := rfl
  have h2 : (nI 23).toInt = 23 := rfl
  rw [h1, h2]
  omega
theorem q1_isPlace {l m : Int32} {post : Int32 → Prop} (h : post (fPlace l m)) : wX1_isPlace l m post := by
  unfold wX1_isPlace
  unfold fPlace fIn at h
  rw [lt24]
  by_cases c1 : l < -6
  · rw [if_pos c1, if_pos rfl] at h; exact br_t c1 h
  rw [if_neg c1] at h
  refine br_f c1 ?_
  by_cases c2 : 6 < l
  · rw [if_pos c2, if_pos rfl] at h; exact br_t c2 h
  rw [if_neg c2, if_neg (by decide)] at h
  refine br_f c2 ?_
  by_cases c3 : m < 0
  · rw [if_pos c3, if_pos rfl] at h; exact br_t c3 h
  rw [if_neg c3] at h
  refine br_f c3 ?_
  by_cases c4 : nI 23 < m
  · rw [if_pos c4, if_pos rfl] at h; exact br_t c4 h
  · rw [if_neg c4, if_neg (by decide)] at h; exact br_f c4 h
theorem q11_isPlace {l m : Int32} {post : Int32 → Prop} (h : post (fPlace l m)) : wX11_isPlace l m post := by
  unfold wX11_isPlace
  unfold fPlace at h
  refine q11_in ?_
  refine br_c (fun c => ?_) (fun c => ?_)
  · rw [if_pos (show fIn l (-6) 6 = 0 from c)] at h; exact h
  · rw [if_neg (show ¬ fIn l (-6) 6 = 0 from c)] at h
    refine q11_in ?_
    refine br_c (fun c => ?_) (fun c => ?_)
    · rw [if_pos (show fIn m 0 (nI 23) = 0 from c)] at h; exact h
    · rw [if_neg (show ¬ fIn m 0 (nI 23) = 0 from c)] at h; exact h
theorem fIn_row {l : Int32} (h : ¬ fIn l (-6) 6 = 0) : rowOK l := by
  unfold fIn at h
  by_cases c1 : l < -6
  · rw [if_pos c1] at h; exact absurd rfl h
  rw [if_neg c1] at h
  by_cases c2 : 6 < l
  · rw [if_pos c2] at h; exact absurd rfl h
  rw [fa_lt] at c1 c2
  have g1 : (-6 : Int32).toInt = -6 := rfl
  have g2 : (6 : Int32).toInt = 6 := rfl
  rw [g1] at c1
  rw [g2] at c2
  refine ⟨(l.toInt + 6).toNat, by omega, ?_⟩
  rw [fa_eq, fb_subI (by rw [nI_toInt (by omega), g2]; omega) (by rw [nI_toInt (by omega), g2]; omega), nI_toInt (by omega), g2]
  omega
theorem fPlace_yes {l m : Int32} (h : ¬ fPlace l m = 0) : rowOK l ∧ ∃ k, k < 24 ∧ m = nI k := by
  unfold fPlace at h
  by_cases c1 : fIn l (-6) 6 = 0
  · rw [if_pos c1] at h; exact absurd rfl h
  rw [if_neg c1] at h
  refine ⟨fIn_row c1, ?_⟩
  rcases fIn_cases m (hi := 23) (by omega) with q | ⟨q, k, hk, e⟩
  · rw [if_pos q] at h; exact absurd rfl h
  · exact ⟨k, by omega, e⟩
/-- the number of a place -/
theorem t_numOf : ∀ i, i < 13 → ∀ m, m < 24 → ∃ p, p < 266 ∧ fNumber (nI i - 6) (nI m) = nI p ∧ rowI p = nI i - 6 := by decide +kernel
theorem numOf {l : Int32} (hl : rowOK l) {m : Nat} (hm : m < 24) : ∃ p, p < 266 ∧ fNumber l (nI m) = nI p ∧ rowI p = l := by
  obtain ⟨i, hi, rfl⟩ := hl
  exact t_numOf i hi m hm
def fOnS (l caps : Int32) : Int32 := if 6 - caps < absI l then 0 else 1
theorem q0_onS {l caps : Int32} {post : Int32 → Prop} (h : post (fOnS l caps)) : wX0_isOnStrips l caps post := by
  unfold wX0_isOnStrips
  unfold fOnS at h
  refine br_c (fun c => ?_) (fun c => ?_)
  · rw [if_pos (show 6 - caps < absI l from c)] at h; exact h
  · rw [if_neg (show ¬ 6 - caps < absI l from c)] at h; exact h
theorem q11_onS {l : Int32} {st : Nat → Int32} {post : Int32 → Prop} (h : post (fOnS l (st 268))) : wX11_isOnStrips l st post := by
  unfold wX11_isOnStrips
  unfold fOnS at h
  refine q11_size ?_
  refine br_c (fun c => ?_) (fun c => ?_)
  · rw [if_pos c] at h; exact h
  · rw [if_neg c] at h; exact h
def fOnC (l caps : Int32) : Int32 := if caps ≤ 0 then 0 else if absI l < 6 - caps then 0 else 1
theorem q0_onC {l caps : Int32} {post : Int32 → Prop} (h : post (fOnC l caps)) : wX0_isOnCap l caps post := by
  unfold wX0_isOnCap
  unfold fOnC at h
  refine br_c (fun c => ?_) (fun c => ?_)
  · rw [if_pos c] at h; exact h
  rw [if_neg c] at h
  refine br_c (fun c => ?_) (fun c => ?_)
  · rw [if_pos (show absI l < 6 - caps from c)] at h; exact h
  · rw [if_neg (show ¬ absI l < 6 - caps from c)] at h; exact h
theorem q11_onC {l : Int32} {st : Nat → Int32} {post : Int32 → Prop} (h : post (fOnC l (st 268))) : wX11_isOnCap l st post := by
  unfold wX11_isOnCap
  unfold fOnC at h
  refine br_c (fun c => ?_) (fun c => ?_)
  · rw [if_pos c] at h; exact h
  rw [if_neg c] at h
  refine q11_size ?_
  refine br_c (fun c => ?_) (fun c => ?_)
  · rw [if_pos c] at h; exact h
  · rw [if_neg c] at h; exact h
def fOnS2 (a b caps : Int32) : Int32 := if fOnS a caps = 0 then 0 else fOnS b caps
theorem fOnS_01 (l c : Int32) : fOnS l c = 0 ∨ fOnS l c = 1 := by
  unfold fOnS
  split
  · exact Or.inl rfl
  · exact Or.inr rfl
theorem fOnS_1 {l c : Int32} (h : ¬ fOnS l c = 0) : fOnS l c = 1 := (fOnS_01 l c).resolve_left h
theorem s0_onS2 {p q : Nat} (hp : p < 266) (hq : q < 266) {caps : Int32} {post : Int32 → Prop} (h : post (fOnS2 (rowI p) (rowI q) caps)) : wX0_areOnStrips (nI p) (nI q) caps post := by
  unfold wX0_areOnStrips
  unfold fOnS2 at h
  refine s1_row hp (q0_onS ?_)
  refine br_c (fun c => ?_) (fun c => ?_)
  · rw [if_pos c] at h; exact h
  rw [if_neg c] at h
  refine s1_row hq (q0_onS ?_)
  refine br_c (fun c => ?_) (fun c => ?_)
  · rw [c] at h; exact h
  · rw [fOnS_1 c] at h; exact h
theorem s11_onS2 {p q : Nat} (hp : p < 266) (hq : q < 266) {st : Nat → Int32} {post : Int32 → Prop} (h : post (fOnS2 (rowI p) (rowI q) (st 268))) : wX11_hasStraight (nI p) (nI q) st post := by
  unfold wX11_hasStraight
  unfold fOnS2 at h
  refine s11_row hp (q11_onS ?_)
  refine br_c (fun c => ?_) (fun c => ?_)
  · rw [if_pos c] at h; exact h
  rw [if_neg c] at h
  refine s11_row hq (q11_onS ?_)
  refine br_c (fun c => ?_) (fun c => ?_)
  · rw [c] at h; exact h
  · rw [fOnS_1 c] at h; exact h
/-! widths -/
def stripN (n : Nat) : Prop := n = 2 ∨ n = 3 ∨ n = 4 ∨ n = 6 ∨ n = 8 ∨ n = 12
theorem stripN_w {n : Nat} (h : stripN n) : 0 < 24 / n ∧ 24 / n ≤ 12 ∧ 24 / n * n = 24 ∧ 0 < n ∧ n ≤ 12 := by
  rcases h with e | e | e | e | e | e <;> subst e <;> decide
theorem wI_of {n : Nat} (h : stripN n) : (24 : Int32) / nI n = nI (24 / n) := pk_div (a := 24) (by omega) (stripN_w h).2.2.2.1 (by have := (stripN_w h).2.2.2.2; omega)
theorem wI_ne {n : Nat} (h : stripN n) : ¬ nI (24 / n) = 0 := by
  have := stripN_w h
  exact nI_ne0 (by omega) (by omega)
theorem nI_strip_ne {n : Nat} (h : stripN n) : ¬ nI n = 0 := by
  have := stripN_w h
  exact nI_ne0 (by omega) (by omega)
theorem q0_width {n : Nat} (hn : stripN n) {post : Int32 → Prop} (h : post (nI (24 / n))) : wX0_width (nI n) post := by
  unfold wX0_width
  rw [wI_of hn]
  exact ⟨nI_strip_ne hn, h⟩
theorem q11_wide {n : Nat} (hn : stripN n) {st : Nat → Int32} (e : st 267 = nI n) {post : Int32 → Prop} (h : post (nI (24 / n))) : wX11_wide st post := by
  unfold wX11_wide
  rw [e, wI_of hn]
  exact ⟨nI_strip_ne hn, h⟩
/-! X -/
def fX (unit w g j l : Int32) : Int32 := (((2 * g + 1) * w) * unit) + ((((2 * j - w) * unit) * cosR l) / 10000)
theorem q3_x {unit w g j l : Int32} (hl : rowOK l) {post : Int32 → Prop} (h : post (fX unit w g j l)) : wX3_xOnStrip unit w g j l post := by
  unfold wX3_xOnStrip
  exact q1_rowCosine hl h
theorem q11_xBy {w g j l : Int32} (hl : rowOK l) {st : Nat → Int32} {post : Int32 → Prop} (h : post (fX (st 266) w g j l)) : wX11_acrossBy w g j l st post := by
  unfold wX11_acrossBy
  exact q11_wideOf hl h
theorem q11_x {n : Nat} (hn : stripN n) {g j l : Int32} (hl : rowOK l) {st : Nat → Int32} (e : st 267 = nI n) {post : Int32 → Prop} (h : post (fX (st 266) (nI (24 / n)) g j l)) : wX11_across g j l st post := by
  unfold wX11_across
  exact q11_wide hn e (q11_xBy hl h)
theorem mod_j (m w : Int32) : m - w * (m / w) = m - m / w * w := by rw [Int32.mul_comm]
/-- X of step m of a row, strips of width w -/
def fSX (unit w l m : Int32) : Int32 := fX unit w (m / w) (m - m / w * w) l
theorem q3_stripX {unit w l m : Int32} (hw : ¬ w = 0) (hl : rowOK l) {post : Int32 → Prop} (h : post (fSX unit w l m)) : wX3_stripX unit w l m post := by
  unfold wX3_stripX
  refine ⟨hw, fun x hx => ?_⟩
  subst hx
  rw [mod_j]
  exact q3_x hl h
theorem s11_xOf {n p : Nat} (hp : p < 266) (hn : stripN n) {st : Nat → Int32} (e : st 267 = nI n) {post : Int32 → Prop} (h : post (fSX (st 266) (nI (24 / n)) (rowI p) (nI (stepN p)))) : wX11_xOf (nI p) st post := by
  unfold wX11_xOf
  refine s11_step hp (q11_wide hn e ⟨wI_ne hn, q11_wide hn e ⟨wI_ne hn, s11_row hp (q11_x hn (rowI_ok hp) e h)⟩⟩)
