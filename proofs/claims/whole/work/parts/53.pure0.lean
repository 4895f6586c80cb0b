/-! ===== places: numbers, rows, steps, neighbours; the class's functions and the reference's, as functions ===== -/
def fPole (p : Int32) : Int32 := if p = 0 then 1 else if p = 265 then 1 else 0
theorem q1_isPole {p : Int32} {post : Int32 → Prop} (h : post (fPole p)) : wX1_isPole p post := by
  unfold wX1_isPole
  unfold fPole at h
  repeat' first | exact h | (refine ⟨fun c => ?_, fun c => ?_⟩ <;> first | rw [if_pos c] at h | rw [if_neg c] at h)
theorem q11_isPole {p : Int32} {post : Int32 → Prop} (h : post (fPole p)) : wX11_isPole p post := by
  unfold wX11_isPole
  unfold fPole at h
  repeat' first | exact h | (refine ⟨fun c => ?_, fun c => ?_⟩ <;> first | rw [if_pos c] at h | rw [if_neg c] at h)
def fRow1 (p : Int32) : Int32 := if p = 0 then -6 else (p - 1) / 24 - 5
theorem q1_rowOf {p : Int32} {post : Int32 → Prop} (h : post (fRow1 p)) : wX1_rowOf p post := by
  unfold wX1_rowOf
  unfold fRow1 at h
  repeat' first | exact h | (refine ⟨fun c => ?_, fun c => ?_⟩ <;> first | rw [if_pos c] at h | rw [if_neg c] at h)
def fRow11 (p : Int32) : Int32 := if p = 0 then -6 else if p = 265 then 6 else (p - 1) / 24 - 5
theorem q11_rowOf {p : Int32} {post : Int32 → Prop} (h : post (fRow11 p)) : wX11_rowOf p post := by
  unfold wX11_rowOf
  unfold fRow11 at h
  repeat' first | exact h | (refine ⟨fun c => ?_, fun c => ?_⟩ <;> first | rw [if_pos c] at h | rw [if_neg c] at h)
def fStep (p : Int32) : Int32 := if fPole p = 0 then (p - 1) - (p - 1) / 24 * 24 else 0
theorem q1_stepOf {p : Int32} {post : Int32 → Prop} (h : post (fStep p)) : wX1_stepOf p post := by
  unfold wX1_stepOf
  unfold fStep at h
  refine q1_isPole ?_
  repeat' first | exact h | (refine ⟨fun c => ?_, fun c => ?_⟩ <;> first | rw [if_pos c] at h | rw [if_neg c] at h)
theorem q11_stepOf {p : Int32} {post : Int32 → Prop} (h : post (fStep p)) : wX11_stepOf p post := by
  unfold wX11_stepOf
  unfold fStep at h
  refine q11_isPole ?_
  repeat' first | exact h | (refine ⟨fun c => ?_, fun c => ?_⟩ <;> first | rw [if_pos c] at h | rw [if_neg c] at h)
def fNumber (l m : Int32) : Int32 := if l = -6 then 0 else if l = 6 then 265 else 1 + 24 * (l + 5) + m
theorem q1_numberOf {l m : Int32} {post : Int32 → Prop} (h : post (fNumber l m)) : wX1_numberOf l m post := by
  unfold wX1_numberOf
  unfold fNumber at h
  repeat' first | exact h | (refine ⟨fun c => ?_, fun c => ?_⟩ <;> first | rw [if_pos c] at h | rw [if_neg c] at h)
theorem q11_numberOf {l m : Int32} {post : Int32 → Prop} (h : post (fNumber l m)) : wX11_numberOf l m post := by
  unfold wX11_numberOf
  unfold fNumber at h
  repeat' first | exact h | (refine ⟨fun c => ?_, fun c => ?_⟩ <;> first | rw [if_pos c] at h | rw [if_neg c] at h)
def fNbn (p : Int32) : Int32 := if fPole p = 0 then 4 else 24
theorem q1_nbn {p : Int32} {post : Int32 → Prop} (h : post (fNbn p)) : wX1_neighbourNumber p post := by
  unfold wX1_neighbourNumber
  unfold fNbn at h
  refine q1_isPole ?_
  repeat' first | exact h | (refine ⟨fun c => ?_, fun c => ?_⟩ <;> first | rw [if_pos c] at h | rw [if_neg c] at h)
theorem q11_nbn {p : Int32} {post : Int32 → Prop} (h : post (fNbn p)) : wX11_neighbours p post := by
  unfold wX11_neighbours
  unfold fNbn at h
  refine q11_isPole ?_
  repeat' first | exact h | (refine ⟨fun c => ?_, fun c => ?_⟩ <;> first | rw [if_pos c] at h | rw [if_neg c] at h)
def fNb1 (p i : Int32) : Int32 := if p = 0 then 1 + i else if p = 265 then 241 + i else if i = 0 then (if 0 < p - 24 then p - 24 else 0) else if i = 1 then (if fStep p = 23 then p - fStep p else p + 1) else if i = 2 then (if fStep p = 0 then p + 24 - 1 else p - 1) else (if p + 24 < 265 then p + 24 else 265)
theorem q1_nb {p i : Int32} {post : Int32 → Prop} (h : post (fNb1 p i)) : wX1_neighbour p i post := by
  unfold wX1_neighbour
  unfold fNb1 at h
  refine ⟨fun c => ?_, fun c => ?_⟩
  · rw [if_pos c] at h; exact h
  rw [if_neg c] at h
  refine ⟨fun c => ?_, fun c => ?_⟩
  · rw [if_pos c] at h; exact h
  rw [if_neg c] at h
  refine q1_stepOf ?_
  repeat' first | exact h | (refine ⟨fun c => ?_, fun c => ?_⟩ <;> first | rw [if_pos c] at h | rw [if_neg c] at h)
def fNb11 (p k : Int32) : Int32 := if fPole p = 0 then (if k = 0 then fNumber (fRow11 p) ((fStep p + 23) - (fStep p + 23) / 24 * 24) else if k = 1 then fNumber (fRow11 p) ((fStep p + 1) - (fStep p + 1) / 24 * 24) else if k = 2 then fNumber (fRow11 p - 1) (fStep p) else fNumber (fRow11 p + 1) (fStep p)) else if p = 0 then 1 + k else 241 + k
theorem q11_nb {p k : Int32} {post : Int32 → Prop} (h : post (fNb11 p k)) : wX11_neighbour p k post := by
  unfold wX11_neighbour
  unfold fNb11 at h
  refine q11_isPole ?_
  refine ⟨fun c => ?_, fun c => ?_⟩
  · rw [if_pos c] at h
    refine q11_rowOf ?_
    refine q11_stepOf ?_
    refine ⟨fun c => ?_, fun c => ?_⟩
    · rw [if_pos c] at h; exact q11_numberOf h
    rw [if_neg c] at h
    refine ⟨fun c => ?_, fun c => ?_⟩
    · rw [if_pos c] at h; exact q11_numberOf h
    rw [if_neg c] at h
    refine ⟨fun c => ?_, fun c => ?_⟩
    · rw [if_pos c] at h; exact q11_numberOf h
    · rw [if_neg c] at h; exact q11_numberOf h
  · rw [if_neg c] at h
    repeat' first | exact h | (refine ⟨fun c => ?_, fun c => ?_⟩ <;> first | rw [if_pos c] at h | rw [if_neg c] at h)
/-! by plain numbers -/
def rowI (k : Nat) : Int32 := if k = 0 then -6 else if k = 265 then 6 else nI ((k - 1) / 24) - 5
def stepN (k : Nat) : Nat := if k = 0 ∨ k = 265 then 0 else (k - 1) % 24
def nbn (k : Nat) : Nat := if k = 0 ∨ k = 265 then 24 else 4
def nb (k i : Nat) : Nat := if k = 0 then 1 + i else if k = 265 then 241 + i else if i = 0 then (if k ≤ 24 then 0 else k - 24) else if i = 1 then (if (k - 1) % 24 = 23 then k - 23 else k + 1) else if i = 2 then (if (k - 1) % 24 = 0 then k + 23 else k - 1) else (if k + 24 < 265 then k + 24 else 265)
def nbM (k i : Nat) : Nat := if k = 0 then 1 + i else if k = 265 then 241 + i else if i = 0 then (if (k - 1) % 24 = 0 then k + 23 else k - 1) else if i = 1 then (if (k - 1) % 24 = 23 then k - 23 else k + 1) else if i = 2 then (if k ≤ 24 then 0 else k - 24) else (if k + 24 < 265 then k + 24 else 265)
theorem t_row1 : ∀ k, k < 266 → fRow1 (nI k) = rowI k := by decide +kernel
theorem t_row11 : ∀ k, k < 266 → fRow11 (nI k) = rowI k := by decide +kernel
theorem t_step : ∀ k, k < 266 → fStep (nI k) = nI (stepN k) := by decide +kernel
theorem t_nbn : ∀ k, k < 266 → fNbn (nI k) = nI (nbn k) := by decide +kernel
theorem t_pole : ∀ k, k < 266 → fPole (nI k) = if k = 0 ∨ k = 265 then 1 else 0 := by decide +kernel
theorem t_nb1 : ∀ k, k < 266 → ∀ i, i < nbn k → fNb1 (nI k) (nI i) = nI (nb k i) := by decide +kernel
theorem t_nb11 : ∀ k, k < 266 → ∀ i, i < nbn k → fNb11 (nI k) (nI i) = nI (nbM k i) := by decide +kernel
theorem t_nb_lt : ∀ k, k < 266 → ∀ i, i < nbn k → nb k i < 266 := by decide +kernel
theorem t_nbM_lt : ∀ k, k < 266 → ∀ i, i < nbn k → nbM k i < 266 := by decide +kernel
theorem stepN_lt (k : Nat) : stepN k < 24 := by
  unfold stepN
  split
  · omega
  · exact Nat.mod_lt _ (by omega)
theorem s1_row {k : Nat} (hk : k < 266) {post : Int32 → Prop} (h : post (rowI k)) : wX1_rowOf (nI k) post := q1_rowOf (by rw [t_row1 k hk]; exact h)
theorem s11_row {k : Nat} (hk : k < 266) {post : Int32 → Prop} (h : post (rowI k)) : wX11_rowOf (nI k) post := q11_rowOf (by rw [t_row11 k hk]; exact h)
theorem s1_step {k : Nat} (hk : k < 266) {post : Int32 → Prop} (h : post (nI (stepN k))) : wX1_stepOf (nI k) post := q1_stepOf (by rw [t_step k hk]; exact h)
theorem s11_step {k : Nat} (hk : k < 266) {post : Int32 → Prop} (h : post (nI (stepN k))) : wX11_stepOf (nI k) post := q11_stepOf (by rw [t_step k hk]; exact h)
theorem s1_nbn {k : Nat} (hk : k < 266) {post : Int32 → Prop} (h : post (nI (nbn k))) : wX1_neighbourNumber (nI k) post := q1_nbn (by rw [t_nbn k hk]; exact h)
theorem s11_nbn {k : Nat} (hk : k < 266) {post : Int32 → Prop} (h : post (nI (nbn k))) : wX11_neighbours (nI k) post := q11_nbn (by rw [t_nbn k hk]; exact h)
theorem s1_nb {k i : Nat} (hk : k < 266) (hi : i < nbn k) {post : Int32 → Prop} (h : post (nI (nb k i))) : wX1_neighbour (nI k) (nI i) post := q1_nb (by rw [t_nb1 k hk i hi]; exact h)
theorem s11_nb {k i : Nat} (hk : k < 266) (hi : i < nbn k) {post : Int32 → Prop} (h : post (nI (nbM k i))) : wX11_neighbour (nI k) (nI i) post := q11_nb (by rw [t_nb11 k hk i hi]; exact h)
theorem s1_pole {k : Nat} (hk : k < 266) {post : Int32 → Prop} (h : post (if k = 0 ∨ k = 265 then 1 else 0)) : wX1_isPole (nI k) post := q1_isPole (by rw [t_pole k hk]; exact h)
theorem s11_pole {k : Nat} (hk : k < 266) {post : Int32 → Prop} (h : post (if k = 0 ∨ k = 265 then 1 else 0)) : wX11_isPole (nI k) post := q11_isPole (by rw [t_pole k hk]; exact h)
/-! tests of ranges -/
def fIn (v a b : Int32) : Int32 := if v < a then 0 else if b < v then 0 else 1
theorem q10_isIn {v a b : Int32} {post : Int32 → Prop} (h : post (fIn v a b)) : wX10_isIn v a b post := by
  unfold wX10_isIn
  unfold fIn at h
  repeat' first | exact h | (refine ⟨fun c => ?_, fun c => ?_⟩ <;> first | rw [if_pos c] at h | rw [if_neg c] at h)
theorem q11_in {v a b : Int32} {post : Int32 → Prop} (h : post (fIn v a b)) : wX11_in v a b post := by
  unfold wX11_in
  unfold fIn at h
  repeat' first | exact h | (refine ⟨fun c => ?_, fun c => ?_⟩ <;> first | rw [if_pos c] at h | rw [if_neg c] at h)
theorem fIn_01 (v a b : Int32) : fIn v a b = 0 ∨ fIn v a b = 1 := by
  unfold fIn
  split
  · exact Or.inl rfl
  · split
    · exact Or.inl rfl
    · exact Or.inr rfl
/-- v lies from nI lo to nI hi, or fIn says 0 -/
theorem fIn_cases (v : Int32) {hi : Nat} (hh : hi < 2 ^ 31) : (fIn v 0 (nI hi) = 0) ∨ (fIn v 0 (nI hi) = 1 ∧ ∃ k, k ≤ hi ∧ v = nI k) := by
  unfold fIn
  by_cases h1 : v < 0
  · exact Or.inl (if_pos h1)
  · rw [if_neg h1]
    by_cases h2 : nI hi < v
    · exact Or.inl (if_pos h2)
    · rw [if_neg h2]
      refine Or.inr ⟨rfl, ?_⟩
      obtain ⟨k, hk, e⟩ := nI_of h1
      refine ⟨k, ?_, e⟩
      rcases Nat.lt_or_ge hi k with q | q
      · exact absurd (by rw [e]; exact nI_lt q hk) h2
      · exact q
theorem q1_isNumber {v : Int32} {post : Int32 → Prop} (h : post (fIn v 0 (nI 265))) : wX1_isNumber v post := by
  unfold wX1_isNumber
  unfold fIn at h
  refine br_c (fun c => ?_) (fun c => ?_)
  · rw [if_pos c] at h; exact h
  · rw [if_neg c] at h
    refine br_c (fun c => ?_) (fun c => ?_)
    · rw [if_pos (show nI 265 < v from c)] at h; exact h
    · rw [if_neg (show ¬ nI 265 < v from c)] at h; exact h
theorem q11_isNumber {v : Int32} {post : Int32 → Prop} (h : post (fIn v 0 (nI 265))) : wX11_isNumber v post := by
  unfold wX11_isNumber
  refine q11_in ?_
  exact ⟨fIn_01 v 0 265, h⟩
