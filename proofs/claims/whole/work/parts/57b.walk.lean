/-! ===== ways: walks and the least of them ===== -/
def fN (u x y : Nat) : Nat := (farV (nI u) x y).toNatClampNeg
theorem fN_is {u x y : Nat} (hu : u ≤ 200) (hx : x < 266) : farV (nI u) x y = nI (fN u x y) ∧ fN u x y ≤ 400 := by
  have b := farV_bd (q := y) hu hx
  obtain ⟨k, hk, e⟩ := nI_of (x := farV (nI u) x y) (fun z => by
    have := (fa_lt _ _).1 z
    have e0 : (0 : Int32).toInt = 0 := rfl
    omega)
  unfold fN
  rw [e] at b ⊢
  rw [nI_toInt hk] at b
  rw [nI_clamp hk]
  exact ⟨rfl, by omega⟩
theorem fN_sym (u x y : Nat) : fN u x y = fN u y x := by
  unfold fN farV
  by_cases h : rowI x = rowI y
  · rw [if_pos h, if_pos h.symm, h]
  · rw [if_neg h, if_neg (fun z => h z.symm)]
theorem t_cosadj : ∀ x, x < 266 → ∀ i, i < nbn x → rowI x = rowI (nb x i) → 2588 ≤ (cosR (rowI x)).toInt := by decide +kernel
theorem fN_pos {u x y : Nat} (h10 : 10 ≤ u) (hu : u ≤ 200) (hx : x < 266) (ha : adjB x y = true) : 1 ≤ fN u x y := by
  obtain ⟨e, hle⟩ := fN_is (y := y) hu hx
  have key : 1 ≤ (farV (nI u) x y).toInt := by
    unfold farV
    by_cases h : rowI x = rowI y
    · rw [if_pos h]
      obtain ⟨i, hi, ei⟩ := adj_iff.1 ha
      have hc := t_cosadj x hx i hi (by rw [ei]; exact h)
      have hc2 := (cos_ok (rowI_ok hx)).2
      have b := mul_bd (a := 2 * (u : Int)) (b := (cosR (rowI x)).toInt) (lo := 0) (hi := 400) (U := 10000) (by omega) hc2 (by omega) (by omega) (by omega) (by omega)
      have e2 : ((2 * nI u) * cosR (rowI x)).toInt = 2 * (u : Int) * (cosR (rowI x)).toInt := by
        rw [fb_mulI (by rw [t_far2 hu]; omega) (by rw [t_far2 hu]; omega), t_far2 hu]
      have b3 : 2 * (u : Int) * 2588 ≤ 2 * (u : Int) * (cosR (rowI x)).toInt := Int.mul_le_mul_of_nonneg_left hc (by omega)
      rw [div4, e2]
      have := tdv_mono (x := 10000) (y := 2 * (u : Int) * (cosR (rowI x)).toInt) (by omega)
      rw [tdv] at this
      rw [if_pos (by omega)] at this
      omega
    · rw [if_neg h, t_far2 hu]
      omega
  rw [e, nI_toInt (by omega)] at key
  omega
def Walk (S : Nat → Prop) (u p q F s : Nat) : Prop := ∀ R : Nat → Nat → Nat → Prop, R p 0 0 → (∀ x F s y, R x F s → S x → S y → adjB x y = true → R y (F + fN u x y) (s + 1)) → R q F s
theorem wk_0 (S : Nat → Prop) (u p : Nat) : Walk S u p p 0 0 := fun _ h _ => h
theorem wk_step {S : Nat → Prop} {u p x y F s : Nat} (h : Walk S u p x F s) (sx : S x) (sy : S y) (ha : adjB x y = true) : Walk S u p y (F + fN u x y) (s + 1) := fun R h0 hs => hs x F s y (h R h0 hs) sx sy ha
theorem wk_inv {S : Nat → Prop} {u p q F s : Nat} (h : Walk S u p q F s) : (q = p ∧ F = 0 ∧ s = 0) ∨ ∃ x F' s', Walk S u p x F' s' ∧ S x ∧ S q ∧ adjB x q = true ∧ F = F' + fN u x q ∧ s = s' + 1 := by
  have := h (fun q F s => Walk S u p q F s ∧ ((q = p ∧ F = 0 ∧ s = 0) ∨ ∃ x F' s', Walk S u p x F' s' ∧ S x ∧ S q ∧ adjB x q = true ∧ F = F' + fN u x q ∧ s = s' + 1)) ⟨wk_0 S u p, Or.inl ⟨rfl, rfl, rfl⟩⟩ (fun x F s y hx sx sy ha => ⟨wk_step hx.1 sx sy ha, Or.inr ⟨x, F, s, hx.1, sx, sy, ha, rfl, rfl⟩⟩)
  exact this.2
theorem wk_in {S : Nat → Prop} {u p q F s : Nat} (hp : S p) (h : Walk S u p q F s) : S q := by
  rcases wk_inv h with ⟨e, -⟩ | ⟨x, F', s', -, -, sq, -⟩
  · rw [e]; exact hp
  · exact sq
theorem wk_pre {S : Nat → Prop} {u y z t F s : Nat} (sy : S y) (sz : S z) (ha : adjB y z = true) (h : Walk S u z t F s) : Walk S u y t (F + fN u y z) (s + 1) := by
  refine h (fun t F s => Walk S u y t (F + fN u y z) (s + 1)) ?_ (fun x F s w hx sx sw hxw => ?_)
  · have := wk_step (wk_0 S u y) sy sz ha
    exact this
  · have := wk_step hx sx sw hxw
    rw [show F + fN u x w + fN u y z = F + fN u y z + fN u x w by omega]
    exact this
theorem wk_sym {st : Nat → Int32} {u p q F s : Nat} (h : Walk (seaP st) u p q F s) : Walk (seaP st) u q p F s := by
  refine h (fun q F s => Walk (seaP st) u q p F s) (wk_0 _ u p) (fun x F s y hx sx sy ha => ?_)
  have := wk_pre sy sx (adj_sym sx.1 ha) hx
  rw [fN_sym u x y]
  exact this
theorem wk_bd {st : Nat → Int32} {u p q F s : Nat} (hu : u ≤ 200) (h : Walk (seaP st) u p q F s) : F ≤ 400 * s := by
  refine h (fun _ F s => F ≤ 400 * s) (Nat.le_refl _) (fun x F s y hx sx sy ha => ?_)
  have := (fN_is (y := y) hu sx.1).2
  omega
theorem wk_ge {st : Nat → Int32} {u p q F s : Nat} (h10 : 10 ≤ u) (hu : u ≤ 200) (h : Walk (seaP st) u p q F s) : s ≤ F := by
  refine h (fun _ F s => s ≤ F) (Nat.le_refl _) (fun x F s y hx sx sy ha => ?_)
  have := fN_pos h10 hu sx.1 ha
  omega
def opt (S : Nat → Prop) (u p q F s : Nat) : Prop := Walk S u p q F s ∧ ∀ F' s', Walk S u p q F' s' → F < F' ∨ (F = F' ∧ s ≤ s')
theorem opt_one {S : Nat → Prop} {u p q F s F' s' : Nat} (h : opt S u p q F s) (h' : opt S u p q F' s') : F = F' ∧ s = s' := by
  have h1 := h.2 F' s' h'.1
  have h2 := h'.2 F s h.1
  omega
theorem opt_pre {S : Nat → Prop} {u p q F n : Nat} (h : opt S u p q F (n + 1)) : ∃ y F', S y ∧ S q ∧ adjB y q = true ∧ F = F' + fN u y q ∧ opt S u p y F' n := by
  rcases wk_inv h.1 with ⟨-, -, e⟩ | ⟨y, F', s', hw, sy, sq, ha, eF, es⟩
  · exact absurd e (Nat.succ_ne_zero n)
  · have es' : s' = n := by omega
    subst es'
    refine ⟨y, F', sy, sq, ha, eF, hw, fun F2 s2 hw2 => ?_⟩
    have := h.2 _ _ (wk_step hw2 sy sq ha)
    omega
theorem opt_back {S : Nat → Prop} {u p y q F s Fq : Nat} (h : opt S u p q Fq (s + 1)) (hw : Walk S u p y F s) (sy : S y) (sq : S q) (ha : adjB y q = true) (e : F + fN u y q = Fq) : opt S u p y F s := by
  refine ⟨hw, fun F2 s2 hw2 => ?_⟩
  have := h.2 _ _ (wk_step hw2 sy sq ha)
  omega
theorem opt_chain {st : Nat → Int32} {u p : Nat} (hp : p < 266) : ∀ n q F, opt (seaP st) u p q F n → ∃ g : Nat → Nat, ∀ k, k ≤ n → g k < 266 ∧ ∃ F', opt (seaP st) u p (g k) F' k := by
  intro n
  induction n with
  | zero =>
    intro q F h
    refine ⟨fun _ => q, fun k hk => ?_⟩
    have ek : k = 0 := by omega
    subst ek
    refine ⟨?_, F, h⟩
    rcases wk_inv h.1 with ⟨e, -⟩ | ⟨x, F', s', -, -, sq, -⟩
    · rw [e]; exact hp
    · exact sq.1
  | succ n ih =>
    intro q F h
    obtain ⟨y, F', -, sq, -, -, hy⟩ := opt_pre h
    obtain ⟨g, hg⟩ := ih y F' hy
    refine ⟨fun k => if k = n + 1 then q else g k, fun k hk => ?_⟩
    show (if k = n + 1 then q else g k) < 266 ∧ ∃ F', opt (seaP st) u p (if k = n + 1 then q else g k) F' k
    by_cases e : k = n + 1
    · rw [if_pos e, e]; exact ⟨sq.1, F, h⟩
    · rw [if_neg e]; exact hg k (by omega)
theorem opt_steps {st : Nat → Int32} {u p q F n : Nat} (hp : p < 266) (h : opt (seaP st) u p q F n) : n ≤ 265 := by
  obtain ⟨g, hg⟩ := opt_chain hp n q F h
  have := fb_holes 266 (n + 1) g (fun i hi => (hg i (by omega)).1) (fun i j hij hj e => by
    obtain ⟨F1, h1⟩ := (hg i (by omega)).2
    obtain ⟨F2, h2⟩ := (hg j (by omega)).2
    rw [e] at h1
    have := (opt_one h1 h2).2
    omega)
  omega
def isM (S : Nat → Prop) (u p z c : Nat) : Prop := ∀ F s, Walk S u p z F s → c ≤ 512 * F + s
def wTot (S : Nat → Prop) (u p z c m : Nat) : Prop := ∃ F s, Walk S u p z F s ∧ c = 512 * F + s ∧ s ≤ m
theorem wTot_bd {st : Nat → Int32} {u p z c m : Nat} (hu : u ≤ 200) (hm : m ≤ 266) (h : wTot (seaP st) u p z c m) : c < 2 ^ 26 := by
  obtain ⟨F, s, hw, e, hs⟩ := h
  have := wk_bd hu hw
  omega
theorem wTot_mono {S : Nat → Prop} {u p z c m m' : Nat} (hm : m ≤ m') (h : wTot S u p z c m) : wTot S u p z c m' := by
  obtain ⟨F, s, hw, e, hs⟩ := h
  exact ⟨F, s, hw, e, by omega⟩
theorem opt_M {st : Nat → Int32} {u p q F s : Nat} (hp : p < 266) (h : opt (seaP st) u p q F s) : isM (seaP st) u p q (512 * F + s) := by
  have hs := opt_steps hp h
  intro F' s' hw
  have := h.2 F' s' hw
  omega
/-- what a spread leaves -/
def sprOK (S : Nat → Prop) (u p q : Nat) (cost : Nat → Int32) : Prop := (cost q = 2147483647 ∧ (S p → S q → ∀ F s, ¬ Walk S u p q F s)) ∨ (S p ∧ S q ∧ ∃ D, cost q = nI D ∧ wTot S u p q D 266 ∧ isM S u p q D ∧ (∀ z F' s', Walk S u p z F' s' → isM S u p z (512 * F' + s') → 512 * F' + s' < D → cost z = nI (512 * F' + s')) ∧ (∀ z, z < 266 → cost z = 2147483647 ∨ ∃ c, cost z = nI c ∧ wTot S u p z c 266))
theorem nI_nmax {c : Nat} (h : c < 2 ^ 30) : ¬ nI c = 2147483647 := fun e => by
  have := (nI_eq (b := 2147483647) (by omega) (by omega)).1 e
  omega
