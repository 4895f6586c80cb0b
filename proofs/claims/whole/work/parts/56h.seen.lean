/-! ===== seen ===== -/
def telB (x y : Int64) : Bool := decide (-6 ≤ x.toInt ∧ x.toInt ≤ 6 ∧ 0 ≤ y.toInt ∧ y.toInt ≤ 23)
theorem li6 : (6 : Int64).toInt = 6 ∧ (-6 : Int64).toInt = -6 ∧ (0 : Int64).toInt = 0 ∧ (24 : Int64).toInt = 24 ∧ (23 : Int64).toInt = 23 := ⟨rfl, rfl, rfl, rfl, rfl⟩
theorem tel6 {x y : Int64} {A B : Prop} (h : if telB x y then B else A) : ((lg_cmp x (-6 : Int64)) < 0 → A) ∧ (¬ (lg_cmp x (-6 : Int64)) < 0 → ((0 < (lg_cmp x (6 : Int64)) → A) ∧ (¬ 0 < (lg_cmp x (6 : Int64)) → (((lg_cmp y (0 : Int64)) < 0 → A) ∧ (¬ (lg_cmp y (0 : Int64)) < 0 → ((0 ≤ (lg_cmp y (24 : Int64)) → A) ∧ (¬ 0 ≤ (lg_cmp y (24 : Int64)) → B))))))) := by
  rw [lg_cmp_lt, lg_cmp_gt, lg_cmp_lt, lg_cmp_ge]
  simp only [fa_lt64, fa_le64, li6.1, li6.2.1, li6.2.2.1, li6.2.2.2.1]
  unfold telB at h
  by_cases c : -6 ≤ x.toInt ∧ x.toInt ≤ 6 ∧ 0 ≤ y.toInt ∧ y.toInt ≤ 23
  · rw [decide_eq_true c, if_pos rfl] at h
    exact br_f (by omega) (br_f (by omega) (br_f (by omega) (br_f (by omega) h)))
  · rw [decide_eq_false c, if_neg (by decide)] at h
    refine br_c (fun _ => h) (fun c1 => br_c (fun _ => h) (fun c2 => br_c (fun _ => h) (fun c3 => br_t (by omega) h)))
theorem tel11 {x y : Int64} {A B : Prop} (h : if telB x y then B else A) : ((lg_cmp x (-6 : Int64)) < 0 → A) ∧ (¬ (lg_cmp x (-6 : Int64)) < 0 → ((0 < (lg_cmp x (6 : Int64)) → A) ∧ (¬ 0 < (lg_cmp x (6 : Int64)) → (((lg_cmp y (0 : Int64)) < 0 → A) ∧ (¬ (lg_cmp y (0 : Int64)) < 0 → (((lg_cmp y (23 : Int64)) ≤ 0 → B) ∧ (¬ (lg_cmp y (23 : Int64)) ≤ 0 → A))))))) := by
  rw [lg_cmp_lt, lg_cmp_gt, lg_cmp_lt, lg_cmp_le]
  simp only [fa_lt64, fa_le64, li6.1, li6.2.1, li6.2.2.1, li6.2.2.2.2]
  unfold telB at h
  by_cases c : -6 ≤ x.toInt ∧ x.toInt ≤ 6 ∧ 0 ≤ y.toInt ∧ y.toInt ≤ 23
  · rw [decide_eq_true c, if_pos rfl] at h
    exact br_f (by omega) (br_f (by omega) (br_f (by omega) (br_t (by omega) h)))
  · rw [decide_eq_false c, if_neg (by decide)] at h
    refine br_c (fun _ => h) (fun c1 => br_c (fun _ => h) (fun c2 => br_c (fun _ => h) (fun c3 => br_f (by omega) h)))
theorem t_row64 : ∀ i, i < 13 → ((nI i - 6).toInt64).toInt32 = nI i - 6 ∧ (nI i - 6).toInt = (i : Int) - 6 := by decide +kernel
theorem t_step64 : ∀ i, i < 24 → ((nI i).toInt64).toInt32 = nI i := by decide +kernel
theorem tel_yes {x y : Int64} (h : telB x y = true) : rowOK x.toInt32 ∧ ∃ m, m < 24 ∧ y.toInt32 = nI m := by
  obtain ⟨h1, h2, h3, h4⟩ := of_decide_eq_true h
  have e1 : x = (nI (x.toInt + 6).toNat - 6).toInt64 := by
    rw [fa_eq64, Int32.toInt_toInt64, (t_row64 _ (by omega)).2]
    omega
  have e2 : y = (nI y.toInt.toNat).toInt64 := by
    rw [fa_eq64, Int32.toInt_toInt64, nI_toInt (by omega)]
    omega
  refine ⟨⟨(x.toInt + 6).toNat, by omega, ?_⟩, y.toInt.toNat, by omega, ?_⟩
  · have := (t_row64 (x.toInt + 6).toNat (by omega)).1
    rw [← e1] at this
    exact this
  · have := t_step64 y.toInt.toNat (by omega)
    rw [← e2] at this
    exact this
theorem t_stepNum : ∀ i, i < 13 → ∀ m, m < 24 → fStep (fNumber (nI i - 6) (nI m)) = if absI (nI i - 6) = 6 then 0 else nI m := by decide +kernel
/-- whether the c-th of what is told has its X -/
def agV (unit w : Int32) (it : Nat → Int64) (t c : Nat) : Int32 := fSX unit w (it (t + 3 * c)).toInt32 (fStep (fNumber (it (t + 3 * c)).toInt32 (it (t + 3 * c + 1)).toInt32))
def agB (unit w : Int32) (it : Nat → Int64) (t c : Nat) : Bool := decide ((agV unit w it t c).toInt64 = it (t + 3 * c + 2))
def allB (P : Nat → Bool) : Nat → Bool
  | 0 => true
  | c + 1 => allB P c && P c
theorem allB_no {P : Nat → Bool} {c : Nat} (h : P c = false) : ∀ n, c < n → allB P n = false := by
  intro n
  induction n with
  | zero => exact fun f => absurd f (Nat.not_lt_zero c)
  | succ n ih =>
    intro hc
    rw [allB]
    by_cases e : c = n
    · subst e; rw [h, Bool.and_false]
    · rw [ih (by omega), Bool.false_and]
theorem allB_cong {P Q : Nat → Bool} : ∀ n, (∀ c, c < n → P c = Q c) → allB P n = allB Q n := by
  intro n
  induction n with
  | zero => exact fun _ => rfl
  | succ n ih =>
    intro h
    rw [allB, allB, ih (fun c hc => h c (by omega)), h n (by omega)]
theorem n3 (t c : Nat) : nI t + (3 : Int32) * nI c = nI (t + 3 * c) := by
  rw [show (3 : Int32) = nI 3 from rfl, pk_mul, nI_add]
theorem p3' (t c : Nat) : nI (t + 3 * c) + 3 = nI (t + 3 * (c + 1)) := by
  rw [show (3 : Int32) = nI 3 from rfl, nI_add]
  exact congrArg nI (by omega)
theorem s_agrees {unit w : Int32} {it : Nat → Int64} {t n : Nat} (hw : ¬ w = 0) (ht : t + 3 * n ≤ 30) (hall : allB (fun c => telB (it (t + 3 * c)) (it (t + 3 * c + 1))) n = true) {post : Int32 → Prop} (h : post (if allB (agB unit w it t) n then 1 else 0)) : wX6_agreesWith unit w (nI t) (nI n) it post := by
  unfold wX6_agreesWith
  refine ⟨fun l => ∃ c, c ≤ n ∧ l = nI (t + 3 * c) ∧ allB (agB unit w it t) c = true, fun l => 100 - l.toNatClampNeg, ⟨0, by omega, rfl, rfl⟩, ?_⟩
  rintro l ⟨c, hc, rfl, hb⟩
  rw [n3]
  refine pk_le (t + 3 * n) (t + 3 * c) (fun q => ?_) (fun q => ?_)
  · have e : c = n := by omega
    subst e
    rw [hb] at h
    exact h
  · have hcn : c < n := by omega
    have htel : telB (it (t + 3 * c)) (it (t + 3 * c + 1)) = true := by
      refine ts_nf (fun z => ?_)
      rw [allB_no (P := fun c => telB (it (t + 3 * c)) (it (t + 3 * c + 1))) z n hcn] at hall
      exact absurd hall (by decide)
    obtain ⟨hl, m, hm, em⟩ := tel_yes htel
    rw [nI_1, show (2 : Int32) = nI 2 from rfl, nI_add, nI_clamp (by omega), nI_clamp (by omega), nI_clamp (by omega)]
    refine ⟨vp_in_nI (by omega) (by omega), fun x hx => ?_⟩
    subst hx
    refine ⟨vp_in_nI (by omega) (by omega), q1_numberOf (q1_stepOf (q3_stripX hw hl ⟨vp_in_nI (by omega) (by omega), ?_⟩))⟩
    rw [lg_cmp_eq]
    refine br_c (fun z => ?_) (fun z => ?_)
    · intro y hy
      rw [p3'] at hy
      subst hy
      refine ⟨⟨c + 1, by omega, rfl, ?_⟩, ?_⟩
      · rw [allB, hb, Bool.true_and]
        exact decide_eq_true z
      · show 100 - (nI (t + 3 * (c + 1))).toNatClampNeg < 100 - (nI (t + 3 * c)).toNatClampNeg
        rw [nI_clamp (by omega), nI_clamp (by omega)]
        omega
    · have : agB unit w it t c = false := decide_eq_false z
      rw [allB_no this n hcn] at h
      exact h
theorem s_isSeen {s : Int32} {st : Nat → Int32} {it : Nat → Int64} {t n : Nat} (hs : ¬ s = 0) (hw : ¬ (24 : Int32) / s = 0) (ht : t + 3 * n ≤ 120) (hall : allB (fun c => telB (it (t + 3 * c)) (it (t + 3 * c + 1))) n = true) {post : Int32 → Prop} (h : post (if allB (agB (st 266) (24 / s) it t) n then 1 else 0)) : wX11_isSeen s (nI t) (nI n) st it post := by
  unfold wX11_isSeen
  refine ⟨fun r l => ∃ c, c ≤ n ∧ l = nI c ∧ r = if allB (agB (st 266) (24 / s) it t) c then 1 else 0, fun _ l => n - l.toNatClampNeg, ⟨0, by omega, rfl, rfl⟩, ?_⟩
  rintro r l ⟨c, hc, rfl, rfl⟩
  refine pk_le n c (fun q => ?_) (fun q => ?_)
  · have e : c = n := by omega
    subst e
    refine ⟨?_, h⟩
    split
    · exact Or.inr rfl
    · exact Or.inl rfl
  · have htel : telB (it (t + 3 * c)) (it (t + 3 * c + 1)) = true := by
      refine ts_nf (fun z => ?_)
      rw [allB_no (P := fun c => telB (it (t + 3 * c)) (it (t + 3 * c + 1))) z n q] at hall
      exact absurd hall (by decide)
    obtain ⟨⟨i, hi, el⟩, m, hm, em⟩ := tel_yes htel
    have hl : rowOK (it (t + 3 * c)).toInt32 := ⟨i, hi, el⟩
    have hlt : ∀ {x : Int32}, x = nI c + 1 → n - x.toNatClampNeg < n - (nI c).toNatClampNeg := by
      intro x hx
      subst hx
      rw [nI_1, nI_clamp (by omega), nI_clamp (by omega)]
      omega
    rw [n3, nI_1, show (2 : Int32) = nI 2 from rfl, nI_add, nI_clamp (n := t + 3 * c) (by omega), nI_clamp (by omega), nI_clamp (by omega)]
    refine ⟨vp_in_nI (by omega) (by omega), fun x hx => ⟨vp_in_nI (by omega) (by omega), fun y hy => ?_⟩⟩
    subst hx hy
    by_cases hb : allB (agB (st 266) (24 / s) it t) c = true
    · rw [if_pos hb]
      refine br_f (by decide) ?_
      have key : ∀ {post : Int32 → Prop}, post (agV (st 266) (24 / s) it t c) → wX11_seenX s (it (t + 3 * c)).toInt32 (it (t + 3 * c + 1)).toInt32 st post := by
        intro post hp
        unfold wX11_seenX
        refine ⟨hs, fun x hx => ?_⟩
        subst hx
        refine q11_size ?_
        have e := t_stepNum i hi m hm
        rw [← el, ← em] at e
        refine ⟨fun z => z = fStep (fNumber (it (t + 3 * c)).toInt32 (it (t + 3 * c + 1)).toInt32), ?_, ?_⟩
        · rintro z rfl
          exact ⟨hw, hw, q11_xBy hl hp⟩
        · rw [e]
          exact br_c (fun z => (if_pos z).symm) (fun z => (if_neg z).symm)
      refine key ⟨vp_in_nI (by omega) (by omega), ?_⟩
      rw [lg_cmp_eq]
      refine br_c (fun z => ?_) (fun z => ?_)
      · intro y hy
        refine ⟨⟨c + 1, by omega, hy.trans (nI_1 c), ?_⟩, hlt hy⟩
        rw [allB, hb, show agB (st 266) (24 / s) it t c = true from decide_eq_true z]
        rfl
      · intro y hy
        refine ⟨⟨c + 1, by omega, hy.trans (nI_1 c), ?_⟩, hlt hy⟩
        rw [allB, hb, show agB (st 266) (24 / s) it t c = false from decide_eq_false z]
        rfl
    · rw [if_neg hb]
      refine br_t rfl ?_
      intro y hy
      refine ⟨⟨c + 1, by omega, hy.trans (nI_1 c), ?_⟩, hlt hy⟩
      rw [allB, ts_nt hb, Bool.false_and]
      rfl
def setS (P : Nat → Bool) : Nat → Int32
  | 0 => 0
  | i + 1 => if P i then setS P i ||| ((1 : Int32) <<< (nI i &&& 31)) else setS P i
theorem setS_cong {P Q : Nat → Bool} : ∀ n, (∀ c, c < n → P c = Q c) → setS P n = setS Q n := by
  intro n
  induction n with
  | zero => exact fun _ => rfl
  | succ n ih =>
    intro h
    rw [setS, setS, ih (fun c hc => h c (by omega)), h n (by omega)]
theorem t_strips : ∀ i, i < 6 → ¬ stripsF i = 0 ∧ ¬ (24 : Int32) / stripsF i = 0 := by decide +kernel
