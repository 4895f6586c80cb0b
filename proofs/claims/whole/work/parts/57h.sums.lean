/-! ===== lost: sums over all sets of strips ===== -/
def wtN (c : Nat) : Nat → Nat → Nat
  | 0, _ => 1
  | k + 1, X => wtN c k X * (if X.testBit k then 10 - c else c)
theorem wtN_cong {c : Nat} : ∀ k {X Y : Nat}, (∀ g, g < k → X.testBit g = Y.testBit g) → wtN c k X = wtN c k Y := by
  intro k
  induction k with
  | zero => intros; rfl
  | succ k ih =>
    intro X Y h
    rw [wtN, wtN, ih (fun g hg => h g (by omega)), h k (by omega)]
theorem sm_mul (f : Nat → Nat) (c : Nat) : ∀ n, fb_sm (fun k => f k * c) n = fb_sm f n * c := by
  intro n
  induction n with
  | zero => exact (Nat.zero_mul c).symm
  | succ n ih => rw [fb_sm_succ, fb_sm_succ, ih, Nat.add_mul]
def SM (c k : Nat) (P : Nat → Bool) : Nat := fb_sm (fun X => if P X then wtN c k X else 0) (2 ^ k)
theorem SM_cong {c k : Nat} {P Q : Nat → Bool} (h : ∀ X, X < 2 ^ k → P X = Q X) : SM c k P = SM c k Q := fb_sm_cong (fun X hX => by rw [h X hX])
theorem SM_or {c k : Nat} {P Q R : Nat → Bool} (h : ∀ X, X < 2 ^ k → (R X = (P X || Q X)) ∧ (P X && Q X) = false) : SM c k R = SM c k P + SM c k Q := by
  unfold SM
  rw [← fb_sm_add]
  refine fb_sm_cong (fun X hX => ?_)
  obtain ⟨h1, h2⟩ := h X hX
  rw [h1]
  revert h2
  cases P X <;> cases Q X <;> simp
theorem SM_none {c k : Nat} {P : Nat → Bool} (h : ∀ X, X < 2 ^ k → P X = false) : SM c k P = 0 := by
  have : ∀ n, n ≤ 2 ^ k → fb_sm (fun X => if P X then wtN c k X else 0) n = 0 := by
    intro n
    induction n with
    | zero => exact fun _ => rfl
    | succ n ih =>
      intro hn
      rw [fb_sm_succ, ih (by omega), h n (by omega)]
      rfl
  exact this _ (Nat.le_refl _)
theorem SM_succ {c k : Nat} (P : Nat → Bool) : SM c (k + 1) P = SM c k P * c + SM c k (fun Y => P (2 ^ k + Y)) * (10 - c) := by
  unfold SM
  rw [show 2 ^ (k + 1) = 2 ^ k + 2 ^ k by rw [Nat.pow_succ]; omega, fb_sm_split, ← sm_mul, ← sm_mul]
  have e1 : fb_sm (fun X => if P X then wtN c (k + 1) X else 0) (2 ^ k) = fb_sm (fun X => (if P X then wtN c k X else 0) * c) (2 ^ k) := by
    refine fb_sm_cong (fun X hX => ?_)
    rw [wtN, Nat.testBit_lt_two_pow hX]
    by_cases h : P X = true
    · rw [if_pos h, if_pos h]; rfl
    · rw [if_neg h, if_neg h, Nat.zero_mul]
  have e2 : fb_sm (fun X => if P (2 ^ k + X) then wtN c (k + 1) (2 ^ k + X) else 0) (2 ^ k) = fb_sm (fun X => (if P (2 ^ k + X) then wtN c k X else 0) * (10 - c)) (2 ^ k) := by
    refine fb_sm_cong (fun X hX => ?_)
    rw [wtN, Nat.testBit_two_pow_add_eq, Nat.testBit_lt_two_pow hX, wtN_cong k (X := 2 ^ k + X) (Y := X) (fun g hg => Nat.testBit_two_pow_add_gt hg X)]
    by_cases h : P (2 ^ k + X) = true
    · rw [if_pos h, if_pos h]; rfl
    · rw [if_neg h, if_neg h, Nat.zero_mul]
  rw [e1, e2]
theorem SM_all {c : Nat} (hc : c ≤ 10) : ∀ k, SM c k (fun _ => true) = 10 ^ k := by
  intro k
  induction k with
  | zero => rfl
  | succ k ih =>
    rw [SM_succ, ih, ← Nat.mul_add, show c + (10 - c) = 10 by omega, Nat.pow_succ]
theorem SM_le {c k : Nat} (hc : c ≤ 10) (P : Nat → Bool) : SM c k P ≤ 10 ^ k := by
  rw [← SM_all hc k]
  refine fb_sm_le (fun X _ => ?_)
  by_cases h : P X = true
  · rw [if_pos h, if_pos rfl]; exact Nat.le_refl _
  · rw [if_neg h]; exact Nat.zero_le _
theorem wtN_zero (c : Nat) : ∀ k, wtN c k 0 = c ^ k := by
  intro k
  induction k with
  | zero => rfl
  | succ k ih =>
    rw [wtN, ih, Nat.zero_testBit, Nat.pow_succ]
    rfl
/-! chains -/
def conB (N C : Nat → Bool) : Nat → Nat → Bool
  | 0, _ => true
  | k + 1, X => conB N C k X && (!N k || X.testBit k) && (decide (k = 0) || !C k || X.testBit k || X.testBit (k - 1))
theorem conB_cong {N C : Nat → Bool} : ∀ k {X Y : Nat}, (∀ g, g < k → X.testBit g = Y.testBit g) → conB N C k X = conB N C k Y := by
  intro k
  induction k with
  | zero => intros; rfl
  | succ k ih =>
    intro X Y h
    rw [conB, conB, ih (fun g hg => h g (by omega)), h k (by omega)]
    by_cases e : k = 0
    · simp [e]
    · rw [h (k - 1) (by omega)]
def AP (N C : Nat → Bool) (k : Nat) (a b : Bool) (X : Nat) : Bool := conB N C k X && (X.testBit 0 == a) && (X.testBit (k - 1) == b)
def AA (N C : Nat → Bool) (c k : Nat) (a b : Bool) : Nat := SM c k (AP N C k a b)
theorem AA_both (N C : Nat → Bool) (c k : Nat) (a : Bool) : SM c k (fun X => conB N C k X && (X.testBit 0 == a)) = AA N C c k a true + AA N C c k a false := by
  refine SM_or (fun X _ => ?_)
  unfold AP
  cases conB N C k X <;> cases X.testBit 0 <;> cases X.testBit (k - 1) <;> cases a <;> simp
theorem AA_left {N C : Nat → Bool} {c k : Nat} (hk : 1 ≤ k) (a : Bool) : AA N C c (k + 1) a true = (AA N C c k a true + AA N C c k a false) * (10 - c) := by
  rw [← AA_both]
  unfold AA
  rw [SM_succ]
  have z : SM c k (AP N C (k + 1) a true) = 0 := SM_none (fun X hX => by
    unfold AP
    rw [Nat.add_sub_cancel, Nat.testBit_lt_two_pow hX]
    simp)
  rw [z, Nat.zero_mul, Nat.zero_add]
  congr 1
  refine SM_cong (fun X hX => ?_)
  unfold AP
  rw [Nat.add_sub_cancel, conB, Nat.testBit_two_pow_add_eq, Nat.testBit_lt_two_pow hX, Nat.testBit_two_pow_add_gt (show 0 < k by omega) X, conB_cong k (X := 2 ^ k + X) (Y := X) (fun g hg => Nat.testBit_two_pow_add_gt hg X)]
  simp
theorem AA_lost {N C : Nat → Bool} {c k : Nat} (hk : 1 ≤ k) (a : Bool) : AA N C c (k + 1) a false = (if N k then 0 else (if C k then AA N C c k a true else AA N C c k a true + AA N C c k a false) * c) := by
  have z : SM c k (fun Y => AP N C (k + 1) a false (2 ^ k + Y)) = 0 := SM_none (fun X hX => by
    unfold AP
    rw [Nat.add_sub_cancel, Nat.testBit_two_pow_add_eq, Nat.testBit_lt_two_pow hX]
    simp)
  have h0 : AA N C c (k + 1) a false = SM c k (AP N C (k + 1) a false) * c := by
    unfold AA
    rw [SM_succ, z, Nat.zero_mul, Nat.add_zero]
  rw [h0]
  have pt : ∀ X, X < 2 ^ k → AP N C (k + 1) a false X = (conB N C k X && (X.testBit 0 == a) && !N k && (!C k || X.testBit (k - 1))) := fun X hX => by
    unfold AP
    rw [Nat.add_sub_cancel, conB, Nat.testBit_lt_two_pow hX, decide_eq_false (show ¬ k = 0 by omega)]
    cases conB N C k X <;> cases X.testBit 0 <;> cases a <;> cases N k <;> cases C k <;> cases X.testBit (k - 1) <;> rfl
  rw [SM_cong pt]
  cases hN : N k with
  | true =>
    rw [SM_none (fun X _ => by simp), Nat.zero_mul]
    rfl
  | false =>
    rw [if_neg (by decide)]
    congr 1
    cases hC : C k with
    | true =>
      rw [if_pos rfl]
      refine SM_cong (fun X _ => ?_)
      unfold AP
      cases conB N C k X <;> cases X.testBit 0 <;> cases a <;> cases X.testBit (k - 1) <;> rfl
    | false =>
      rw [if_neg (by decide), ← AA_both]
      refine SM_cong (fun X _ => ?_)
      cases conB N C k X <;> cases X.testBit 0 <;> cases a <;> cases X.testBit (k - 1) <;> rfl
def dpS (N C : Nat → Bool) (c : Nat) (a : Bool) : Nat → Nat × Nat
  | 0 => (if a then 10 - c else 0, if a then 0 else if N 0 then 0 else c)
  | k + 1 => (((dpS N C c a k).1 + (dpS N C c a k).2) * (10 - c), if N (k + 1) then 0 else (if C (k + 1) then (dpS N C c a k).1 else (dpS N C c a k).1 + (dpS N C c a k).2) * c)
theorem dpS_is (N C : Nat → Bool) (c : Nat) (a : Bool) : ∀ k, dpS N C c a k = (AA N C c (k + 1) a true, AA N C c (k + 1) a false) := by
  intro k
  induction k with
  | zero =>
    have b : ∀ b, AA N C c (0 + 1) a b = SM c 0 (AP N C 1 a b) * c + SM c 0 (fun Y => AP N C 1 a b (2 ^ 0 + Y)) * (10 - c) := fun b => SM_succ _
    have s0 : ∀ P : Nat → Bool, SM c 0 P = if P 0 then 1 else 0 := fun P => by
      show 0 + (if P 0 then 1 else 0) = _
      rw [Nat.zero_add]
    rw [b, b, s0, s0, s0, s0, dpS]
    unfold AP conB conB
    cases a <;> cases N 0 <;> simp
  | succ k ih =>
    rw [dpS, ih, AA_left (k := k + 1) (by omega) a, AA_lost (k := k + 1) (by omega) a]
/-- what the class adds up -/
def totC (N C : Nat → Bool) (c n : Nat) : Nat := (AA N C c n true true + AA N C c n true false) + (if C 0 then AA N C c n false true else AA N C c n false true + AA N C c n false false)
def dpB (N C : Nat → Bool) (n X : Nat) : Bool := conB N C n X && (!C 0 || X.testBit 0 || X.testBit (n - 1))
theorem totC_is (N C : Nat → Bool) (c n : Nat) : totC N C c n = SM c n (dpB N C n) := by
  unfold totC
  rw [← AA_both]
  have e : (if C 0 then AA N C c n false true else AA N C c n false true + AA N C c n false false) = SM c n (fun X => conB N C n X && (X.testBit 0 == false) && (!C 0 || X.testBit (n - 1))) := by
    cases C 0 with
    | true =>
      rw [if_pos rfl]
      refine SM_cong (fun X _ => ?_)
      unfold AP
      cases conB N C n X <;> cases X.testBit 0 <;> cases X.testBit (n - 1) <;> rfl
    | false =>
      rw [if_neg (by decide), ← AA_both]
      refine SM_cong (fun X _ => ?_)
      cases conB N C n X <;> cases X.testBit 0 <;> cases X.testBit (n - 1) <;> rfl
  rw [e]
  symm
  refine SM_or (fun X _ => ?_)
  unfold dpB
  cases conB N C n X <;> cases X.testBit 0 <;> cases X.testBit (n - 1) <;> cases C 0 <;> simp
theorem conB_iff {N C : Nat → Bool} {X : Nat} : ∀ k, conB N C k X = true ↔ ∀ g, g < k → (N g = true → X.testBit g = true) ∧ (1 ≤ g → C g = true → X.testBit g = true ∨ X.testBit (g - 1) = true) := by
  intro k
  induction k with
  | zero => exact ⟨fun _ g hg => absurd hg (Nat.not_lt_zero g), fun _ => rfl⟩
  | succ k ih =>
    rw [conB, Bool.and_eq_true, Bool.and_eq_true, ih]
    constructor
    · rintro ⟨⟨h1, h2⟩, h3⟩ g hg
      by_cases e : g = k
      · subst e
        refine ⟨fun hN => ?_, fun hg1 hC => ?_⟩
        · rw [hN] at h2; exact h2
        · rw [hC, decide_eq_false (show ¬ g = 0 by omega)] at h3
          simpa using h3
      · exact h1 g (by omega)
    · intro h
      refine ⟨⟨fun g hg => h g (by omega), ?_⟩, ?_⟩
      · have := (h k (by omega)).1
        cases hN : N k with
        | true => rw [this hN]; rfl
        | false => rfl
      · by_cases e : k = 0
        · rw [decide_eq_true e]; rfl
        · have := (h k (by omega)).2 (by omega)
          cases hC : C k with
          | true =>
            rcases this hC with z | z <;> rw [z] <;> simp
          | false => simp
