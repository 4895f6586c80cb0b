/-! ===== lost: the reference ===== -/
theorem allB_iff {P : Nat → Bool} : ∀ n, allB P n = true ↔ ∀ i, i < n → P i = true := by
  intro n
  induction n with
  | zero => exact ⟨fun _ i hi => absurd hi (Nat.not_lt_zero i), fun _ => rfl⟩
  | succ n ih =>
    rw [allB, Bool.and_eq_true, ih]
    constructor
    · rintro ⟨h1, h2⟩ i hi
      by_cases e : i = n
      · rw [e]; exact h2
      · exact h1 i (by omega)
    · exact fun h => ⟨fun i hi => h i (by omega), h n (by omega)⟩
def ahN (n g : Nat) : Nat := if g = 0 then n - 1 else g - 1
def mt (n t : Nat) : Nat := if t < n then 2 ^ t else if t < 2 * n then 2 ^ (t - n) ||| 2 ^ (ahN n (t - n)) else 2 ^ n - 1
theorem ahN_lt {n g : Nat} (h1 : 1 ≤ n) (hg : g < n) : ahN n g < n := by
  unfold ahN
  split <;> omega
theorem p2lt {g n : Nat} (hg : g < n) (hn : n ≤ 12) : 2 ^ g < 2 ^ 12 := Nat.pow_lt_pow_right (by omega) (by omega)
theorem mt_lt {n t : Nat} (h1 : 1 ≤ n) (hn : n ≤ 12) : mt n t < 2 ^ 12 := by
  unfold mt
  by_cases a : t < n
  · rw [if_pos a]; exact p2lt a hn
  · rw [if_neg a]
    by_cases b : t < 2 * n
    · rw [if_pos b]
      exact Nat.or_lt_two_pow (p2lt (n := n) (by omega) hn) (p2lt (ahN_lt h1 (by omega)) hn)
    · rw [if_neg b]
      have : 2 ^ n ≤ 2 ^ 12 := Nat.pow_le_pow_right (by omega) hn
      have : 0 < 2 ^ n := Nat.two_pow_pos n
      omega
theorem or_hit (g h X : Nat) : ¬ (2 ^ g ||| 2 ^ h) &&& X = 0 ↔ X.testBit g = true ∨ X.testBit h = true := by
  have bit : ∀ i, ((2 ^ g ||| 2 ^ h) &&& X).testBit i = ((decide (g = i) || decide (h = i)) && X.testBit i) := fun i => by
    rw [Nat.testBit_and, Nat.testBit_or, Nat.testBit_two_pow, Nat.testBit_two_pow]
  constructor
  · intro hn
    refine Classical.byContradiction (fun z => hn ?_)
    refine Nat.eq_of_testBit_eq (fun i => ?_)
    rw [bit, Nat.zero_testBit]
    by_cases a : g = i
    · subst a
      rw [ts_nt (fun w => z (Or.inl w)), Bool.and_false]
    · by_cases b : h = i
      · subst b
        rw [ts_nt (fun w => z (Or.inr w)), Bool.and_false]
      · rw [decide_eq_false a, decide_eq_false b]; rfl
  · rintro (w | w) e
    · have := bit g
      rw [e, Nat.zero_testBit, decide_eq_true rfl, w] at this
      exact absurd this (by simp)
    · have := bit h
      rw [e, Nat.zero_testBit, decide_eq_true (rfl : h = h), w] at this
      exact absurd this (by simp)
def goodB (st : Nat → Int32) (caps : Int32) (n X : Nat) : Bool := allB (fun t => !dm st caps n t 266 || decide (¬ mt n t &&& X = 0)) (2 * n + 1)
theorem good_iff {st : Nat → Int32} {caps : Int32} {n X : Nat} (h1 : 1 ≤ n) (hX : X < 2 ^ n) : goodB st caps n X = true ↔ (∀ g, g < n → dm st caps n g 266 = true → X.testBit g = true) ∧ (∀ g, g < n → dm st caps n (n + g) 266 = true → X.testBit g = true ∨ X.testBit (ahN n g) = true) ∧ (dm st caps n (2 * n) 266 = true → X ≠ 0) := by
  unfold goodB
  rw [allB_iff]
  have one : ∀ t, ((!dm st caps n t 266 || decide (¬ mt n t &&& X = 0)) = true) ↔ (dm st caps n t 266 = true → ¬ mt n t &&& X = 0) := fun t => by
    cases dm st caps n t 266 <;> simp
  constructor
  · intro h
    refine ⟨fun g hg hd => ?_, fun g hg hd => ?_, fun hd => ?_⟩
    · have := (one g).1 (h g (by omega)) hd
      unfold mt at this
      rw [if_pos hg, Nat.and_comm, fb_bit_nat] at this
      exact ts_nf this
    · have := (one (n + g)).1 (h (n + g) (by omega)) hd
      unfold mt at this
      rw [if_neg (by omega), if_pos (by omega), show n + g - n = g by omega, or_hit] at this
      exact this
    · have := (one (2 * n)).1 (h (2 * n) (by omega)) hd
      unfold mt at this
      rw [if_neg (by omega), if_neg (by omega), Nat.and_comm, Nat.and_two_pow_sub_one_eq_mod, Nat.mod_eq_of_lt hX] at this
      exact this
  · rintro ⟨k1, k2, k3⟩ t ht
    refine (one t).2 (fun hd => ?_)
    unfold mt
    by_cases a : t < n
    · rw [if_pos a, Nat.and_comm, fb_bit_nat, k1 t a hd]
      decide
    · rw [if_neg a]
      by_cases b : t < 2 * n
      · rw [if_pos b, or_hit]
        have := k2 (t - n) (by omega) (by rw [show n + (t - n) = t by omega]; exact hd)
        exact this
      · rw [if_neg b, Nat.and_comm, Nat.and_two_pow_sub_one_eq_mod, Nat.mod_eq_of_lt hX]
        have e : t = 2 * n := by omega
        rw [e] at hd
        exact k3 hd
theorem good_dp {st : Nat → Int32} {caps : Int32} {n M K X : Nat} (h1 : 1 ≤ n) (hX : X < 2 ^ n) (hM : mskOK n (fun g => dm st caps n g 266) M) (hK : mskOK n (fun g => dm st caps n (n + g) 266) K) : goodB st caps n X = (dpB M.testBit K.testBit n X && (!dm st caps n (2 * n) 266 || decide (X ≠ 0))) := by
  rw [Bool.eq_iff_iff, good_iff h1 hX, Bool.and_eq_true]
  unfold dpB
  rw [Bool.and_eq_true, conB_iff]
  have eM : ∀ g, g < n → M.testBit g = dm st caps n g 266 := fun g hg => by rw [hM.2 g, decide_eq_true hg, Bool.true_and]
  have eK : ∀ g, g < n → K.testBit g = dm st caps n (n + g) 266 := fun g hg => by rw [hK.2 g, decide_eq_true hg, Bool.true_and]
  constructor
  · rintro ⟨k1, k2, k3⟩
    refine ⟨⟨fun g hg => ⟨fun hN => k1 g hg (eM g hg ▸ hN), fun hg1 hC => ?_⟩, ?_⟩, ?_⟩
    · have := k2 g hg (eK g hg ▸ hC)
      unfold ahN at this
      rw [if_neg (by omega)] at this
      exact this
    · cases hC : K.testBit 0 with
      | false => rfl
      | true =>
        have := k2 0 (by omega) (eK 0 (by omega) ▸ hC)
        unfold ahN at this
        rw [if_pos rfl] at this
        rcases this with z | z <;> rw [z] <;> simp
    · cases hd : dm st caps n (2 * n) 266 with
      | false => rfl
      | true => rw [decide_eq_true (k3 hd)]; rfl
  · rintro ⟨⟨k1, k2⟩, k3⟩
    refine ⟨fun g hg hd => (k1 g hg).1 (by rw [eM g hg]; exact hd), fun g hg hd => ?_, fun hd => ?_⟩
    · have hC : K.testBit g = true := by rw [eK g hg]; exact hd
      unfold ahN
      by_cases e : g = 0
      · subst e
        rw [if_pos rfl]
        rw [hC] at k2
        simpa using k2
      · rw [if_neg e]
        exact (k1 g hg).2 (by omega) hC
    · rw [hd] at k3
      simpa using k3
theorem SM_zero {c n : Nat} : SM c n (fun X => decide (X = 0)) = c ^ n := by
  have hp : 0 < 2 ^ n := Nat.two_pow_pos n
  have : ∀ m, 0 < m → fb_sm (fun X => if decide (X = 0) = true then wtN c n X else 0) m = c ^ n := by
    intro m
    induction m with
    | zero => exact fun h => absurd h (by omega)
    | succ m ih =>
      intro _
      rw [fb_sm_succ]
      rcases Nat.eq_zero_or_pos m with z | z
      · subst z
        show 0 + (if decide (0 = 0) = true then wtN c n 0 else 0) = _
        rw [decide_eq_true rfl, if_pos rfl, Nat.zero_add, wtN_zero]
      · rw [ih z, decide_eq_false (by omega)]
        rfl
  exact this _ hp
theorem SM_nz {c n : Nat} (hc : c ≤ 10) : SM c n (fun X => decide (X ≠ 0)) + c ^ n = 10 ^ n := by
  rw [← SM_all hc n, ← SM_zero]
  symm
  refine SM_or (fun X _ => ?_)
  by_cases h : X = 0
  · simp [h]
  · simp [h]
theorem dp_free {n X : Nat} : dpB (Nat.testBit 0) (Nat.testBit 0) n X = true := by
  unfold dpB
  rw [Bool.and_eq_true, conB_iff]
  refine ⟨fun g _ => ⟨fun h => ?_, fun _ h => ?_⟩, ?_⟩
  · rw [Nat.zero_testBit] at h; exact absurd h (by decide)
  · rw [Nat.zero_testBit] at h; exact absurd h (by decide)
  · rw [Nat.zero_testBit]; rfl
theorem dp_le {c n M K : Nat} (hc : c ≤ 10) (hM : M = 0) (hK : K = 0) : c ^ n ≤ totC M.testBit K.testBit c n := by
  subst hM hK
  rw [totC_is, SM_cong (Q := fun _ => true) (fun X _ => dp_free), SM_all hc]
  have := SM_nz (c := c) (n := n) hc
  omega
theorem gV_is {st : Nat → Int32} {caps : Int32} {n M K c : Nat} (h1 : 1 ≤ n) (hc : c ≤ 10) (hM : mskOK n (fun g => dm st caps n g 266) M) (hK : mskOK n (fun g => dm st caps n (n + g) 266) K) : gV M K c n (dm st caps n (2 * n) 266) = SM c n (goodB st caps n) := by
  unfold gV
  by_cases hcase : dm st caps n (2 * n) 266 = true ∧ M = 0 ∧ K = 0
  · rw [if_pos hcase]
    obtain ⟨hp, e1, e2⟩ := hcase
    have eg : SM c n (goodB st caps n) = SM c n (fun X => decide (X ≠ 0)) := SM_cong (fun X hX => by
      rw [good_dp h1 hX hM hK, hp, e1, e2, dp_free]
      rfl)
    rw [eg, e1, e2, totC_is, SM_cong (Q := fun _ => true) (fun X _ => dp_free), SM_all hc]
    have := SM_nz (c := c) (n := n) hc
    omega
  · rw [if_neg hcase, totC_is]
    refine SM_cong (fun X hX => ?_)
    rw [good_dp h1 hX hM hK]
    cases hp : dm st caps n (2 * n) 266 with
    | false => simp
    | true =>
      cases hd : dpB M.testBit K.testBit n X with
      | false => rfl
      | true =>
        have hX0 : X ≠ 0 := fun z => by
          subst z
          unfold dpB at hd
          rw [Bool.and_eq_true, conB_iff] at hd
          have hM0 : M = 0 := Nat.eq_of_testBit_eq (fun g => by
            rw [Nat.zero_testBit]
            refine ts_nt (fun w => ?_)
            have hg : g < n := by
              rw [hM.2 g, Bool.and_eq_true] at w
              exact of_decide_eq_true w.1
            have := (hd.1 g hg).1 w
            rw [Nat.zero_testBit] at this
            exact absurd this (by decide))
          have hK0 : K = 0 := Nat.eq_of_testBit_eq (fun g => by
            rw [Nat.zero_testBit]
            refine ts_nt (fun w => ?_)
            have hg : g < n := by
              rw [hK.2 g, Bool.and_eq_true] at w
              exact of_decide_eq_true w.1
            rcases Nat.eq_zero_or_pos g with z | z
            · subst z
              have := hd.2
              rw [w, Nat.zero_testBit, Nat.zero_testBit] at this
              exact absurd this (by decide)
            · rcases (hd.1 g hg).2 z w with k | k
              · rw [Nat.zero_testBit] at k; exact absurd k (by decide)
              · rw [Nat.zero_testBit] at k; exact absurd k (by decide))
          exact hcase ⟨hp, hM0, hK0⟩
        rw [decide_eq_true hX0]
        rfl
/-! the reference's walk -/
theorem s11_needsOne {mk m : Nat} {needs : Nat → Int32} (hm : m ≤ 25) {post : (Nat → Int32) → Int32 → Prop} (hin : (∃ k, k < m ∧ needs k = nI mk) → post needs (nI m)) (hout : (∀ k, k < m → ¬ needs k = nI mk) → m < 26 ∧ post (upd needs m (nI mk)) (nI (m + 1))) : wX11_needsOne (nI mk) needs (nI m) post := by
  unfold wX11_needsOne
  refine ⟨fun r l => ∃ i, i ≤ m ∧ l = nI i ∧ r = (if anyB (fun k => decide (needs k = nI mk)) i then 1 else 0), fun _ l => 30 - l.toNatClampNeg, ⟨0, by omega, rfl, rfl⟩, ?_⟩
  rintro r l ⟨i, hi, rfl, rfl⟩
  refine pk_le m i (fun c => ?_) (fun c => ?_)
  · have e : i = m := by omega
    subst e
    by_cases q : anyB (fun k => decide (needs k = nI mk)) i = true
    · rw [if_pos q]
      refine br_f (by decide) (hin ?_)
      obtain ⟨k, hk, ek⟩ := (anyB_is i).1 q
      exact ⟨k, hk, of_decide_eq_true ek⟩
    · rw [if_neg q]
      have hno : ∀ k, k < i → ¬ needs k = nI mk := fun k hk z => q ((anyB_is i).2 ⟨k, hk, decide_eq_true z⟩)
      obtain ⟨h26, hp⟩ := hout hno
      refine br_t rfl ⟨vp_in_nI h26 (by omega), fun x hx => ?_⟩
      rw [nI_1] at hx
      rw [nI_clamp (by omega), hx]
      exact hp
  · by_cases q : anyB (fun k => decide (needs k = nI mk)) i = true
    · rw [if_pos q]
      refine br_f (by decide) (fun x hx => ⟨⟨i + 1, by omega, hx.trans (nI_1 i), ?_⟩, loop_mu hx (by omega) (by omega)⟩)
      rw [anyB, q]; rfl
    · rw [if_neg q, nI_clamp (n := i) (by omega)]
      refine br_t rfl ⟨vp_in_nI (by omega) (by omega), br_c (fun d => ?_) (fun d => ?_)⟩
      · intro x hx
        refine ⟨⟨i + 1, by omega, hx.trans (nI_1 i), ?_⟩, loop_mu hx (by omega) (by omega)⟩
        rw [anyB, decide_eq_true d, Bool.or_true]; rfl
      · intro x hx
        refine ⟨⟨i + 1, by omega, hx.trans (nI_1 i), ?_⟩, loop_mu hx (by omega) (by omega)⟩
        rw [anyB, decide_eq_false d, ts_nt q]; rfl
def ndOK (st : Nat → Int32) (caps : Int32) (n a : Nat) (needs : Nat → Int32) (m : Nat) (tk : Nat → Nat) : Prop := m ≤ 25 ∧ (∀ k, k < m → needs k = nI (mt n (tk k)) ∧ tk k < 2 * n + 1 ∧ dm st caps n (tk k) a = true) ∧ (∀ i j, i < j → j < m → mt n (tk i) ≠ mt n (tk j)) ∧ (∀ t, t < 2 * n + 1 → dm st caps n t a = true → ∃ k, k < m ∧ needs k = nI (mt n t))
theorem tOf_lt {n p : Nat} (hn : stripN n) : tOf n p < 2 * n + 1 := by
  have := strip_lt hn (stepN_lt p)
  unfold tOf
  split
  · omega
  · split <;> omega
theorem s11_laysNeeds {st : Nat → Int32} {n : Nat} (hn : stripN n) (en : st 267 = nI n) {needs0 : Nat → Int32} {post : (Nat → Int32) → Int32 → Prop} (h : ∀ needs m tk, ndOK st (st 268) n 266 needs m tk → post needs (nI m)) : wX11_laysNeeds st needs0 post := by
  have hw := stripN_w hn
  have h1 : 1 ≤ n := by omega
  unfold wX11_laysNeeds
  refine ⟨fun l nd m => ∃ a mm tk, a ≤ 266 ∧ l = nI a ∧ m = nI mm ∧ ndOK st (st 268) n a nd mm tk, fun l _ _ => 266 - l.toNatClampNeg, ⟨0, 0, fun _ => 0, by omega, rfl, rfl, by omega, fun k hk => absurd hk (Nat.not_lt_zero k), fun i j hij hj => absurd hj (Nat.not_lt_zero j), fun t _ hd => absurd (show false = true from hd) (by decide)⟩, ?_⟩
  rintro l nd m ⟨a, mm, tk, ha, rfl, rfl, ok⟩
  refine pk_le 266 a (fun c => ?_) (fun c => ?_)
  · have e : a = 266 := by omega
    subst e
    exact h nd mm tk ok
  obtain ⟨hm, hk, hdis, hall⟩ := id ok
  have no : ¬ (st a = 1 ∧ ¬ fOnS (rowI a) (st 268) = 0) → ∀ x : Int32, x = nI a + 1 → ((∃ b mm' tk', b ≤ 266 ∧ x = nI b ∧ nI mm = nI mm' ∧ ndOK st (st 268) n b nd mm' tk') ∧ 266 - x.toNatClampNeg < 266 - (nI a).toNatClampNeg) := by
    intro hno x hx
    have e : ∀ t, dm st (st 268) n t (a + 1) = dm st (st 268) n t a := fun t => by rw [dm_succ, dmP_no hno, Bool.or_false]
    refine ⟨⟨a + 1, mm, tk, by omega, hx.trans (nI_1 a), rfl, hm, fun k hk' => ?_, hdis, fun t ht hd => ?_⟩, loop_mu hx c (by omega)⟩
    · rw [e]; exact hk k hk'
    · rw [e] at hd; exact hall t ht hd
  refine s11_isLand c ?_
  by_cases d : st a = 1
  case neg =>
    rw [if_neg d]
    exact br_t rfl (no (fun z => d z.1))
  rw [if_pos d]
  refine br_f (by decide) (s11_row c (q11_onS (br_c (fun e => no (fun z => z.2 e)) (fun e => ?_))))
  have ey : ∀ t, dm st (st 268) n t (a + 1) = (dm st (st 268) n t a || decide (tOf n a = t)) := fun t => by rw [dm_succ, dmP_yes d e]
  have hst := stepN_lt a
  have hsl := strip_lt hn hst
  have hml := Nat.mod_lt (stepN a) hw.1
  refine s11_step c (q11_wide hn en ⟨wI_ne hn, fun x12 hx12 => ?_⟩)
  rw [st_div hst hw.1 hw.2.1] at hx12
  subst hx12
  have hcut : ∀ {post : Int32 → Prop}, post (if stepN a % (24 / n) = 0 then 1 else 0) → wX11_isCut (nI a) st post := by
    intro post hp
    unfold wX11_isCut
    refine s11_step c (q11_wide hn en ⟨wI_ne hn, ?_⟩)
    rw [st_mod hst hw.1 hw.2.1]
    refine br_c (fun z => ?_) (fun z => ?_)
    · rw [if_pos ((nI_z (by omega)).1 z)] at hp; exact hp
    · rw [if_neg (fun w => z ((nI_z (by omega)).2 w))] at hp; exact hp
  refine hcut ?_
  refine ⟨fun t => t = nI (if stepN a % (24 / n) = 0 then 2 ^ (stepN a / (24 / n)) ||| 2 ^ (ahN n (stepN a / (24 / n))) else 2 ^ (stepN a / (24 / n))), ?_, ?_⟩
  case refine_2 =>
    rw [sh1 _ (by omega)]
    by_cases z : stepN a % (24 / n) = 0
    · rw [if_pos z]
      refine br_f (by decide) ?_
      unfold wX11_stripAhead
      rw [en]
      refine br_c (fun w => ?_) (fun w => ?_)
      · have w' := (nI_z (by omega)).1 w
        show _ = nI (if stepN a % (24 / n) = 0 then 2 ^ (stepN a / (24 / n)) ||| 2 ^ (ahN n (stepN a / (24 / n))) else 2 ^ (stepN a / (24 / n)))
        have : ahN n (stepN a / (24 / n)) = n - 1 := if_pos w'
        rw [if_pos z, this, show (1 : Int32) = nI 1 from rfl, pk_sub h1, show nI 1 <<< (nI (n - 1) &&& 31) = nI (2 ^ (n - 1)) from sh1 _ (by omega), fa_or]
      · have w' : ¬ stepN a / (24 / n) = 0 := fun z => w ((nI_z (by omega)).2 z)
        have : ahN n (stepN a / (24 / n)) = stepN a / (24 / n) - 1 := if_neg w'
        show _ = nI (if stepN a % (24 / n) = 0 then 2 ^ (stepN a / (24 / n)) ||| 2 ^ (ahN n (stepN a / (24 / n))) else 2 ^ (stepN a / (24 / n)))
        rw [if_pos z, this, show (1 : Int32) = nI 1 from rfl, pk_sub (Nat.pos_of_ne_zero w'), show nI 1 <<< (nI (stepN a / (24 / n) - 1) &&& 31) = nI (2 ^ (stepN a / (24 / n) - 1)) from sh1 _ (by omega), fa_or]
    · rw [if_neg z]
      refine br_t rfl ?_
      show _ = nI (if stepN a % (24 / n) = 0 then _ else _)
      rw [if_neg z]
  rintro t rfl
  refine s11_pole c ?_
  refine ⟨fun t => t = nI (mt n (tOf n a)), ?_, ?_⟩
  case refine_2 =>
    by_cases p : a = 0 ∨ a = 265
    · rw [if_pos p]
      refine br_f (by decide) ?_
      have : mt n (tOf n a) = 2 ^ n - 1 := by
        unfold tOf mt
        rw [if_pos p, if_neg (by omega), if_neg (by omega)]
      show _ = nI (mt n (tOf n a))
      rw [this, en, sh1 _ (by omega), show (1 : Int32) = nI 1 from rfl, pk_sub (Nat.two_pow_pos n)]
    · rw [if_neg p]
      refine br_t rfl ?_
      refine congrArg nI ?_
      unfold tOf
      rw [if_neg p]
      by_cases z : stepN a % (24 / n) = 0
      · rw [if_pos z, if_pos z]
        unfold mt
        have := Nat.le_add_right n (stepN a / (24 / n))
        rw [if_neg (by omega), if_pos (by omega), Nat.add_sub_cancel_left]
      · rw [if_neg z, if_neg z]
        unfold mt
        rw [if_pos hsl]
  rintro t rfl
  have ht0 := tOf_lt (p := a) hn
  have hmtl := mt_lt (t := tOf n a) h1 hw.2.2.2.2
  have inj : ∀ t t', nI (mt n t) = nI (mt n t') → mt n t = mt n t' := fun t t' e => by
    have := mt_lt (t := t) h1 hw.2.2.2.2
    have := mt_lt (t := t') h1 hw.2.2.2.2
    exact (nI_eq (by omega) (by omega)).1 e
  refine s11_needsOne hm (fun ⟨k0, hk0, ek0⟩ => ?_) (fun hno => ?_)
  · intro x hx
    refine ⟨⟨a + 1, mm, tk, by omega, hx.trans (nI_1 a), rfl, hm, fun k hk' => ?_, hdis, fun t ht hd => ?_⟩, loop_mu hx c (by omega)⟩
    · obtain ⟨g1, g2, g3⟩ := hk k hk'
      refine ⟨g1, g2, ?_⟩
      rw [ey, g3]; rfl
    · rw [ey, Bool.or_eq_true] at hd
      rcases hd with hd | hd
      · exact hall t ht hd
      · rw [← of_decide_eq_true hd]
        exact ⟨k0, hk0, ek0⟩
  · have hne : ∀ k, k < mm → mt n (tk k) ≠ mt n (tOf n a) := fun k hk' e => hno k hk' (by rw [(hk k hk').1, e])
    have hdis' : ∀ i j, i < j → j < mm + 1 → mt n (if i = mm then tOf n a else tk i) ≠ mt n (if j = mm then tOf n a else tk j) := fun i j hij hj => by
      rw [if_neg (show ¬ i = mm by omega)]
      by_cases q : j = mm
      · rw [if_pos q]; exact hne i (by omega)
      · rw [if_neg q]; exact hdis i j hij (by omega)
    have hcard := fb_holes 25 (mm + 1) (fun k => if k = mm then tOf n a else tk k) (fun i hi => by
      show (if i = mm then tOf n a else tk i) < 25
      by_cases q : i = mm
      · rw [if_pos q]; omega
      · rw [if_neg q]
        have := (hk i (by omega)).2.1
        omega) (fun i j hij hj e => hdis' i j hij hj (by
          have e : (if i = mm then tOf n a else tk i) = (if j = mm then tOf n a else tk j) := e
          rw [e]))
    refine ⟨by omega, ?_⟩
    intro x hx
    refine ⟨⟨a + 1, mm + 1, fun k => if k = mm then tOf n a else tk k, by omega, hx.trans (nI_1 a), rfl, hcard, fun k hk' => ?_, hdis', fun t ht hd => ?_⟩, loop_mu hx c (by omega)⟩
    · show upd nd mm (nI (mt n (tOf n a))) k = nI (mt n (if k = mm then tOf n a else tk k)) ∧ (if k = mm then tOf n a else tk k) < 2 * n + 1 ∧ dm st (st 268) n (if k = mm then tOf n a else tk k) (a + 1) = true
      by_cases q : k = mm
      · rw [if_pos q, q, pk_us]
        refine ⟨rfl, ht0, ?_⟩
        rw [ey, decide_eq_true rfl, Bool.or_true]
      · rw [if_neg q, pk_un q]
        obtain ⟨g1, g2, g3⟩ := hk k (by omega)
        refine ⟨g1, g2, ?_⟩
        rw [ey, g3]; rfl
    · rw [ey, Bool.or_eq_true] at hd
      rcases hd with hd | hd
      · obtain ⟨k, hk1, hk2⟩ := hall t ht hd
        exact ⟨k, by omega, by rw [pk_un (by omega)]; exact hk2⟩
      · rw [← of_decide_eq_true hd]
        exact ⟨mm, by omega, pk_us⟩
theorem s11_areLeft {st : Nat → Int32} {caps : Int32} {n m X : Nat} {needs : Nat → Int32} {tk : Nat → Nat} (h1 : 1 ≤ n) (hn : n ≤ 12) (ok : ndOK st caps n 266 needs m tk) (hX : X < 2 ^ 12) {post : Int32 → Prop} (h : post (if goodB st caps n X then 1 else 0)) : wX11_areLeft (nI X) needs (nI m) post := by
  obtain ⟨hm, hk, -, hall⟩ := ok
  have eg : allB (fun k => decide (¬ mt n (tk k) &&& X = 0)) m = goodB st caps n X := by
    rw [Bool.eq_iff_iff]
    unfold goodB
    rw [allB_iff, allB_iff]
    constructor
    · intro g t ht
      cases hd : dm st caps n t 266 with
      | false => rfl
      | true =>
        obtain ⟨k, hk1, hk2⟩ := hall t ht hd
        have h3 := mt_lt (t := t) h1 hn
        have h4 := mt_lt (t := tk k) h1 hn
        have e := (nI_eq (by omega) (by omega)).1 ((hk k hk1).1.symm.trans hk2)
        have := g k hk1
        rw [e] at this
        rw [this]; rfl
    · intro g k hk1
      have := g (tk k) (hk k hk1).2.1
      rw [(hk k hk1).2.2] at this
      exact this
  unfold wX11_areLeft
  refine ⟨fun r l => ∃ i, i ≤ m ∧ l = nI i ∧ r = (if allB (fun k => decide (¬ mt n (tk k) &&& X = 0)) i then 1 else 0), fun _ l => 30 - l.toNatClampNeg, ⟨0, by omega, rfl, rfl⟩, ?_⟩
  rintro r l ⟨i, hi, rfl, rfl⟩
  refine pk_le m i (fun c => ?_) (fun c => ?_)
  · have e : i = m := by omega
    subst e
    rw [eg]
    refine ⟨?_, h⟩
    split
    · exact Or.inr rfl
    · exact Or.inl rfl
  · by_cases q : allB (fun k => decide (¬ mt n (tk k) &&& X = 0)) i = true
    · rw [if_pos q, nI_clamp (n := i) (by omega), (hk i c).1, fa_and]
      have h4 := mt_lt (t := tk i) h1 hn
      have h5 : mt n (tk i) &&& X ≤ X := Nat.and_le_right
      refine br_f (by decide) ⟨vp_in_nI (by omega) (by omega), br_c (fun d => ?_) (fun d => ?_)⟩
      · have d' := (nI_z (by omega)).1 d
        intro x hx
        refine ⟨⟨i + 1, by omega, hx.trans (nI_1 i), ?_⟩, loop_mu hx (by omega) (by omega)⟩
        rw [allB, decide_eq_false (fun z => z d'), Bool.and_false]; rfl
      · have d' : ¬ mt n (tk i) &&& X = 0 := fun z => d ((nI_z (by omega)).2 z)
        intro x hx
        refine ⟨⟨i + 1, by omega, hx.trans (nI_1 i), ?_⟩, loop_mu hx (by omega) (by omega)⟩
        rw [allB, decide_eq_true d', q]; rfl
    · rw [if_neg q]
      refine br_t rfl (fun x hx => ⟨⟨i + 1, by omega, hx.trans (nI_1 i), ?_⟩, loop_mu hx (by omega) (by omega)⟩)
      rw [allB, ts_nt q]; rfl
theorem s11_chances {st : Nat → Int32} {n m c : Nat} {needs : Nat → Int32} {tk : Nat → Nat} (hn : stripN n) (hc : c ≤ 10) (en : st 267 = nI n) (ok : ndOK st (st 268) n 266 needs m tk) {post : Int64 → Prop} (h : post (lN (SM c n (goodB st (st 268) n)))) : wX11_chances (nI c) st needs (nI m) post := by
  have hw := stripN_w hn
  have hp : 2 ^ n ≤ 2 ^ 12 := Nat.pow_le_pow_right (by omega) hw.2.2.2.2
  unfold wX11_chances
  rw [en, sh1 _ (by omega), ten_c hc, nI_l (n := c) (by omega)]
  refine ⟨fun s l => ∃ X, X ≤ 2 ^ n ∧ l = nI X ∧ s = lN (fb_sm (fun X => if goodB st (st 268) n X then wtN c n X else 0) X), fun _ l => 5000 - l.toNatClampNeg, ⟨0, Nat.zero_le _, rfl, rfl⟩, ?_⟩
  rintro s l ⟨X, hX, rfl, rfl⟩
  refine pk_le (2 ^ n) X (fun d => ?_) (fun d => ?_) rfl rfl (by omega) (by omega)
  · have e : X = 2 ^ n := by omega
    rw [e]
    exact h
  · refine ⟨fun t l => ∃ g, g ≤ n ∧ l = nI g ∧ t = lN (wtN c g X), fun _ l => 20 - l.toNatClampNeg, ⟨0, by omega, rfl, rfl⟩, ?_⟩
    rintro t l ⟨g, hg, rfl, rfl⟩
    refine pk_le n g (fun e => ?_) (fun e => ?_)
    · have eg : g = n := by omega
      subst eg
      refine s11_areLeft (by omega) hw.2.2.2.2 ok (by omega) ?_
      by_cases q : goodB st (st 268) g X = true
      · rw [if_pos q]
        refine br_f (by decide) (fun x hx y hy => ⟨⟨X + 1, by omega, hy.trans (nI_1 X), ?_⟩, loop_mu hy (by omega) (by omega)⟩)
        rw [fb_sm_succ, if_pos q, hx, lN_add]
      · rw [if_neg q]
        refine br_t rfl (fun x hx y hy => ⟨⟨X + 1, by omega, hy.trans (nI_1 X), ?_⟩, loop_mu hy (by omega) (by omega)⟩)
        rw [fb_sm_succ, if_neg q, hx, show (0 : Int64) = lN 0 from rfl, lN_add]
    · have hdl : X / 2 ^ g ≤ X := Nat.div_le_self _ _
      rw [pk_shrN (by omega) (nI g &&& 31) g (shs g (by omega)), pk_andN (by omega) 1 (by decide)]
      have hz : nI (X / 2 ^ g % 2 ^ 1) = 1 ↔ X.testBit g = true := by
        rw [tb_dec, decide_eq_true_iff]
        have := nI_eq (a := X / 2 ^ g % 2 ^ 1) (b := 1) (by omega) (by omega)
        rw [show (1 : Int32) = nI 1 from rfl, this]
      refine br_c (fun q => ?_) (fun q => ?_)
      · intro x hx y hy
        refine ⟨⟨g + 1, by omega, hy.trans (nI_1 g), ?_⟩, loop_mu hy (by omega) (by omega)⟩
        rw [wtN, hz.1 q, hx, lN_mul]; rfl
      · intro x hx y hy
        refine ⟨⟨g + 1, by omega, hy.trans (nI_1 g), ?_⟩, loop_mu hy (by omega) (by omega)⟩
        rw [wtN, ts_nt (fun z => q (hz.2 z)), hx, lN_mul]; rfl
