/-! ===== lost: the class ===== -/
def tOf (n p : Nat) : Nat := if p = 0 ∨ p = 265 then 2 * n else if stepN p % (24 / n) = 0 then n + stepN p / (24 / n) else stepN p / (24 / n)
def dmP (st : Nat → Int32) (caps : Int32) (n t p : Nat) : Bool := decide (st p = 1 ∧ ¬ fOnS (rowI p) caps = 0 ∧ tOf n p = t)
def dm (st : Nat → Int32) (caps : Int32) (n t a : Nat) : Bool := anyB (dmP st caps n t) a
theorem dm_succ (st : Nat → Int32) (caps : Int32) (n t a : Nat) : dm st caps n t (a + 1) = (dm st caps n t a || dmP st caps n t a) := rfl
theorem dmP_no {st : Nat → Int32} {caps : Int32} {n t p : Nat} (h : ¬ (st p = 1 ∧ ¬ fOnS (rowI p) caps = 0)) : dmP st caps n t p = false := decide_eq_false (fun z => h ⟨z.1, z.2.1⟩)
theorem dmP_yes {st : Nat → Int32} {caps : Int32} {n t p : Nat} (h1 : st p = 1) (h2 : ¬ fOnS (rowI p) caps = 0) : dmP st caps n t p = decide (tOf n p = t) := decide_eq_decide.2 ⟨fun z => z.2.2, fun z => ⟨h1, h2, z⟩⟩
theorem strip_lt {n m : Nat} (hn : stripN n) (hm : m < 24) : m / (24 / n) < n := by
  have hw := stripN_w hn
  exact (Nat.div_lt_iff_lt_mul hw.1).2 (by rw [Nat.mul_comm, hw.2.2.1]; exact hm)
theorem sh1 : ∀ g, g < 13 → (1 : Int32) <<< (nI g &&& 31) = nI (2 ^ g) := by decide +kernel
theorem shs : ∀ g, g < 13 → ((nI g &&& 31).toBitVec.smod 32).toNat = g := by decide +kernel
theorem tb_dec (M g : Nat) : M.testBit g = decide (M / 2 ^ g % 2 = 1) := Nat.testBit_eq_decide_div_mod_eq
theorem s2_hasBit {M g : Nat} (hM : M < 2 ^ 30) (hg : g < 13) {post : Int32 → Prop} (h : post (if M.testBit g then 1 else 0)) : wX2_hasBit (nI M) (nI g) post := by
  unfold wX2_hasBit
  have hlt : M / 2 ^ g ≤ M := Nat.div_le_self _ _
  rw [pk_shrN (by omega) (nI g &&& 31) g (shs g hg), pk_andN (by omega) 1 (by decide), tb_dec] at *
  have hz : nI (M / 2 ^ g % 2 ^ 1) = 0 ↔ ¬ M / 2 ^ g % 2 = 1 := by
    rw [nI_z (by omega)]
    omega
  refine br_c (fun c => ?_) (fun c => ?_)
  · rw [decide_eq_false (hz.1 c)] at h; exact h
  · rw [decide_eq_true (Classical.byContradiction (fun z => c (hz.2 z)))] at h; exact h
def mskOK (n : Nat) (D : Nat → Bool) (M : Nat) : Prop := M < 2 ^ 12 ∧ ∀ g, M.testBit g = (decide (g < n) && D g)
theorem msk_set {n g : Nat} {D D' : Nat → Bool} {M : Nat} (hn : n ≤ 12) (hg : g < n) (h : mskOK n D M) (hD : ∀ j, j < n → D' j = (D j || decide (g = j))) : mskOK n D' (M ||| 2 ^ g) := by
  refine ⟨Nat.or_lt_two_pow h.1 (Nat.pow_lt_pow_right (by omega) (by omega)), fun j => ?_⟩
  rw [fb_bit_set, h.2 j]
  by_cases q : j < n
  · rw [decide_eq_true q, Bool.true_and, Bool.true_and, hD j q]
    congr 1
    exact decide_eq_decide.2 ⟨fun z => z.symm, fun z => z.symm⟩
  · rw [decide_eq_false q, Bool.false_and, Bool.false_and, Bool.false_or]
    exact decide_eq_false (by omega)
theorem msk_same {n : Nat} {D D' : Nat → Bool} {M : Nat} (h : mskOK n D M) (hD : ∀ j, j < n → D' j = D j) : mskOK n D' M := by
  refine ⟨h.1, fun j => ?_⟩
  rw [h.2 j]
  by_cases q : j < n
  · rw [hD j q]
  · rw [decide_eq_false q]; rfl
theorem s2_gather {st : Nat → Int32} {bits : Nat → Int64} (hb : ∀ p, p < 320 → bitAt bits p = decide (p < 266 ∧ st p = 1)) {n : Nat} {caps : Int32} (hn : stripN n) {post : Int32 → Int32 → Int32 → Prop} (h : ∀ M K, mskOK n (fun g => dm st caps n g 266) M → mskOK n (fun g => dm st caps n (n + g) 266) K → post (nI M) (nI K) (if dm st caps n (2 * n) 266 then 1 else 0)) : wX2_gather bits (nI n) caps post := by
  have hw := stripN_w hn
  unfold wX2_gather
  refine q0_width hn ?_
  refine ⟨fun l x y z => ∃ a M K, a ≤ 266 ∧ l = nI a ∧ x = nI M ∧ y = nI K ∧ z = (if dm st caps n (2 * n) a then 1 else 0) ∧ mskOK n (fun g => dm st caps n g a) M ∧ mskOK n (fun g => dm st caps n (n + g) a) K, fun l _ _ _ => 266 - l.toNatClampNeg, ⟨0, 0, 0, by omega, rfl, rfl, rfl, rfl, ⟨by omega, fun g => ?_⟩, ⟨by omega, fun g => ?_⟩⟩, ?_⟩
  · rw [Nat.zero_testBit]; exact (Bool.and_false _).symm
  · rw [Nat.zero_testBit]; exact (Bool.and_false _).symm
  rintro l x y z ⟨a, M, K, ha, rfl, rfl, rfl, rfl, hM, hK⟩
  refine pk_le 266 a (fun c => ?_) (fun c => ?_)
  · have e : a = 266 := by omega
    subst e
    exact h M K hM hK
  have no : ¬ (st a = 1 ∧ ¬ fOnS (rowI a) caps = 0) → ∀ x : Int32, x = nI a + 1 → ((∃ b M' K', b ≤ 266 ∧ x = nI b ∧ nI M = nI M' ∧ nI K = nI K' ∧ (if dm st caps n (2 * n) a then (1 : Int32) else 0) = (if dm st caps n (2 * n) b then 1 else 0) ∧ mskOK n (fun g => dm st caps n g b) M' ∧ mskOK n (fun g => dm st caps n (n + g) b) K') ∧ 266 - x.toNatClampNeg < 266 - (nI a).toNatClampNeg) := by
    intro hno x hx
    have e : ∀ t, dm st caps n t (a + 1) = dm st caps n t a := fun t => by rw [dm_succ, dmP_no hno, Bool.or_false]
    refine ⟨⟨a + 1, M, K, by omega, hx.trans (nI_1 a), rfl, rfl, by rw [e], msk_same hM (fun j _ => e j), msk_same hK (fun j _ => e (n + j))⟩, loop_mu hx c (by omega)⟩
  refine s_isLand (by omega) ?_
  rw [hb a (by omega)]
  by_cases d : st a = 1
  case neg =>
    rw [decide_eq_false (fun z => d z.2)]
    exact br_t rfl (no (fun z => d z.1))
  rw [decide_eq_true ⟨c, d⟩]
  refine br_f (by decide) (s1_row c (q0_onS (br_c (fun e => no (fun z => z.2 e)) (fun e => ?_))))
  have ey : ∀ t, dm st caps n t (a + 1) = (dm st caps n t a || decide (tOf n a = t)) := fun t => by rw [dm_succ, dmP_yes d e]
  have hst := stepN_lt a
  have hsl := strip_lt hn hst
  refine s1_step c (s1_pole c ?_)
  by_cases p : a = 0 ∨ a = 265
  · rw [if_pos p]
    have et : tOf n a = 2 * n := if_pos p
    refine br_f (by decide) ?_
    intro x hx
    refine ⟨⟨a + 1, M, K, by omega, hx.trans (nI_1 a), rfl, rfl, ?_, msk_same hM (fun j hj => ?_), msk_same hK (fun j hj => ?_)⟩, loop_mu hx c (by omega)⟩
    · rw [ey, et, decide_eq_true rfl, Bool.or_true]; rfl
    · show dm st caps n j (a + 1) = _
      rw [ey, et, decide_eq_false (by omega), Bool.or_false]
    · show dm st caps n (n + j) (a + 1) = _
      rw [ey, et, decide_eq_false (by omega), Bool.or_false]
  rw [if_neg p]
  refine br_t rfl ⟨wI_ne hn, ?_⟩
  rw [st_mod hst hw.1 hw.2.1, st_div hst hw.1 hw.2.1, sh1 _ (by omega)]
  have hml := Nat.mod_lt (stepN a) hw.1
  refine br_c (fun q => ?_) (fun q => ?_)
  · have q' : stepN a % (24 / n) = 0 := (nI_z (by omega)).1 q
    have et : tOf n a = n + stepN a / (24 / n) := by unfold tOf; rw [if_neg p, if_pos q']
    refine ⟨wI_ne hn, fun x hx y hy => ?_⟩
    rw [fa_or] at hx
    refine ⟨⟨a + 1, M, _, by omega, hy.trans (nI_1 a), rfl, hx, ?_, msk_same hM (fun j hj => ?_), msk_set hw.2.2.2.2 hsl hK (fun j hj => ?_)⟩, loop_mu hy c (by omega)⟩
    · rw [ey, et, decide_eq_false (by omega), Bool.or_false]
    · show dm st caps n j (a + 1) = _
      rw [ey, et, decide_eq_false (fun z => by have := Nat.le_add_right n (stepN a / (24 / n)); rw [z] at this; omega), Bool.or_false]
    · show dm st caps n (n + j) (a + 1) = _
      rw [ey, et]
      congr 1
      exact decide_eq_decide.2 (by omega)
  · have q' : ¬ stepN a % (24 / n) = 0 := fun z => q ((nI_z (by omega)).2 z)
    have et : tOf n a = stepN a / (24 / n) := by unfold tOf; rw [if_neg p, if_neg q']
    refine ⟨wI_ne hn, fun x hx y hy => ?_⟩
    rw [fa_or] at hx
    refine ⟨⟨a + 1, _, K, by omega, hy.trans (nI_1 a), hx, rfl, ?_, msk_set hw.2.2.2.2 hsl hM (fun j hj => ?_), msk_same hK (fun j hj => ?_)⟩, loop_mu hy c (by omega)⟩
    · rw [ey, et, decide_eq_false (by omega), Bool.or_false]
    · show dm st caps n j (a + 1) = _
      rw [ey, et]
    · show dm st caps n (n + j) (a + 1) = _
      rw [ey, et, decide_eq_false (by omega), Bool.or_false]
theorem ten_c {c : Nat} (hc : c ≤ 10) : ((10 : Int32) - nI c).toInt64 = lN (10 - c) := by
  rw [show (10 : Int32) = nI 10 from rfl, pk_sub hc, nI_l (by omega)]
/-- what is good if the first strip is left, or lost -/
def gIf (M K c n : Nat) (a : Bool) : Nat := if a then (dpS M.testBit K.testBit c a (n - 1)).1 + (dpS M.testBit K.testBit c a (n - 1)).2 else if K.testBit 0 then (dpS M.testBit K.testBit c a (n - 1)).1 else (dpS M.testBit K.testBit c a (n - 1)).1 + (dpS M.testBit K.testBit c a (n - 1)).2
theorem s2_good {M K c n : Nat} {a : Bool} (hc : c ≤ 10) (hn1 : 1 ≤ n) (hn : n ≤ 12) (hM : M < 2 ^ 12) (hK : K < 2 ^ 12) {post : Int64 → Prop} (h : post (lN (gIf M K c n a))) : wX2_goodIfFirstIs (if a then 1 else 0) (nI n) (nI c) (nI M) (nI K) post := by
  have hM30 : M < 2 ^ 30 := by omega
  have hK30 : K < 2 ^ 30 := by omega
  unfold wX2_goodIfFirstIs
  rw [ten_c hc, nI_l (by omega)]
  unfold gIf at h
  refine ⟨fun t => t = lN (dpS M.testBit K.testBit c a 0).1, ?_, ?_⟩
  case refine_2 =>
    cases a with
    | true => exact br_f (by decide) rfl
    | false => exact br_t rfl rfl
  rintro t rfl
  refine ⟨fun t => t = lN (dpS M.testBit K.testBit c a 0).2, ?_, (dpS M.testBit K.testBit c a 0).2 = 0, fun z => by show (0 : Int64) = _; rw [z]; rfl, ?_⟩
  case refine_2 =>
    cases a with
    | true => exact br_f (by decide) rfl
    | false =>
      refine br_t rfl (s2_hasBit (g := 0) hM30 (by omega) ?_)
      by_cases q : M.testBit 0 = true
      · rw [if_pos q]
        refine br_f (by decide) ?_
        show (if M.testBit 0 then 0 else c) = 0
        rw [if_pos q]
      · rw [if_neg q]
        refine br_t rfl ?_
        show lN c = lN (if M.testBit 0 then 0 else c)
        rw [if_neg q]
  rintro t rfl
  refine ⟨fun x y l => ∃ k, k ≤ n - 1 ∧ l = nI (k + 1) ∧ x = lN (dpS M.testBit K.testBit c a k).1 ∧ y = lN (dpS M.testBit K.testBit c a k).2, fun _ _ l => 20 - l.toNatClampNeg, ⟨0, by omega, rfl, rfl, rfl⟩, ?_⟩
  rintro x y l ⟨k, hk, rfl, rfl, rfl⟩
  refine pk_le n (k + 1) (fun d => ?_) (fun d => ?_)
  · have e : k = n - 1 := by omega
    subst e
    rw [lN_add]
    cases a with
    | true => exact br_f (by decide) h
    | false =>
      refine br_t rfl (s2_hasBit (g := 0) hK30 (by omega) ?_)
      rw [if_neg (by decide)] at h
      by_cases q : K.testBit 0 = true
      · rw [if_pos q] at h ⊢
        exact br_f (by decide) h
      · rw [if_neg q] at h ⊢
        exact br_t rfl h
  · have hlt : ∀ {x : Int32}, x = nI (k + 1) + 1 → 20 - x.toNatClampNeg < 20 - (nI (k + 1)).toNatClampNeg := by
      intro x hx
      subst hx
      rw [nI_1, nI_clamp (by omega), nI_clamp (by omega)]
      omega
    refine s2_hasBit hK30 (by omega) ?_
    rw [lN_add]
    refine ⟨fun t => t = lN (if K.testBit (k + 1) then (dpS M.testBit K.testBit c a k).1 else (dpS M.testBit K.testBit c a k).1 + (dpS M.testBit K.testBit c a k).2), ?_, ?_⟩
    · rintro t rfl x6 hx6
      rw [lN_mul] at hx6
      refine s2_hasBit hM30 (by omega) ?_
      by_cases q : M.testBit (k + 1) = true
      · rw [if_pos q]
        refine br_f (by decide) (fun z hz => ⟨⟨k + 1, by omega, hz.trans (nI_1 _), hx6, ?_⟩, hlt hz⟩)
        show (0 : Int64) = lN (if M.testBit (k + 1) then 0 else _)
        rw [if_pos q]; rfl
      · rw [if_neg q]
        refine br_t rfl (fun w hw z hz => ⟨⟨k + 1, by omega, hz.trans (nI_1 _), hx6, ?_⟩, hlt hz⟩)
        rw [hw, lN_mul]
        show _ = lN (if M.testBit (k + 1) then 0 else _)
        rw [if_neg q]
    · by_cases q : K.testBit (k + 1) = true
      · rw [if_pos q]
        exact br_f (by decide) (by show _ = _; rw [if_pos q])
      · rw [if_neg q]
        exact br_t rfl (by show _ = _; rw [if_neg q])
/-! greatest common divisors -/
def gd : Nat → Nat → Nat → Nat
  | 0, a, _ => a
  | f + 1, a, b => if b = 0 then a else gd f b (a % b)
theorem gd_pos : ∀ f a b, (1 ≤ a ∨ (1 ≤ b ∧ 1 ≤ f)) → 1 ≤ gd f a b := by
  intro f
  induction f with
  | zero => intro a b h; show 1 ≤ a; omega
  | succ f ih =>
    intro a b h
    rw [gd]
    by_cases q : b = 0
    · rw [if_pos q]; omega
    · rw [if_neg q]; exact ih b (a % b) (Or.inl (by omega))
theorem gd_lt : ∀ f a b B, a < B → b < B → gd f a b < B := by
  intro f
  induction f with
  | zero => intro a b B h _; exact h
  | succ f ih =>
    intro a b B h1 h2
    rw [gd]
    by_cases q : b = 0
    · rw [if_pos q]; exact h1
    · rw [if_neg q]; exact ih b (a % b) B h2 (Nat.lt_of_le_of_lt (Nat.mod_le _ _) h1)
theorem gcd_loop {a b : Nat} (ha : a < 2 ^ 62) (hb : b < 2 ^ 62) {post : Int64 → Prop} (h : post (lN (gd 200 a b))) : (∃ (I9 : Int64 → Int64 → Int32 → Prop) (mu9 : Int64 → Int64 → Int32 → Nat), I9 (lN a) (lN b) (0 : Int32) ∧ ∀ (l4_9 : Int64) (l6_9 : Int64) (l8_9 : Int32), I9 l4_9 l6_9 l8_9 → (((200 : Int32) ≤ l8_9 → post l4_9) ∧ (¬ (200 : Int32) ≤ l8_9 → (((lg_cmp l6_9 (0 : Int64)) = 0 → post l4_9) ∧ (¬ (lg_cmp l6_9 (0 : Int64)) = 0 → ¬ l6_9 = 0 ∧ ∀ x4 : Int64, x4 = l4_9 - l4_9 / l6_9 * l6_9 → ∀ x5 : Int32, x5 = l8_9 + 1 → (I9 l6_9 x4 x5 ∧ mu9 l6_9 x4 x5 < mu9 l4_9 l6_9 l8_9)))))) := by
  refine ⟨fun x y l => ∃ i p q, i ≤ 200 ∧ l = nI i ∧ x = lN p ∧ y = lN q ∧ p < 2 ^ 62 ∧ q < 2 ^ 62 ∧ gd (200 - i) p q = gd 200 a b, fun _ _ l => 200 - l.toNatClampNeg, ⟨0, a, b, by omega, rfl, rfl, rfl, ha, hb, rfl⟩, ?_⟩
  rintro x y l ⟨i, p, q, hi, rfl, rfl, rfl, hp, hq, he⟩
  refine pk_le 200 i (fun c => ?_) (fun c => ?_)
  · have e : i = 200 := by omega
    subst e
    rw [← he] at h
    exact h
  · have e200 : 200 - i = (200 - (i + 1)) + 1 := by omega
    rw [e200, gd] at he
    have hz : lg_cmp (lN q) 0 = 0 ↔ q = 0 := by
      rw [lg_cmp_eq]
      exact pk_lEQ (b := 0) (by omega) (by omega)
    refine br_c (fun d => ?_) (fun d => ?_)
    · rw [if_pos (hz.1 d)] at he
      rw [← he] at h
      exact h
    · have hq0 : ¬ q = 0 := fun z => d (hz.2 z)
      rw [if_neg hq0] at he
      refine ⟨fun z => hq0 ((pk_lEQ (b := 0) (by omega) (by omega)).1 z), fun u hu v hv => ?_⟩
      rw [pk_lRem (by omega) (by omega) (by omega)] at hu
      subst hu
      exact ⟨⟨i + 1, q, p % q, by omega, hv.trans (nI_1 i), rfl, rfl, hq, Nat.lt_of_le_of_lt (Nat.mod_le _ _) hp, he⟩, loop_mu hv c (by omega)⟩
/-- above the line, as the class has it -/
def gV (M K c n : Nat) (pl : Bool) : Nat := if pl = true ∧ M = 0 ∧ K = 0 then totC M.testBit K.testBit c n - c ^ n else totC M.testBit K.testBit c n
theorem gIf_sum {M K c n : Nat} (hn1 : 1 ≤ n) : gIf M K c n true + gIf M K c n false = totC M.testBit K.testBit c n := by
  unfold gIf totC
  rw [dpS_is, dpS_is, show n - 1 + 1 = n by omega, if_pos rfl, if_neg (by decide)]
theorem pow12 {n c : Nat} (hn : n ≤ 12) (hc : c ≤ 10) : c ^ n ≤ 10 ^ 12 ∧ 10 ^ n ≤ 10 ^ 12 := ⟨Nat.le_trans (Nat.pow_le_pow_left hc n) (Nat.pow_le_pow_right (by omega) hn), Nat.pow_le_pow_right (by omega) hn⟩
theorem s2_reckon {st : Nat → Int32} {bits : Nat → Int64} (hb : ∀ p, p < 320 → bitAt bits p = decide (p < 266 ∧ st p = 1)) {n c : Nat} {caps : Int32} (hn : stripN n) (hc : c ≤ 10) (hle : ∀ M K, mskOK n (fun g => dm st caps n g 266) M → mskOK n (fun g => dm st caps n (n + g) 266) K → dm st caps n (2 * n) 266 = true → M = 0 → K = 0 → c ^ n ≤ totC M.testBit K.testBit c n) {post : Int64 → Int64 → Int32 → Int32 → Int32 → Prop} (h : ∀ M K, mskOK n (fun g => dm st caps n g 266) M → mskOK n (fun g => dm st caps n (n + g) 266) K → ∀ x y z, post (lN (gV M K c n (dm st caps n (2 * n) 266) / gd 200 (gV M K c n (dm st caps n (2 * n) 266)) (10 ^ n))) (lN (10 ^ n / gd 200 (gV M K c n (dm st caps n (2 * n) 266)) (10 ^ n))) x y z) : wX2_reckon (nI c) bits (nI n) caps post := by
  have hw := stripN_w hn
  unfold wX2_reckon
  refine s2_gather hb hn (fun M K hM hK => ?_)
  replace h := h M K hM hK
  replace hle := hle M K hM hK
  rw [nI_l (n := c) (by omega)]
  refine ⟨fun x y l => ∃ i, i ≤ n ∧ l = nI i ∧ x = lN (10 ^ i) ∧ y = lN (c ^ i), fun _ _ l => n - l.toNatClampNeg, ⟨0, by omega, rfl, rfl, rfl⟩, ?_⟩
  rintro x y l ⟨i, hi, rfl, rfl, rfl⟩
  refine pk_le n i (fun d => ?_) (fun d => ?_)
  case refine_2 =>
    intro x hx y hy z hz
    rw [show (10 : Int64) = lN 10 from rfl, lN_mul] at hx
    rw [lN_mul] at hy
    exact ⟨⟨i + 1, by omega, hz.trans (nI_1 i), by rw [hx, Nat.pow_succ], by rw [hy, Nat.pow_succ]⟩, loop_mu hz d (by omega)⟩
  have e : i = n := by omega
  subst e
  refine s2_good (a := true) hc (by omega) hw.2.2.2.2 hM.1 hK.1 (s2_good (a := false) hc (by omega) hw.2.2.2.2 hM.1 hK.1 ?_)
  intro x7 hx7
  rw [lN_add, gIf_sum (by omega)] at hx7
  subst hx7
  generalize hpl : dm st caps i (2 * i) 266 = pl at *
  have htot : totC M.testBit K.testBit c i ≤ 10 ^ i := by rw [totC_is]; exact SM_le hc _
  have hpw := pow12 hw.2.2.2.2 hc
  have hgV : gV M K c i pl ≤ 10 ^ i := by
    unfold gV
    split <;> omega
  refine ⟨fun t => t = lN (gV M K c i pl), ?_, ?_⟩
  · rintro t rfl
    have hp1 : 1 ≤ gd 200 (gV M K c i pl) (10 ^ i) := gd_pos _ _ _ (Or.inr ⟨Nat.pow_pos (by omega), by omega⟩)
    have hp2 : gd 200 (gV M K c i pl) (10 ^ i) < 2 ^ 62 := gd_lt _ _ _ _ (by omega) (by omega)
    unfold wX2_greatestDivisor
    refine gcd_loop (by omega) (by omega) ?_
    intro x9 hx9
    have hn1 : ¬ lN (gd 200 (gV M K c i pl) (10 ^ i)) < (1 : Int64) := fun z => by
      have := (pk_lLT (b := 1) (by omega) (by omega)).1 z
      omega
    rw [if_neg hn1] at hx9
    subst hx9
    have hne : ¬ lN (gd 200 (gV M K c i pl) (10 ^ i)) = 0 := fun z => by
      have := (pk_lEQ (b := 0) (by omega) (by omega)).1 z
      omega
    refine ⟨hne, fun x hx => ⟨hne, fun y hy => ?_⟩⟩
    rw [pk_lDiv (by omega) (by omega) (by omega)] at hx hy
    subst hx hy
    exact h _ _ _
  · have hM12 := hM.1
    have hK12 := hK.1
    cases pl with
    | false =>
      refine br_t rfl ?_
      show _ = lN (gV M K c i false)
      unfold gV
      rw [if_neg (fun z => absurd z.1 (by decide))]
    | true =>
      refine br_f (by decide) (br_c (fun q => br_c (fun r => ?_) (fun r => ?_)) (fun q => ?_))
      · have q' := (nI_z (by omega)).1 q
        have r' := (nI_z (by omega)).1 r
        intro z hz
        rw [lN_sub (hle rfl q' r')] at hz
        rw [hz]
        show _ = lN (gV M K c i true)
        unfold gV
        rw [if_pos ⟨rfl, q', r'⟩]
      · show _ = lN (gV M K c i true)
        unfold gV
        rw [if_neg (fun z => r ((nI_z (by omega)).2 z.2.2))]
      · show _ = lN (gV M K c i true)
        unfold gV
        rw [if_neg (fun z => q ((nI_z (by omega)).2 z.2.1))]
