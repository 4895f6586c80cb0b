/-! ===== how many are land ===== -/
def b2n (b : Bool) : Nat := if b then 1 else 0
theorem tb_n (n j : Nat) : b2n (n.testBit j) = n / 2 ^ j % 2 := by
  unfold b2n
  rw [Nat.testBit_eq_decide_div_mod_eq]
  have h := Nat.mod_lt (n / 2 ^ j) (show 0 < 2 by decide)
  by_cases e : n / 2 ^ j % 2 = 1
  · rw [decide_eq_true e, e]; rfl
  · rw [decide_eq_false e]
    have : n / 2 ^ j % 2 = 0 := by omega
    rw [this]; rfl
theorem ct8 (p : Nat → Bool) (k : Nat) : fb_ct p (k + 8) = fb_ct p k + (b2n (p k) + b2n (p (k + 1)) + b2n (p (k + 2)) + b2n (p (k + 3)) + b2n (p (k + 4)) + b2n (p (k + 5)) + b2n (p (k + 6)) + b2n (p (k + 7))) := by
  have s : ∀ n, fb_ct p (n + 1) = fb_ct p n + b2n (p n) := fun n => rfl
  rw [show k + 8 = k + 7 + 1 from rfl, s, show k + 7 = k + 6 + 1 from rfl, s, show k + 6 = k + 5 + 1 from rfl, s, show k + 5 = k + 4 + 1 from rfl, s, show k + 4 = k + 3 + 1 from rfl, s, show k + 3 = k + 2 + 1 from rfl, s, show k + 2 = k + 1 + 1 from rfl, s, s]
  omega
theorem pop8_at (n k : Nat) : b2n (n.testBit k) + b2n (n.testBit (k + 1)) + b2n (n.testBit (k + 2)) + b2n (n.testBit (k + 3)) + b2n (n.testBit (k + 4)) + b2n (n.testBit (k + 5)) + b2n (n.testBit (k + 6)) + b2n (n.testBit (k + 7)) = pop8 (n / 2 ^ k % 256) := by
  have e : ∀ i, b2n (n.testBit (k + i)) = n / 2 ^ k / 2 ^ i % 2 := fun i => by rw [tb_n, Nat.pow_add, Nat.div_div_eq_div_mul]
  have e0 := e 0
  rw [Nat.add_zero] at e0
  rw [e0, e 1, e 2, e 3, e 4, e 5, e 6, e 7]
  generalize n / 2 ^ k = m
  unfold pop8
  omega
theorem ct64 (n : Nat) : fb_ct (fun j => n.testBit j) 64 = pop64 n := by
  rw [show 64 = 56 + 8 from rfl, ct8, show 56 = 48 + 8 from rfl, ct8, show 48 = 40 + 8 from rfl, ct8, show 40 = 32 + 8 from rfl, ct8, show 32 = 24 + 8 from rfl, ct8, show 24 = 16 + 8 from rfl, ct8, show 16 = 8 + 8 from rfl, ct8, show 8 = 0 + 8 from rfl, ct8]
  rw [pop8_at, pop8_at, pop8_at, pop8_at, pop8_at, pop8_at, pop8_at, pop8_at]
  show 0 + _ + _ + _ + _ + _ + _ + _ + _ = _
  unfold pop64
  simp only [Nat.reduceAdd, Nat.reducePow, Nat.div_one, Nat.zero_add]
theorem ctW (w : Int64) : fb_ct (fun j => w.toBitVec.getLsbD j) 64 = pop64 (uN w) := by
  rw [← ct64]
  rfl
theorem ct320 (bits : Nat → Int64) : fb_ct (bitAt bits) 320 = pop64 (uN (bits 0)) + pop64 (uN (bits 1)) + pop64 (uN (bits 2)) + pop64 (uN (bits 3)) + pop64 (uN (bits 4)) := by
  have key : ∀ i, fb_ct (fun k => bitAt bits (64 * i + k)) 64 = pop64 (uN (bits i)) := fun i => by
    rw [← ctW]
    refine fb_ct_cong fun k hk => ?_
    unfold bitAt
    rw [show (64 * i + k) / 64 = i by omega, show (64 * i + k) % 64 = k by omega]
  rw [show 320 = 256 + 64 from rfl, fb_ct_split, show 256 = 192 + 64 from rfl, fb_ct_split, show 192 = 128 + 64 from rfl, fb_ct_split, show 128 = 64 + 64 from rfl, fb_ct_split]
  have k0 := key 0
  have k1 := key 1
  have k2 := key 2
  have k3 := key 3
  have k4 := key 4
  simp only [Nat.mul_zero, Nat.zero_add, Nat.reduceMul, Nat.mul_one] at k0 k1 k2 k3 k4
  show fb_ct (fun k => bitAt bits k) 64 + fb_ct (fun k => bitAt bits (64 + k)) 64 + fb_ct (fun k => bitAt bits (128 + k)) 64 + fb_ct (fun k => bitAt bits (192 + k)) 64 + fb_ct (fun k => bitAt bits (256 + k)) 64 = _
  rw [k0, k1, k2, k3, k4]
def landN (st : Nat → Int32) : Nat := fb_ct (fun p => decide (st p = 1)) 266
theorem landN_le (st : Nat → Int32) : landN st ≤ 266 := fb_ct_le _ 266
theorem land_eq {bits : Nat → Int64} {st : Nat → Int32} (h : ∀ p, p < 320 → bitAt bits p = decide (p < 266 ∧ st p = 1)) : fb_ct (bitAt bits) 320 = landN st := by
  rw [fb_ct_cong h, show 320 = 266 + 54 from rfl, fb_ct_split]
  have z : fb_ct (fun k => decide (266 + k < 266 ∧ st (266 + k) = 1)) 54 = 0 := fb_ct_zero.mpr fun k _ => decide_eq_false (by omega)
  rw [z, Nat.add_zero]
  unfold landN
  refine fb_ct_cong fun k hk => ?_
  by_cases e : st k = 1
  · rw [decide_eq_true e, decide_eq_true ⟨hk, e⟩]
  · rw [decide_eq_false e, decide_eq_false (fun q => e q.2)]
theorem s_landNumber {bits : Nat → Int64} {post : Int32 → Prop} (h : post (nI (fb_ct (bitAt bits) 320))) : wX0_landNumber bits post := by
  unfold wX0_landNumber
  refine ⟨fun a l => ∃ i, i ≤ 5 ∧ l = nI i ∧ a = nI (fb_sm (fun k => pop64 (uN (bits k))) i), fun _ l => 5 - l.toNatClampNeg, ⟨0, by omega, rfl, rfl⟩, ?_⟩
  rintro a l ⟨i, hi, rfl, rfl⟩
  refine br_c (fun c => ?_) (fun c => ?_)
  · have e : i = 5 := by
      have := (nI_leI (a := 5) (by omega) (by omega)).mp c
      omega
    subst e
    rw [ct320] at h
    have e5 : fb_sm (fun k => pop64 (uN (bits k))) 5 = pop64 (uN (bits 0)) + pop64 (uN (bits 1)) + pop64 (uN (bits 2)) + pop64 (uN (bits 3)) + pop64 (uN (bits 4)) := by
      show 0 + _ + _ + _ + _ + _ = _
      rw [Nat.zero_add]
    rw [e5]
    exact h
  · have hlt : i < 5 := by
      rcases Nat.lt_or_ge i 5 with q | q
      · exact q
      · exact absurd (nI_le (a := 5) q (by omega)) c
    refine ⟨vp_in_nI hlt (by omega), fun x hx => ?_⟩
    rw [nI_clamp (by omega)] at hx
    refine s_bitCount ?_
    intro y hy z hz
    subst hx
    refine ⟨⟨i + 1, hlt, hz.trans (nI_1 i), ?_⟩, ?_⟩
    · rw [hy, nI_add]
      rfl
    · subst hz
      show 5 - (nI i + 1).toNatClampNeg < 5 - (nI i).toNatClampNeg
      rw [nI_1, nI_clamp (by omega), nI_clamp (by omega)]
      omega
theorem s_landMany {st : Nat → Int32} (h01 : ∀ p, p < 266 → st p = 0 ∨ st p = 1) {post : Int32 → Prop} (h : post (nI (landN st))) : wX11_landMany st post := by
  unfold wX11_landMany
  refine ⟨fun a l => ∃ i, i ≤ 266 ∧ l = nI i ∧ a = nI (fb_ct (fun p => decide (st p = 1)) i), fun _ l => 266 - l.toNatClampNeg, ⟨0, by omega, rfl, rfl⟩, ?_⟩
  rintro a l ⟨i, hi, rfl, rfl⟩
  refine br_c (fun c => ?_) (fun c => ?_)
  · have e : i = 266 := by
      have := (nI_leI (a := 266) (by omega) (by omega)).mp c
      omega
    subst e
    exact h
  · have hlt : i < 266 := by
      rcases Nat.lt_or_ge i 266 with q | q
      · exact q
      · exact absurd (nI_le (a := 266) q (by omega)) c
    refine ⟨vp_in_nI (by omega) (by omega), fun x hx y hy => ?_⟩
    rw [nI_clamp (by omega)] at hx
    refine ⟨⟨i + 1, hlt, hy.trans (nI_1 i), ?_⟩, ?_⟩
    · rw [hx, fb_ct_succ]
      rcases h01 i hlt with q | q
      · rw [q, if_neg (by decide), Nat.add_zero]
        exact Int32.add_zero _
      · rw [q, if_pos (by decide), ← nI_add]
        rfl
    · subst hy
      show 266 - (nI i + 1).toNatClampNeg < 266 - (nI i).toNatClampNeg
      rw [nI_1, nI_clamp (by omega), nI_clamp (by omega)]
      omega
