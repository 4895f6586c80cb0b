/-! ===== the sheets ===== -/
def fHas (a : Int32) (c n : Nat) : Int32 := if 0 ≤ a.toInt ∧ a.toInt + c ≤ n then 1 else 0
theorem s_hasItems {a : Int32} {c n : Nat} (hc : c < 2 ^ 30) (hn : n ≤ 30) {post : Int32 → Prop} (h : post (fHas a c n)) : wX6_hasItems a (nI c) (nI n) post := by
  unfold wX6_hasItems
  unfold fHas at h
  refine br_f (nI_pos (by omega)) ?_
  by_cases ha : a < 0
  · refine br_t ha ?_
    have hz : a.toInt < 0 := (fa_lt a 0).1 ha
    rw [if_neg (by omega)] at h
    exact h
  · obtain ⟨t, ht, e⟩ := nI_of ha
    subst e
    refine br_f ha ?_
    rw [nI_toInt ht] at h
    by_cases h1 : n < t
    · rw [if_neg (by omega)] at h
      exact br_t ((nI_ltI (by omega) ht).2 h1) h
    · refine br_f (fun q => h1 ((nI_ltI (by omega) ht).1 q)) ?_
      rw [pk_sub (by omega)]
      by_cases h2 : n - t < c
      · rw [if_neg (by omega)] at h
        exact br_t ((nI_ltI (by omega) (by omega)).2 h2) h
      · rw [if_pos (by omega)] at h
        exact br_f (fun q => h2 ((nI_ltI (by omega) (by omega)).1 q)) h
def fFound (la : Nat) (a2 a3 : Int32) (c n : Nat) : Int32 := if nI la = a2 then (if fHas a3 c n = 0 then -13 else 0) else -12
theorem s_refusal {la n c : Nat} {a2 a3 held lane size : Int32} (eh : held = 1) (eL : lane = nI la) (es : size = nI n) (hc : c < 2 ^ 30) (hn : n ≤ 30) {post : Int32 → Prop} (h : post (fFound la a2 a3 c n)) : wX6_refusal a2 a3 (nI c) held lane size post := by
  unfold wX6_refusal
  unfold fFound at h
  subst eh eL es
  refine br_f (by decide) ?_
  by_cases e : nI la = a2
  · rw [if_pos e] at h
    refine br_t e (s_hasItems hc hn ?_)
    by_cases f : fHas a3 c n = 0
    · rw [if_pos f] at h; exact br_t f h
    · rw [if_neg f] at h; exact br_f f h
  · rw [if_neg e] at h
    exact br_f e h
theorem fHas_le {a : Int32} {c n : Nat} (h : ¬ fHas a c n = 0) : ∃ t : Nat, t + c ≤ n ∧ a = nI t := by
  unfold fHas at h
  by_cases q : 0 ≤ a.toInt ∧ a.toInt + c ≤ n
  · obtain ⟨t, ht, e⟩ := nI_of (x := a) (fun f => by have := (fa_lt a 0).1 f; have : a.toInt < 0 := this; omega)
    subst e
    rw [nI_toInt ht] at q
    exact ⟨t, by omega, rfl⟩
  · rw [if_neg q] at h; exact absurd rfl h
theorem s_found {k la n c : Nat} {a2 a3 : Int32} {laneOf sizeOf : Nat → Int32} (hk : k < 4) (hla : la < 4) (eL : laneOf k = nI la) (es : sizeOf k = nI n) (hc : c < 2 ^ 30) (hn : n ≤ 30) {post : Int32 → Prop} (h : post (fFound la a2 a3 c n)) : wX11_found (nI k) a2 a3 (nI c) laneOf sizeOf post := by
  unfold wX11_found
  unfold fFound at h
  have hv : vp_in (nI k) 4 := vp_in_nI (by omega) (by omega)
  rw [nI_clamp (by omega), eL, es]
  refine ⟨hv, br_t (nI_pos' (by omega)) ⟨hv, ?_⟩⟩
  by_cases e : nI la = a2
  · rw [if_pos e] at h
    refine br_t e ?_
    by_cases ha : a3 < 0
    · have hz : a3.toInt < 0 := (fa_lt a3 0).1 ha
      have f : fHas a3 c n = 0 := if_neg (by omega)
      rw [if_pos f] at h
      exact br_t ha h
    · refine br_f ha ⟨hv, ?_⟩
      have hz : ¬ a3.toInt < 0 := fun q => ha ((fa_lt a3 0).2 q)
      have hs : (nI n - nI c).toInt = (n : Int) - c := pk_sub_toInt (by omega) hc
      by_cases f : a3 ≤ nI n - nI c
      · have g := (fa_le _ _).1 f
        rw [hs] at g
        rw [if_neg (by unfold fHas; rw [if_pos (by omega)]; decide)] at h
        exact br_t f h
      · have g : ¬ a3.toInt ≤ (nI n - nI c).toInt := fun q => f ((fa_le _ _).2 q)
        rw [hs] at g
        rw [if_pos (by unfold fHas; rw [if_neg (by omega)])] at h
        exact br_f f h
  · rw [if_neg e] at h
    exact br_f e h
theorem s_found_no {k : Nat} {a2 a3 a4 : Int32} {laneOf sizeOf : Nat → Int32} (hk : k < 4) (eL : laneOf k = -4) {post : Int32 → Prop} (h : post (-11)) : wX11_found (nI k) a2 a3 a4 laneOf sizeOf post := by
  unfold wX11_found
  have hv : vp_in (nI k) 4 := vp_in_nI (by omega) (by omega)
  rw [nI_clamp (by omega), eL]
  exact ⟨hv, br_f (by decide) h⟩
theorem sh_bits (x : BitVec 64) (k m : Nat) (hk : k + m = 64) (hm : 0 < m) (i : Nat) (hi : i < 64) : ((x <<< k).sshiftRight k).getLsbD i = if i < m then x.getLsbD i else x.getLsbD (m - 1) := by
  rw [BitVec.getLsbD_sshiftRight]
  rw [show decide (64 ≤ i) = false from decide_eq_false (by omega)]
  rw [Bool.not_false, Bool.true_and]
  by_cases h : i < m
  · rw [if_pos h, if_pos (by omega), BitVec.getLsbD_shiftLeft]
    rw [show k + i - k = i by omega]
    rw [show decide (k + i < 64) = true from decide_eq_true (by omega), show decide (k + i < k) = false from decide_eq_false (by omega)]
    rfl
  · rw [if_neg h, if_neg (by omega), BitVec.msb_eq_getLsbD_last, BitVec.getLsbD_shiftLeft]
    rw [show 64 - 1 - k = m - 1 by omega]
    rw [show decide (64 - 1 < 64) = true from rfl, show decide (64 - 1 < k) = false from decide_eq_false (by omega)]
    rfl
theorem se_bits {v : Nat} (x : BitVec v) (w : Nat) (hv : 0 < v) (i : Nat) (hi : i < w) : (x.signExtend w).getLsbD i = if i < v then x.getLsbD i else x.getLsbD (v - 1) := by
  rw [BitVec.getLsbD_signExtend, BitVec.msb_eq_getLsbD_last]
  rw [show decide (i < w) = true from decide_eq_true hi, Bool.true_and]
theorem low_at (a : Int64) (c : Int32) (k : Nat) (hc : c.toInt64 &&& 63 = Int64.ofNat k) (hs : ((Int64.ofNat k).toBitVec.smod 64).toNat = k) : ((a <<< (c.toInt64 &&& 63)) >>> (c.toInt64 &&& 63)).toBitVec = (a.toBitVec <<< k).sshiftRight k := by
  rw [hc, Int64.toBitVec_shiftRight, Int64.toBitVec_shiftLeft, BitVec.sshiftRight', hs, BitVec.shiftLeft_eq', hs]
theorem low8 (a : Int64) : (a <<< ((56 : Int32).toInt64 &&& 63)) >>> ((56 : Int32).toInt64 &&& 63) = a.toInt32.toInt8.toInt32.toInt64 := by
  refine Int64.toBitVec_inj.1 ?_
  rw [low_at a 56 56 (by decide) (by decide), Int32.toBitVec_toInt64, Int8.toBitVec_toInt32, Int32.toBitVec_toInt8, Int64.toBitVec_toInt32]
  refine BitVec.eq_of_getLsbD_eq (fun i hi => ?_)
  rw [sh_bits _ 56 8 (by omega) (by omega) i hi, se_bits _ 64 (by omega) i hi]
  by_cases h : i < 8
  · rw [if_pos h, if_pos (by omega), se_bits _ 32 (by omega) i (by omega), if_pos h, se_bits _ 8 (by omega) i h, if_pos (by omega), se_bits _ 32 (by omega) i (by omega), if_pos (by omega)]
  · rw [if_neg h]
    by_cases h2 : i < 32
    · rw [if_pos h2, se_bits _ 32 (by omega) i h2, if_neg h, se_bits _ 8 (by omega) _ (by omega), if_pos (by omega), se_bits _ 32 (by omega) _ (by omega), if_pos (by omega)]
    · rw [if_neg h2, se_bits _ 32 (by omega) _ (by omega), if_neg (by omega), se_bits _ 8 (by omega) _ (by omega), if_pos (by omega), se_bits _ 32 (by omega) _ (by omega), if_pos (by omega)]
theorem low16 (a : Int64) : (a <<< ((48 : Int32).toInt64 &&& 63)) >>> ((48 : Int32).toInt64 &&& 63) = a.toInt32.toInt16.toInt32.toInt64 := by
  refine Int64.toBitVec_inj.1 ?_
  rw [low_at a 48 48 (by decide) (by decide), Int32.toBitVec_toInt64, Int16.toBitVec_toInt32, Int32.toBitVec_toInt16, Int64.toBitVec_toInt32]
  refine BitVec.eq_of_getLsbD_eq (fun i hi => ?_)
  rw [sh_bits _ 48 16 (by omega) (by omega) i hi, se_bits _ 64 (by omega) i hi]
  by_cases h : i < 16
  · rw [if_pos h, if_pos (by omega), se_bits _ 32 (by omega) i (by omega), if_pos h, se_bits _ 16 (by omega) i h, if_pos (by omega), se_bits _ 32 (by omega) i (by omega), if_pos (by omega)]
  · rw [if_neg h]
    by_cases h2 : i < 32
    · rw [if_pos h2, se_bits _ 32 (by omega) i h2, if_neg h, se_bits _ 16 (by omega) _ (by omega), if_pos (by omega), se_bits _ 32 (by omega) _ (by omega), if_pos (by omega)]
    · rw [if_neg h2, se_bits _ 32 (by omega) _ (by omega), if_neg (by omega), se_bits _ 16 (by omega) _ (by omega), if_pos (by omega), se_bits _ 32 (by omega) _ (by omega), if_pos (by omega)]
theorem low32 (a : Int64) : (a <<< ((32 : Int32).toInt64 &&& 63)) >>> ((32 : Int32).toInt64 &&& 63) = a.toInt32.toInt64 := by
  refine Int64.toBitVec_inj.1 ?_
  rw [low_at a 32 32 (by decide) (by decide), Int32.toBitVec_toInt64, Int64.toBitVec_toInt32]
  refine BitVec.eq_of_getLsbD_eq (fun i hi => ?_)
  rw [sh_bits _ 32 32 (by omega) (by omega) i hi, se_bits _ 64 (by omega) i hi]
  by_cases h : i < 32
  · rw [if_pos h, if_pos h, se_bits _ 32 (by omega) i h, if_pos (by omega)]
  · rw [if_neg h, if_neg h, se_bits _ 32 (by omega) _ (by omega), if_pos (by omega)]
def fLow (v : Int64) (la : Int32) : Int64 := if la = 0 then v.toInt32.toInt8.toInt32.toInt64 else if la = 1 then v.toInt32.toInt16.toInt32.toInt64 else if la = 2 then v.toInt32.toInt64 else v
theorem s_lowest {v : Int64} {la : Int32} {post : Int64 → Prop} (h : post (fLow v la)) : wX11_lowest v la post := by
  unfold wX11_lowest
  unfold fLow at h
  rw [low8, low16, low32]
  repeat' first | exact h | (refine ⟨fun c => ?_, fun c => ?_⟩ <;> first | rw [if_pos c] at h | rw [if_neg c] at h)
theorem s_put {i : Nat} {v : Int64} {la : Int32} {items : Nat → Int64} {post : (Nat → Int64) → Prop} (hi : i < 30) (h : post (vp_updL items i (fLow v la))) : wX6_put (nI i) v items la post := by
  unfold wX6_put
  unfold fLow at h
  have hv : vp_in (nI i) 30 := vp_in_nI (by omega) (by omega)
  rw [nI_clamp (by omega)]
  repeat' first | exact ⟨hv, h⟩ | (refine ⟨fun c => ?_, fun c => ?_⟩ <;> first | rw [if_pos c] at h | rw [if_neg c] at h)
