/-! ===== drift ===== -/
def drN (d : Nat) : Nat := (d * 1103515245 + 12345) % 2 ^ 31
def drP (d : Nat) : Nat := drN d / 65536 % 266
theorem drN_lt (d : Nat) : drN d < 2 ^ 31 := Nat.mod_lt _ (by decide)
theorem drP_lt (d : Nat) : drP d < 266 := Nat.mod_lt _ (by decide)
def stP (p w : Nat) (st : Nat → Int32) : Nat → Int32 := upd (upd st 278 (nI w)) p (1 - st p)
def stT (d : Nat) (st : Nat → Int32) : Nat → Int32 := stP (drP d) (drN d) st
def turnS (u : (Nat → Int32) × (Nat → Int32) × Nat) : (Nat → Int32) × (Nat → Int32) × Nat := (stT (u.1 278).toNatClampNeg u.1, pastN u.2.2 u.1 u.2.1, knownN u.2.2)
def turnN : Nat → (Nat → Int32) × (Nat → Int32) × Nat → (Nat → Int32) × (Nat → Int32) × Nat
  | 0, u => u
  | i + 1, u => turnS (turnN i u)
theorem dr_at (d : Nat) : ((nI d * (1103515245 : Int32)) + (12345 : Int32)) &&& (2147483647 : Int32) = nI (drN d) := by
  rw [show (1103515245 : Int32) = nI 1103515245 from rfl, show (12345 : Int32) = nI 12345 from rfl, show (2147483647 : Int32) = nI (2 ^ 31 - 1) from by decide, pk_mul, nI_add, fa_mask]
  rfl
theorem dr_pos (d : Nat) : nI (drN d) / (65536 : Int32) - nI (drN d) / (65536 : Int32) / (266 : Int32) * (266 : Int32) = nI (drP d) := by
  have h := drN_lt d
  rw [show (65536 : Int32) = nI 65536 from rfl, show (266 : Int32) = nI 266 from rfl, pk_div h (by omega) (by omega)]
  exact pk_rem (Nat.lt_of_le_of_lt (Nat.div_le_self _ _) h) (by omega) (by omega)
theorem dr_l {d : Nat} (hd : d < 2 ^ 31) : ((((nI d).toInt64 * (1103515245 : Int64)) + (12345 : Int64)) - (((nI d).toInt64 * (1103515245 : Int64)) + (12345 : Int64)) / (2147483648 : Int64) * (2147483648 : Int64)).toInt32 = nI (drN d) := by
  rw [nI_l hd, show (1103515245 : Int64) = lN 1103515245 from rfl, show (12345 : Int64) = lN 12345 from rfl, show (2147483648 : Int64) = lN (2 ^ 31) from rfl, lN_mul, lN_add, pk_lRem (by omega) (by omega) (by omega), lN_i]
  rfl
theorem s_driftOnce {d : Nat} {bits : Nat → Int64} {post : (Nat → Int64) → Int32 → Prop} (h : ∀ b', (∀ q, q < 320 → bitAt b' q = (bitAt bits q ^^ decide (q = drP d))) → post b' (nI (drN d))) : wX0_driftOnce bits (nI d) post := by
  unfold wX0_driftOnce
  intro x1 e
  rw [dr_at] at e
  subst e
  rw [dr_pos]
  have hp := drP_lt d
  exact s_turnOver (by omega) h
theorem s_turnsOnce {d k : Nat} {st past : Nat → Int32} {post : (Nat → Int32) → (Nat → Int32) → Int32 → Prop} (hd : d < 2 ^ 31) (e : st 278 = nI d) (hk : k ≤ 6) (h : post (stT d st) (pastN k st past) (nI (knownN k))) : wX11_turnsOnce st past (nI k) post := by
  unfold wX11_turnsOnce
  refine s_notes hk ?_
  intro x3 e3 x4 e4
  subst e3
  rw [e, dr_l hd, pk_us, dr_pos] at e4
  subst e4
  have hp := drP_lt d
  have hv : vp_in (nI (drP d)) 279 := vp_in_nI (by omega) (by omega)
  refine ⟨hv, hv, ?_⟩
  rw [e, dr_l hd, nI_clamp (by omega), pk_un (j := drP d) (k := 278) (by omega)]
  unfold stT stP at h
  exact h
theorem flip01 {x : Int32} (h : x = 0 ∨ x = 1) : (1 - x = 0 ∨ 1 - x = 1) ∧ decide (1 - x = 1) = !decide (x = 1) := by
  rcases h with h | h <;> subst h <;> decide
theorem ok_stP {st : Nat → Int32} {p w : Nat} (hp : p < 266) (hw : w < 2 ^ 31) (ok : okS st) : okS (stP p w st) := by
  obtain ⟨h01, hu, hn, hc, ⟨n, hn8, e269, hst⟩, hd⟩ := ok
  have un : ∀ j, j ≠ p → j ≠ 278 → stP p w st j = st j := fun j h1 h2 => by unfold stP; rw [pk_un h1, pk_un h2]
  refine ⟨fun q hq => ?_, ?_, ?_, ?_, ⟨n, hn8, ?_, fun i hi => ?_⟩, ⟨w, hw, ?_⟩⟩
  · by_cases e : q = p
    · subst e; unfold stP; rw [pk_us]; exact (flip01 (h01 _ hq)).1
    · rw [un q e (by omega)]; exact h01 q hq
  · rw [un 266 (by omega) (by omega)]; exact hu
  · rw [un 267 (by omega) (by omega)]; exact hn
  · rw [un 268 (by omega) (by omega)]; exact hc
  · rw [un 269 (by omega) (by omega)]; exact e269
  · rw [un (270 + i) (by omega) (by omega)]; exact hst i hi
  · unfold stP; rw [pk_un (by omega), pk_us]
theorem ok_stT {st : Nat → Int32} (d : Nat) (ok : okS st) : okS (stT d st) := ok_stP (drP_lt d) (drN_lt d) ok
theorem ok_turnS {u : (Nat → Int32) × (Nat → Int32) × Nat} (h : okS u.1 ∧ u.2.2 ≤ 6) : okS (turnS u).1 ∧ (turnS u).2.2 ≤ 6 := by
  refine ⟨ok_stT _ h.1, ?_⟩
  have := h.2
  show knownN u.2.2 ≤ 6
  unfold knownN
  split <;> omega
theorem ok_turnN {u : (Nat → Int32) × (Nat → Int32) × Nat} (h : okS u.1 ∧ u.2.2 ≤ 6) : ∀ i, okS (turnN i u).1 ∧ (turnN i u).2.2 ≤ 6
  | 0 => h
  | i + 1 => ok_turnS (ok_turnN h i)
theorem relG_stP {bits b' : Nat → Int64} {stops : Nat → Int32} {num unit strips caps draw : Int32} {st : Nat → Int32} {p w : Nat} (hp : p < 266) (hw : w < 2 ^ 31) (hb' : ∀ q, q < 320 → bitAt b' q = (bitAt bits q ^^ decide (q = p))) (h : relG (bits, stops, num, unit, strips, caps, draw) st) : relG (b', stops, num, unit, strips, caps, nI w) (stP p w st) := by
  obtain ⟨ok, hb, hs, e1, e2, e3, e4, e5⟩ := h
  have un : ∀ j, j ≠ p → j ≠ 278 → stP p w st j = st j := fun j h1 h2 => by unfold stP; rw [pk_un h1, pk_un h2]
  refine ⟨ok_stP hp hw ok, fun q hq => ?_, fun i hi => ?_, ?_, ?_, ?_, ?_, ?_⟩
  · have hb : bitAt bits q = decide (q < 266 ∧ st q = 1) := hb q hq
    show bitAt b' q = _
    rw [hb' q hq, hb]
    by_cases e : q = p
    · have g := (flip01 (ok.1 _ hp)).2
      have e0 : stP p w st q = 1 - st p := by rw [e]; unfold stP; rw [pk_us]
      rw [e0, e]
      have k1 : decide (p < 266 ∧ st p = 1) = decide (st p = 1) := decide_eq_decide.2 ⟨fun z => z.2, fun z => ⟨hp, z⟩⟩
      have k2 : decide (p < 266 ∧ 1 - st p = 1) = decide (1 - st p = 1) := decide_eq_decide.2 ⟨fun z => z.2, fun z => ⟨hp, z⟩⟩
      have k3 : decide (p = p) = true := decide_eq_true rfl
      rw [k1, k2, g, k3, Bool.xor_true]
    · have k3 : decide (q = p) = false := decide_eq_false e
      rw [k3, Bool.xor_false]
      by_cases f : q < 266
      · rw [un q e (by omega)]
      · exact decide_eq_decide.2 ⟨fun z => absurd z.1 f, fun z => absurd z.1 f⟩
  · rw [un (270 + i) (by omega) (by omega)]; exact hs i hi
  · rw [un 269 (by omega) (by omega)]; exact e1
  · rw [un 266 (by omega) (by omega)]; exact e2
  · rw [un 267 (by omega) (by omega)]; exact e3
  · rw [un 268 (by omega) (by omega)]; exact e4
  · unfold stP; rw [pk_un (by omega), pk_us]
theorem relG_stT {bits b' : Nat → Int64} {stops : Nat → Int32} {num unit strips caps draw : Int32} {st : Nat → Int32} (d : Nat) (hb' : ∀ q, q < 320 → bitAt b' q = (bitAt bits q ^^ decide (q = drP d))) (h : relG (bits, stops, num, unit, strips, caps, draw) st) : relG (b', stops, num, unit, strips, caps, nI (drN d)) (stT d st) := relG_stP (drP_lt d) (drN_lt d) hb' h
theorem s_drift11 {n k : Nat} (hn : 1 ≤ n) (hn2 : n ≤ 40) {st past : Nat → Int32} {post : Int32 → (Nat → Int32) → (Nat → Int32) → Int32 → Prop} (ok : okS st) (hk : k ≤ 6) (h : post (nI (landN (turnN n (st, past, k)).1)) (turnN n (st, past, k)).1 (turnN n (st, past, k)).2.1 (nI (turnN n (st, past, k)).2.2)) (h0 : ¬ fIn (nI n) 1 40 = 0) : wX11_drift (nI n) st past (nI k) post := by
  unfold wX11_drift
  refine q11_in (br_f h0 ?_)
  refine ⟨fun l s p a => ∃ i, i ≤ n ∧ l = nI i ∧ s = (turnN i (st, past, k)).1 ∧ p = (turnN i (st, past, k)).2.1 ∧ a = nI (turnN i (st, past, k)).2.2, fun l _ _ _ => n - l.toNatClampNeg, ⟨0, by omega, rfl, rfl, rfl, rfl⟩, ?_⟩
  rintro l s p a ⟨i, hi, rfl, rfl, rfl, rfl⟩
  obtain ⟨oki, hki⟩ := ok_turnN (u := (st, past, k)) ⟨ok, hk⟩ i
  refine br_c (fun q => ?_) (fun q => ?_)
  · have e : i = n := by have := (nI_leI (by omega) (by omega)).1 q; omega
    subst e
    exact s_landMany oki.1 h
  · have hin : i < n := Nat.lt_of_not_le (fun f => q ((nI_leI (by omega) (by omega)).2 f))
    obtain ⟨d, hd, ed⟩ := oki.2.2.2.2.2
    refine s_turnsOnce hd ed hki ?_
    intro x8 e8
    subst e8
    rw [nI_1]
    refine ⟨⟨i + 1, by omega, rfl, ?_, rfl, rfl⟩, ?_⟩
    · show _ = stT ((turnN i (st, past, k)).1 278).toNatClampNeg _
      rw [ed, nI_clamp hd]
    · show n - (nI (i + 1)).toNatClampNeg < n - (nI i).toNatClampNeg
      rw [nI_clamp (by omega), nI_clamp (by omega)]
      omega
