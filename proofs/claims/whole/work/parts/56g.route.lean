/-! ===== the route: out, reversed ===== -/
def stR (f : Nat → Int32) (st : Nat → Int32) : Nat → Int32 := fun j => if 270 ≤ j ∧ j < 278 then f (j - 270) else st j
theorem stR_in {f st : Nat → Int32} {j : Nat} (h : j < 8) : stR f st (270 + j) = f j := by
  unfold stR
  rw [if_pos (by omega)]
  exact congrArg f (by omega)
theorem stR_out {f st : Nat → Int32} {j : Nat} (h : j < 270 ∨ 278 ≤ j) : stR f st j = st j := if_neg (by omega)
theorem stR_self (st : Nat → Int32) : stR (fun i => st (270 + i)) st = st := by
  funext j
  unfold stR
  by_cases h : 270 ≤ j ∧ j < 278
  · rw [if_pos h]; exact congrArg st (by omega)
  · rw [if_neg h]
theorem stR_upd {f st : Nat → Int32} {m : Nat} (h : m < 8) (v : Int32) : upd (stR f st) (270 + m) v = stR (upd f m v) st := by
  funext j
  unfold upd stR
  by_cases e : j = 270 + m
  · subst e
    rw [if_pos rfl, if_pos (by omega)]
    exact (if_pos (by omega)).symm
  · rw [if_neg e]
    by_cases h2 : 270 ≤ j ∧ j < 278
    · rw [if_pos h2, if_pos h2]
      exact (if_neg (by omega)).symm
    · rw [if_neg h2, if_neg h2]
def cmpF (a : Int32) (s : Nat → Int32) : Nat → (Nat → Int32) × Nat
  | 0 => (s, 0)
  | i + 1 => if (cmpF a s i).1 i = a then cmpF a s i else (upd (cmpF a s i).1 (cmpF a s i).2 ((cmpF a s i).1 i), (cmpF a s i).2 + 1)
def cntF (a : Int32) (s : Nat → Int32) : Nat → Nat
  | 0 => 0
  | i + 1 => if s i = a then cntF a s i + 1 else cntF a s i
theorem cmpF_yes {a : Int32} {s : Nat → Int32} {i : Nat} (h : (cmpF a s i).1 i = a) : cmpF a s (i + 1) = cmpF a s i := by
  rw [cmpF, if_pos h]
theorem cmpF_no {a : Int32} {s : Nat → Int32} {i : Nat} (h : ¬ (cmpF a s i).1 i = a) : cmpF a s (i + 1) = (upd (cmpF a s i).1 (cmpF a s i).2 ((cmpF a s i).1 i), (cmpF a s i).2 + 1) := by
  rw [cmpF, if_neg h]
theorem cmpF_inv (a : Int32) (s : Nat → Int32) : ∀ i, (cmpF a s i).2 ≤ i ∧ (∀ j, i ≤ j → (cmpF a s i).1 j = s j) ∧ (cmpF a s i).2 + cntF a s i = i := by
  intro i
  induction i with
  | zero => exact ⟨Nat.le_refl _, fun _ _ => rfl, rfl⟩
  | succ i ih =>
    obtain ⟨h1, h2, h3⟩ := ih
    have e := h2 i (Nat.le_refl _)
    by_cases c : (cmpF a s i).1 i = a
    · rw [cmpF_yes c]
      refine ⟨by omega, fun j hj => h2 j (by omega), ?_⟩
      rw [cntF, if_pos (e ▸ c)]
      omega
    · rw [cmpF_no c]
      refine ⟨Nat.succ_le_succ h1, fun j hj => ?_, ?_⟩
      · show upd _ _ _ j = _
        rw [pk_un (by omega)]
        exact h2 j (by omega)
      · rw [cntF, if_neg (e ▸ c)]
        show _ + 1 + _ = _
        omega
theorem cmpF_place {a : Int32} {s : Nat → Int32} {n : Nat} (h : ∀ j, j < n → ∃ p, p < 266 ∧ s j = nI p) : ∀ i, i ≤ n → ∀ j, j < n → ∃ p, p < 266 ∧ (cmpF a s i).1 j = nI p := by
  intro i
  induction i with
  | zero => exact fun _ j hj => h j hj
  | succ i ih =>
    intro hi j hj
    by_cases c : (cmpF a s i).1 i = a
    · rw [cmpF_yes c]; exact ih (by omega) j hj
    · rw [cmpF_no c]
      show ∃ p, p < 266 ∧ upd _ _ _ j = nI p
      by_cases e : j = (cmpF a s i).2
      · subst e; rw [pk_us]; exact ih (by omega) i (by omega)
      · rw [pk_un e]; exact ih (by omega) j hj
theorem cmpF_cong {a : Int32} {s s' : Nat → Int32} (h : ∀ j, j < 8 → s j = s' j) : ∀ i, i ≤ 8 → (cmpF a s i).2 = (cmpF a s' i).2 ∧ ∀ j, j < 8 → (cmpF a s i).1 j = (cmpF a s' i).1 j := by
  intro i
  induction i with
  | zero => exact fun _ => ⟨rfl, h⟩
  | succ i ih =>
    intro hi
    obtain ⟨h1, h2⟩ := ih (by omega)
    have e := h2 i (by omega)
    by_cases c : (cmpF a s i).1 i = a
    · rw [cmpF_yes c, cmpF_yes (e ▸ c)]; exact ⟨h1, h2⟩
    · rw [cmpF_no c, cmpF_no (e ▸ c)]
      refine ⟨congrArg (· + 1) h1, fun j hj => ?_⟩
      show upd _ _ _ j = upd _ _ _ j
      rw [h1, e]
      by_cases q : j = (cmpF a s' i).2
      · subst q; rw [pk_us, pk_us]
      · rw [pk_un q, pk_un q]; exact h2 j hj
theorem cntF_cong {a : Int32} {s s' : Nat → Int32} (h : ∀ j, j < 8 → s j = s' j) : ∀ i, i ≤ 8 → cntF a s i = cntF a s' i := by
  intro i
  induction i with
  | zero => exact fun _ => rfl
  | succ i ih =>
    intro hi
    rw [cntF, cntF, ih (by omega), h i (by omega)]
theorem cntF_zero {a : Int32} {s : Nat → Int32} : ∀ i, cntF a s i = 0 ↔ ∀ j, j < i → ¬ s j = a := by
  intro i
  induction i with
  | zero => exact ⟨fun _ j hj => absurd hj (Nat.not_lt_zero j), fun _ => rfl⟩
  | succ i ih =>
    rw [cntF]
    by_cases c : s i = a
    · rw [if_pos c]
      exact ⟨fun h => absurd h (Nat.succ_ne_zero _), fun h => absurd c (h i (by omega))⟩
    · rw [if_neg c, ih]
      refine ⟨fun h j hj => ?_, fun h j hj => h j (by omega)⟩
      by_cases e : j = i
      · subst e; exact c
      · exact h j (by omega)
theorem cntF_le (a : Int32) (s : Nat → Int32) : ∀ i, cntF a s i ≤ i := by
  intro i
  induction i with
  | zero => exact Nat.le_refl _
  | succ i ih =>
    rw [cntF]
    split <;> omega
theorem s_stopsAt {a : Int32} {s : Nat → Int32} {n : Nat} (hn : n ≤ 8) {post : Int32 → Prop} (h : post (if cntF a s n = 0 then 0 else 1)) : wX0_stopsAt a s (nI n) post := by
  unfold wX0_stopsAt
  refine ⟨fun l => ∃ i, i ≤ n ∧ l = nI i ∧ cntF a s i = 0, fun l => n - l.toNatClampNeg, ⟨0, by omega, rfl, rfl⟩, ?_⟩
  rintro l ⟨i, hi, rfl, h0⟩
  refine pk_le n i (fun c => ?_) (fun c => ?_)
  · have e : i = n := by omega
    subst e
    rw [if_pos h0] at h
    exact h
  · rw [nI_clamp (by omega)]
    refine ⟨vp_in_nI (by omega) (by omega), br_c (fun q => ?_) (fun q => ?_)⟩
    · rw [if_neg (fun z => (cntF_zero n).1 z i c q)] at h
      exact h
    · intro x hx
      subst hx
      rw [nI_1]
      refine ⟨⟨i + 1, by omega, rfl, ?_⟩, ?_⟩
      · rw [cntF, if_neg q]; exact h0
      · show n - (nI (i + 1)).toNatClampNeg < n - (nI i).toNatClampNeg
        rw [nI_clamp (by omega), nI_clamp (by omega)]
        omega
theorem s_withoutStop {a : Int32} {s : Nat → Int32} {n : Nat} (hn : n ≤ 8) {post : Int32 → (Nat → Int32) → Int32 → Prop} (h : post (nI (cntF a s n)) (cmpF a s n).1 (nI (cmpF a s n).2)) : wX0_withoutStop a s (nI n) post := by
  unfold wX0_withoutStop
  refine ⟨fun l k f => ∃ i, i ≤ n ∧ k = nI i ∧ l = nI (cmpF a s i).2 ∧ f = (cmpF a s i).1, fun _ k _ => n - k.toNatClampNeg, ⟨0, by omega, rfl, rfl, rfl⟩, ?_⟩
  rintro l k f ⟨i, hi, rfl, rfl, rfl⟩
  have hinv := cmpF_inv a s i
  have hlt : ∀ {x : Int32}, x = nI i + 1 → i < n → n - x.toNatClampNeg < n - (nI i).toNatClampNeg := by
    intro x hx hin
    subst hx
    rw [nI_1, nI_clamp (by omega), nI_clamp (by omega)]
    omega
  refine pk_le n i (fun c => ?_) (fun c => ?_)
  · have e : i = n := by omega
    subst e
    intro x hx
    rw [pk_sub hinv.1] at hx
    subst hx
    rw [show i - (cmpF a s i).2 = cntF a s i by omega]
    exact h
  · rw [nI_clamp (n := i) (by omega)]
    refine ⟨vp_in_nI (by omega) (by omega), br_c (fun q => ?_) (fun q => ?_)⟩
    · intro x hx
      refine ⟨⟨i + 1, by omega, hx.trans (nI_1 i), ?_, ?_⟩, hlt hx c⟩
      · rw [cmpF_yes q]
      · rw [cmpF_yes q]
    · refine ⟨vp_in_nI (by omega) (by omega), vp_in_nI (by omega) (by omega), fun x hx y hy => ?_⟩
      refine ⟨⟨i + 1, by omega, hy.trans (nI_1 i), ?_, ?_⟩, hlt hy c⟩
      · rw [cmpF_no q]; exact hx.trans (nI_1 _)
      · rw [cmpF_no q, nI_clamp (by omega)]
/-- the same globe but for its route -/
theorem relG_route {bits : Nat → Int64} {stops : Nat → Int32} {num unit strips caps draw : Int32} {st f f' : Nat → Int32} {m : Nat} (hm : m ≤ 8) (hf : ∀ j, j < 8 → f j = f' j) (hp : ∀ j, j < m → ∃ p, p < 266 ∧ f' j = nI p) (h : relG (bits, stops, num, unit, strips, caps, draw) st) : relG (bits, f, nI m, unit, strips, caps, draw) (upd (stR f' st) 269 (nI m)) := by
  obtain ⟨⟨h01, hu, hn, hc, -, hd⟩, hb, -, -, e2, e3, e4, e5⟩ := h
  have un : ∀ j, (j < 269 ∨ j = 278) → upd (stR f' st) 269 (nI m) j = st j := fun j hj => by
    rw [pk_un (by omega), stR_out (by omega)]
  have ui : ∀ j, j < 8 → upd (stR f' st) 269 (nI m) (270 + j) = f' j := fun j hj => by
    rw [pk_un (by omega), stR_in hj]
  refine ⟨⟨fun p hp => ?_, ?_, ?_, ?_, ⟨m, hm, pk_us, fun i hi => ?_⟩, ?_⟩, fun p hp => ?_, fun i hi => ?_, pk_us.symm, ?_, ?_, ?_, ?_⟩
  · rw [un p (by omega)]; exact h01 p hp
  · rw [un 266 (by omega)]; exact hu
  · rw [un 267 (by omega)]; exact hn
  · rw [un 268 (by omega)]; exact hc
  · rw [ui i (by omega)]; exact hp i hi
  · rw [un 278 (by omega)]; exact hd
  · rw [show bitAt bits p = _ from hb p hp]
    by_cases q : p < 266
    · rw [un p (by omega)]
    · simp [q]
  · rw [ui i hi]; exact hf i hi
  · rw [un 266 (by omega)]; exact e2
  · rw [un 267 (by omega)]; exact e3
  · rw [un 268 (by omega)]; exact e4
  · rw [un 278 (by omega)]; exact e5
def rvF (n : Nat) (s : Nat → Int32) : Nat → (Nat → Int32)
  | 0 => s
  | i + 1 => upd (upd (rvF n s i) i (rvF n s i (n - 1 - i))) (n - 1 - i) (rvF n s i i)
theorem rvF_cong {n : Nat} {s s' : Nat → Int32} (hn : n ≤ 8) (h : ∀ j, j < 8 → s j = s' j) : ∀ i, i ≤ n / 2 → ∀ j, j < 8 → rvF n s i j = rvF n s' i j := by
  intro i
  induction i with
  | zero => exact fun _ => h
  | succ i ih =>
    intro hi j hj
    rw [rvF, rvF, ih (by omega) i (by omega), ih (by omega) (n - 1 - i) (by omega)]
    by_cases q : j = n - 1 - i
    · subst q; rw [pk_us, pk_us]
    · rw [pk_un q, pk_un q]
      by_cases r : j = i
      · subst r; rw [pk_us, pk_us]
      · rw [pk_un r, pk_un r]; exact ih (by omega) j hj
theorem rvF_place {n : Nat} {s : Nat → Int32} (h : ∀ j, j < n → ∃ p, p < 266 ∧ s j = nI p) : ∀ i, i ≤ n / 2 → ∀ j, j < n → ∃ p, p < 266 ∧ rvF n s i j = nI p := by
  intro i
  induction i with
  | zero => exact fun _ => h
  | succ i ih =>
    intro hi j hj
    rw [rvF]
    by_cases q : j = n - 1 - i
    · subst q; rw [pk_us]; exact ih (by omega) i (by omega)
    · rw [pk_un q]
      by_cases r : j = i
      · subst r; rw [pk_us]; exact ih (by omega) _ (by omega)
      · rw [pk_un r]; exact ih (by omega) j hj
theorem s_turnRoute {s : Nat → Int32} {n : Nat} (hn : n ≤ 8) {post : (Nat → Int32) → Prop} (h : post (rvF n s (n / 2))) : wX0_turnRoute s (nI n) post := by
  unfold wX0_turnRoute
  have e2 : nI n / 2 = nI (n / 2) := pk_div (d := 2) (by omega) (by omega) (by omega)
  rw [e2]
  refine ⟨fun l f => ∃ i, i ≤ n / 2 ∧ l = nI i ∧ f = rvF n s i, fun l _ => n - l.toNatClampNeg, ⟨0, by omega, rfl, rfl⟩, ?_⟩
  rintro l f ⟨i, hi, rfl, rfl⟩
  refine pk_le (n / 2) i (fun c => ?_) (fun c => ?_)
  · have e : i = n / 2 := by omega
    subst e
    exact h
  · intro x hx
    rw [show (1 : Int32) = nI 1 from rfl, pk_sub (by omega), pk_sub (by omega)] at hx
    subst hx
    rw [nI_clamp (n := i) (by omega), nI_clamp (n := n - 1 - i) (by omega)]
    have v1 : vp_in (nI i) 8 := vp_in_nI (by omega) (by omega)
    have v2 : vp_in (nI (n - 1 - i)) 8 := vp_in_nI (by omega) (by omega)
    refine ⟨v1, fun y hy => ⟨v2, v1, v2, fun z hz => ?_⟩⟩
    subst hy
    refine ⟨⟨i + 1, by omega, hz.trans (nI_1 i), rfl⟩, ?_⟩
    rw [hz, nI_1]
    show n - (nI (i + 1)).toNatClampNeg < n - (nI i).toNatClampNeg
    rw [nI_clamp (by omega), nI_clamp (by omega)]
    omega
