/-! ===== pairs ===== -/
def anyB (P : Nat → Bool) : Nat → Bool
  | 0 => false
  | c + 1 => anyB P c || P c
theorem anyB_is {P : Nat → Bool} : ∀ n, anyB P n = true ↔ ∃ i, i < n ∧ P i = true := by
  intro n
  induction n with
  | zero => exact ⟨fun h => absurd (show false = true from h) (by decide), fun ⟨i, hi, _⟩ => absurd hi (Nat.not_lt_zero i)⟩
  | succ n ih =>
    rw [anyB, Bool.or_eq_true, ih]
    constructor
    · rintro (⟨i, hi, h⟩ | h)
      · exact ⟨i, by omega, h⟩
      · exact ⟨n, by omega, h⟩
    · rintro ⟨i, hi, h⟩
      by_cases e : i = n
      · subst e; exact Or.inr h
      · exact Or.inl ⟨i, by omega, h⟩
theorem anyB_no {P : Nat → Bool} {n : Nat} : anyB P n = false ↔ ∀ i, i < n → P i = false := by
  constructor
  · intro h i hi
    refine ts_nt (fun z => ?_)
    rw [(anyB_is n).2 ⟨i, hi, z⟩] at h
    exact absurd h (by decide)
  · intro h
    refine ts_nt (fun z => ?_)
    obtain ⟨i, hi, w⟩ := (anyB_is n).1 z
    rw [h i hi] at w
    exact absurd w (by decide)
def adjB (p q : Nat) : Bool := anyB (fun i => decide (nb p i = q)) (nbn p)
def adjM (p q : Nat) : Bool := anyB (fun i => decide (nbM p i = q)) (nbn p)
theorem t_nbM : ∀ p, p < 266 → ∀ i, i < nbn p → ∃ j, j < nbn p ∧ nbM p j = nb p i := by decide +kernel
theorem t_nbM' : ∀ p, p < 266 → ∀ i, i < nbn p → ∃ j, j < nbn p ∧ nb p j = nbM p i := by decide +kernel
theorem adj_iff {p q : Nat} : adjB p q = true ↔ ∃ i, i < nbn p ∧ nb p i = q := by
  unfold adjB
  rw [anyB_is]
  exact ⟨fun ⟨i, hi, h⟩ => ⟨i, hi, of_decide_eq_true h⟩, fun ⟨i, hi, h⟩ => ⟨i, hi, decide_eq_true h⟩⟩
theorem adjM_eq {p : Nat} (hp : p < 266) (q : Nat) : adjM p q = adjB p q := by
  rw [Bool.eq_iff_iff, adj_iff]
  unfold adjM
  rw [anyB_is]
  constructor
  · rintro ⟨i, hi, h⟩
    obtain ⟨j, hj, e⟩ := t_nbM' p hp i hi
    exact ⟨j, hj, e.trans (of_decide_eq_true h)⟩
  · rintro ⟨i, hi, h⟩
    obtain ⟨j, hj, e⟩ := t_nbM p hp i hi
    exact ⟨j, hj, decide_eq_true (e.trans h)⟩
theorem nbn_le (p : Nat) : nbn p ≤ 24 := by
  unfold nbn
  split <;> omega
theorem s1_adj {p q : Nat} (hp : p < 266) (hq : q < 266) {post : Int32 → Prop} (h : post (if adjB p q then 1 else 0)) : wX1_areNeighbours (nI p) (nI q) post := by
  unfold wX1_areNeighbours
  have hnb := nbn_le p
  refine ⟨fun l => ∃ i, i ≤ nbn p ∧ l = nI i ∧ anyB (fun i => decide (nb p i = q)) i = false, fun l => 24 - l.toNatClampNeg, ⟨0, by omega, rfl, rfl⟩, ?_⟩
  rintro l ⟨i, hi, rfl, hb⟩
  refine s1_nbn hp (pk_le (nbn p) i (fun c => ?_) (fun c => ?_))
  · have e : i = nbn p := by omega
    have : adjB p q = false := by unfold adjB; rw [← e]; exact hb
    rw [this] at h
    exact h
  · refine s1_nb hp c ?_
    have hlt := t_nb_lt p hp i c
    refine pk_eq (nb p i) q (fun d => ?_) (fun d => ?_)
    · rw [adj_iff.2 ⟨i, c, d⟩] at h
      exact h
    · intro x hx
      subst hx
      rw [nI_1]
      refine ⟨⟨i + 1, by omega, rfl, ?_⟩, ?_⟩
      · rw [anyB, hb, Bool.false_or]
        exact decide_eq_false d
      · show 24 - (nI (i + 1)).toNatClampNeg < 24 - (nI i).toNatClampNeg
        rw [nI_clamp (by omega), nI_clamp (by omega)]
        omega
theorem s11_adj {p q : Nat} (hp : p < 266) (hq : q < 266) {post : Int32 → Prop} (h : post (if adjB p q then 1 else 0)) : wX11_areNext (nI p) (nI q) post := by
  unfold wX11_areNext
  have hnb := nbn_le p
  refine ⟨fun r l => ∃ i, i ≤ nbn p ∧ l = nI i ∧ r = if anyB (fun i => decide (nbM p i = q)) i then 1 else 0, fun _ l => 24 - l.toNatClampNeg, ⟨0, by omega, rfl, rfl⟩, ?_⟩
  rintro r l ⟨i, hi, rfl, rfl⟩
  have hlt2 : ∀ {x : Int32}, x = nI i + 1 → i < nbn p → 24 - x.toNatClampNeg < 24 - (nI i).toNatClampNeg := by
    intro x hx hin
    subst hx
    rw [nI_1, nI_clamp (by omega), nI_clamp (by omega)]
    omega
  refine s11_nbn hp (pk_le (nbn p) i (fun c => ?_) (fun c => ?_))
  · have e : i = nbn p := by omega
    have : anyB (fun i => decide (nbM p i = q)) i = adjB p q := by rw [e]; exact adjM_eq hp q
    rw [this]
    refine ⟨?_, h⟩
    split
    · exact Or.inr rfl
    · exact Or.inl rfl
  · by_cases hb : anyB (fun i => decide (nbM p i = q)) i = true
    · rw [if_pos hb]
      refine br_f (by decide) ?_
      intro x hx
      refine ⟨⟨i + 1, by omega, hx.trans (nI_1 i), ?_⟩, hlt2 hx c⟩
      rw [anyB, hb]
      rfl
    · rw [if_neg hb]
      refine br_t rfl (s11_nb hp c ?_)
      have hlt := t_nbM_lt p hp i c
      refine pk_eq (nbM p i) q (fun d => ?_) (fun d => ?_)
      · intro x hx
        refine ⟨⟨i + 1, by omega, hx.trans (nI_1 i), ?_⟩, hlt2 hx c⟩
        rw [anyB, decide_eq_true d, Bool.or_true]
        rfl
      · intro x hx
        refine ⟨⟨i + 1, by omega, hx.trans (nI_1 i), ?_⟩, hlt2 hx c⟩
        rw [anyB, decide_eq_false d, ts_nt hb]
        rfl
def farV (unit : Int32) (p q : Nat) : Int32 := if rowI p = rowI q then ((2 * unit) * cosR (rowI p)) / 10000 else 2 * unit
theorem s0_far {p q : Nat} (hp : p < 266) {unit : Int32} {post : Int32 → Prop} (h : post (farV unit p q)) : wX0_far (rowI p) (rowI q) unit post := by
  unfold wX0_far
  unfold farV at h
  refine br_c (fun c => ?_) (fun c => ?_)
  · rw [if_pos c] at h; exact q1_rowCosine (rowI_ok hp) h
  · rw [if_neg c] at h; exact h
theorem s11_far {p q : Nat} (hp : p < 266) (hq : q < 266) {st : Nat → Int32} {post : Int32 → Prop} (h : post (farV (st 266) p q)) : wX11_farOf (nI p) (nI q) st post := by
  unfold wX11_farOf
  unfold farV at h
  refine s11_row hp (s11_row hq (br_c (fun c => ?_) (fun c => ?_)))
  · rw [if_pos c] at h; exact q11_wideOf (rowI_ok hp) h
  · rw [if_neg c] at h; exact h
def westN (p q : Nat) : Nat := if (stepN p + 1) % 24 = stepN q then stepN p else stepN q
def sideN (p q : Nat) : Nat := if p = 0 ∨ p = 265 then stepN q else stepN p
theorem westN_lt (p q : Nat) : westN p q < 24 := by
  unfold westN
  have := stepN_lt p
  have := stepN_lt q
  split <;> omega
theorem sideN_lt (p q : Nat) : sideN p q < 24 := by
  unfold sideN
  have := stepN_lt p
  have := stepN_lt q
  split <;> omega
def strV (u w p q : Nat) : Int32 := if rowI p = rowI q then fX (nI u) (nI w) (nI (westN p q / w)) (nI (westN p q % w + 1)) (rowI p) - fX (nI u) (nI w) (nI (westN p q / w)) (nI (westN p q % w)) (rowI p) else nI (rootN (vST u w (sideN p q / w) (sideN p q % w) (rowI p) (rowI q)))
theorem m1_24 {m : Nat} (hm : m < 24) : (nI m + (1 : Int32)) - (nI m + (1 : Int32)) / (24 : Int32) * (24 : Int32) = nI ((m + 1) % 24) := by
  rw [nI_1]
  exact mod_nI (d := 24) (by omega) (by omega) (by omega)
theorem abs_pos {x : Int32} (h : 0 ≤ x.toInt) : (if 0 ≤ x then x else 0 - x) = x := if_pos ((fa_le 0 x).2 h)
theorem s3_straight {u n p q : Nat} (hu : u ≤ 200) (hn : stripN n) (hp : p < 266) (hq : q < 266) {post : Int32 → Prop} (h : post (strV u (24 / n) p q)) : wX3_straight (nI p) (nI q) (nI u) (nI n) post := by
  have hw := stripN_w hn
  unfold wX3_straight
  unfold strV at h
  refine q0_width hn (s1_row hp (s1_row hq (br_c (fun c => ?_) (fun c => ?_))))
  · rw [if_pos c] at h
    refine s1_step hp (s1_step hq ?_)
    have hwest : ∀ {post : Int32 → Prop}, post (nI (westN p q)) → wX3_western (nI (stepN p)) (nI (stepN q)) post := by
      intro post hp
      unfold wX3_western
      unfold westN at hp
      rw [m1_24 (stepN_lt p)]
      refine pk_eq ((stepN p + 1) % 24) (stepN q) (fun d => ?_) (fun d => ?_) rfl rfl (by omega) (by have := stepN_lt q; omega)
      · rw [if_pos d] at hp; exact hp
      · rw [if_neg d] at hp; exact hp
    refine hwest ⟨wI_ne hn, fun x hx y hy => ?_⟩
    have hwl := westN_lt p q
    rw [st_div hwl (by omega) (by omega)] at hx
    subst hx
    rw [← st_div hwl (by omega) (by omega), mod_j, st_mod hwl (by omega) (by omega)] at hy
    subst hy
    rw [nI_1]
    refine q3_x (rowI_ok hp) (q3_x (rowI_ok hp) ?_)
    have hm := Nat.mod_lt (westN p q) hw.1
    rw [abs_pos (fX_row _ hu hw.2.1 (by omega) (rowI_ok hp)).1]
    exact h
  · rw [if_neg c] at h
    refine s1_pole hp ?_
    have hsl := sideN_lt p q
    have hm := Nat.mod_lt (sideN p q) hw.1
    have key : ∀ t : Nat, t < 266 → stepN t = sideN p q → wX1_stepOf (nI t) (fun (r6 : Int32) => ¬ nI (24 / n) = 0 ∧ ∀ x8 : Int32, x8 = r6 / nI (24 / n) → ∀ x9 : Int32, x9 = r6 - (nI (24 / n) * x8) → wX3_xOnStrip (nI u) (nI (24 / n)) x8 x9 (rowI p) (fun (r10 : Int32) => wX3_xOnStrip (nI u) (nI (24 / n)) x8 x9 (rowI q) (fun (r11 : Int32) => ∀ x12 : Int32, x12 = r10 - r11 → wX3_root ((x12 * x12) + (((4 : Int32) * nI u) * nI u)) (fun (r13 : Int32) => post r13)))) := by
      intro t ht et
      refine s1_step ht ?_
      rw [et]
      refine ⟨wI_ne hn, fun x hx y hy => ?_⟩
      rw [st_div hsl (by omega) (by omega)] at hx
      subst hx
      rw [← st_div hsl (by omega) (by omega), mod_j, st_mod hsl (by omega) (by omega)] at hy
      subst hy
      refine q3_x (rowI_ok hp) (q3_x (rowI_ok hq) ?_)
      intro z hz
      subst hz
      obtain ⟨e, hlt⟩ := vST_is (sideN p q / (24 / n)) hu hw.2.1 (Nat.le_of_lt hm) (rowI_ok hp) (rowI_ok hq)
      rw [e]
      exact s3_root hlt h
    refine ⟨fun t => ∃ k, k < 266 ∧ stepN k = sideN p q ∧ t = nI k, ?_, ?_⟩
    · rintro t ⟨k, hk, ek, rfl⟩
      exact key k hk ek
    · by_cases d : p = 0 ∨ p = 265
      · rw [if_pos d]
        exact br_f (by decide) ⟨q, hq, by unfold sideN; rw [if_pos d], rfl⟩
      · rw [if_neg d]
        exact br_t rfl ⟨p, hp, by unfold sideN; rw [if_neg d], rfl⟩
theorem s11_straight {u n p q : Nat} (hu : u ≤ 200) (hn : stripN n) (hp : p < 266) (hq : q < 266) {st : Nat → Int32} (eu : st 266 = nI u) (en : st 267 = nI n) {post : Int32 → Prop} (h : post (strV u (24 / n) p q)) : wX11_straightOf (nI p) (nI q) st post := by
  have hw := stripN_w hn
  unfold wX11_straightOf
  unfold strV at h
  refine s11_row hp (s11_row hq (br_c (fun c => ?_) (fun c => ?_)))
  · rw [if_pos c] at h
    refine s11_step hp (s11_step hq ?_)
    refine ⟨fun t => t = nI (westN p q), ?_, ?_⟩
    · rintro t rfl
      have hwl := westN_lt p q
      refine q11_wide hn en ⟨wI_ne hn, fun x hx => q11_wide hn en ⟨wI_ne hn, fun y hy => ?_⟩⟩
      rw [st_div hwl (by omega) (by omega)] at hx
      subst hx
      rw [st_mod hwl (by omega) (by omega)] at hy
      subst hy
      rw [nI_1]
      refine q11_x hn (rowI_ok hp) en (q11_x hn (rowI_ok hp) en ?_)
      rw [eu]
      exact h
    · rw [m1_24 (stepN_lt p)]
      have := stepN_lt q
      refine pk_eq ((stepN p + 1) % 24) (stepN q) (fun d => ?_) (fun d => ?_) rfl rfl (by omega) (by omega)
      · refine s11_step hp ?_
        unfold westN
        rw [if_pos d]
      · refine s11_step hq ?_
        unfold westN
        rw [if_neg d]
  · rw [if_neg c] at h
    have hsl := sideN_lt p q
    have hm := Nat.mod_lt (sideN p q) hw.1
    refine s11_pole hp ⟨fun t => t = nI (sideN p q), ?_, ?_⟩
    · rintro t rfl
      refine q11_wide hn en ⟨wI_ne hn, q11_wide hn en ⟨wI_ne hn, ?_⟩⟩
      rw [st_mod hsl (by omega) (by omega), st_div hsl (by omega) (by omega)]
      refine q11_x hn (rowI_ok hp) en (q11_wide hn en ⟨wI_ne hn, q11_wide hn en ⟨wI_ne hn, s11_row hq ?_⟩⟩)
      rw [st_mod hsl (by omega) (by omega), st_div hsl (by omega) (by omega)]
      refine q11_x hn (rowI_ok hq) en ?_
      intro z hz
      rw [eu] at hz
      subst hz
      obtain ⟨e, hlt⟩ := vST_is (sideN p q / (24 / n)) hu hw.2.1 (Nat.le_of_lt hm) (rowI_ok hp) (rowI_ok hq)
      rw [eu, e]
      exact s11_root hlt h
    · by_cases d : p = 0 ∨ p = 265
      · rw [if_pos d]
        refine br_f (by decide) (s11_step hq ?_)
        unfold sideN
        rw [if_pos d]
      · rw [if_neg d]
        refine br_t rfl (s11_step hp ?_)
        unfold sideN
        rw [if_neg d]
