/-! ===== the worst pair ===== -/
theorem t_far2 {u : Nat} (hu : u ≤ 200) : ((2 : Int32) * nI u).toInt = 2 * (u : Int) := by
  have d2 : (2 : Int32).toInt = 2 := rfl
  rw [fb_mulI (by rw [d2, nI_toInt (by omega)]; omega) (by rw [d2, nI_toInt (by omega)]; omega), d2, nI_toInt (by omega)]
theorem farV_bd {u p q : Nat} (hu : u ≤ 200) (hp : p < 266) : 0 ≤ (farV (nI u) p q).toInt ∧ (farV (nI u) p q).toInt ≤ 400 := by
  unfold farV
  split
  · have hc := cos_ok (rowI_ok hp)
    have b := mul_bd (a := 2 * (u : Int)) (b := (cosR (rowI p)).toInt) (lo := 0) (hi := 400) (U := 10000) hc.1 hc.2 (by omega) (by omega) (by omega) (by omega)
    have e : ((2 * nI u) * cosR (rowI p)).toInt = 2 * (u : Int) * (cosR (rowI p)).toInt := by
      rw [fb_mulI (by rw [t_far2 hu]; omega) (by rw [t_far2 hu]; omega), t_far2 hu]
    rw [div4, e]
    have := tdv_lo (x := 2 * (u : Int) * (cosR (rowI p)).toInt) (b := 0) (by omega)
    have := tdv_hi (x := 2 * (u : Int) * (cosR (rowI p)).toInt) (b := 400) (by omega)
    omega
  · rw [t_far2 hu]
    omega
theorem strV_bd {u w p q : Nat} (hu : u ≤ 200) (h0 : 0 < w) (hw : w ≤ 12) (hp : p < 266) (hq : q < 266) : 0 ≤ (strV u w p q).toInt ∧ (strV u w p q).toInt ≤ 8191 := by
  unfold strV
  split
  · have hm := Nat.mod_lt (westN p q) h0
    have := fX_row (u := u) (w := w) (j := westN p q % w) (westN p q / w) (l := rowI p) hu hw (by omega) (rowI_ok hp)
    omega
  · have hm := Nat.mod_lt (sideN p q) h0
    have := (vST_is (sideN p q / w) hu hw (Nat.le_of_lt hm) (rowI_ok hp) (rowI_ok hq)).2
    have h2 := rootN_lt this
    rw [nI_toInt (by omega)]
    omega
def offV (u w p q : Nat) : Int32 := absI (strV u w p q - farV (nI u) p q)
theorem absI_pos {x : Int32} (h : x.toInt ≠ -2147483648) : 0 ≤ (absI x).toInt := by
  unfold absI
  by_cases c : 0 ≤ x
  · rw [if_pos c]; exact (fa_le 0 x).1 c
  · rw [if_neg c, neg_z, fb_negI h]
    have := mt (fa_le 0 x).2 c
    have e : (0 : Int32).toInt = 0 := rfl
    omega
theorem offV_pos {u w p q : Nat} (hu : u ≤ 200) (h0 : 0 < w) (hw : w ≤ 12) (hp : p < 266) (hq : q < 266) : 0 ≤ (offV u w p q).toInt := by
  unfold offV
  refine absI_pos ?_
  have b1 := strV_bd hu h0 hw hp hq
  have b2 := farV_bd (q := q) hu hp
  rw [fb_subI (by omega) (by omega)]
  omega
def WS : Type := Int32 × Int32 × Int32
def stpW (u w : Nat) (caps : Int32) (a : Nat) (s : Int32 × Int32 × Int32) (b : Nat) : Int32 × Int32 × Int32 := if fOnS2 (rowI a) (rowI b) caps = 0 then s else if offV u w a b ≤ s.1 then s else (offV u w a b, nI a, nI b)
def fldC (u w : Nat) (caps : Int32) (a : Nat) (s : Int32 × Int32 × Int32) : Nat → Int32 × Int32 × Int32
  | 0 => s
  | i + 1 => if nb a i ≤ a then fldC u w caps a s i else stpW u w caps a (fldC u w caps a s i) (nb a i)
def fldR (u w : Nat) (caps : Int32) (a : Nat) (s : Int32 × Int32 × Int32) : Nat → Int32 × Int32 × Int32
  | 0 => s
  | b + 1 => if a < b ∧ adjB a b = true then stpW u w caps a (fldR u w caps a s b) b else fldR u w caps a s b
theorem fldC_list (u w : Nat) (caps : Int32) (a : Nat) (s : Int32 × Int32 × Int32) : ∀ i, fldC u w caps a s i = (((List.range i).map (nb a)).filter (fun b => decide (a < b))).foldl (stpW u w caps a) s := by
  intro i
  induction i with
  | zero => rfl
  | succ i ih =>
    rw [fldC, List.range_succ, List.map_append, List.filter_append, List.foldl_append, ← ih]
    by_cases h : nb a i ≤ a
    · rw [if_pos h]
      simp [Nat.not_lt.mpr h]
    · rw [if_neg h]
      simp [Nat.lt_of_not_le h]
theorem fldR_list (u w : Nat) (caps : Int32) (a : Nat) (s : Int32 × Int32 × Int32) : ∀ i, fldR u w caps a s i = ((List.range i).filter (fun b => decide (a < b) && adjB a b)).foldl (stpW u w caps a) s := by
  intro i
  induction i with
  | zero => rfl
  | succ i ih =>
    rw [fldR, List.range_succ, List.filter_append, List.foldl_append, ← ih]
    by_cases h : a < i ∧ adjB a i = true
    · rw [if_pos h]
      simp [h.1, h.2]
    · rw [if_neg h]
      have : (decide (a < i) && adjB a i) = false := by
        refine ts_nt (fun z => h ?_)
        rw [Bool.and_eq_true, decide_eq_true_iff] at z
        exact z
      simp [this]
theorem fld_eq {u w : Nat} {caps : Int32} {a : Nat} (ha : a < 266) (s : Int32 × Int32 × Int32) : fldC u w caps a s (nbn a) = fldR u w caps a s 266 := by
  rw [fldC_list, fldR_list, t_worst a ha]
def outW (u w : Nat) (caps : Int32) (s : Int32 × Int32 × Int32) : Nat → Int32 × Int32 × Int32
  | 0 => s
  | a + 1 => fldC u w caps a (outW u w caps s a) (nbn a)
def alike (s t : Int32 × Int32 × Int32) : Prop := s = t ∨ (s.1 = -1 ∧ t.1 = -1)
theorem alike_stp {u w : Nat} {caps : Int32} {a b : Nat} {s t : Int32 × Int32 × Int32} (h : alike s t) : alike (stpW u w caps a s b) (stpW u w caps a t b) := by
  rcases h with h | ⟨h1, h2⟩
  · subst h; exact Or.inl rfl
  · unfold stpW
    rw [h1, h2]
    by_cases c : fOnS2 (rowI a) (rowI b) caps = 0
    · rw [if_pos c, if_pos c]; exact Or.inr ⟨h1, h2⟩
    · rw [if_neg c, if_neg c]
      by_cases d : offV u w a b ≤ -1
      · rw [if_pos d, if_pos d]; exact Or.inr ⟨h1, h2⟩
      · rw [if_neg d, if_neg d]; exact Or.inl rfl
theorem alike_fld {u w : Nat} {caps : Int32} {a : Nat} {s t : Int32 × Int32 × Int32} (h : alike s t) : ∀ i, alike (fldC u w caps a s i) (fldC u w caps a t i) := by
  intro i
  induction i with
  | zero => exact h
  | succ i ih =>
    rw [fldC, fldC]
    by_cases c : nb a i ≤ a
    · rw [if_pos c, if_pos c]; exact ih
    · rw [if_neg c, if_neg c]; exact alike_stp ih
theorem alike_out {u w : Nat} {caps : Int32} {s t : Int32 × Int32 × Int32} (h : alike s t) : ∀ a, alike (outW u w caps s a) (outW u w caps t a) := by
  intro a
  induction a with
  | zero => exact h
  | succ a ih => exact alike_fld ih _
theorem pos_stp {u w : Nat} {caps : Int32} {a b : Nat} {s : Int32 × Int32 × Int32} (ho : 0 ≤ (offV u w a b).toInt) (h : 0 ≤ s.1.toInt ∨ ¬ fOnS2 (rowI a) (rowI b) caps = 0) : 0 ≤ (stpW u w caps a s b).1.toInt := by
  unfold stpW
  by_cases c : fOnS2 (rowI a) (rowI b) caps = 0
  · rw [if_pos c]; exact h.resolve_right (fun z => z c)
  · rw [if_neg c]
    by_cases d : offV u w a b ≤ s.1
    · rw [if_pos d]; exact Int.le_trans ho ((fa_le _ _).1 d)
    · rw [if_neg d]; exact ho
theorem pos_fld {u w : Nat} {caps : Int32} {a : Nat} {s : Int32 × Int32 × Int32} (hu : u ≤ 200) (h0 : 0 < w) (hw : w ≤ 12) (ha : a < 266) (h : 0 ≤ s.1.toInt) : ∀ i, i ≤ nbn a → 0 ≤ (fldC u w caps a s i).1.toInt := by
  intro i
  induction i with
  | zero => exact fun _ => h
  | succ i ih =>
    intro hi
    rw [fldC]
    by_cases c : nb a i ≤ a
    · rw [if_pos c]; exact ih (by omega)
    · rw [if_neg c]; exact pos_stp (offV_pos hu h0 hw ha (t_nb_lt a ha i (by omega))) (Or.inl (ih (by omega)))
theorem t_caps121 : ∀ k, k < 4 → ¬ fOnS2 (rowI 121) (rowI 122) (nI k) = 0 := by decide +kernel
theorem pos_121 {u w k : Nat} {s : Int32 × Int32 × Int32} (hu : u ≤ 200) (h0 : 0 < w) (hw : w ≤ 12) (hk : k ≤ 3) : 0 ≤ (fldC u w (nI k) 121 s (nbn 121)).1.toInt := by
  have e : nbn 121 = 4 := by decide
  have n1 : nb 121 1 = 122 := by decide
  have h2 : 0 ≤ (fldC u w (nI k) 121 s 2).1.toInt := by
    rw [fldC, n1, if_neg (by decide)]
    exact pos_stp (offV_pos hu h0 hw (by omega) (by omega)) (Or.inr (t_caps121 k (by omega)))
  have step : ∀ i, i < 4 → 0 ≤ (fldC u w (nI k) 121 s i).1.toInt → 0 ≤ (fldC u w (nI k) 121 s (i + 1)).1.toInt := by
    intro i hi ih
    rw [fldC]
    by_cases c : nb 121 i ≤ 121
    · rw [if_pos c]; exact ih
    · rw [if_neg c]; exact pos_stp (offV_pos hu h0 hw (by omega) (t_nb_lt 121 (by omega) i (by rw [e]; omega))) (Or.inl ih)
  rw [e]
  exact step 3 (by omega) (step 2 (by omega) h2)
theorem pos_out {u w k : Nat} {s : Int32 × Int32 × Int32} (hu : u ≤ 200) (h0 : 0 < w) (hw : w ≤ 12) (hk : k ≤ 3) : ∀ d, 122 + d ≤ 266 → 0 ≤ (outW u w (nI k) s (122 + d)).1.toInt := by
  intro d
  induction d with
  | zero => exact fun _ => pos_121 hu h0 hw hk
  | succ d ih =>
    intro hd
    exact pos_fld (a := 122 + d) hu h0 hw (by omega) (ih (by omega)) _ (Nat.le_refl _)
theorem out_one {u w k : Nat} {s t : Int32 × Int32 × Int32} (hu : u ≤ 200) (h0 : 0 < w) (hw : w ≤ 12) (hk : k ≤ 3) (hs : s.1 = -1) (ht : t.1 = -1) : outW u w (nI k) s 266 = outW u w (nI k) t 266 := by
  rcases alike_out (u := u) (w := w) (caps := nI k) (s := s) (t := t) (Or.inr ⟨hs, ht⟩) 266 with h | ⟨h1, -⟩
  · exact h
  · have := pos_out (s := s) hu h0 hw hk 144 (by omega)
    rw [show 122 + 144 = 266 from rfl, h1] at this
    exact absurd this (by decide)
theorem s9_seek {u n k : Nat} (hu : u ≤ 200) (hn : stripN n) (hk : k ≤ 3) {les gre : Int32} {post : Int32 → Int32 → Int32 → Prop} (h : post (outW u (24 / n) (nI k) (-1, les, gre) 266).1 (outW u (24 / n) (nI k) (-1, les, gre) 266).2.1 (outW u (24 / n) (nI k) (-1, les, gre) 266).2.2) : wX9_seek les gre (nI u) (nI n) (nI k) post := by
  have hw := stripN_w hn
  unfold wX9_seek
  refine ⟨fun l o x y => ∃ a, a ≤ 266 ∧ l = nI a ∧ (o, x, y) = outW u (24 / n) (nI k) (-1, les, gre) a, fun l _ _ _ => 266 - l.toNatClampNeg, ⟨0, by omega, rfl, rfl⟩, ?_⟩
  rintro l o x y ⟨a, ha, rfl, he⟩
  refine pk_le 266 a (fun c => ?_) (fun c => ?_)
  · have e : a = 266 := by omega
    subst e
    rw [← he] at h
    exact h
  · have hnb := nbn_le a
    refine ⟨fun l o x y => ∃ i, i ≤ nbn a ∧ l = nI i ∧ (o, x, y) = fldC u (24 / n) (nI k) a (outW u (24 / n) (nI k) (-1, les, gre) a) i, fun l _ _ _ => 24 - l.toNatClampNeg, ⟨0, by omega, rfl, he⟩, ?_⟩
    rintro l o2 x2 y2 ⟨i, hi, rfl, he2⟩
    have hlt : ∀ {x : Int32}, x = nI i + 1 → i < nbn a → 24 - x.toNatClampNeg < 24 - (nI i).toNatClampNeg := by
      intro x hx hin
      subst hx
      rw [nI_1, nI_clamp (by omega), nI_clamp (by omega)]
      omega
    refine s1_nbn c (pk_le (nbn a) i (fun d => ?_) (fun d => ?_))
    · have e : i = nbn a := by omega
      subst e
      intro z hz
      refine ⟨⟨a + 1, by omega, hz.trans (nI_1 a), he2⟩, ?_⟩
      subst hz
      rw [nI_1]
      show 266 - (nI (a + 1)).toNatClampNeg < 266 - (nI a).toNatClampNeg
      rw [nI_clamp (by omega), nI_clamp (by omega)]
      omega
    · refine s1_nb c d ?_
      have hq := t_nb_lt a c i d
      refine pk_le (nb a i) a (fun f => ?_) (fun f => ?_)
      · intro z hz
        refine ⟨⟨i + 1, by omega, hz.trans (nI_1 i), ?_⟩, hlt hz d⟩
        rw [fldC, if_pos f]
        exact he2
      · have f' : ¬ nb a i ≤ a := by omega
        refine s0_onS2 c hq ?_
        refine br_c (fun g => ?_) (fun g => ?_)
        · intro z hz
          refine ⟨⟨i + 1, by omega, hz.trans (nI_1 i), ?_⟩, hlt hz d⟩
          rw [fldC, if_neg f', stpW, if_pos g]
          exact he2
        · unfold wX9_consider
          refine s1_row c (s1_row hq (s0_far c (s3_straight hu hn c hq ?_)))
          intro v hv
          have hv : v = offV u (24 / n) a (nb a i) := hv
          subst hv
          have e1 : (fldC u (24 / n) (nI k) a (outW u (24 / n) (nI k) (-1, les, gre) a) i).1 = o2 := by rw [← he2]
          refine br_c (fun q => ?_) (fun q => ?_)
          · intro z hz
            refine ⟨⟨i + 1, by omega, hz.trans (nI_1 i), ?_⟩, hlt hz d⟩
            rw [fldC, if_neg f', stpW, if_neg g, e1, if_pos q]
            exact he2
          · intro z hz
            refine ⟨⟨i + 1, by omega, hz.trans (nI_1 i), ?_⟩, hlt hz d⟩
            rw [fldC, if_neg f', stpW, if_neg g, e1, if_neg q]
def w3 (f : Nat → Int32) : Int32 × Int32 × Int32 := (f 0, f 1, f 2)
theorem w3_upd (f : Nat → Int32) (x y z : Int32) : w3 (upd (upd (upd f 0 x) 1 y) 2 z) = (x, y, z) := by
  unfold w3
  rw [pk_un (show 0 ≠ 2 by decide), pk_un (show 0 ≠ 1 by decide), pk_us, pk_un (show 1 ≠ 2 by decide), pk_us, pk_us]
theorem fldR_low {u w : Nat} {caps : Int32} {a : Nat} {s : Int32 × Int32 × Int32} : ∀ b, b ≤ a + 1 → fldR u w caps a s b = s := by
  intro b
  induction b with
  | zero => exact fun _ => rfl
  | succ b ih =>
    intro hb
    rw [fldR, if_neg (by omega)]
    exact ih (by omega)
theorem s11_laysWorst {u n k : Nat} (hu : u ≤ 200) (hn : stripN n) (hk : k ≤ 3) {st wo : Nat → Int32} (eu : st 266 = nI u) (en : st 267 = nI n) (ek : st 268 = nI k) {post : (Nat → Int32) → Prop} (h : ∀ f, w3 f = outW u (24 / n) (nI k) (-1, wo 1, wo 2) 266 → post f) : wX11_laysWorst st wo post := by
  have hw := stripN_w hn
  unfold wX11_laysWorst
  refine ⟨fun l f => ∃ a, a ≤ 266 ∧ l = nI a ∧ w3 f = outW u (24 / n) (nI k) (-1, wo 1, wo 2) a, fun l _ => 266 - l.toNatClampNeg, ⟨0, by omega, rfl, ?_⟩, ?_⟩
  · unfold w3
    rw [pk_us, pk_un (show 1 ≠ 0 by decide), pk_un (show 2 ≠ 0 by decide)]
    rfl
  rintro l f ⟨a, ha, rfl, he⟩
  refine pk_le 266 a (fun c => ?_) (fun c => ?_)
  · have e : a = 266 := by omega
    subst e
    exact h f he
  · intro x hx
    rw [nI_1] at hx
    subst hx
    refine ⟨fun l f => ∃ b, a + 1 ≤ b ∧ b ≤ 266 ∧ l = nI b ∧ w3 f = fldR u (24 / n) (nI k) a (outW u (24 / n) (nI k) (-1, wo 1, wo 2) a) b, fun l _ => 266 - l.toNatClampNeg, ⟨a + 1, by omega, by omega, rfl, ?_⟩, ?_⟩
    · rw [fldR_low _ (Nat.le_refl _)]; exact he
    rintro l f2 ⟨b, hab, hb, rfl, he2⟩
    have hlt : ∀ {x : Int32}, x = nI b + 1 → b < 266 → 266 - x.toNatClampNeg < 266 - (nI b).toNatClampNeg := by
      intro x hx hin
      subst hx
      rw [nI_1, nI_clamp (by omega), nI_clamp (by omega)]
      omega
    refine pk_le 266 b (fun d => ?_) (fun d => ?_)
    · have e : b = 266 := by omega
      subst e
      intro z hz
      refine ⟨⟨a + 1, by omega, hz.trans (nI_1 a), ?_⟩, ?_⟩
      · rw [he2, ← fld_eq c]; rfl
      · subst hz
        rw [nI_1]
        show 266 - (nI (a + 1)).toNatClampNeg < 266 - (nI a).toNatClampNeg
        rw [nI_clamp (by omega), nI_clamp (by omega)]
        omega
    · refine s11_onS2 c d ?_
      rw [ek]
      refine br_c (fun g => ?_) (fun g => ?_)
      · intro z hz
        refine ⟨⟨b + 1, by omega, by omega, hz.trans (nI_1 b), ?_⟩, hlt hz d⟩
        rw [fldR]
        by_cases q : a < b ∧ adjB a b = true
        · rw [if_pos q, stpW, if_pos g]; exact he2
        · rw [if_neg q]; exact he2
      · refine s11_adj c d ?_
        by_cases q : adjB a b = true
        · rw [if_pos q]
          refine br_f (by decide) ?_
          have q2 : a < b ∧ adjB a b = true := ⟨by omega, q⟩
          refine s11_straight hu hn c d eu en (s11_far c d (q11_size ?_))
          rw [eu]
          have e1 : (fldR u (24 / n) (nI k) a (outW u (24 / n) (nI k) (-1, wo 1, wo 2) a) b).1 = f2 0 := by rw [← he2]; rfl
          refine br_c (fun r => ?_) (fun r => ?_)
          · intro z hz
            refine ⟨⟨b + 1, by omega, by omega, hz.trans (nI_1 b), ?_⟩, hlt hz d⟩
            rw [fldR, if_pos q2, stpW, if_neg g, e1, if_pos (show offV u (24 / n) a b ≤ f2 0 from r)]
            exact he2
          · intro z hz
            refine ⟨⟨b + 1, by omega, by omega, hz.trans (nI_1 b), ?_⟩, hlt hz d⟩
            rw [fldR, if_pos q2, stpW, if_neg g, e1, if_neg (show ¬ offV u (24 / n) a b ≤ f2 0 from r), w3_upd]
            rfl
        · rw [if_neg q]
          refine br_t rfl ?_
          intro z hz
          refine ⟨⟨b + 1, by omega, by omega, hz.trans (nI_1 b), ?_⟩, hlt hz d⟩
          rw [fldR, if_neg (fun z => q z.2)]
          exact he2
