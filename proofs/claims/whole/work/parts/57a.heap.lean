/-! ===== ways: the heap ===== -/
def hOrd (f : Nat → Nat) (n : Nat) : Prop := ∀ i, 1 ≤ i → i < n → f ((i - 1) / 2) ≤ f i
def cN (f : Nat → Nat) (n v : Nat) : Nat := fb_ct (fun i => decide (f i = v)) n
def pic (h : Nat → Int64) (f : Nat → Nat) (n : Nat) : Prop := ∀ i, i < n → h i = lN (f i) ∧ f i < 2 ^ 62
def swp (F : Nat → Nat) (p a e : Nat) : Nat → Nat := fun i => if i = p then e else if i = a then F p else F i
theorem swp_p (F : Nat → Nat) (p a e : Nat) : swp F p a e p = e := if_pos rfl
theorem swp_a {F : Nat → Nat} {p a e : Nat} (h : a ≠ p) : swp F p a e a = F p := by
  unfold swp
  rw [if_neg h, if_pos rfl]
theorem swp_o {F : Nat → Nat} {p a e i : Nat} (h1 : i ≠ p) (h2 : i ≠ a) : swp F p a e i = F i := by
  unfold swp
  rw [if_neg h1, if_neg h2]
theorem cN_swap {F : Nat → Nat} {p a e N : Nat} (v : Nat) (hpa : p ≠ a) (hp : p < N) (ha : a < N) (he : F a = e) : cN (swp F p a e) N v = cN F N v := by
  unfold cN
  have e1 : fb_ct (fun i => decide (swp F p a e i = v)) N = fb_ct (fun k => if k = p then decide (e = v) else (fun k => if k = a then decide (F p = v) else (fun i => decide (F i = v)) k) k) N := by
    refine fb_ct_cong (fun k _ => ?_)
    unfold swp
    by_cases h1 : k = p
    · rw [if_pos h1, if_pos h1]
    · rw [if_neg h1, if_neg h1]
      by_cases h2 : k = a
      · rw [if_pos h2]; exact (if_pos h2).symm
      · rw [if_neg h2]; exact (if_neg h2).symm
  have h1 := fb_ct_upd (fun k => if k = a then decide (F p = v) else (fun i => decide (F i = v)) k) (decide (e = v)) (i := p) (n := N) hp
  have h2 := fb_ct_upd (fun i => decide (F i = v)) (decide (F p = v)) (i := a) (n := N) ha
  rw [← e1] at h1
  have h3 : (if p = a then decide (F p = v) else (fun i => decide (F i = v)) p) = decide (F p = v) := if_neg hpa
  rw [h3] at h1
  rw [he] at h2
  have h1' : fb_ct (fun i => decide (swp F p a e i = v)) N + (if decide (F p = v) = true then 1 else 0) = fb_ct (fun k => if k = a then decide (F p = v) else decide (F k = v)) N + (if decide (e = v) = true then 1 else 0) := h1
  omega
def ptE (f : Nat → Nat) (n e : Nat) : Nat → Nat := fun i => if i = n then e else f i
theorem ptE_s (f : Nat → Nat) (n e : Nat) : ptE f n e n = e := if_pos rfl
theorem ptE_o {f : Nat → Nat} {n e i : Nat} (h : i ≠ n) : ptE f n e i = f i := if_neg h
theorem one_if (a b : Nat) : (if decide (a = b) = true then (1 : Nat) else 0) = (if b = a then 1 else 0) := by
  by_cases h : a = b
  · subst h; simp
  · have h2 : ¬ b = a := fun z => h z.symm
    simp [h, h2]
theorem ent_is {c x : Nat} (hc : c < 2 ^ 30) (hx : x < 266) : ((nI c).toInt64 <<< ((9 : Int32).toInt64 &&& 63)) + (nI x).toInt64 = lN (512 * c + x) := by
  rw [nI_l (by omega), nI_l (by omega), show (9 : Int32) = nI 9 from rfl, wb_shl c (k := 9) (by omega), lN_add]
  exact congrArg lN (by omega)
theorem half_i {a : Nat} (h0 : 1 ≤ a) (ha : a < 2 ^ 30) : (nI a - (1 : Int32)) / (2 : Int32) = nI ((a - 1) / 2) := by
  rw [show (1 : Int32) = nI 1 from rfl, pk_sub h0, show (2 : Int32) = nI 2 from rfl, pk_div (by omega) (by omega) (by omega)]
theorem s8_reach {x c n : Nat} {cost : Nat → Int32} {heap : Nat → Int64} {f : Nat → Nat} (hx : x < 266) (hc : c < 2 ^ 30) (hn : n < 1105) (hp : pic heap f n) (ho : hOrd f n) {post : (Nat → Int32) → (Nat → Int64) → Int32 → Prop} (h : ∀ heap' f', pic heap' f' (n + 1) → hOrd f' (n + 1) → (∀ v, cN f' (n + 1) v = cN f n v + (if v = 512 * c + x then 1 else 0)) → post (upd cost x (nI c)) heap' (nI (n + 1))) : wX8_reach (nI x) (nI c) cost heap (nI n) post := by
  unfold wX8_reach
  rw [nI_clamp (n := x) (by omega)]
  refine ⟨vp_in_nI hx (by omega), br_t (nI_lt (b := 1105) hn (by omega)) ?_⟩
  intro x3 hx3 x4 hx4
  rw [ent_is hc hx] at hx3
  rw [nI_1] at hx4
  subst hx3 hx4
  generalize hE : 512 * c + x = e at *
  have he : e < 2 ^ 62 := by omega
  have fin : ∀ (a : Nat) (g : Nat → Int64) (F : Nat → Nat), a ≤ n → F a = e → (∀ i, i ≤ n → i ≠ a → g i = lN (F i)) → (∀ i, i ≤ n → F i < 2 ^ 62) → hOrd F (n + 1) → (∀ v, cN F (n + 1) v = cN f n v + (if v = e then 1 else 0)) → vp_in (nI a) 1105 ∧ post (upd cost x (nI c)) (vp_updL g (nI a).toNatClampNeg (lN e)) (nI (n + 1)) := by
    intro a g F ha eF hg hF hord hcn
    rw [nI_clamp (by omega)]
    refine ⟨vp_in_nI (by omega) (by omega), h _ F (fun i hi => ⟨?_, hF i (by omega)⟩) hord hcn⟩
    by_cases q : i = a
    · rw [q, pk_uLs, eF]
    · rw [pk_uLn q]; exact hg i (by omega) q
  refine ⟨fun l g => ∃ a F, a ≤ n ∧ l = nI a ∧ F a = e ∧ (∀ i, i ≤ n → i ≠ a → g i = lN (F i)) ∧ (∀ i, i ≤ n → F i < 2 ^ 62) ∧ (∀ i, 1 ≤ i → i ≤ n → i ≠ a → F ((i - 1) / 2) ≤ F i) ∧ (∀ i, 1 ≤ i → i ≤ n → (i - 1) / 2 = a → 1 ≤ a → F ((a - 1) / 2) ≤ F i) ∧ (∀ v, cN F (n + 1) v = cN f n v + (if v = e then 1 else 0)), fun l _ => l.toNatClampNeg, ⟨n, ptE f n e, Nat.le_refl n, rfl, ptE_s f n e, fun i hi hin => ?_, fun i hi => ?_, fun i h1 hi hin => ?_, fun i h1 hi hin => absurd hin (by omega), fun v => ?_⟩, ?_⟩
  · rw [ptE_o hin]; exact (hp i (by omega)).1
  · by_cases q : i = n
    · rw [q, ptE_s]; exact he
    · rw [ptE_o q]; exact (hp i (by omega)).2
  · rw [ptE_o hin, ptE_o (by omega)]; exact ho i h1 (by omega)
  · show fb_ct (fun i => decide (ptE f n e i = v)) n + (if decide (ptE f n e n = v) = true then 1 else 0) = _
    rw [ptE_s]
    have : fb_ct (fun i => decide (ptE f n e i = v)) n = cN f n v := fb_ct_cong (fun k hk => by rw [ptE_o (by omega)])
    rw [this]
    rw [one_if]
  rintro l g ⟨a, F, ha, rfl, eF, hg, hF, hord, hgr, hcn⟩
  refine pk_le a 0 (fun q => ?_) (fun q => ?_)
  · have e0 : a = 0 := by omega
    subst e0
    exact fin 0 g F ha eF hg hF (fun i h1 hi => hord i h1 (by omega) (by omega)) hcn
  · rw [half_i q (by omega), nI_clamp (n := (a - 1) / 2) (by omega)]
    have hpa : (a - 1) / 2 ≠ a := by omega
    have vpp : vp_in (nI ((a - 1) / 2)) 1105 := vp_in_nI (by omega) (by omega)
    refine ⟨vpp, ?_⟩
    rw [hg ((a - 1) / 2) (by omega) hpa, lg_cmp_le, pk_lLE (by have := hF ((a - 1) / 2) (by omega); omega) (by omega)]
    refine br_c (fun w => ?_) (fun w => ?_)
    · refine fin a g F ha eF hg hF (fun i h1 hi => ?_) hcn
      by_cases r : i = a
      · subst r; rw [eF]; exact w
      · exact hord i h1 (by omega) r
    · refine ⟨vpp, vp_in_nI (by omega) (by omega), fun z hz => ?_⟩
      subst hz
      rw [nI_clamp (n := a) (by omega)]
      refine ⟨⟨(a - 1) / 2, swp F ((a - 1) / 2) a e, by omega, rfl, swp_p _ _ _ _, fun i hi hin => ?_, fun i hi => ?_, fun i h1 hi hin => ?_, fun i h1 hi hin hpos => ?_, fun v => ?_⟩, ?_⟩
      · by_cases r : i = a
        · subst r; rw [pk_uLs, swp_a (by omega)]
        · rw [pk_uLn r, swp_o hin r]; exact hg i hi r
      · by_cases r : i = (a - 1) / 2
        · subst r; rw [swp_p]; exact he
        · by_cases s : i = a
          · subst s; rw [swp_a (by omega)]; exact hF _ (by omega)
          · rw [swp_o r s]; exact hF i hi
      · by_cases r : i = a
        · subst r; rw [swp_p, swp_a (by omega)]; omega
        · rw [swp_o hin r]
          by_cases s : (i - 1) / 2 = a
          · rw [s, swp_a (by omega)]; exact hgr i h1 hi s q
          · by_cases t : (i - 1) / 2 = (a - 1) / 2
            · rw [t, swp_p]
              have := hord i h1 hi r
              rw [t] at this
              omega
            · rw [swp_o t s]; exact hord i h1 hi r
      · have hne : ((a - 1) / 2 - 1) / 2 ≠ (a - 1) / 2 := by omega
        have hup := hord ((a - 1) / 2) hpos (by omega) hpa
        rw [swp_o (i := ((a - 1) / 2 - 1) / 2) hne (by omega)]
        by_cases r : i = a
        · subst r; rw [swp_a (by omega)]; exact hup
        · rw [swp_o (by omega) r]
          have := hord i h1 hi r
          rw [hin] at this
          omega
      · rw [cN_swap v hpa (by omega) (by omega) eF]; exact hcn v
      · show (nI ((a - 1) / 2)).toNatClampNeg < (nI a).toNatClampNeg
        rw [nI_clamp (by omega), nI_clamp (by omega)]
        omega
theorem hOrd_top {f : Nat → Nat} {n : Nat} (ho : hOrd f n) : ∀ i, i < n → f 0 ≤ f i := by
  intro i
  induction i using Nat.strongRecOn with
  | ind i ih =>
    intro hi
    rcases Nat.eq_zero_or_pos i with z | z
    · subst z; exact Nat.le_refl _
    · exact Nat.le_trans (ih ((i - 1) / 2) (by omega) (by omega)) (ho i z hi)
theorem s8_take {n : Nat} {heap : Nat → Int64} {f : Nat → Nat} (hn0 : 1 ≤ n) (hn : n ≤ 1105) (hp : pic heap f n) (ho : hOrd f n) {post : Int64 → (Nat → Int64) → Int32 → Prop} (h : ∀ heap' f', pic heap' f' (n - 1) → hOrd f' (n - 1) → (∀ v, cN f' (n - 1) v + (if v = f 0 then 1 else 0) = cN f n v) → post (lN (f 0)) heap' (nI (n - 1))) : wX8_takeLeast heap (nI n) post := by
  unfold wX8_takeLeast
  obtain ⟨m, rfl⟩ : ∃ m, n = m + 1 := ⟨n - 1, by omega⟩
  rw [Nat.add_sub_cancel] at h
  intro x1 hx1 x2 hx2
  rw [(hp 0 (by omega)).1] at hx1
  rw [nI_pred] at hx2
  subst hx1 hx2
  rw [nI_clamp (n := m) (by omega)]
  refine ⟨vp_in_nI (by omega) (by omega), fun x4 hx4 => ?_⟩
  rw [(hp m (by omega)).1] at hx4
  subst hx4
  have he := (hp m (by omega)).2
  generalize hE : f m = e at *
  refine ⟨fun l5 l6 g => ∃ a F, a ≤ m ∧ (a = m → m = 0) ∧ l5 = nI a ∧ l6 = nI (2 * a + 1) ∧ F a = e ∧ (∀ i, i < m → i ≠ a → g i = lN (F i)) ∧ (∀ i, i < m → F i < 2 ^ 62) ∧ (∀ i, 1 ≤ i → i < m → (i - 1) / 2 ≠ a → F ((i - 1) / 2) ≤ F i) ∧ (∀ i, 1 ≤ i → i < m → (i - 1) / 2 = a → 1 ≤ a → F ((a - 1) / 2) ≤ F i) ∧ (∀ v, cN F m v + (if v = f 0 then 1 else 0) = cN f (m + 1) v), fun l5 _ _ => 2000 - l5.toNatClampNeg, ⟨0, ptE f 0 e, by omega, fun z => z.symm, rfl, rfl, ptE_s f 0 e, fun i hi hin => ?_, fun i hi => ?_, fun i h1 hi hin => ?_, fun i h1 hi hin h2 => absurd h2 (by omega), fun v => ?_⟩, ?_⟩
  · rw [ptE_o hin]; exact (hp i (by omega)).1
  · by_cases q : i = 0
    · rw [q, ptE_s]; exact he
    · rw [ptE_o q]; exact (hp i (by omega)).2
  · rw [ptE_o hin, ptE_o (by omega)]; exact ho i h1 (by omega)
  · have last : cN f (m + 1) v = cN f m v + (if decide (e = v) = true then 1 else 0) := by
      show fb_ct _ m + (if decide (f m = v) = true then 1 else 0) = _
      rw [hE]; rfl
    rw [last]
    rcases Nat.eq_zero_or_pos m with z | z
    · subst z
      rw [← hE]
      show 0 + (if v = f 0 then 1 else 0) = 0 + (if decide (f 0 = v) = true then 1 else 0)
      rw [one_if]
    · have h1 := fb_ct_upd (fun i => decide (f i = v)) (decide (e = v)) (i := 0) (n := m) z
      have h2 : cN (ptE f 0 e) m v = fb_ct (fun k => if k = 0 then decide (e = v) else (fun i => decide (f i = v)) k) m := by
        refine fb_ct_cong (fun k _ => ?_)
        unfold ptE
        by_cases q : k = 0
        · rw [if_pos q, if_pos q]
        · rw [if_neg q, if_neg q]
      rw [h2]
      have h3 : (if (fun i => decide (f i = v)) 0 = true then 1 else 0) = (if v = f 0 then 1 else 0) := by
        show (if decide (f 0 = v) = true then 1 else 0) = _
        rw [one_if]
      rw [h3] at h1
      exact h1
  rintro l5 l6 g ⟨a, F, ha, ham, rfl, rfl, eF, hg, hF, hord, hgr, hcn⟩
  refine ⟨∀ i, 1 ≤ i → i < m → (i - 1) / 2 = a → e ≤ F i, ?_, ?_⟩
  · intro hch
    rw [nI_clamp (n := a) (by omega)]
    refine ⟨vp_in_nI (by omega) (by omega), h _ F (fun i hi => ⟨?_, hF i hi⟩) (fun i h1 hi => ?_) hcn⟩
    · by_cases q : i = a
      · rw [q, pk_uLs, eF]
      · rw [pk_uLn q]; exact hg i hi q
    · by_cases q : (i - 1) / 2 = a
      · rw [q, eF]; exact hch i h1 hi q
      · exact hord i h1 hi q
  refine pk_le m (2 * a + 1) (fun q => ?_) (fun q => ?_) rfl rfl (by omega) (by omega)
  · intro i h1 hi hin
    omega
  have ham' : a < m := by omega
  rw [nI_1]
  refine ⟨fun j => ∃ jn, j = nI jn ∧ (jn = 2 * a + 1 ∨ jn = 2 * a + 2) ∧ jn < m ∧ ∀ i, 1 ≤ i → i < m → (i - 1) / 2 = a → F jn ≤ F i, ?_, ?_⟩
  · rintro j ⟨jn, rfl, hj, hjm, hmin⟩
    have vj : vp_in (nI jn) 1105 := vp_in_nI (by omega) (by omega)
    rw [nI_clamp (n := jn) (by omega), nI_clamp (n := a) (by omega)]
    refine ⟨vj, ?_⟩
    have hjF := hF jn hjm
    rw [hg jn hjm (by omega), lg_cmp_lt, pk_lLT (by omega) (by omega)]
    refine br_c (fun w => ?_) (fun w => ?_)
    · refine ⟨vj, vp_in_nI (by omega) (by omega), fun z hz => ?_⟩
      have ez : z = nI (2 * jn + 1) := by
        rw [hz, show (2 : Int32) = nI 2 from rfl, pk_mul, nI_1]
      refine ⟨⟨jn, swp F jn a e, by omega, fun z => absurd z (by omega), rfl, ez, swp_p _ _ _ _, fun i hi hin => ?_, fun i hi => ?_, fun i h1 hi hin => ?_, fun i h1 hi hin hpos => ?_, fun v => ?_⟩, ?_⟩
      · by_cases r : i = a
        · subst r; rw [pk_uLs, swp_a (by omega)]
        · rw [pk_uLn r, swp_o hin r]; exact hg i hi r
      · by_cases r : i = jn
        · subst r; rw [swp_p]; exact he
        · by_cases s : i = a
          · subst s; rw [swp_a (by omega)]; exact hjF
          · rw [swp_o r s]; exact hF i hi
      · by_cases r : i = jn
        · subst r
          rw [swp_p, show (i - 1) / 2 = a by omega, swp_a (by omega)]
          omega
        · by_cases s : i = a
          · subst s
            rw [swp_a (by omega), swp_o (by omega) (by omega)]
            exact hgr jn (by omega) hjm (by omega) (by omega)
          · rw [swp_o r s]
            by_cases t : (i - 1) / 2 = a
            · rw [t, swp_a (by omega)]; exact hmin i h1 hi t
            · rw [swp_o hin t]; exact hord i h1 hi t
      · have e1 : (jn - 1) / 2 = a := by omega
        rw [e1, swp_a (by omega), swp_o (by omega) (by omega)]
        have := hord i h1 hi (by omega)
        rw [hin] at this
        exact this
      · rw [cN_swap v (by omega) hjm ham' eF]; exact hcn v
      · show 2000 - (nI jn).toNatClampNeg < 2000 - (nI a).toNatClampNeg
        rw [nI_clamp (by omega), nI_clamp (by omega)]
        omega
    · intro i h1 hi hin
      have := hmin i h1 hi hin
      omega
  · refine pk_le m (2 * a + 1 + 1) (fun r => ?_) (fun r => ?_) rfl rfl (by omega) (by omega)
    · refine ⟨2 * a + 1, rfl, Or.inl rfl, q, fun i h1 hi hin => ?_⟩
      rw [show i = 2 * a + 1 by omega]
      exact Nat.le_refl _
    · refine ⟨vp_in_nI (by omega) (by omega), vp_in_nI (by omega) (by omega), ?_⟩
      rw [nI_clamp (n := 2 * a + 1 + 1) (by omega), nI_clamp (n := 2 * a + 1) (by omega), hg (2 * a + 1) q (by omega), hg (2 * a + 1 + 1) r (by omega), lg_cmp_ge]
      have k1 := hF (2 * a + 1) q
      have k2 := hF (2 * a + 1 + 1) r
      rw [pk_lLE (by omega) (by omega)]
      refine br_c (fun w => ?_) (fun w => ?_)
      · refine ⟨2 * a + 1, rfl, Or.inl rfl, q, fun i h1 hi hin => ?_⟩
        rcases (show i = 2 * a + 1 ∨ i = 2 * a + 1 + 1 by omega) with z | z
        · rw [z]; exact Nat.le_refl _
        · rw [z]; exact w
      · intro z hz
        refine ⟨2 * a + 1 + 1, hz, Or.inr rfl, r, fun i h1 hi hin => ?_⟩
        rcases (show i = 2 * a + 1 ∨ i = 2 * a + 1 + 1 by omega) with z | z
        · rw [z]; omega
        · rw [z]; exact Nat.le_refl _
