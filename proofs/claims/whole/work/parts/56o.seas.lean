/-! seas: sizes, least, greatest -/
theorem q_sizeOf {so : Nat → Int32} {v : Int32} {post : Int32 → Prop} (h : post (nI (fb_ct (fun p => decide (so p = v)) 266))) : wX5_sizeOf v so post := by
  unfold wX5_sizeOf
  refine ⟨fun t l => ∃ a, a ≤ 266 ∧ l = nI a ∧ t = nI (fb_ct (fun p => decide (so p = v)) a), fun _ l => 266 - l.toNatClampNeg, ⟨0, by omega, rfl, rfl⟩, ?_⟩
  rintro t l ⟨a, ha, rfl, rfl⟩
  refine pk_le 266 a (fun c => ?_) (fun c => ?_)
  · have e : a = 266 := by omega
    subst e
    exact h
  · rw [nI_clamp (n := a) (by omega)]
    refine ⟨vp_in_nI c (by omega), fun x hx => ?_⟩
    subst hx
    refine br_c (fun d => ?_) (fun d => ?_)
    · intro x hx y hy
      refine ⟨⟨a + 1, by omega, hy.trans (nI_1 a), ?_⟩, loop_mu hy c (by omega)⟩
      rw [fb_ct_succ, decide_eq_true d, if_pos rfl, hx]
      exact nI_1 _
    · intro y hy
      refine ⟨⟨a + 1, by omega, hy.trans (nI_1 a), ?_⟩, loop_mu hy c (by omega)⟩
      rw [fb_ct_succ, decide_eq_false d]
      rfl
theorem q_leastOf {so : Nat → Int32} {v : Int32} {L : Nat} (hL : L < 266) (eL : so L = v) (hm : ∀ p, p < L → ¬ so p = v) {post : Int32 → Prop} (h : post (nI L)) : wX5_leastOf v so post := by
  unfold wX5_leastOf
  refine ⟨fun l => ∃ a, a ≤ L ∧ l = nI a, fun l => 266 - l.toNatClampNeg, ⟨0, by omega, rfl⟩, ?_⟩
  rintro l ⟨a, ha, rfl⟩
  refine pk_le 265 a (fun c => ?_) (fun c => ?_)
  · have e : a = L := by omega
    subst e
    exact h
  · rw [nI_clamp (n := a) (by omega)]
    refine ⟨vp_in_nI (by omega) (by omega), br_c (fun d => ?_) (fun d => ?_)⟩
    · have e : a = L := by
        rcases Nat.lt_or_ge a L with q | q
        · exact absurd d (hm a q)
        · omega
      subst e
      exact h
    · intro x hx
      have : a ≠ L := fun e => d (e ▸ eL)
      exact ⟨⟨a + 1, by omega, hx.trans (nI_1 a)⟩, loop_mu hx (by omega) (by omega)⟩
theorem q_greatestOf {so : Nat → Int32} {v : Int32} {G : Nat} (hG : G < 266) (eG : so G = v) (hm : ∀ p, G < p → p < 266 → ¬ so p = v) {post : Int32 → Prop} (h : post (nI G)) : wX5_greatestOf v so post := by
  unfold wX5_greatestOf
  refine ⟨fun l => ∃ a, G ≤ a ∧ a < 266 ∧ l = nI a, fun l => l.toNatClampNeg, ⟨265, by omega, by omega, rfl⟩, ?_⟩
  rintro l ⟨a, ha, ha2, rfl⟩
  refine pk_le a 0 (fun c => ?_) (fun c => ?_)
  · have e : a = G := by omega
    subst e
    exact h
  · rw [nI_clamp (n := a) (by omega)]
    refine ⟨vp_in_nI (by omega) (by omega), br_c (fun d => ?_) (fun d => ?_)⟩
    · have e : a = G := by
        rcases Nat.lt_or_ge G a with q | q
        · exact absurd d (hm a q ha2)
        · omega
      subst e
      exact h
    · intro x hx
      have hne : a ≠ G := fun e => d (e ▸ eG)
      have e : x = nI (a - 1) := by
        obtain ⟨b, rfl⟩ : ∃ b, a = b + 1 := ⟨a - 1, by omega⟩
        rw [hx]
        exact pk_m1 b
      refine ⟨⟨a - 1, by omega, by omega, e⟩, ?_⟩
      rw [e]
      show (nI (a - 1)).toNatClampNeg < (nI a).toNatClampNeg
      rw [nI_clamp (by omega), nI_clamp (by omega)]
      omega
/-- both tell the same seas -/
theorem sea_val {st so sf : Nat → Int32} (hc : chOK st so) (hr : refOK st sf) {p : Nat} (hp : p < 266) (sp : seaP st p) : ∃ f, f < 266 ∧ sf p = nI f ∧ so p = nI (fb_ct (minB (seaP st)) f) := by
  obtain ⟨f, hf, hm, hcf, ef⟩ := (hr p hp).2 sp
  exact ⟨f, hf, ef, (hc p hp).2 sp f hm hcf⟩
theorem sea_hit {st so : Nat → Int32} (hc : chOK st so) {k : Nat} (hk : k < fb_ct (minB (seaP st)) 266) : ∃ p, p < 266 ∧ so p = nI k := by
  obtain ⟨f, hf, hm, e⟩ := fb_ct_kth hk
  refine ⟨f, hf, ?_⟩
  rw [(hc f hf).2 (min_iff.1 hm).1 f hm (cn_refl _ f), e]
/-- the reference's look at one sea -/
theorem s11_sea {st so sf : Nat → Int32} (hc : chOK st so) (hr : refOK st sf) {k L G : Nat} (hk : k < 2 ^ 31) (hL : L < 266) (eL : so L = nI k) (hmL : ∀ p, p < L → ¬ so p = nI k) (hG : G < 266) (eG : so G = nI k) (hmG : ∀ p, G < p → p < 266 → ¬ so p = nI k) {a2 : Int32} {post : Int32 → (Nat → Int32) → Prop} (h : ((a2 = 0 → post (nI (fb_ct (fun p => decide (so p = nI k)) 266)) sf) ∧ (¬ a2 = 0 → ((a2 = (1 : Int32) → post (nI L) sf) ∧ (¬ a2 = (1 : Int32) → post (nI G) sf))))) : (∃ (I38 : Int32 → Int32 → Int32 → Int32 → Prop) (mu38 : Int32 → Int32 → Int32 → Int32 → Nat), I38 (-4 : Int32) (-4 : Int32) (0 : Int32) (0 : Int32) ∧ ∀ (l3_38 : Int32) (l4_38 : Int32) (l5_38 : Int32) (l6_38 : Int32), I38 l3_38 l4_38 l5_38 l6_38 → (((266 : Int32) ≤ l6_38 → ((a2 = 0 → post l5_38 sf) ∧ (¬ a2 = 0 → ((a2 = (1 : Int32) → post l3_38 sf) ∧ (¬ a2 = (1 : Int32) → post l4_38 sf))))) ∧ (¬ (266 : Int32) ≤ l6_38 → wX11_isLand l6_38 st (fun (r10 : Int32) => ((r10 = 0 → vp_in l6_38 266 ∧ wX11_seasAhead (sf l6_38.toNatClampNeg) sf (fun (r14 : Int32) => ((r14 = nI k → ∃ J82 : Int32 → Prop, (∀ (t_82 : Int32), J82 t_82 → ∀ x17 : Int32, x17 = l5_38 + 1 → ∀ x18 : Int32, x18 = l6_38 + 1 → (I38 t_82 l6_38 x17 x18 ∧ mu38 t_82 l6_38 x17 x18 < mu38 l3_38 l4_38 l5_38 l6_38)) ∧ ((l3_38 = (-4 : Int32) → J82 l6_38) ∧ (¬ l3_38 = (-4 : Int32) → J82 l3_38))) ∧ (¬ r14 = nI k → ∀ x16 : Int32, x16 = l6_38 + 1 → (I38 l3_38 l4_38 l5_38 x16 ∧ mu38 l3_38 l4_38 l5_38 x16 < mu38 l3_38 l4_38 l5_38 l6_38))))) ∧ (¬ r10 = 0 → ∀ x12 : Int32, x12 = l6_38 + 1 → (I38 l3_38 l4_38 l5_38 x12 ∧ mu38 l3_38 l4_38 l5_38 x12 < mu38 l3_38 l4_38 l5_38 l6_38))))))) := by
  have n4 : ∀ q : Nat, q < 2 ^ 31 → ¬ nI q = -4 := fun q hq e => by
    have := nI_pos hq
    rw [e] at this
    exact this (by decide)
  refine ⟨fun l3 l4 l5 l6 => ∃ a, a ≤ 266 ∧ l6 = nI a ∧ l5 = nI (fb_ct (fun p => decide (so p = nI k)) a) ∧ l3 = (if a ≤ L then -4 else nI L) ∧ ((∀ p, p < a → ¬ so p = nI k) ∨ ∃ g, g < a ∧ so g = nI k ∧ l4 = nI g ∧ ∀ p, g < p → p < a → ¬ so p = nI k), fun _ _ _ l6 => 266 - l6.toNatClampNeg, ⟨0, by omega, rfl, rfl, by rw [if_pos (Nat.zero_le L)], Or.inl (fun p hp => absurd hp (Nat.not_lt_zero p))⟩, ?_⟩
  rintro l3 l4 l5 l6 ⟨a, ha, rfl, rfl, rfl, hg⟩
  refine pk_le 266 a (fun c => ?_) (fun c => ?_)
  · have e : a = 266 := by omega
    subst e
    rw [if_neg (by omega)]
    rcases hg with hg | ⟨g, hga, eg, el, hg⟩
    · exact absurd eL (hg L hL)
    · have : g = G := by
        rcases Nat.lt_or_ge g G with q | q
        · exact absurd eG (hg G q hG)
        · rcases Nat.lt_or_ge G g with q2 | q2
          · exact absurd eg (hmG g q2 hga)
          · omega
      subst this
      rw [el]
      exact h
  · have no : ¬ so a = nI k → ∀ x : Int32, x = nI a + 1 → ((∃ b, b ≤ 266 ∧ x = nI b ∧ nI (fb_ct (fun p => decide (so p = nI k)) a) = nI (fb_ct (fun p => decide (so p = nI k)) b) ∧ (if a ≤ L then (-4 : Int32) else nI L) = (if b ≤ L then -4 else nI L) ∧ ((∀ p, p < b → ¬ so p = nI k) ∨ ∃ g, g < b ∧ so g = nI k ∧ l4 = nI g ∧ ∀ p, g < p → p < b → ¬ so p = nI k)) ∧ 266 - x.toNatClampNeg < 266 - (nI a).toNatClampNeg) := by
      intro hno x hx
      have hne : a ≠ L := fun e => hno (e ▸ eL)
      refine ⟨⟨a + 1, by omega, hx.trans (nI_1 a), ?_, ?_, ?_⟩, loop_mu hx c (by omega)⟩
      · rw [fb_ct_succ, decide_eq_false hno]; rfl
      · by_cases q : a ≤ L
        · rw [if_pos q, if_pos (by omega)]
        · rw [if_neg q, if_neg (by omega)]
      · rcases hg with hg | ⟨g, hga, eg, el, hg⟩
        · refine Or.inl (fun p hp => ?_)
          by_cases e : p = a
          · rw [e]; exact hno
          · exact hg p (by omega)
        · refine Or.inr ⟨g, by omega, eg, el, fun p hp hp2 => ?_⟩
          by_cases e : p = a
          · rw [e]; exact hno
          · exact hg p hp (by omega)
    refine s11_isLand c ?_
    by_cases la : st a = 1
    · rw [if_pos la]
      refine br_f (by decide) (no ?_)
      rw [(hc a c).1 (fun s => s.2 la)]
      exact fun e => n4 k hk e.symm
    rw [if_neg la]
    refine br_t rfl ⟨vp_in_nI c (by omega), ?_⟩
    obtain ⟨f, hf, ef, es⟩ := sea_val hc hr c ⟨c, la⟩
    rw [nI_clamp (n := a) (by omega), ef]
    refine s11_ahead hr (by omega) ?_
    rw [← es]
    refine br_c (fun d => ?_) (fun d => no d)
    have hLa : L ≤ a := by
      rcases Nat.lt_or_ge a L with q | q
      · exact absurd d (hmL a q)
      · exact q
    refine ⟨fun t => t = nI L, ?_, ?_⟩
    · rintro t rfl x hx y hy
      refine ⟨⟨a + 1, by omega, hy.trans (nI_1 a), ?_, ?_, Or.inr ⟨a, by omega, d, rfl, fun p hp hp2 => absurd hp (by omega)⟩⟩, loop_mu hy c (by omega)⟩
      · rw [fb_ct_succ, decide_eq_true d, if_pos rfl, hx]
        exact nI_1 _
      · rw [if_neg (by omega)]
    · by_cases q : a ≤ L
      · have : a = L := by omega
        rw [if_pos q]
        exact br_t rfl (congrArg nI this)
      · rw [if_neg q]
        exact br_f (n4 L (by omega)) rfl
def lndS (st : Nat → Int32) (caps : Int32) (p : Nat) : Bool := decide (st p = 1 ∧ ¬ fOnS (rowI p) caps = 0)
theorem s0_landOnS {st : Nat → Int32} {bits : Nat → Int64} (hb : ∀ p, p < 320 → bitAt bits p = decide (p < 266 ∧ st p = 1)) {caps : Int32} {post : Int32 → Prop} (h : post (nI (fb_ct (lndS st caps) 266))) : wX0_landNumberOnStrips bits caps post := by
  unfold wX0_landNumberOnStrips
  refine ⟨fun t l => ∃ a, a ≤ 266 ∧ l = nI a ∧ t = nI (fb_ct (lndS st caps) a), fun _ l => 266 - l.toNatClampNeg, ⟨0, by omega, rfl, rfl⟩, ?_⟩
  rintro t l ⟨a, ha, rfl, rfl⟩
  refine pk_le 266 a (fun c => ?_) (fun c => ?_)
  · have e : a = 266 := by omega
    subst e
    exact h
  · refine s_isLand (by omega) ?_
    rw [hb a (by omega)]
    by_cases d : st a = 1
    · rw [decide_eq_true ⟨c, d⟩]
      refine br_f (by decide) (s1_row c (q0_onS (br_c (fun e => ?_) (fun e => ?_))))
      · intro x hx
        refine ⟨⟨a + 1, by omega, hx.trans (nI_1 a), ?_⟩, loop_mu hx c (by omega)⟩
        rw [fb_ct_succ, show lndS st caps a = false from decide_eq_false (fun z => z.2 e)]
        rfl
      · intro x hx y hy
        refine ⟨⟨a + 1, by omega, hy.trans (nI_1 a), ?_⟩, loop_mu hy c (by omega)⟩
        rw [fb_ct_succ, show lndS st caps a = true from decide_eq_true ⟨d, e⟩, hx]
        exact nI_1 _
    · rw [decide_eq_false (fun z => d z.2)]
      refine br_t rfl ?_
      intro x hx
      refine ⟨⟨a + 1, by omega, hx.trans (nI_1 a), ?_⟩, loop_mu hx c (by omega)⟩
      rw [fb_ct_succ, show lndS st caps a = false from decide_eq_false (fun z => d z.1)]
      rfl
theorem s11_landOnS {st : Nat → Int32} {post : Int32 → Prop} (h : post (nI (fb_ct (lndS st (st 268)) 266))) : wX11_landOnStrips st post := by
  unfold wX11_landOnStrips
  refine ⟨fun t l => ∃ a, a ≤ 266 ∧ l = nI a ∧ t = nI (fb_ct (lndS st (st 268)) a), fun _ l => 266 - l.toNatClampNeg, ⟨0, by omega, rfl, rfl⟩, ?_⟩
  rintro t l ⟨a, ha, rfl, rfl⟩
  refine pk_le 266 a (fun c => ?_) (fun c => ?_)
  · have e : a = 266 := by omega
    subst e
    exact h
  · refine s11_isLand c ?_
    by_cases d : st a = 1
    · rw [if_pos d]
      refine br_f (by decide) (s11_row c (q11_onS (br_c (fun e => ?_) (fun e => ?_))))
      · intro x hx y hy
        refine ⟨⟨a + 1, by omega, hy.trans (nI_1 a), ?_⟩, loop_mu hy c (by omega)⟩
        rw [fb_ct_succ, show lndS st (st 268) a = false from decide_eq_false (fun z => z.2 e), hx]
        exact nI_add _ 0
      · intro x hx y hy
        refine ⟨⟨a + 1, by omega, hy.trans (nI_1 a), ?_⟩, loop_mu hy c (by omega)⟩
        rw [fb_ct_succ, show lndS st (st 268) a = true from decide_eq_true ⟨d, e⟩, hx]
        exact nI_1 _
    · rw [if_neg d]
      refine br_t rfl ?_
      intro x hx y hy
      refine ⟨⟨a + 1, by omega, hy.trans (nI_1 a), ?_⟩, loop_mu hy c (by omega)⟩
      rw [fb_ct_succ, show lndS st (st 268) a = false from decide_eq_false (fun z => d z.1), hx]
      exact nI_add _ 0
