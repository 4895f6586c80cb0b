/-! ===== ways: class and reference ===== -/
theorem opt_sym {st : Nat → Int32} {u p q F s : Nat} (h : opt (seaP st) u p q F s) : opt (seaP st) u q p F s := ⟨wk_sym h.1, fun F' s' hw => h.2 F' s' (wk_sym hw)⟩
def refP (st : Nat → Int32) (u p q : Nat) (fz sz : Int32) : Prop := (fz = nI 100000000 ∧ (seaP st p → seaP st q → ∀ F s, Walk (seaP st) u p q F s → 100000000 ≤ F)) ∨ (seaP st p ∧ seaP st q ∧ ∃ F s, opt (seaP st) u p q F s ∧ fz = nI F ∧ F < 100000000 ∧ sz = nI s)
theorem refP_sym {st : Nat → Int32} {u p q : Nat} {fz sz : Int32} (h : refP st u p q fz sz) : refP st u q p fz sz := by
  rcases h with ⟨h1, h2⟩ | ⟨h1, h2, F, s, h3, h4⟩
  · exact Or.inl ⟨h1, fun sq sp F s hw => h2 sp sq F s (wk_sym hw)⟩
  · exact Or.inr ⟨h2, h1, F, s, opt_sym h3, h4⟩
theorem ref_P {st far steps : Nat → Int32} {u to z : Nat} (hr : refW st u to far steps) (hz : z < 266) : refP st u to z (far z) (steps z) := by
  obtain ⟨h1, h2, h3⟩ := hr
  rcases h2 z hz with g | ⟨F, s, hF, e1, e2, hs, hw, sz⟩
  · refine Or.inl ⟨g, fun sto sz F s hw => ?_⟩
    refine Nat.le_of_not_lt (fun hlt => ?_)
    obtain ⟨F0, s0, e1, -, b1, -, hle⟩ := h3 sto z F s hw hlt
    have := (nI_eq (by omega) (by omega)).1 (e1.symm.trans g)
    omega
  · by_cases sto : seaP st to
    · refine Or.inr ⟨sto, sz, F, s, ⟨hw, fun F' s' hw' => ?_⟩, e1, hF, e2⟩
      rcases Nat.lt_or_ge F' 100000000 with q | q
      · obtain ⟨F0, s0, k1, k2, b1, b2, hle⟩ := h3 sto z F' s' hw' q
        have z1 := (nI_eq (by omega) (by omega)).1 (k1.symm.trans e1)
        have z2 := (nI_eq (by omega) (by omega)).1 (k2.symm.trans e2)
        omega
      · exact Or.inl (by omega)
    · have := h1 sto z hz
      have := (nI_eq (by omega) (by omega)).1 (e1.symm.trans this)
      omega
theorem link {st cost : Nat → Int32} {u p q : Nat} {fz sz : Int32} (hu : u ≤ 200) (hp : p < 266) (hc : sprOK (seaP st) u p q cost) (hr : refP st u p q fz sz) : (cost q = 2147483647 ∧ fz = nI 100000000) ∨ ∃ F s, opt (seaP st) u p q F s ∧ s ≤ 265 ∧ F ≤ 106400 ∧ cost q = nI (512 * F + s) ∧ fz = nI F ∧ sz = nI s := by
  rcases hc with ⟨e1, h1⟩ | ⟨sp, sq, D, e1, ⟨F, s, hw, eD, hs⟩, hM, -, -⟩
  · left
    refine ⟨e1, ?_⟩
    rcases hr with ⟨e2, -⟩ | ⟨sp, sq, F, s, ho, -⟩
    · exact e2
    · exact absurd ho.1 (h1 sp sq F s)
  · have hF := wk_bd hu hw
    rcases hr with ⟨-, h2⟩ | ⟨-, -, F0, s0, ho, e2, hF0, e3⟩
    · have := h2 sp sq F s hw
      omega
    · right
      have hs0 := opt_steps hp ho
      have h3 := opt_M hp ho F s hw
      have h4 := hM F0 s0 ho.1
      have hF0' := wk_bd hu ho.1
      refine ⟨F0, s0, ho, hs0, by omega, ?_, e2, e3⟩
      rw [e1]
      exact congrArg nI (by omega)
theorem far9 {F s : Nat} (hF : F ≤ 106400) (hs : s ≤ 265) : nI (512 * F + s) >>> ((9 : Int32) &&& 31) = nI F := by
  rw [pk_shrN (by omega) ((9 : Int32) &&& 31) 9 (by decide)]
  exact congrArg nI (by omega)
theorem step9 {F s : Nat} (hF : F ≤ 106400) (hs : s ≤ 265) : nI (512 * F + s) &&& (511 : Int32) = nI s := by
  rw [pk_andN (by omega) 9 (by decide)]
  exact congrArg nI (by omega)
/-! first steps -/
def bestI (Q : Nat → Prop) (g : Nat → Nat) (i : Nat) (v : Int32) : Prop := (v = -4 ∧ ∀ k, k < i → ¬ Q (g k)) ∨ ∃ m, v = nI m ∧ m < 266 ∧ Q m ∧ (∃ k, k < i ∧ g k = m) ∧ ∀ k, k < i → Q (g k) → m ≤ g k
theorem best_one {q : Nat} (hq : q < 266) {Q : Nat → Prop} {v v' : Int32} (h : bestI Q (nb q) (nbn q) v) (h' : bestI Q (nbM q) (nbn q) v') : v = v' := by
  rcases h with ⟨e, hn⟩ | ⟨m, e, hm, hQ, ⟨k, hk, ek⟩, hle⟩
  · rcases h' with ⟨e', -⟩ | ⟨m, -, -, hQ, ⟨k, hk, ek⟩, -⟩
    · rw [e, e']
    · obtain ⟨j, hj, ej⟩ := t_nbM' q hq k hk
      exact absurd (by rw [ej, ek]; exact hQ) (hn j hj)
  · obtain ⟨j, hj, ej⟩ := t_nbM q hq k hk
    rcases h' with ⟨-, hn⟩ | ⟨m', e', hm', hQ', ⟨k', hk', ek'⟩, hle'⟩
    · exact absurd (by rw [ej, ek]; exact hQ) (hn j hj)
    · obtain ⟨j', hj', ej'⟩ := t_nbM' q hq k' hk'
      have h1 := hle j' hj' (by rw [ej', ek']; exact hQ')
      have h2 := hle' j hj (by rw [ej, ek]; exact hQ)
      rw [ej', ek'] at h1
      rw [ej, ek] at h2
      rw [e, e']
      exact congrArg nI (by omega)
theorem best_no {Q : Nat → Prop} {g : Nat → Nat} {i : Nat} {v : Int32} (h : bestI Q g i v) (hn : ¬ Q (g i)) : bestI Q g (i + 1) v := by
  rcases h with ⟨e, h1⟩ | ⟨m, e, hm, hQ, ⟨k, hk, ek⟩, hle⟩
  · refine Or.inl ⟨e, fun k hk => ?_⟩
    by_cases q : k = i
    · rw [q]; exact hn
    · exact h1 k (by omega)
  · refine Or.inr ⟨m, e, hm, hQ, ⟨k, by omega, ek⟩, fun k hk hq => ?_⟩
    by_cases q : k = i
    · rw [q] at hq; exact absurd hq hn
    · exact hle k (by omega) hq
theorem best_new {Q : Nat → Prop} {g : Nat → Nat} {i : Nat} {v : Int32} (h : bestI Q g i v) (hy : Q (g i)) (hg : g i < 266) (hv : v = -4 ∨ ¬ v ≤ nI (g i)) : bestI Q g (i + 1) (nI (g i)) := by
  refine Or.inr ⟨g i, rfl, hg, hy, ⟨i, by omega, rfl⟩, fun k hk hq => ?_⟩
  by_cases q : k = i
  · rw [q]; exact Nat.le_refl _
  · rcases h with ⟨-, h1⟩ | ⟨m, e, hm, -, -, hle⟩
    · exact absurd hq (h1 k (by omega))
    · have := hle k (by omega) hq
      rcases hv with hv | hv
      · rw [e] at hv
        have := nI_pos (n := m) (by omega)
        rw [hv] at this
        exact absurd (by decide) this
      · rw [e] at hv
        have := Nat.lt_of_not_le (fun z => hv (nI_le z (by omega)))
        omega
theorem best_old {Q : Nat → Prop} {g : Nat → Nat} {i : Nat} {v : Int32} (h : bestI Q g i v) (hg : g i < 266) (hv : ¬ v = -4) (hle' : v ≤ nI (g i)) : bestI Q g (i + 1) v := by
  rcases h with ⟨e, h1⟩ | ⟨m, e, hm, hQ, ⟨k, hk, ek⟩, hle⟩
  · exact absurd e hv
  · refine Or.inr ⟨m, e, hm, hQ, ⟨k, by omega, ek⟩, fun k hk hq => ?_⟩
    by_cases q : k = i
    · rw [q]
      rw [e] at hle'
      exact (nI_leI (by omega) (by omega)).1 hle'
    · exact hle k (by omega) hq
theorem s8_first {u q : Nat} (hu : u ≤ 200) (hq : q < 266) {cost : Nat → Int32} {Q : Nat → Prop} (hQ : ∀ k, k < nbn q → (Q (nb q k) ↔ (¬ cost (nb q k) = 2147483647 ∧ cost (nb q k) + nI (512 * fN u q (nb q k) + 1) = cost q))) {post : Int32 → Prop} (h : ∀ v, bestI Q (nb q) (nbn q) v → post v) : wX8_leastFirstStep (nI q) cost (nI u) post := by
  unfold wX8_leastFirstStep
  have hnb := nbn_le q
  refine ⟨fun v l => ∃ i, i ≤ nbn q ∧ l = nI i ∧ bestI Q (nb q) i v, fun _ l => 24 - l.toNatClampNeg, ⟨0, by omega, rfl, Or.inl ⟨rfl, fun k hk => absurd hk (Nat.not_lt_zero k)⟩⟩, ?_⟩
  rintro v l ⟨i, hi, rfl, hv⟩
  refine s1_nbn hq (pk_le (nbn q) i (fun c => ?_) (fun c => ?_))
  · have e : i = nbn q := by omega
    subst e
    exact h v hv
  have hy := t_nb_lt q hq i c
  have vy : vp_in (nI (nb q i)) 266 := vp_in_nI hy (by omega)
  refine s1_nb hq c ⟨vy, ?_⟩
  rw [nI_clamp (n := nb q i) (by omega), nI_clamp (n := q) (by omega)]
  refine ⟨fun t => (t = 1 ∧ Q (nb q i)) ∨ (t = 0 ∧ ¬ Q (nb q i)), ?_, ¬ Q (nb q i), fun g => Or.inr ⟨rfl, g⟩, ?_⟩
  · rintro t (⟨rfl, hy1⟩ | ⟨rfl, hn1⟩)
    · refine br_f (by decide) (br_c (fun d => ?_) (fun d => br_c (fun e => ?_) (fun e => ?_)))
      · intro x hx
        exact ⟨⟨i + 1, by omega, hx.trans (nI_1 i), best_new hv hy1 hy (Or.inl d)⟩, loop_mu hx (by omega) (by omega)⟩
      · intro x hx
        exact ⟨⟨i + 1, by omega, hx.trans (nI_1 i), best_old hv hy d e⟩, loop_mu hx (by omega) (by omega)⟩
      · intro x hx
        exact ⟨⟨i + 1, by omega, hx.trans (nI_1 i), best_new hv hy1 hy (Or.inr e)⟩, loop_mu hx (by omega) (by omega)⟩
    · refine br_t rfl ?_
      intro x hx
      exact ⟨⟨i + 1, by omega, hx.trans (nI_1 i), best_no hv hn1⟩, loop_mu hx (by omega) (by omega)⟩
  · refine br_c (fun d => fun g => ((hQ i c).1 g).1 d) (fun d => ⟨vy, stepCost_is hu hq hy ⟨vp_in_nI hq (by omega), ?_⟩⟩)
    exact br_c (fun e => Or.inl ⟨rfl, (hQ i c).2 ⟨d, e⟩⟩) (fun e => fun g => e ((hQ i c).1 g).2)
theorem s11_first {st far steps : Nat → Int32} {u q : Nat} (eu : st 266 = nI u) (hu : u ≤ 200) (hq : q < 266) {Q : Nat → Prop} (hQ : ∀ k, k < nbn q → (Q (nbM q k) ↔ (far (nbM q k) + nI (fN u q (nbM q k)) = far q ∧ steps (nbM q k) + 1 = steps q))) {post : Int32 → Prop} (h : ∀ v, bestI Q (nbM q) (nbn q) v → post v) : wX11_firstOf (nI q) st far steps post := by
  unfold wX11_firstOf
  have hnb := nbn_le q
  refine ⟨fun v l => ∃ i, i ≤ nbn q ∧ l = nI i ∧ bestI Q (nbM q) i v, fun _ l => 24 - l.toNatClampNeg, ⟨0, by omega, rfl, Or.inl ⟨rfl, fun k hk => absurd hk (Nat.not_lt_zero k)⟩⟩, ?_⟩
  rintro v l ⟨i, hi, rfl, hv⟩
  refine s11_nbn hq (pk_le (nbn q) i (fun c => ?_) (fun c => ?_))
  · have e : i = nbn q := by omega
    subst e
    exact h v hv
  have hy := t_nbM_lt q hq i c
  have vy : vp_in (nI (nbM q i)) 266 := vp_in_nI hy (by omega)
  have vq : vp_in (nI q) 266 := vp_in_nI hq (by omega)
  refine s11_nb hq c ⟨vy, s11_far hq hy ⟨vq, ?_⟩⟩
  rw [eu, (fN_is (y := nbM q i) hu hq).1, nI_clamp (n := nbM q i) (by omega), nI_clamp (n := q) (by omega)]
  refine ⟨fun t => (t = 1 ∧ Q (nbM q i)) ∨ (t = 0 ∧ ¬ Q (nbM q i)), ?_, ¬ Q (nbM q i), fun g => Or.inr ⟨rfl, g⟩, ?_⟩
  · rintro t (⟨rfl, hy1⟩ | ⟨rfl, hn1⟩)
    · refine br_f (by decide) (br_c (fun d => ?_) (fun d => br_c (fun e => ?_) (fun e => ?_)))
      · intro x hx
        exact ⟨⟨i + 1, by omega, hx.trans (nI_1 i), best_new hv hy1 hy (Or.inl d)⟩, loop_mu hx (by omega) (by omega)⟩
      · intro x hx
        exact ⟨⟨i + 1, by omega, hx.trans (nI_1 i), best_old hv hy d e⟩, loop_mu hx (by omega) (by omega)⟩
      · intro x hx
        exact ⟨⟨i + 1, by omega, hx.trans (nI_1 i), best_new hv hy1 hy (Or.inr e)⟩, loop_mu hx (by omega) (by omega)⟩
    · refine br_t rfl ?_
      intro x hx
      exact ⟨⟨i + 1, by omega, hx.trans (nI_1 i), best_no hv hn1⟩, loop_mu hx (by omega) (by omega)⟩
  · refine br_c (fun d => ⟨vy, vq, ?_⟩) (fun d => fun g => d ((hQ i c).1 g).1)
    exact br_c (fun e => Or.inl ⟨rfl, (hQ i c).2 ⟨d, e⟩⟩) (fun e => fun g => e ((hQ i c).1 g).2)
/-- which first steps are on a shortest way -/
def hitQ (st : Nat → Int32) (u p q F s z : Nat) : Prop := ∃ F' s', opt (seaP st) u p z F' s' ∧ seaP st z ∧ F' + fN u q z = F ∧ s' + 1 = s
theorem hit_cls {st cost : Nat → Int32} {u p q F s : Nat} (hu : u ≤ 200) (hp : p < 266) (hq : q < 266) (ho : opt (seaP st) u p q F s) (hs : s ≤ 265) (hF : F ≤ 106400) (hc : sprOK (seaP st) u p q cost) (ec : cost q = nI (512 * F + s)) : ∀ k, k < nbn q → (hitQ st u p q F s (nb q k) ↔ (¬ cost (nb q k) = 2147483647 ∧ cost (nb q k) + nI (512 * fN u q (nb q k) + 1) = cost q)) := by
  intro k hk
  have hz := t_nb_lt q hq k hk
  have hadj : adjB (nb q k) q = true := t_sym q hq k hk
  have hfN := (fN_is (y := nb q k) hu hq).2
  rcases hc with ⟨e1, -⟩ | ⟨sp, sq, D, e1, hwt, hM, hB, hC⟩
  · rw [ec] at e1; exact absurd e1 (nI_nmax (by omega))
  have hD := wTot_bd hu (Nat.le_refl _) hwt
  have eD : D = 512 * F + s := (nI_eq (by omega) (by omega)).1 (e1.symm.trans ec)
  constructor
  · rintro ⟨F', s', ho', sz, eF, es⟩
    have := hB (nb q k) F' s' ho'.1 (opt_M hp ho') (by omega)
    rw [this, ec, nI_add]
    exact ⟨nI_nmax (by omega), congrArg nI (by omega)⟩
  · rintro ⟨h1, h2⟩
    rcases hC (nb q k) hz with g | ⟨c, g1, F', s', hw, eC, hs'⟩
    · exact absurd g h1
    · have hF' := wk_bd hu hw
      rw [g1, ec, nI_add] at h2
      have := (nI_eq (by omega) (by omega)).1 h2
      have eF : F' + fN u q (nb q k) = F := by omega
      have es : s' + 1 = s := by omega
      subst es
      refine ⟨F', s', opt_back ho hw (wk_in sp hw) sq hadj ?_, wk_in sp hw, eF, rfl⟩
      rw [fN_sym]; exact eF
theorem hit_ref {st far steps : Nat → Int32} {u p q F s : Nat} (hu : u ≤ 200) (hp : p < 266) (hq : q < 266) (hs : s ≤ 265) (hF : F ≤ 106400) (hr : refW st u p far steps) (e1 : far q = nI F) (e2 : steps q = nI s) : ∀ k, k < nbn q → (hitQ st u p q F s (nbM q k) ↔ (far (nbM q k) + nI (fN u q (nbM q k)) = far q ∧ steps (nbM q k) + 1 = steps q)) := by
  intro k hk
  have hz := t_nbM_lt q hq k hk
  have hfN := (fN_is (y := nbM q k) hu hq).2
  have hP := ref_P hr hz
  constructor
  · rintro ⟨F', s', ho', sz, eF, es⟩
    rcases hP with ⟨g1, g2⟩ | ⟨g1, g2, F0, s0, ho0, k1, k2, k3⟩
    · have hs' := opt_steps hp ho'
      by_cases sp : seaP st p
      · have := g2 sp sz F' s' ho'.1
        omega
      · have := hr.1 sp q hq
        have := (nI_eq (by omega) (by omega)).1 (e1.symm.trans this)
        omega
    · obtain ⟨z1, z2⟩ := opt_one ho0 ho'
      rw [k1, k3, e1, e2, nI_add, nI_1]
      exact ⟨congrArg nI (by omega), congrArg nI (by omega)⟩
  · rintro ⟨h1, h2⟩
    rcases hP with ⟨g1, -⟩ | ⟨g1, g2, F0, s0, ho0, k1, k2, k3⟩
    · rw [g1, e1, nI_add] at h1
      have := (nI_eq (by omega) (by omega)).1 h1
      omega
    · have hs0 := opt_steps hp ho0
      rw [k1, e1, nI_add] at h1
      rw [k3, e2, nI_1] at h2
      have z1 := (nI_eq (by omega) (by omega)).1 h1
      have z2 := (nI_eq (by omega) (by omega)).1 h2
      exact ⟨F0, s0, ho0, g2, z1, z2⟩
