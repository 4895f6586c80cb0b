/-! ===== the route's length ===== -/
def stopN (st : Nat → Int32) (i : Nat) : Nat := (st (270 + i)).toNatClampNeg
def legOK (st : Nat → Int32) (u j g : Nat) : Prop := ∃ cost D, sprOK (seaP st) u (stopN st j) (stopN st (j + 1)) cost ∧ cost (stopN st (j + 1)) = nI D ∧ D < 2 ^ 26 ∧ g = D / 512
def legNo (st : Nat → Int32) (u j : Nat) : Prop := ∃ cost, sprOK (seaP st) u (stopN st j) (stopN st (j + 1)) cost ∧ cost (stopN st (j + 1)) = 2147483647
def routeC (st : Nat → Int32) (u n : Nat) (r : Int32) : Prop := ∃ G : Nat → Nat, (r = nI (fb_sm G (n - 1)) ∧ ∀ j, j + 1 < n → legOK st u j (G j)) ∨ (r = -4 ∧ ∃ i, i + 1 < n ∧ legNo st u i ∧ ∀ j, j < i → legOK st u j (G j))
theorem stopN_is {st : Nat → Int32} {n : Nat} (hpl : ∀ i, i < n → ∃ p, p < 266 ∧ st (270 + i) = nI p) {i : Nat} (hi : i < n) : stopN st i < 266 ∧ st (270 + i) = nI (stopN st i) := by
  obtain ⟨p, hp, e⟩ := hpl i hi
  unfold stopN
  rw [e, nI_clamp (by omega)]
  exact ⟨hp, rfl⟩
theorem s10_routeLength {st stops : Nat → Int32} {bits : Nat → Int64} (hb : ∀ p, p < 320 → bitAt bits p = decide (p < 266 ∧ st p = 1)) {u n : Nat} (hu : u ≤ 200) (hn : n ≤ 8) (hs : ∀ i, i < 8 → stops i = st (270 + i)) (hpl : ∀ i, i < n → ∃ p, p < 266 ∧ st (270 + i) = nI p) {cost0 : Nat → Int32} {heap0 : Nat → Int64} {wait0 : Int32} {post : Int32 → (Nat → Int32) → (Nat → Int64) → Int32 → Prop} (h : ∀ r cost heap wait, routeC st u n r → post r cost heap wait) : wX10_routeLength bits stops (nI n) (nI u) cost0 heap0 wait0 post := by
  unfold wX10_routeLength
  refine ⟨fun l1 l2 _ _ _ => ∃ i G, i ≤ n - 1 ∧ l2 = nI (i + 1) ∧ l1 = nI (fb_sm G i) ∧ ∀ j, j < i → legOK st u j (G j), fun _ l2 _ _ _ => 10 - l2.toNatClampNeg, ⟨0, fun _ => 0, Nat.zero_le _, rfl, rfl, fun j hj => absurd hj (Nat.not_lt_zero j)⟩, ?_⟩
  rintro l1 l2 c2 h2 w2 ⟨i, G, hi, rfl, rfl, hG⟩
  refine pk_le n (i + 1) (fun c => ?_) (fun c => ?_)
  · have e : i = n - 1 := by omega
    subst e
    exact h _ _ _ _ ⟨G, Or.inl ⟨rfl, fun j hj => hG j (by omega)⟩⟩
  · rw [nI_pred, nI_clamp (n := i) (by omega), nI_clamp (n := i + 1) (by omega)]
    obtain ⟨hp, e1⟩ := stopN_is hpl (i := i) (by omega)
    obtain ⟨hq, e2⟩ := stopN_is hpl (i := i + 1) (by omega)
    refine ⟨vp_in_nI (by omega) (by omega), fun x3 hx3 => ⟨vp_in_nI (by omega) (by omega), fun x5 hx5 => ?_⟩⟩
    rw [hs i (by omega), e1] at hx3
    rw [hs (i + 1) (by omega), e2] at hx5
    subst hx3 hx5
    refine s8_spread hb hu hp hq (fun cost' heap' wait' hc => ⟨vp_in_nI hq (by omega), ?_⟩)
    rw [nI_clamp (n := stopN st (i + 1)) (by omega)]
    intro x10 hx10
    subst hx10
    refine br_c (fun d => ?_) (fun d => ?_)
    · exact h _ _ _ _ ⟨G, Or.inr ⟨rfl, i, c, ⟨cost', hc, d⟩, hG⟩⟩
    · obtain ⟨D, hD1, hD2⟩ : ∃ D, cost' (stopN st (i + 1)) = nI D ∧ D < 2 ^ 26 := by
        rcases id hc with ⟨k, -⟩ | ⟨-, -, D, k, hwt, -⟩
        · exact absurd k d
        · exact ⟨D, k, wTot_bd hu (Nat.le_refl _) hwt⟩
      unfold wX8_farOf
      rw [hD1, pk_shrN (by omega) ((9 : Int32) &&& 31) 9 (by decide)]
      intro x hx y hy
      rw [nI_add] at hx
      have hsm : fb_sm (fun j => if j = i then D / 2 ^ 9 else G j) (i + 1) = fb_sm G i + D / 2 ^ 9 := by
        rw [fb_sm_succ, if_pos rfl]
        rw [fb_sm_cong (g := G) (fun k hk => if_neg (by omega))]
      refine ⟨⟨i + 1, fun j => if j = i then D / 2 ^ 9 else G j, by omega, hy.trans (nI_1 _), ?_, fun j hj => ?_⟩, ?_⟩
      · rw [hx, hsm]
      · show legOK st u j (if j = i then D / 2 ^ 9 else G j)
        by_cases e : j = i
        · rw [if_pos e, e]
          exact ⟨cost', D, hc, hD1, hD2, by omega⟩
        · rw [if_neg e]; exact hG j (by omega)
      · rw [hy, nI_1]
        show 10 - (nI (i + 1 + 1)).toNatClampNeg < 10 - (nI (i + 1)).toNatClampNeg
        rw [nI_clamp (by omega), nI_clamp (by omega)]
        omega
theorem s11_lengthOf {st far0 steps0 : Nat → Int32} {u n : Nat} {r : Int32} (h10 : 10 ≤ u) (hu : u ≤ 200) (eu : st 266 = nI u) (en : st 269 = nI n) (hn : n ≤ 8) (hpl : ∀ i, i < n → ∃ p, p < 266 ∧ st (270 + i) = nI p) (hr : routeC st u n r) {post : Int32 → (Nat → Int32) → (Nat → Int32) → Prop} (h : ∀ far steps, post r far steps) : wX11_lengthOf st far0 steps0 post := by
  obtain ⟨G, hG⟩ := hr
  unfold wX11_lengthOf
  have hleg : ∀ i, (∀ k, i = k → k + 1 < n → legNo st u k → r = -4) := by
    intro i k _ hk hno
    rcases hG with ⟨-, h2⟩ | ⟨h1, -⟩
    · obtain ⟨c1, hc1, e1⟩ := hno
      obtain ⟨c2, D, hc2, e2, hD, -⟩ := h2 k hk
      rcases hc1 with ⟨-, k1⟩ | ⟨-, -, D1, k1, hwt, -⟩
      · rcases hc2 with ⟨k2, -⟩ | ⟨sp, sq, D2, -, ⟨F, s, hw, -⟩, -⟩
        · rw [e2] at k2; exact absurd k2 (nI_nmax (by omega))
        · exact absurd hw (k1 sp sq F s)
      · have := wTot_bd hu (Nat.le_refl _) hwt
        rw [e1] at k1; exact absurd k1.symm (nI_nmax (by omega))
    · exact h1
  have ok : ∀ j, j + 1 < n → (legNo st u j ∧ r = -4) ∨ legOK st u j (G j) ∨ (r = -4 ∧ ∃ i, i < j ∧ legNo st u i) := by
    intro j hj
    rcases hG with ⟨-, h2⟩ | ⟨h1, i, hi, hno, h2⟩
    · exact Or.inr (Or.inl (h2 j hj))
    · rcases Nat.lt_or_ge j i with q | q
      · exact Or.inr (Or.inl (h2 j q))
      · rcases Nat.lt_or_ge i j with q2 | q2
        · exact Or.inr (Or.inr ⟨h1, i, q2, hno⟩)
        · have e : i = j := by omega
          subst e
          exact Or.inl ⟨hno, h1⟩
  refine ⟨fun l1 l2 _ _ => ∃ i, i ≤ n - 1 ∧ l2 = nI i ∧ l1 = nI (fb_sm G i) ∧ ∀ j, j < i → ¬ legNo st u j, fun _ l2 _ _ => 10 - l2.toNatClampNeg, ⟨0, Nat.zero_le _, rfl, rfl, fun j hj => absurd hj (Nat.not_lt_zero j)⟩, ?_⟩
  rintro l1 l2 f2 s2 ⟨i, hi, rfl, rfl, hno⟩
  rw [en, nI_1]
  refine pk_le n (i + 1) (fun c => ?_) (fun c => ?_)
  · have e : i = n - 1 := by omega
    rcases hG with ⟨e1, -⟩ | ⟨-, k, hk, hk2, -⟩
    · rw [e, ← e1]; exact h _ _
    · exact absurd hk2 (hno k (by omega))
  · obtain ⟨hp, e1⟩ := stopN_is hpl (i := i) (by omega)
    obtain ⟨hq, e2⟩ := stopN_is hpl (i := i + 1) (by omega)
    have e270 : ∀ i : Nat, (270 : Int32) + nI i = nI (270 + i) := fun i => nI_add 270 i
    rw [e270, nI_1, nI_clamp (n := 270 + i + 1) (by omega), nI_clamp (n := 270 + i) (by omega), show 270 + i + 1 = 270 + (i + 1) by omega, e1, e2, nI_clamp (n := stopN st i) (by omega)]
    refine ⟨vp_in_nI (by omega) (by omega), s11_laysWays h10 hu eu hq (fun far steps hrw => ⟨vp_in_nI (by omega) (by omega), vp_in_nI hp (by omega), fun x7 hx7 => ?_⟩)⟩
    subst hx7
    have hP := refP_sym (ref_P hrw hp)
    rcases ok i c with ⟨hn1, hr4⟩ | ⟨cost, D, hc, eD, hD, eg⟩ | ⟨-, k, hk, hk2⟩
    · obtain ⟨cost, hc, eM⟩ := hn1
      rcases link hu hp hc hP with ⟨-, k⟩ | ⟨F, s, -, hs, hF, k, -⟩
      · rw [← hr4]
        exact br_t k (h _ _)
      · rw [eM] at k; exact absurd k.symm (nI_nmax (by omega))
    · rcases link hu hp hc hP with ⟨k, -⟩ | ⟨F, s, -, hs, hF, k1, k2, -⟩
      · rw [eD] at k; exact absurd k (nI_nmax (by omega))
      · have eD2 := (nI_eq (by omega) (by omega)).1 (eD.symm.trans k1)
        have eG : G i = F := by omega
        rw [k2]
        refine br_f (fun e => by have := (nI_eq (b := 100000000) (by omega) (by omega)).1 e; omega) (fun x hx y hy => ?_)
        rw [nI_add, ← eG] at hx
        refine ⟨⟨i + 1, by omega, hy, hx, fun j hj => ?_⟩, ?_⟩
        · by_cases e : j = i
          · subst e
            rintro ⟨c1, hc1, e1'⟩
            rcases link hu hp hc1 hP with ⟨-, k⟩ | ⟨F', s', -, hs', hF', k, -⟩
            · rw [k2] at k
              have := (nI_eq (b := 100000000) (by omega) (by omega)).1 k
              omega
            · rw [e1'] at k; exact absurd k.symm (nI_nmax (by omega))
          · exact hno j (by omega)
        · exact loop_mu (hy.trans (nI_1 i).symm) (by omega) (by omega)
    · exact absurd hk2 (hno k hk)
