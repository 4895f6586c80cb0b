/-! ===== ways: the class's spread ===== -/
def DI (S : Nat → Prop) (u p : Nat) (E : Nat → Bool) (L : Nat → Nat) (cost : Nat → Int32) (f : Nat → Nat) (n T : Nat) : Prop :=
  (n + T ≤ 1 + fb_sm (fun z => if E z then L z else 0) 266) ∧
  hOrd f n ∧
  (∀ v, 1 ≤ cN f n v → ∃ c x, v = 512 * c + x ∧ S x ∧ wTot S u p x c (fb_ct E 266) ∧ ∃ c', cost x = nI c' ∧ c' ≤ c) ∧
  (∀ v, cN f n v ≤ 1) ∧
  (∀ x, x < 266 → cost x = 2147483647 ∨ ∃ c, cost x = nI c ∧ S x ∧ wTot S u p x c (fb_ct E 266) ∧ (E x = true ∨ 1 ≤ cN f n (512 * c + x))) ∧
  (∀ x, E x = true → S x ∧ L x ≤ nbn x ∧ ∃ d, d < 2 ^ 26 ∧ cost x = nI d ∧ isM S u p x d ∧ cN f n (512 * d + x) = 0 ∧ ∀ k, k < L x → S (nb x k) → ∃ c', cost (nb x k) = nI c' ∧ c' ≤ d + (512 * fN u x (nb x k) + 1)) ∧
  cost p = nI 0
def setL (L : Nat → Nat) (x i : Nat) : Nat → Nat := fun z => if z = x then i else L z
theorem setL_s (L : Nat → Nat) (x i : Nat) : setL L x i x = i := if_pos rfl
theorem setL_o {L : Nat → Nat} {x i z : Nat} (h : z ≠ x) : setL L x i z = L z := if_neg h
theorem t_sumnb : fb_sm nbn 266 = 1104 := by decide +kernel
theorem sum_le {E : Nat → Bool} {L : Nat → Nat} (h : ∀ x, E x = true → L x ≤ nbn x) : fb_sm (fun z => if E z then L z else 0) 266 ≤ 1104 := by
  rw [← t_sumnb]
  refine fb_sm_le (fun k _ => ?_)
  by_cases c : E k = true
  · rw [if_pos c]; exact h k c
  · rw [if_neg c]; exact Nat.zero_le _
theorem sum_set {E : Nat → Bool} {L : Nat → Nat} {x i j : Nat} (hx : x < 266) (hE : E x = true) : fb_sm (fun z => if E z then setL L x j z else 0) 266 + i = fb_sm (fun z => if E z then setL L x i z else 0) 266 + j := by
  have h := fb_sm_upd (fun z => if E z then setL L x i z else 0) j hx
  have e1 : fb_sm (fun k => if k = x then j else (fun z => if E z then setL L x i z else 0) k) 266 = fb_sm (fun z => if E z then setL L x j z else 0) 266 := by
    refine fb_sm_cong (fun k _ => ?_)
    by_cases q : k = x
    · subst q; rw [if_pos rfl, if_pos hE, setL_s]
    · rw [if_neg q, setL_o q]
      show (if E k then setL L x i k else 0) = _
      rw [setL_o q]
  rw [e1] at h
  have e2 : (if E x then setL L x i x else 0) = i := by rw [if_pos hE, setL_s]
  rw [e2] at h
  exact h
theorem dec512 {c c' x x' : Nat} (hx : x < 266) (hx' : x' < 266) (h : 512 * c + x = 512 * c' + x') : c = c' ∧ x = x' := by omega
theorem stepCost_is {u x y : Nat} (hu : u ≤ 200) (hx : x < 266) (hy : y < 266) {post : Int32 → Prop} (h : post (nI (512 * fN u x y + 1))) : wX8_stepCost (nI x) (nI y) (nI u) post := by
  unfold wX8_stepCost
  refine s1_row hx (s1_row hy (s0_far hx ?_))
  obtain ⟨e, hle⟩ := fN_is (y := y) hu hx
  rw [e, pk_shlN ((9 : Int32) &&& 31) 9 (by decide) (by omega), nI_1]
  rw [show fN u x y * 2 ^ 9 + 1 = 512 * fN u x y + 1 by omega]
  exact h
theorem s8_goOn {st : Nat → Int32} {bits : Nat → Int64} (hb : ∀ p, p < 320 → bitAt bits p = decide (p < 266 ∧ st p = 1)) {u p x d n T : Nat} (hu : u ≤ 200) {E : Nat → Bool} {L : Nat → Nat} {cost : Nat → Int32} {heap : Nat → Int64} {f : Nat → Nat} (hEx : E x = true) (hD : DI (seaP st) u p E (setL L x 0) cost f n T) (hpic : pic heap f n) (ed : cost x = nI d) (hwx : ∃ F s, Walk (seaP st) u p x F s ∧ d = 512 * F + s ∧ s + 1 ≤ fb_ct E 266) {post : (Nat → Int32) → (Nat → Int64) → Int32 → Prop} (h : ∀ cost' heap' f' n', DI (seaP st) u p E (setL L x (nbn x)) cost' f' n' T → pic heap' f' n' → post cost' heap' (nI n')) : wX8_goOn (nI x) cost heap (nI n) bits (nI u) post := by
  have sx : seaP st x := (hD.2.2.2.2.2.1 x hEx).1
  have hx := sx.1
  have hE6 := fb_ct_le E 266
  obtain ⟨F0, s0, hw0, ed0, hs0⟩ := hwx
  have hd26 : d < 2 ^ 26 := wTot_bd hu (m := s0) (by omega) ⟨F0, s0, hw0, ed0, Nat.le_refl _⟩
  have hnb := nbn_le x
  unfold wX8_goOn
  refine ⟨fun l c2 h2 w2 => ∃ i f2 n2, i ≤ nbn x ∧ l = nI i ∧ w2 = nI n2 ∧ DI (seaP st) u p E (setL L x i) c2 f2 n2 T ∧ pic h2 f2 n2 ∧ c2 x = nI d, fun l _ _ _ => 24 - l.toNatClampNeg, ⟨0, f, n, by omega, rfl, rfl, hD, hpic, ed⟩, ?_⟩
  rintro l c2 h2 w2 ⟨i, f2, n2, hi, rfl, rfl, hD2, hp2, ed2⟩
  refine s1_nbn hx (pk_le (nbn x) i (fun q => ?_) (fun q => ?_))
  · have e : i = nbn x := by omega
    subst e
    exact h c2 h2 f2 n2 hD2 hp2
  have hy := t_nb_lt x hx i q
  refine s1_nb hx q ⟨vp_in_nI hx (by omega), stepCost_is hu hx hy ?_⟩
  intro x6 hx6
  rw [nI_clamp (n := x) (by omega), ed2, nI_add] at hx6
  subst hx6
  have hfN := (fN_is (y := nb x i) hu hx).2
  obtain ⟨ia, ib, ic, id', ie, ig, ih⟩ := id hD2
  have hsum := sum_set (E := E) (L := L) (x := x) (i := i) (j := i + 1) hx hEx
  have hsl := sum_le (E := E) (L := setL L x i) (fun z hz => (ig z hz).2.1)
  have hsl2 : fb_sm (fun z => if E z then setL L x i z else 0) 266 + 1 ≤ 1104 := by
    have h3 := sum_le (E := E) (L := setL L x (i + 1)) (fun z hz => by
      by_cases w : z = x
      · rw [w, setL_s]; exact q
      · rw [setL_o w]
        have := (ig z hz).2.1
        rw [setL_o w] at this
        exact this)
    omega
  -- nothing changes but how many neighbours were looked at
  have same : (seaP st (nb x i) → ∃ c', c2 (nb x i) = nI c' ∧ c' ≤ d + (512 * fN u x (nb x i) + 1)) → ∀ z : Int32, z = nI i + 1 → ((∃ i f2 n2', i ≤ nbn x ∧ z = nI i ∧ nI n2 = nI n2' ∧ DI (seaP st) u p E (setL L x i) c2 f2 n2' T ∧ pic h2 f2 n2' ∧ c2 x = nI d) ∧ 24 - z.toNatClampNeg < 24 - (nI i).toNatClampNeg) := by
    intro hrel z hz
    refine ⟨⟨i + 1, f2, n2, by omega, hz.trans (nI_1 i), rfl, ⟨by omega, ib, ic, id', ie, fun w hw => ?_, ih⟩, hp2, ed2⟩, loop_mu hz (by omega) (by omega)⟩
    obtain ⟨sw, hlw, dw, hdw, e1, e2, e3, e4⟩ := ig w hw
    by_cases r : w = x
    · subst r
      have edw : dw = d := (nI_eq (by omega) (by omega)).1 (e1.symm.trans ed2)
      refine ⟨sw, by rw [setL_s]; exact q, dw, hdw, e1, e2, e3, fun k hk sk => ?_⟩
      rw [setL_s] at hk
      by_cases t : k = i
      · subst t; rw [edw]; exact hrel sk
      · exact e4 k (by rw [setL_s]; omega) sk
    · refine ⟨sw, ?_, dw, hdw, e1, e2, e3, fun k hk sk => ?_⟩
      · rw [setL_o r] at hlw ⊢; exact hlw
      · exact e4 k (by rw [setL_o r] at hk ⊢; exact hk) sk
  refine s_isLand (by omega) ?_
  rw [hb (nb x i) (by omega)]
  by_cases lq : st (nb x i) = 1
  · rw [decide_eq_true ⟨hy, lq⟩]
    exact br_f (by decide) (same (fun sy => absurd lq sy.2))
  rw [decide_eq_false (fun z => lq z.2)]
  have sy : seaP st (nb x i) := ⟨hy, lq⟩
  have hadj : adjB x (nb x i) = true := adj_iff.2 ⟨i, q, rfl⟩
  have hwy : Walk (seaP st) u p (nb x i) (F0 + fN u x (nb x i)) (s0 + 1) := wk_step hw0 sx sy hadj
  have hnew : d + (512 * fN u x (nb x i) + 1) = 512 * (F0 + fN u x (nb x i)) + (s0 + 1) := by omega
  have hwT : wTot (seaP st) u p (nb x i) (d + (512 * fN u x (nb x i) + 1)) (fb_ct E 266) := ⟨_, _, hwy, hnew, hs0⟩
  refine br_t rfl ⟨vp_in_nI hy (by omega), ?_⟩
  rw [nI_clamp (n := nb x i) (by omega)]
  refine br_c (fun r => ?_) (fun r => ?_)
  · refine same (fun _ => ?_)
    rcases ie (nb x i) hy with z | ⟨c, e1, -, e2, -⟩
    · rw [z] at r
      exact absurd ((nI_leI (a := 2147483647) (by omega) (by omega)).1 r) (by omega)
    · have hc := wTot_bd hu hE6 e2
      rw [e1] at r
      exact ⟨c, e1, (nI_leI (by omega) (by omega)).1 r⟩
  · have old : ∀ c', c2 (nb x i) = nI c' → c' < 2 ^ 31 → d + (512 * fN u x (nb x i) + 1) < c' := fun c' e1 hc' => by
      rw [e1] at r
      exact Nat.lt_of_not_le (fun g => r (nI_le g (by omega)))
    have yE : ¬ E (nb x i) = true := fun g => by
      obtain ⟨-, -, dy, hdy, e1, e2, -, -⟩ := ig _ g
      have h1 := e2 _ _ hwy
      have h2 := old dy e1 (by omega)
      omega
    have yx : nb x i ≠ x := fun e => yE (by rw [e]; exact hEx)
    have yp : nb x i ≠ p := fun e => by
      have := old 0 (e ▸ ih) (by omega)
      omega
    have e0 : cN f2 n2 (512 * (d + (512 * fN u x (nb x i) + 1)) + nb x i) = 0 := by
      rcases Nat.eq_zero_or_pos (cN f2 n2 (512 * (d + (512 * fN u x (nb x i) + 1)) + nb x i)) with z | z
      · exact z
      · obtain ⟨c, x', ev, sx', hwt, c', e1, e2⟩ := ic _ z
        obtain ⟨ec, ex⟩ := dec512 hy sx'.1 ev
        subst ex
        have hcb := wTot_bd hu hE6 hwt
        have := old c' e1 (by omega)
        omega
    refine s8_reach (f := f2) hy (by omega) (by omega) hp2 ib (fun h3 f3 hp3 ho3 hc3 => ?_)
    intro z hz
    have keep : ∀ w c', c2 w = nI c' → c' < 2 ^ 31 → ∃ c'', upd c2 (nb x i) (nI (d + (512 * fN u x (nb x i) + 1))) w = nI c'' ∧ c'' ≤ c' := fun w c' e1 hc' => by
      by_cases t : w = nb x i
      · subst t; rw [pk_us]; exact ⟨_, rfl, Nat.le_of_lt (old c' e1 hc')⟩
      · rw [pk_un t]; exact ⟨c', e1, Nat.le_refl _⟩
    refine ⟨⟨i + 1, f3, n2 + 1, by omega, hz.trans (nI_1 i), rfl, ⟨by omega, ho3, fun v hv => ?_, fun v => ?_, fun w hw => ?_, fun w hw => ?_, ?_⟩, hp3, ?_⟩, loop_mu hz (by omega) (by omega)⟩
    · rw [hc3 v] at hv
      by_cases t : v = 512 * (d + (512 * fN u x (nb x i) + 1)) + nb x i
      · exact ⟨_, nb x i, t, sy, hwT, _, pk_us, Nat.le_refl _⟩
      · rw [if_neg t] at hv
        obtain ⟨c, x', ev, sx', hwt, c', e1, e2⟩ := ic v hv
        have hcb := wTot_bd hu hE6 hwt
        obtain ⟨c'', e3, e4⟩ := keep x' c' e1 (by omega)
        exact ⟨c, x', ev, sx', hwt, c'', e3, by omega⟩
    · rw [hc3 v]
      by_cases t : v = 512 * (d + (512 * fN u x (nb x i) + 1)) + nb x i
      · rw [if_pos t, t, e0]; exact Nat.le_refl _
      · rw [if_neg t]; exact id' v
    · by_cases t : w = nb x i
      · subst t
        rw [pk_us]
        refine Or.inr ⟨_, rfl, sy, hwT, Or.inr ?_⟩
        rw [hc3, if_pos rfl]
        omega
      · rw [pk_un t]
        rcases ie w hw with g | ⟨c, e1, e2, e3, e4⟩
        · exact Or.inl g
        · refine Or.inr ⟨c, e1, e2, e3, ?_⟩
          rcases e4 with e4 | e4
          · exact Or.inl e4
          · refine Or.inr ?_
            rw [hc3]
            omega
    · obtain ⟨sw, hlw, dw, hdw, e1, e2, e3, e4⟩ := ig w hw
      have wy : w ≠ nb x i := fun e => yE (e ▸ hw)
      have e3' : cN f3 (n2 + 1) (512 * dw + w) = 0 := by
        rw [hc3, if_neg (fun e => wy (dec512 sw.1 hy e).2), e3]
      by_cases t : w = x
      · subst t
        have edw : dw = d := (nI_eq (by omega) (by omega)).1 (e1.symm.trans ed2)
        refine ⟨sw, by rw [setL_s]; exact q, dw, hdw, by rw [pk_un wy]; exact e1, e2, e3', fun k hk sk => ?_⟩
        rw [setL_s] at hk
        by_cases r2 : k = i
        · subst r2
          rw [edw, pk_us]
          exact ⟨_, rfl, Nat.le_refl _⟩
        · obtain ⟨c', g1, g2⟩ := e4 k (by rw [setL_s]; omega) sk
          have := (fN_is (y := nb w k) hu sw.1).2
          obtain ⟨c'', g3, g4⟩ := keep _ c' g1 (by omega)
          exact ⟨c'', g3, by omega⟩
      · refine ⟨sw, ?_, dw, hdw, by rw [pk_un wy]; exact e1, e2, e3', fun k hk sk => ?_⟩
        · rw [setL_o t] at hlw ⊢; exact hlw
        · obtain ⟨c', g1, g2⟩ := e4 k (by rw [setL_o t] at hk ⊢; exact hk) sk
          have := (fN_is (y := nb w k) hu sw.1).2
          obtain ⟨c'', g3, g4⟩ := keep _ c' g1 (by omega)
          exact ⟨c'', g3, by omega⟩
    · rw [pk_un (fun e => yp e.symm)]; exact ih
    · rw [pk_un (fun e => yx e.symm)]; exact ed2
