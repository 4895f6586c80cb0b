/-! the whole spread -/
theorem shr9 {v : Nat} (hv : v < 2 ^ 62) : (lN v >>> ((9 : Int32).toInt64 &&& 63)) = lN (v / 512) := by
  have h9 : ((9 : Int32).toInt64 &&& 63) = lN 9 := wb_c 9 (by omega)
  rw [h9, fa_eq64]
  have e1 : (lN v >>> lN 9).toInt = (lN v).toInt >>> 9 := by
    show (lN v >>> lN 9).toBitVec.toInt = (lN v).toBitVec.toInt >>> 9
    rw [Int64.toBitVec_shiftRight, BitVec.sshiftRight', show ((lN 9).toBitVec.smod 64).toNat = 9 from by decide, BitVec.toInt_sshiftRight]
  rw [e1, pk_lT (by omega), pk_lT (by omega), Int.shiftRight_eq_div_pow]
  rfl
theorem and511 {v : Nat} : (lN v &&& (511 : Int64)).toInt32 = nI (v % 512) := by
  rw [show (511 : Int64) = lN (2 ^ 9 - 1) from rfl, fb_maskL, lN_i]
theorem cN_pos {f : Nat → Nat} {n i : Nat} (hi : i < n) : 1 ≤ cN f n (f i) := fb_ct_pos.2 ⟨i, hi, decide_eq_true rfl⟩
theorem cN_some {f : Nat → Nat} {n v : Nat} (h : 1 ≤ cN f n v) : ∃ i, i < n ∧ f i = v := by
  obtain ⟨i, hi, e⟩ := fb_ct_pos.1 h
  exact ⟨i, hi, of_decide_eq_true e⟩
theorem frontier {st : Nat → Int32} {u p n T : Nat} (hp : p < 266) {E : Nat → Bool} {L : Nat → Nat} {cost : Nat → Int32} {f : Nat → Nat} (hD : DI (seaP st) u p E L cost f n T) (hu : u ≤ 200) (hfull : ∀ z, E z = true → L z = nbn z) {z F s : Nat} (hw : Walk (seaP st) u p z F s) : (E z = true ∧ ∃ d, cost z = nI d ∧ d < 2 ^ 26 ∧ d ≤ 512 * F + s) ∨ ∃ c x, x < 266 ∧ 1 ≤ cN f n (512 * c + x) ∧ c ≤ 512 * F + s := by
  obtain ⟨-, -, -, -, ie, ig, ih⟩ := hD
  have hE6 := fb_ct_le E 266
  refine hw (fun z F s => (E z = true ∧ ∃ d, cost z = nI d ∧ d < 2 ^ 26 ∧ d ≤ 512 * F + s) ∨ ∃ c x, x < 266 ∧ 1 ≤ cN f n (512 * c + x) ∧ c ≤ 512 * F + s) ?_ (fun x F s y hx sx sy ha => ?_)
  · rcases ie p hp with g | ⟨c, e1, e2, e3, e4⟩
    · rw [ih] at g; exact absurd g (nI_nmax (by omega))
    · have hc := wTot_bd hu hE6 e3
      have ec : c = 0 := (nI_eq (by omega) (by omega)).1 (e1.symm.trans ih)
      subst ec
      rcases e4 with e4 | e4
      · exact Or.inl ⟨e4, 0, ih, by omega, Nat.zero_le _⟩
      · exact Or.inr ⟨0, p, hp, e4, Nat.zero_le _⟩
  · rcases hx with ⟨hE, d, e1, hd, hle⟩ | ⟨c, x', hx', e1, hle⟩
    · obtain ⟨k, hk, ek⟩ := adj_iff.1 ha
      obtain ⟨-, -, d', hd', e2, -, -, e5⟩ := ig x hE
      have edd : d' = d := (nI_eq (by omega) (by omega)).1 (e2.symm.trans e1)
      obtain ⟨c', g1, g2⟩ := e5 k (by rw [hfull x hE]; exact hk) (by rw [ek]; exact sy)
      rw [ek] at g1 g2
      rw [edd] at g2
      have hfN := (fN_is (y := y) hu sx.1).2
      rcases ie y sy.1 with g | ⟨c, e6, e7, e8, e9⟩
      · rw [g1] at g; exact absurd g (nI_nmax (by omega))
      · have hc := wTot_bd hu hE6 e8
        have ec : c = c' := (nI_eq (by omega) (by omega)).1 (e6.symm.trans g1)
        subst ec
        rcases e9 with e9 | e9
        · exact Or.inl ⟨e9, c, g1, hc, by omega⟩
        · exact Or.inr ⟨c, y, sy.1, e9, by omega⟩
    · exact Or.inr ⟨c, x', hx', e1, by omega⟩
theorem s8_spread {st : Nat → Int32} {bits : Nat → Int64} (hb : ∀ p, p < 320 → bitAt bits p = decide (p < 266 ∧ st p = 1)) {u p q : Nat} (hu : u ≤ 200) (hp : p < 266) (hq : q < 266) {cost0 : Nat → Int32} {heap0 : Nat → Int64} {post : (Nat → Int32) → (Nat → Int64) → Int32 → Prop} (h : ∀ cost heap wait, sprOK (seaP st) u p q cost → post cost heap wait) : wX8_spread (nI p) (nI q) cost0 heap0 bits (nI u) post := by
  unfold wX8_spread
  refine s_fillI (by omega) ?_
  have eM : ∀ z, z < 266 → (fun j => if j < 266 then (2147483647 : Int32) else cost0 j) z = 2147483647 := fun z hz => if_pos hz
  refine s_isLand (by omega) ?_
  rw [hb p (by omega)]
  by_cases lp : st p = 1
  · rw [decide_eq_true ⟨hp, lp⟩]
    exact br_f (by decide) (h _ _ _ (Or.inl ⟨eM q hq, fun sp => absurd lp sp.2⟩))
  rw [decide_eq_false (fun z => lp z.2)]
  refine br_t rfl (s_isLand (by omega) ?_)
  rw [hb q (by omega)]
  by_cases lq : st q = 1
  · rw [decide_eq_true ⟨hq, lq⟩]
    exact br_f (by decide) (h _ _ _ (Or.inl ⟨eM q hq, fun _ sq => absurd lq sq.2⟩))
  rw [decide_eq_false (fun z => lq z.2)]
  have sp : seaP st p := ⟨hp, lp⟩
  have sq : seaP st q := ⟨hq, lq⟩
  refine br_t rfl ?_
  refine s8_reach (c := 0) (n := 0) (f := fun _ => 0) hp (by omega) (by omega) (fun i hi => absurd hi (Nat.not_lt_zero i)) (fun i h1 hi => absurd hi (Nat.not_lt_zero i)) (fun h1 f1 hp1 ho1 hc1 => ?_)
  have hc1' : ∀ v, cN f1 1 v = if v = p then 1 else 0 := fun v => by
    rw [hc1 v, show 512 * 0 + p = p by omega]
    exact Nat.zero_add _
  refine ⟨fun l c2 h2 w2 => ∃ T E L f n, T ≤ 1105 ∧ l = nI T ∧ w2 = nI n ∧ DI (seaP st) u p E L c2 f n T ∧ (∀ z, E z = true → L z = nbn z) ∧ pic h2 f n ∧ E q = false, fun l _ _ _ => 1105 - l.toNatClampNeg, ⟨0, fun _ => false, fun _ => 0, f1, 1, by omega, rfl, rfl, ⟨by omega, ho1, fun v hv => ?_, fun v => ?_, fun x hx => ?_, fun x hx => absurd (show false = true from hx) (by decide), ?_⟩, fun z hz => absurd (show false = true from hz) (by decide), hp1, rfl⟩, ?_⟩
  · rw [hc1' v] at hv
    by_cases t : v = p
    · exact ⟨0, p, by omega, sp, ⟨0, 0, wk_0 _ _ _, by omega, by omega⟩, 0, pk_us, Nat.le_refl _⟩
    · rw [if_neg t] at hv; exact absurd hv (by omega)
  · rw [hc1' v]
    split <;> omega
  · by_cases t : x = p
    · subst t
      refine Or.inr ⟨0, pk_us, sp, ⟨0, 0, wk_0 _ _ _, by omega, by omega⟩, Or.inr ?_⟩
      rw [hc1', if_pos (by omega)]
      exact Nat.le_refl _
    · rw [pk_un t]; exact Or.inl (eM x hx)
  · exact pk_us
  rintro l c2 h2 w2 ⟨T, E, L, f, n, hT, rfl, rfl, hD, hfull, hpic, hEq⟩
  have hE6 := fb_ct_le E 266
  obtain ⟨ia, ib, ic, id', ie, ig, ih⟩ := id hD
  have hsl := sum_le (E := E) (L := L) (fun z hz => (ig z hz).2.1)
  -- nothing waits: the place was not reached, and can't be
  have none : n = 0 → post c2 h2 (nI n) := by
    intro hn0
    have nowalk : ∀ F s, ¬ Walk (seaP st) u p q F s := fun F s hw => by
      rcases frontier hp hD hu hfull hw with ⟨g, -⟩ | ⟨c, x, -, g, -⟩
      · rw [hEq] at g; exact absurd g (by decide)
      · subst hn0; exact absurd (show 1 ≤ 0 from g) (by decide)
    refine h _ _ _ (Or.inl ⟨?_, fun _ _ => nowalk⟩)
    rcases ie q hq with g | ⟨c, -, -, ⟨F, s, hw, -⟩, -⟩
    · exact g
    · exact absurd hw (nowalk F s)
  refine pk_le 1105 T (fun a => none (by omega)) (fun a => ?_)
  refine pk_le n 0 (fun b => none (by omega)) (fun b => ?_) rfl rfl (by omega) (by omega)
  refine s8_take b (by omega) hpic ib (fun h3 f3 hp3 ho3 hc3 => ?_)
  have hmin := hOrd_top ib
  have hone := cN_pos (f := f) (n := n) (i := 0) b
  have hf62 := (hpic 0 b).2
  obtain ⟨c, x, ev, sx, hwt, c', e1, e2⟩ := ic _ hone
  have hcb := wTot_bd hu hE6 hwt
  have hx := sx.1
  intro x14 hx14
  rw [and511, ev, show (512 * c + x) % 512 = x by omega] at hx14
  subst hx14
  rw [shr9 hf62, ev, show (512 * c + x) / 512 = c by omega, lN_i]
  have least : ∀ c2' x2, x2 < 266 → 1 ≤ cN f n (512 * c2' + x2) → c ≤ c2' := fun c2' x2 hx2 hc2 => by
    obtain ⟨i, hi, ei⟩ := cN_some hc2
    have := hmin i hi
    rw [ei, ev] at this
    omega
  -- the cost of what is taken, if it isn't gone on from
  have fresh : ¬ E x = true → c2 x = nI c := fun hEx => by
    rcases ie x hx with g | ⟨c3, g1, -, g3, g4⟩
    · rw [e1] at g; exact absurd g (nI_nmax (by omega))
    · have h3 := wTot_bd hu hE6 g3
      have := least c3 x hx (g4.resolve_left hEx)
      have e3 : c3 = c' := (nI_eq (by omega) (by omega)).1 (g1.symm.trans e1)
      rw [g1]
      exact congrArg nI (by omega)
  have minX : ¬ E x = true → isM (seaP st) u p x c := fun hEx F s hw => by
    rcases frontier hp hD hu hfull hw with ⟨g, -⟩ | ⟨c3, x3, hx3, g, g2⟩
    · exact absurd g hEx
    · have := least c3 x3 hx3 g
      omega
  refine pk_eq x q (fun d => ?_) (fun d => ?_)
  · subst d
    have hEx : ¬ E x = true := by rw [hEq]; decide
    refine h _ _ _ (Or.inr ⟨sp, sx, c, fresh hEx, wTot_mono hE6 hwt, minX hEx, fun z F s hw hm hlt => ?_, fun z hz => ?_⟩)
    · rcases frontier hp hD hu hfull hw with ⟨g, d, g1, g2, g3⟩ | ⟨c3, x3, hx3, g, g2⟩
      · obtain ⟨-, -, d', hd', k1, k2, -, -⟩ := ig z g
        have := k2 F s hw
        have edd : d' = d := (nI_eq (by omega) (by omega)).1 (k1.symm.trans g1)
        have h4 : 512 * F + s ≤ d := by
          rcases ie z (ig z g).1.1 with k | ⟨c5, k5, -, k6, -⟩
          · rw [g1] at k; exact absurd k (nI_nmax (by omega))
          · have h5 := wTot_bd hu hE6 k6
            obtain ⟨F5, s5, hw5, ef5, -⟩ := k6
            have : c5 = d := (nI_eq (by omega) (by omega)).1 (k5.symm.trans g1)
            have := hm F5 s5 hw5
            omega
        rw [g1]
        exact congrArg nI (by omega)
      · have := least c3 x3 hx3 g
        omega
    · rcases ie z hz with g | ⟨c3, g1, -, g3, -⟩
      · exact Or.inl g
      · exact Or.inr ⟨c3, g1, wTot_mono hE6 g3⟩
  · refine ⟨vp_in_nI hx (by omega), ?_⟩
    rw [nI_clamp (n := x) (by omega)]
    have hc3' : ∀ v, v ≠ 512 * c + x → cN f3 (n - 1) v = cN f n v := fun v hv => by
      have := hc3 v
      rw [ev, if_neg hv] at this
      exact this
    have hc3le : ∀ v, cN f3 (n - 1) v ≤ cN f n v := fun v => by
      have := hc3 v
      omega
    have hc3x : cN f3 (n - 1) (512 * c + x) = 0 := by
      have := hc3 (512 * c + x)
      rw [ev, if_pos rfl] at this
      have := id' (512 * c + x)
      omega
    refine br_c (fun ex => ?_) (fun ex => ?_)
    · have hEx : ¬ E x = true := fun g => by
        obtain ⟨-, -, d', hd', k1, -, k3, -⟩ := ig x g
        have : d' = c := (nI_eq (by omega) (by omega)).1 (k1.symm.trans ex)
        rw [this, ← ev] at k3
        omega
      have ctE : fb_ct (fun z => if z = x then true else E z) 266 = fb_ct E 266 + 1 := by
        have := fb_ct_upd E true (i := x) (n := 266) hx
        rw [if_neg hEx, if_pos rfl, Nat.add_zero] at this
        exact this
      have hE6' := fb_ct_le (fun z => if z = x then true else E z) 266
      have Eo : ∀ z, z ≠ x → (fun z => if z = x then true else E z) z = E z := fun z hz => if_neg hz
      have Ex : (fun z => if z = x then true else E z) x = true := if_pos rfl
      refine s8_goOn (T := T + 1) (d := c) (E := fun z => if z = x then true else E z) (L := L) hb hu Ex ⟨?_, ho3, fun v hv => ?_, fun v => ?_, fun z hz => ?_, fun z hz => ?_, ih⟩ hp3 ex ?_ (fun c4 h4 f4 n4 hD4 hp4 => ?_)
      · have e : fb_sm (fun z => if (fun z => if z = x then true else E z) z then setL L x 0 z else 0) 266 = fb_sm (fun z => if E z then L z else 0) 266 := by
          refine fb_sm_cong (fun k _ => ?_)
          by_cases t : k = x
          · subst t
            rw [if_pos Ex, setL_s, if_neg hEx]
          · rw [setL_o t]
            show (if (if k = x then true else E k) then L k else 0) = _
            rw [if_neg t]
        rw [e]
        omega
      · obtain ⟨c5, x5, k1, k2, k3, k4⟩ := ic v (Nat.le_trans hv (hc3le v))
        exact ⟨c5, x5, k1, k2, wTot_mono (by omega) k3, k4⟩
      · exact Nat.le_trans (hc3le v) (id' v)
      · rcases ie z hz with g | ⟨c5, g1, g2, g3, g4⟩
        · exact Or.inl g
        · refine Or.inr ⟨c5, g1, g2, wTot_mono (by omega) g3, ?_⟩
          by_cases t : z = x
          · left; rw [t]; exact Ex
          · rcases g4 with g4 | g4
            · left; rw [Eo z t]; exact g4
            · right
              rw [hc3' _ (fun e => t (dec512 hz hx e).2)]
              exact g4
      · by_cases t : z = x
        · subst t
          refine ⟨sx, by rw [setL_s]; exact Nat.zero_le _, c, hcb, ex, minX hEx, hc3x, fun k hk => ?_⟩
          rw [setL_s] at hk
          exact absurd hk (Nat.not_lt_zero k)
        · rw [Eo z t] at hz
          obtain ⟨k1, k2, d', hd', k3, k4, k5, k6⟩ := ig z hz
          refine ⟨k1, by rw [setL_o t]; exact k2, d', hd', k3, k4, ?_, fun k hk => ?_⟩
          · have := hc3le (512 * d' + z); omega
          · rw [setL_o t] at hk; exact k6 k hk
      · obtain ⟨F, s, k1, k2, k3⟩ := hwt
        exact ⟨F, s, k1, k2, by omega⟩
      · intro z hz
        refine ⟨⟨T + 1, fun z => if z = x then true else E z, setL L x (nbn x), f4, n4, by omega, hz.trans (nI_1 T), rfl, hD4, fun w hw => ?_, hp4, ?_⟩, loop_mu hz (by omega) (by omega)⟩
        · by_cases t : w = x
          · rw [t, setL_s]
          · rw [setL_o t]
            rw [Eo w t] at hw
            exact hfull w hw
        · exact (Eo q (fun e => d e.symm)).trans hEq
    · intro z hz
      refine ⟨⟨T + 1, E, L, f3, n - 1, by omega, hz.trans (nI_1 T), rfl, ⟨by omega, ho3, fun v hv => ic v (Nat.le_trans hv (hc3le v)), fun v => Nat.le_trans (hc3le v) (id' v), fun w hw => ?_, fun w hw => ?_, ih⟩, hfull, hp3, hEq⟩, loop_mu hz (by omega) (by omega)⟩
      · rcases ie w hw with g | ⟨c5, g1, g2, g3, g4⟩
        · exact Or.inl g
        · refine Or.inr ⟨c5, g1, g2, g3, ?_⟩
          rcases g4 with g4 | g4
          · exact Or.inl g4
          · right
            rw [hc3' _ (fun e => ?_)]
            · exact g4
            · obtain ⟨k1, k2⟩ := dec512 hw hx e
              subst k1 k2
              exact ex g1
      · obtain ⟨k1, k2, d', hd', k3, k4, k5, k6⟩ := ig w hw
        exact ⟨k1, k2, d', hd', k3, k4, by have := hc3le (512 * d' + w); omega, k6⟩
