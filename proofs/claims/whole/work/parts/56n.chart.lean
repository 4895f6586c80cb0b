/-! the class: seas filled from their least place -/
def fillI (st : Nat → Int32) (a c : Nat) (s0 so qu : Nat → Int32) (T : Nat) (qf : Nat → Nat) : Prop := 1 ≤ T ∧ qf 0 = a ∧ (∀ i, i < T → qu i = nI (qf i) ∧ qf i < 266 ∧ Conn (seaP st) a (qf i)) ∧ (∀ i j, i < j → j < T → qf i ≠ qf j) ∧ (∀ i, i < T → so (qf i) = nI c) ∧ (∀ z, (∀ i, i < T → qf i ≠ z) → so z = s0 z)
theorem fill_le {st : Nat → Int32} {a c : Nat} {s0 so qu : Nat → Int32} {T : Nat} {qf : Nat → Nat} (h : fillI st a c s0 so qu T qf) : T ≤ 266 := fb_holes 266 T qf (fun i hi => (h.2.2.1 i hi).2.1) h.2.2.2.1
theorem nI_nm1 {c : Nat} (hc : c < 2 ^ 31) : ¬ nI c = -1 := fun e => by
  have := nI_pos hc
  rw [e] at this
  exact this (by decide)
theorem fill_add {st : Nat → Int32} {a c : Nat} {s0 so qu : Nat → Int32} {T : Nat} {qf : Nat → Nat} (hc : c < 2 ^ 31) (h : fillI st a c s0 so qu T qf) {y : Nat} (hy : y < 266) (ey : so y = -1) (hcy : Conn (seaP st) a y) : T < 266 ∧ fillI st a c s0 (upd so y (nI c)) (upd qu T (nI y)) (T + 1) (fun i => if i = T then y else qf i) := by
  obtain ⟨h1, h2, h3, h4, h5, h6⟩ := h
  have hne : ∀ i, i < T → qf i ≠ y := fun i hi e => by
    have := h5 i hi
    rw [e, ey] at this
    exact nI_nm1 hc this.symm
  have hI : fillI st a c s0 (upd so y (nI c)) (upd qu T (nI y)) (T + 1) (fun i => if i = T then y else qf i) := by
    refine ⟨by omega, ?_, fun i hi => ?_, fun i j hij hj => ?_, fun i hi => ?_, fun z hz => ?_⟩
    · show (if 0 = T then y else qf 0) = a
      rw [if_neg (by omega)]; exact h2
    · show upd qu T (nI y) i = nI (if i = T then y else qf i) ∧ (if i = T then y else qf i) < 266 ∧ Conn (seaP st) a (if i = T then y else qf i)
      by_cases e : i = T
      · subst e
        rw [if_pos rfl, pk_us]; exact ⟨rfl, hy, hcy⟩
      · rw [if_neg e, pk_un e]; exact h3 i (by omega)
    · show (if i = T then y else qf i) ≠ (if j = T then y else qf j)
      rw [if_neg (by omega)]
      by_cases e : j = T
      · rw [if_pos e]; exact hne i (by omega)
      · rw [if_neg e]; exact h4 i j hij (by omega)
    · show upd so y (nI c) (if i = T then y else qf i) = nI c
      by_cases e : i = T
      · rw [if_pos e, pk_us]
      · rw [if_neg e, pk_un (hne i (by omega))]; exact h5 i (by omega)
    · have ez : z ≠ y := fun e => by
        have : (if T = T then y else qf T) ≠ z := hz T (by omega)
        rw [if_pos rfl] at this
        exact this e.symm
      rw [pk_un ez]
      refine h6 z (fun i hi => ?_)
      have : (if i = T then y else qf i) ≠ z := hz i (by omega)
      rw [if_neg (by omega)] at this
      exact this
  have := fill_le hI
  exact ⟨by omega, hI⟩
theorem s5_fill {st : Nat → Int32} {a c : Nat} {s0 q0 : Nat → Int32} (hc : c < 2 ^ 31) (sa : seaP st a) (hU : ∀ z, Conn (seaP st) a z → s0 z = -1) (hS : ∀ z, z < 266 → s0 z = -1 → seaP st z) {post : (Nat → Int32) → (Nat → Int32) → Prop} (h : ∀ so qu, (∀ z, (Conn (seaP st) a z → so z = nI c) ∧ (¬ Conn (seaP st) a z → so z = s0 z)) → post so qu) : wX5_fill (nI a) (nI c) s0 q0 post := by
  have ha := sa.1
  unfold wX5_fill
  rw [nI_clamp (n := a) (by omega)]
  refine ⟨vp_in_nI ha (by omega), ?_⟩
  refine ⟨fun t hh so qu => ∃ T H qf, t = nI T ∧ hh = nI H ∧ H ≤ T ∧ fillI st a c s0 so qu T qf ∧ ∀ i, i < H → ∀ k, k < nbn (qf i) → ¬ so (nb (qf i) k) = -1, fun _ hh _ _ => 266 - hh.toNatClampNeg, ⟨1, 0, fun _ => a, rfl, rfl, by omega, ⟨by omega, rfl, fun i hi => ?_, fun i j hij hj => absurd hij (by omega), fun i hi => pk_us, fun z hz => ?_⟩, fun i hi => absurd hi (Nat.not_lt_zero i)⟩, ?_⟩
  · have e : i = 0 := by omega
    subst e
    exact ⟨pk_us, ha, cn_refl _ a⟩
  · exact pk_un (fun e => hz 0 (by omega) e.symm)
  rintro t hh so qu ⟨T, H, qf, rfl, rfl, hHT, hI, hdone⟩
  have hT := fill_le hI
  obtain ⟨h1, h2, h3, h4, h5, h6⟩ := id hI
  refine pk_le T H (fun d => ?_) (fun d => ?_)
  · have e : H = T := by omega
    subst e
    have inM : ∀ z, Conn (seaP st) a z → ∃ i, i < H ∧ qf i = z := fun z hz => hz (fun z => Conn (seaP st) a z ∧ ∃ i, i < H ∧ qf i = z) ⟨cn_refl _ a, 0, by omega, h2⟩ (fun x y ⟨hx, i, hi, ei⟩ sx sy hxy => by
      refine ⟨cn_trans hx (cn_one sx sy hxy), ?_⟩
      refine Classical.byContradiction (fun hno => ?_)
      have e1 : so y = s0 y := h6 y (fun j hj ej => hno ⟨j, hj, ej⟩)
      rw [hU y (cn_trans hx (cn_one sx sy hxy))] at e1
      obtain ⟨k, hk, ek⟩ := adj_iff.1 hxy
      subst ei
      have := hdone i hi k hk
      rw [ek] at this
      exact this e1) |>.2
    refine h so qu (fun z => ⟨fun hz => ?_, fun hz => ?_⟩)
    · obtain ⟨i, hi, ei⟩ := inM z hz
      rw [← ei]; exact h5 i hi
    · refine h6 z (fun i hi ei => hz ?_)
      rw [← ei]
      exact (h3 i hi).2.2
  · rw [nI_clamp (n := H) (by omega)]
    refine pk_le 266 H (fun e => absurd e (by omega)) (fun _ => ?_)
    refine ⟨vp_in_nI (by omega) (by omega), fun x hx => ?_⟩
    obtain ⟨eq, hq, hcq⟩ := h3 H d
    rw [eq] at hx
    subst hx
    have hnb := nbn_le (qf H)
    have sq := cn_in sa hcq
    refine ⟨fun t k so qu => ∃ T K qf2, t = nI T ∧ k = nI K ∧ H < T ∧ K ≤ nbn (qf H) ∧ qf2 H = qf H ∧ fillI st a c s0 so qu T qf2 ∧ (∀ i, i < H → ∀ k, k < nbn (qf2 i) → ¬ so (nb (qf2 i) k) = -1) ∧ ∀ k', k' < K → ¬ so (nb (qf H) k') = -1, fun _ k _ _ => 24 - k.toNatClampNeg, ⟨T, 0, qf, rfl, rfl, d, by omega, rfl, hI, hdone, fun k' hk' => absurd hk' (Nat.not_lt_zero k')⟩, ?_⟩
    rintro t2 k so2 qu2 ⟨T2, K, qf2, rfl, rfl, hHT2, hK, eqf, hI2, hd2, hk2⟩
    have hT2 := fill_le hI2
    refine s1_nbn hq (pk_le (nbn (qf H)) K (fun f => ?_) (fun f => ?_))
    · have e : K = nbn (qf H) := by omega
      subst e
      intro x hx
      refine ⟨⟨T2, H + 1, qf2, rfl, hx.trans (nI_1 H), by omega, hI2, fun i hi k hk => ?_⟩, loop_mu hx (by omega) (by omega)⟩
      by_cases e : i = H
      · subst e; rw [eqf] at hk ⊢; exact hk2 k hk
      · exact hd2 i (by omega) k hk
    · have hy := t_nb_lt (qf H) hq K f
      refine s1_nb hq f ?_
      rw [nI_clamp (n := nb (qf H) K) (by omega), nI_clamp (n := T2) (by omega)]
      have vy : vp_in (nI (nb (qf H) K)) 266 := vp_in_nI hy (by omega)
      refine ⟨vy, br_c (fun g => ?_) (fun g => ?_)⟩
      · have sy : seaP st (nb (qf H) K) := by
          refine hS _ hy ?_
          rw [← hI2.2.2.2.2.2 _ (fun i hi ei => ?_)]
          · exact g
          · have := hI2.2.2.2.2.1 i hi
            rw [ei, g] at this
            exact nI_nm1 hc this.symm
        have hcy : Conn (seaP st) a (nb (qf H) K) := cn_trans hcq (cn_one sq sy (adj_iff.2 ⟨K, f, rfl⟩))
        obtain ⟨hT3, hI3⟩ := fill_add hc hI2 hy g hcy
        refine pk_le 266 T2 (fun e => absurd e (by omega)) (fun _ => ?_)
        refine ⟨vy, vp_in_nI hT3 (by omega), fun x hx z hz => ?_⟩
        have keep : ∀ w, ¬ so2 w = -1 → ¬ upd so2 (nb (qf H) K) (nI c) w = -1 := fun w hw => by
          by_cases e : w = nb (qf H) K
          · rw [e, pk_us]; exact nI_nm1 hc
          · rw [pk_un e]; exact hw
        refine ⟨⟨T2 + 1, K + 1, (fun i => if i = T2 then nb (qf H) K else qf2 i), hx.trans (nI_1 T2), hz.trans (nI_1 K), by omega, by omega, ?_, hI3, fun i hi k hk => ?_, fun k' hk' => ?_⟩, loop_mu hz (by omega) (by omega)⟩
        · show (if H = T2 then _ else qf2 H) = qf H
          rw [if_neg (by omega)]; exact eqf
        · have e : (if i = T2 then nb (qf H) K else qf2 i) = qf2 i := if_neg (by omega)
          have hk' : k < nbn (if i = T2 then nb (qf H) K else qf2 i) := hk
          show ¬ upd so2 (nb (qf H) K) (nI c) (nb (if i = T2 then nb (qf H) K else qf2 i) k) = -1
          rw [e] at hk' ⊢
          exact keep _ (hd2 i hi k hk')
        · by_cases e : k' = K
          · rw [e, pk_us]; exact nI_nm1 hc
          · exact keep _ (hk2 k' (by omega))
      · intro x hx
        refine ⟨⟨T2, K + 1, qf2, rfl, hx.trans (nI_1 K), hHT2, by omega, eqf, hI2, hd2, fun k' hk' => ?_⟩, loop_mu hx (by omega) (by omega)⟩
        by_cases e : k' = K
        · rw [e]; exact g
        · exact hk2 k' (by omega)
def chI (st : Nat → Int32) (a : Nat) (so : Nat → Int32) : Prop := ∀ z, z < 266 → (¬ seaP st z → so z = -4) ∧ (seaP st z → ∀ f, minB (seaP st) f = true → Conn (seaP st) z f → so z = if f < a then nI (fb_ct (minB (seaP st)) f) else -1)
def chOK (st so : Nat → Int32) : Prop := ∀ z, z < 266 → (¬ seaP st z → so z = -4) ∧ (seaP st z → ∀ f, minB (seaP st) f = true → Conn (seaP st) z f → so z = nI (fb_ct (minB (seaP st)) f))
theorem s5_chart {st s0 q0 : Nat → Int32} {bits : Nat → Int64} (hb : ∀ p, p < 320 → bitAt bits p = decide (p < 266 ∧ st p = 1)) {post : (Nat → Int32) → (Nat → Int32) → Int32 → Prop} (h : ∀ so qu, chOK st so → post so qu (nI (fb_ct (minB (seaP st)) 266))) : wX5_chart s0 q0 bits post := by
  unfold wX5_chart
  refine ⟨fun l so => ∃ a, a ≤ 266 ∧ l = nI a ∧ ∀ p, p < a → so p = if st p = 1 then -4 else -1, fun l _ => 266 - l.toNatClampNeg, ⟨0, by omega, rfl, fun p hp => absurd hp (Nat.not_lt_zero p)⟩, ?_⟩
  rintro l so ⟨a, ha, rfl, hso⟩
  refine pk_le 266 a (fun c => ?_) (fun c => ?_)
  case refine_2 =>
    refine s_isLand (by omega) ?_
    have nxt : ∀ v, v = (if st a = 1 then (-4 : Int32) else -1) → ∀ x : Int32, x = nI a + 1 → (∃ b, b ≤ 266 ∧ x = nI b ∧ ∀ p, p < b → upd so a v p = if st p = 1 then -4 else -1) := by
      intro v hv x hx
      refine ⟨a + 1, by omega, hx.trans (nI_1 a), fun p hp => ?_⟩
      by_cases e : p = a
      · subst e; rw [pk_us]; exact hv
      · rw [pk_un e]; exact hso p (by omega)
    rw [nI_clamp (n := a) (by omega), hb a (by omega)]
    by_cases d : st a = 1
    · rw [decide_eq_true ⟨c, d⟩]
      refine br_f (by decide) ⟨vp_in_nI (by omega) (by omega), fun x hx => ⟨nxt _ (by rw [if_pos d]) x hx, ?_⟩⟩
      exact loop_mu hx c (by omega)
    · rw [decide_eq_false (fun z => d z.2)]
      refine br_t rfl ⟨vp_in_nI (by omega) (by omega), fun x hx => ⟨nxt _ (by rw [if_neg d]) x hx, ?_⟩⟩
      exact loop_mu hx c (by omega)
  have ea : a = 266 := by omega
  subst ea
  refine ⟨fun l so qu sn => ∃ a, a ≤ 266 ∧ l = nI a ∧ sn = nI (fb_ct (minB (seaP st)) a) ∧ chI st a so, fun l _ _ _ => 266 - l.toNatClampNeg, ⟨0, by omega, rfl, rfl, fun z hz => ?_⟩, ?_⟩
  · have e := hso z hz
    refine ⟨fun ns => ?_, fun sz f _ _ => ?_⟩
    · rw [e, if_pos]
      exact Classical.byContradiction (fun w => ns ⟨hz, w⟩)
    · rw [e, if_neg sz.2, if_neg (Nat.not_lt_zero f)]
  clear hso
  rintro l so qu sn ⟨a, ha, rfl, rfl, hI⟩
  refine pk_le 266 a (fun c => ?_) (fun c => ?_)
  · have ea : a = 266 := by omega
    subst ea
    refine h so qu (fun z hz => ⟨(hI z hz).1, fun sz f hf hc => ?_⟩)
    rw [(hI z hz).2 sz f hf hc, if_pos (min_iff.1 hf).1.1]
  have hcl := fb_ct_le (minB (seaP st)) a
  rw [nI_clamp (n := a) (by omega)]
  refine ⟨vp_in_nI c (by omega), br_c (fun d => ?_) (fun d => ?_)⟩
  · have sa : seaP st a := by
      refine Classical.byContradiction (fun w => ?_)
      rw [(hI a c).1 w] at d
      exact absurd d (by decide)
    have hma : minB (seaP st) a = true := by
      obtain ⟨f, hf, hc⟩ := min_ex sa
      have hle := (min_iff.1 hf).2 a (cn_sym hc)
      have e := (hI a c).2 sa f hf hc
      by_cases q : f < a
      · rw [if_pos q] at e
        have h3 := fb_ct_le (minB (seaP st)) f
        exact absurd (e.symm.trans d) (nI_nm1 (by omega))
      · have : f = a := by omega
        rw [← this]; exact hf
    refine s5_fill (st := st) (by omega) sa (fun z hz => ?_) (fun z hz ez => ?_) ?_
    · rw [(hI z (cn_in sa hz).1).2 (cn_in sa hz) a hma (cn_sym hz), if_neg (Nat.lt_irrefl a)]
    · refine Classical.byContradiction (fun w => ?_)
      rw [(hI z hz).1 w] at ez
      exact absurd ez (by decide)
    · intro so' qu' hso' x hx y hy
      refine ⟨⟨a + 1, by omega, hy.trans (nI_1 a), ?_, fun z hz => ?_⟩, loop_mu hy c (by omega)⟩
      · rw [fb_ct_succ, hma, if_pos rfl, hx]
        exact nI_1 _
      · refine ⟨fun ns => ?_, fun sz f hf hc => ?_⟩
        · rw [(hso' z).2 (fun hc => ns (cn_in sa hc))]
          exact (hI z hz).1 ns
        · by_cases q : Conn (seaP st) a z
          · have : a = f := min_one hma hf (cn_trans q hc)
            rw [(hso' z).1 q, ← this, if_pos (by omega)]
          · rw [(hso' z).2 q, (hI z hz).2 sz f hf hc]
            have : f ≠ a := fun e => q (cn_sym (e ▸ hc))
            by_cases w : f < a
            · rw [if_pos w, if_pos (by omega)]
            · rw [if_neg w, if_neg (by omega)]
  · have hma : minB (seaP st) a = false := by
      refine ts_nt (fun w => d ?_)
      rw [(hI a c).2 (min_iff.1 w).1 a w (cn_refl _ a), if_neg (Nat.lt_irrefl a)]
    intro x hx
    refine ⟨⟨a + 1, by omega, hx.trans (nI_1 a), ?_, fun z hz => ⟨(hI z hz).1, fun sz f hf hc => ?_⟩⟩, loop_mu hx c (by omega)⟩
    · rw [fb_ct_succ, hma]
      rfl
    · rw [(hI z hz).2 sz f hf hc]
      have : f ≠ a := fun e => by rw [e, hma] at hf; exact absurd hf (by decide)
      by_cases w : f < a
      · rw [if_pos w, if_pos (by omega)]
      · rw [if_neg w, if_neg (by omega)]
