/-! ===== ways: the reference's table ===== -/
def shB (f Fp sp Fq sq : Nat) : Prop := Fq < 100000000 ∧ (Fq + f < Fp ∨ (Fq + f = Fp ∧ sq + 1 < sp))
theorem s11_short {u p q Fp sp Fq sq : Nat} (hu : u ≤ 200) (hp : p < 266) (hq : q < 266) {st far steps : Nat → Int32} (eu : st 266 = nI u) (e1 : far p = nI Fp) (e2 : steps p = nI sp) (e3 : far q = nI Fq) (e4 : steps q = nI sq) (h1 : Fp ≤ 100000000) (h2 : sp ≤ 100000000) (h3 : Fq ≤ 100000000) (h4 : sq ≤ 100000000) {post : Int32 → Prop} (hy : shB (fN u p q) Fp sp Fq sq → post 1) (hn : ¬ shB (fN u p q) Fp sp Fq sq → post 0) : wX11_isShorter (nI p) (nI q) st far steps post := by
  unfold wX11_isShorter
  have vp : vp_in (nI p) 266 := vp_in_nI hp (by omega)
  have vq : vp_in (nI q) 266 := vp_in_nI hq (by omega)
  obtain ⟨ef, hf⟩ := fN_is (y := q) hu hp
  unfold shB at hy hn
  refine ⟨vq, s11_far hp hq ?_⟩
  rw [eu, ef]
  intro x3 hx3
  rw [nI_clamp (n := q) (by omega), nI_clamp (n := p) (by omega), e3, e4, e1, e2]
  rw [nI_clamp (n := q) (by omega), e3, nI_add] at hx3
  subst hx3
  refine ⟨vq, fun x5 hx5 => ⟨vq, ?_⟩⟩
  rw [nI_1] at hx5
  subst hx5
  refine pk_le 100000000 Fq (fun a => hn (by omega)) (fun a => ⟨vp, ?_⟩) rfl rfl (by omega) (by omega)
  refine pk_lt (Fq + fN u p q) Fp (fun b => hy (by omega)) (fun b => ⟨vp, ?_⟩) rfl rfl (by omega) (by omega)
  refine pk_eq (Fq + fN u p q) Fp (fun c => ⟨vp, ?_⟩) (fun c => hn (by omega)) rfl rfl (by omega) (by omega)
  exact pk_le sp (sq + 1) (fun d => hn (by omega)) (fun d => hy (by omega)) rfl rfl (by omega) (by omega)
def okW (st : Nat → Int32) (u to : Nat) (far steps : Nat → Int32) : Prop := (∀ z, z < 266 → ∃ F s, far z = nI F ∧ steps z = nI s ∧ F ≤ 100000000 ∧ s ≤ 100000000 ∧ (Walk (seaP st) u to z F s ∨ F = 100000000) ∧ (¬ seaP st z → F = 100000000)) ∧ (seaP st to → far to = nI 0 ∧ steps to = nI 0) ∧ (¬ seaP st to → ∀ z, z < 266 → far z = nI 100000000)
def doneW (st : Nat → Int32) (u : Nat) (far steps : Nat → Int32) (a : Nat) : Prop := ∀ p, p < a → seaP st p → ∀ k, k < nbn p → seaP st (nbM p k) → ∀ Fp sp Fq sq, far p = nI Fp → steps p = nI sp → far (nbM p k) = nI Fq → steps (nbM p k) = nI sq → Fp ≤ 100000000 → sp ≤ 100000000 → Fq ≤ 100000000 → sq ≤ 100000000 → ¬ shB (fN u p (nbM p k)) Fp sp Fq sq
def smW (far steps : Nat → Int32) : Nat := fb_sm (fun z => (far z).toNatClampNeg * 200000000 + (steps z).toNatClampNeg) 266
theorem smW_upd {far steps : Nat → Int32} {a : Nat} {v w : Int32} (ha : a < 266) : smW (upd far a v) (upd steps a w) + ((far a).toNatClampNeg * 200000000 + (steps a).toNatClampNeg) = smW far steps + (v.toNatClampNeg * 200000000 + w.toNatClampNeg) := by
  unfold smW
  have e : fb_sm (fun z => (upd far a v z).toNatClampNeg * 200000000 + (upd steps a w z).toNatClampNeg) 266 = fb_sm (fun k => if k = a then (v.toNatClampNeg * 200000000 + w.toNatClampNeg) else (fun z => (far z).toNatClampNeg * 200000000 + (steps z).toNatClampNeg) k) 266 := by
    refine fb_sm_cong (fun k _ => ?_)
    unfold upd
    by_cases h : k = a
    · rw [if_pos h, if_pos h, if_pos h]
    · rw [if_neg h, if_neg h, if_neg h]
  rw [e]
  exact fb_sm_upd (fun z => (far z).toNatClampNeg * 200000000 + (steps z).toNatClampNeg) _ ha
def refW (st : Nat → Int32) (u to : Nat) (far steps : Nat → Int32) : Prop := (¬ seaP st to → ∀ z, z < 266 → far z = nI 100000000) ∧ (∀ z, z < 266 → far z = nI 100000000 ∨ ∃ F s, F < 100000000 ∧ far z = nI F ∧ steps z = nI s ∧ s ≤ 100000000 ∧ Walk (seaP st) u to z F s ∧ seaP st z) ∧ (seaP st to → ∀ z F s, Walk (seaP st) u to z F s → F < 100000000 → ∃ F0 s0, far z = nI F0 ∧ steps z = nI s0 ∧ F0 ≤ 100000000 ∧ s0 ≤ 100000000 ∧ (F0 < F ∨ (F0 = F ∧ s0 ≤ s)))
theorem doneW_ok {st far steps : Nat → Int32} {u to : Nat} (ok : okW st u to far steps) (hd : seaP st to → doneW st u far steps 266) : refW st u to far steps := by
  obtain ⟨h1, h2, h3⟩ := ok
  refine ⟨h3, fun z hz => ?_, fun sto z F s hw => ?_⟩
  · obtain ⟨F, s, e1, e2, hF, hs, hw, hn⟩ := h1 z hz
    by_cases c : F = 100000000
    · left; rw [e1, c]
    · right
      exact ⟨F, s, by omega, e1, e2, hs, hw.resolve_right c, Classical.byContradiction (fun g => c (hn g))⟩
  · replace hd := hd sto
    refine hw (fun z F s => F < 100000000 → ∃ F0 s0, far z = nI F0 ∧ steps z = nI s0 ∧ F0 ≤ 100000000 ∧ s0 ≤ 100000000 ∧ (F0 < F ∨ (F0 = F ∧ s0 ≤ s))) (fun _ => ⟨0, 0, (h2 sto).1, (h2 sto).2, by omega, by omega, Or.inr ⟨rfl, Nat.le_refl _⟩⟩) (fun x F s y ih sx sy ha hlt => ?_)
    obtain ⟨Fx, sx0, e1, e2, b1, b2, hle⟩ := ih (by omega)
    obtain ⟨Fy, sy0, e3, e4, b3, b4, -, -⟩ := h1 y sy.1
    have hay := adj_sym sx.1 ha
    have h5 := adjM_eq sy.1 x
    rw [hay] at h5
    unfold adjM at h5
    obtain ⟨k, hk, ek⟩ := (anyB_is _).1 h5
    have ek : nbM y k = x := of_decide_eq_true ek
    have := hd y sy.1 sy k hk (by rw [ek]; exact sx) Fy sy0 Fx sx0 e3 e4 (by rw [ek]; exact e1) (by rw [ek]; exact e2) b3 b4 b1 b2
    rw [ek, fN_sym u y x] at this
    unfold shB at this
    refine ⟨Fy, sy0, e3, e4, b3, b4, ?_⟩
    omega
theorem s11_laysWays {st far0 steps0 : Nat → Int32} {u to : Nat} (h10 : 10 ≤ u) (hu : u ≤ 200) (eu : st 266 = nI u) (hto : to < 266) {post : (Nat → Int32) → (Nat → Int32) → Prop} (h : ∀ far steps, refW st u to far steps → post far steps) : wX11_laysWays (nI to) st far0 steps0 post := by
  unfold wX11_laysWays
  refine s11_isLand hto ?_
  refine ⟨fun l fa sp => ∃ a, a ≤ 266 ∧ l = nI a ∧ ∀ p, p < a → fa p = (if p = to ∧ ¬ st to = 1 then nI 0 else nI 100000000) ∧ sp p = (if p = to then nI 0 else nI 100000000), fun l _ _ => 266 - l.toNatClampNeg, ⟨0, by omega, rfl, fun p hp => absurd hp (Nat.not_lt_zero p)⟩, ?_⟩
  rintro l fa sp ⟨a, ha, rfl, hfs⟩
  refine pk_le 266 a (fun c => ?_) (fun c => ?_)
  case refine_2 =>
    have va : vp_in (nI a) 266 := vp_in_nI c (by omega)
    rw [nI_clamp (n := a) (by omega)]
    refine ⟨fun t => t = (if a = to ∧ ¬ st to = 1 then nI 0 else nI 100000000), ?_, ¬ (a = to ∧ ¬ st to = 1), fun g => (if_neg g).symm, ?_⟩
    · rintro t rfl
      refine ⟨va, pk_eq a to (fun e => ⟨va, fun x hx => ?_⟩) (fun e => ⟨va, fun x hx => ?_⟩)⟩
      · refine ⟨⟨a + 1, by omega, hx.trans (nI_1 a), fun p hp => ?_⟩, loop_mu hx c (by omega)⟩
        by_cases g : p = a
        · subst g; rw [pk_us, pk_us, if_pos e]; exact ⟨rfl, rfl⟩
        · rw [pk_un g, pk_un g]; exact hfs p (by omega)
      · refine ⟨⟨a + 1, by omega, hx.trans (nI_1 a), fun p hp => ?_⟩, loop_mu hx c (by omega)⟩
        by_cases g : p = a
        · subst g; rw [pk_us, pk_us, if_neg e]; exact ⟨rfl, rfl⟩
        · rw [pk_un g, pk_un g]; exact hfs p (by omega)
    · refine pk_eq a to (fun e => ?_) (fun e => fun g => e g.1)
      refine s11_isLand hto ?_
      by_cases g : st to = 1
      · rw [if_pos g]
        exact br_f (by decide) (fun z => z.2 g)
      · rw [if_neg g]
        exact br_t rfl (if_pos ⟨e, g⟩).symm
  have ea : a = 266 := by omega
  subst ea
  have ok0 : okW st u to fa sp := by
    refine ⟨fun z hz => ?_, fun sto => ?_, fun nsto z hz => ?_⟩
    · obtain ⟨e1, e2⟩ := hfs z hz
      by_cases g : z = to ∧ ¬ st to = 1
      · rw [if_pos g] at e1
        rw [if_pos g.1] at e2
        refine ⟨0, 0, e1, e2, by omega, by omega, Or.inl ?_, fun ns => absurd ⟨hz, by rw [g.1]; exact g.2⟩ ns⟩
        rw [g.1]
        exact wk_0 _ _ _
      · rw [if_neg g] at e1
        by_cases g2 : z = to
        · rw [if_pos g2] at e2
          exact ⟨100000000, 0, e1, e2, by omega, by omega, Or.inr rfl, fun _ => rfl⟩
        · rw [if_neg g2] at e2
          exact ⟨100000000, 100000000, e1, e2, by omega, by omega, Or.inr rfl, fun _ => rfl⟩
    · obtain ⟨e1, e2⟩ := hfs to hto
      rw [if_pos ⟨rfl, sto.2⟩] at e1
      rw [if_pos rfl] at e2
      exact ⟨e1, e2⟩
    · rw [(hfs z hz).1, if_neg (fun g => nsto ⟨hto, g.2⟩)]
  clear hfs
  refine ⟨fun l g1 g2 => okW st u to g1 g2 ∧ ((l = 0 ∧ seaP st to) ∨ (l = 1 ∧ (seaP st to → doneW st u g1 g2 266))), fun l g1 g2 => 2 * smW g1 g2 + (if l = 0 then 1 else 0), ⟨ok0, ?_⟩, ?_⟩
  · by_cases g : st to = 1
    · rw [if_pos g]; exact Or.inr ⟨rfl, fun sto => absurd g sto.2⟩
    · rw [if_neg g]; exact Or.inl ⟨rfl, hto, g⟩
  rintro l g1 g2 ⟨okg, hl⟩
  rcases hl with ⟨rfl, sto⟩ | ⟨rfl, hd⟩
  case inr => exact br_f (by decide) (h g1 g2 (doneW_ok okg hd))
  refine br_t rfl ?_
  refine ⟨fun l1 l2 f2 s2 => ∃ a, a ≤ 266 ∧ l2 = nI a ∧ okW st u to f2 s2 ∧ ((l1 = 0 ∧ smW f2 s2 < smW g1 g2) ∨ (l1 = 1 ∧ f2 = g1 ∧ s2 = g2 ∧ doneW st u g1 g2 a)), fun _ l2 _ _ => 266 - l2.toNatClampNeg, ⟨0, by omega, rfl, okg, Or.inr ⟨rfl, rfl, rfl, fun p hp => absurd hp (Nat.not_lt_zero p)⟩⟩, ?_⟩
  rintro l1 l2 f2 s2 ⟨a, ha, rfl, ok2, hc2⟩
  refine pk_le 266 a (fun c => ?_) (fun c => ?_)
  · have ea : a = 266 := by omega
    subst ea
    rcases hc2 with ⟨rfl, hlt⟩ | ⟨rfl, rfl, rfl, hd⟩
    · refine ⟨⟨ok2, Or.inl ⟨rfl, sto⟩⟩, ?_⟩
      show 2 * smW f2 s2 + (if (0 : Int32) = 0 then 1 else 0) < 2 * smW g1 g2 + (if (0 : Int32) = 0 then 1 else 0)
      rw [if_pos rfl]
      omega
    · refine ⟨⟨ok2, Or.inr ⟨rfl, fun _ => hd⟩⟩, ?_⟩
      show 2 * smW f2 s2 + (if (1 : Int32) = 0 then 1 else 0) < 2 * smW f2 s2 + (if (0 : Int32) = 0 then 1 else 0)
      rw [if_pos rfl, if_neg (by decide)]
      omega
  have hnb := nbn_le a
  refine ⟨fun l1 l3 f3 s3 => ∃ k, k ≤ nbn a ∧ l3 = nI k ∧ okW st u to f3 s3 ∧ ((l1 = 0 ∧ smW f3 s3 < smW g1 g2) ∨ (l1 = 1 ∧ f3 = g1 ∧ s3 = g2 ∧ doneW st u g1 g2 a ∧ ∀ k', k' < k → seaP st a → seaP st (nbM a k') → ∀ Fp sp Fq sq, g1 a = nI Fp → g2 a = nI sp → g1 (nbM a k') = nI Fq → g2 (nbM a k') = nI sq → Fp ≤ 100000000 → sp ≤ 100000000 → Fq ≤ 100000000 → sq ≤ 100000000 → ¬ shB (fN u a (nbM a k')) Fp sp Fq sq)), fun _ l3 _ _ => 24 - l3.toNatClampNeg, ⟨0, by omega, rfl, ok2, ?_⟩, ?_⟩
  · rcases hc2 with hlt | ⟨e1, e2, e3, hd⟩
    · exact Or.inl hlt
    · exact Or.inr ⟨e1, e2, e3, hd, fun k' hk' => absurd hk' (Nat.not_lt_zero k')⟩
  rintro l1' l3 f3 s3 ⟨k, hk, rfl, ok3, hc3⟩
  refine s11_nbn c (pk_le (nbn a) k (fun d => ?_) (fun d => ?_))
  · have ek : k = nbn a := by omega
    subst ek
    intro x hx
    refine ⟨⟨a + 1, by omega, hx.trans (nI_1 a), ok3, ?_⟩, loop_mu hx c (by omega)⟩
    rcases hc3 with hlt | ⟨e1, e2, e3, hd, hk2⟩
    · exact Or.inl hlt
    · refine Or.inr ⟨e1, e2, e3, fun p hp spp k' hk' sq => ?_⟩
      by_cases e : p = a
      · subst e; exact hk2 k' hk' spp sq
      · exact hd p (by omega) spp k' hk' sq
  · have hq := t_nbM_lt a c k d
    refine s11_nb c d ?_
    have same : (seaP st a → seaP st (nbM a k) → ∀ Fp sp Fq sq, f3 a = nI Fp → s3 a = nI sp → f3 (nbM a k) = nI Fq → s3 (nbM a k) = nI sq → Fp ≤ 100000000 → sp ≤ 100000000 → Fq ≤ 100000000 → sq ≤ 100000000 → ¬ shB (fN u a (nbM a k)) Fp sp Fq sq) → ∀ x : Int32, x = nI k + 1 → ((∃ k, k ≤ nbn a ∧ x = nI k ∧ okW st u to f3 s3 ∧ ((l1' = 0 ∧ smW f3 s3 < smW g1 g2) ∨ (l1' = 1 ∧ f3 = g1 ∧ s3 = g2 ∧ doneW st u g1 g2 a ∧ ∀ k', k' < k → seaP st a → seaP st (nbM a k') → ∀ Fp sp Fq sq, g1 a = nI Fp → g2 a = nI sp → g1 (nbM a k') = nI Fq → g2 (nbM a k') = nI sq → Fp ≤ 100000000 → sp ≤ 100000000 → Fq ≤ 100000000 → sq ≤ 100000000 → ¬ shB (fN u a (nbM a k')) Fp sp Fq sq))) ∧ 24 - x.toNatClampNeg < 24 - (nI k).toNatClampNeg) := by
      intro hle x hx
      refine ⟨⟨k + 1, by omega, hx.trans (nI_1 k), ok3, ?_⟩, loop_mu hx (by omega) (by omega)⟩
      rcases hc3 with hlt | ⟨e1, e2, e3, hd, hk2⟩
      · exact Or.inl hlt
      · refine Or.inr ⟨e1, e2, e3, hd, fun k' hk' => ?_⟩
        by_cases e : k' = k
        · subst e; subst e2; subst e3; exact hle
        · exact hk2 k' (by omega)
    refine s11_isLand c ?_
    by_cases la : st a = 1
    · rw [if_pos la]
      exact br_f (by decide) (same (fun sa => absurd la sa.2))
    rw [if_neg la]
    refine br_t rfl (s11_isLand hq ?_)
    by_cases lq : st (nbM a k) = 1
    · rw [if_pos lq]
      exact br_f (by decide) (same (fun _ sq => absurd lq sq.2))
    rw [if_neg lq]
    have sa : seaP st a := ⟨c, la⟩
    have sq : seaP st (nbM a k) := ⟨hq, lq⟩
    have va : vp_in (nI a) 266 := vp_in_nI c (by omega)
    have vq : vp_in (nI (nbM a k)) 266 := vp_in_nI hq (by omega)
    obtain ⟨Fa, sa', ea1, ea2, ba1, ba2, hwa, -⟩ := ok3.1 a c
    obtain ⟨Fq, sq', eq1, eq2, bq1, bq2, hwq, -⟩ := ok3.1 (nbM a k) hq
    have hfN := (fN_is (y := nbM a k) hu c).2
    refine br_t rfl (s11_short hu c hq eu ea1 ea2 eq1 eq2 ba1 ba2 bq1 bq2 (fun hsh => ?_) (fun hsh => ?_))
    · refine br_f (by decide) ⟨vq, s11_far c hq ⟨va, vq, va, fun x hx => ?_⟩⟩
      obtain ⟨hq8, hlex⟩ := hsh
      have haq : adjB a (nbM a k) = true := by
        rw [← adjM_eq c]
        exact (anyB_is _).2 ⟨k, d, decide_eq_true rfl⟩
      have hw : Walk (seaP st) u to a (Fq + fN u a (nbM a k)) (sq' + 1) := by
        rw [fN_sym u a (nbM a k)]
        exact wk_step (hwq.resolve_right (by omega)) sq sa (adj_sym c haq)
      have hge := wk_ge h10 hu hw
      have e1 : f3 (nbM a k) + farV (st 266) a (nbM a k) = nI (Fq + fN u a (nbM a k)) := by
        rw [eq1, eu, (fN_is (y := nbM a k) hu c).1, nI_add]
      have e2 : s3 (nbM a k) + 1 = nI (sq' + 1) := by rw [eq2, nI_1]
      rw [nI_clamp (n := a) (by omega), nI_clamp (n := nbM a k) (by omega), e1, e2]
      have hsum := smW_upd (far := f3) (steps := s3) (a := a) (v := nI (Fq + fN u a (nbM a k))) (w := nI (sq' + 1)) c
      rw [ea1, ea2, nI_clamp (by omega), nI_clamp (by omega), nI_clamp (by omega), nI_clamp (by omega)] at hsum
      refine ⟨⟨k + 1, by omega, hx.trans (nI_1 k), ⟨fun z hz => ?_, fun st' => ?_, fun nst => absurd sto nst⟩, Or.inl ⟨rfl, ?_⟩⟩, loop_mu hx (by omega) (by omega)⟩
      · by_cases ez : z = a
        · subst ez
          rw [pk_us, pk_us]
          exact ⟨_, _, rfl, rfl, by omega, by omega, Or.inl hw, fun ns => absurd sa ns⟩
        · rw [pk_un ez, pk_un ez]; exact ok3.1 z hz
      · have hne : to ≠ a := fun e => by
          have h0 := (ok3.2.1 sto)
          rw [e, ea1, ea2] at h0
          have z1 := (nI_eq (by omega) (by omega)).1 h0.1
          have z2 := (nI_eq (by omega) (by omega)).1 h0.2
          omega
        rw [pk_un hne, pk_un hne]
        exact ok3.2.1 sto
      · have hdec : (Fq + fN u a (nbM a k)) * 200000000 + (sq' + 1) < Fa * 200000000 + sa' := by
          rcases hlex with hl | ⟨hl1, hl2⟩
          · have := Nat.mul_le_mul_right 200000000 (show Fq + fN u a (nbM a k) + 1 ≤ Fa from hl)
            omega
          · rw [hl1]
            omega
        rcases hc3 with ⟨-, h3⟩ | ⟨-, e2, e3, -⟩
        · omega
        · subst e2; subst e3; omega
    · refine br_t rfl (same (fun _ _ Fp sp Fq2 sq2 k1 k2 k3 k4 b1 b2 b3 b4 => ?_))
      have z1 := (nI_eq (by omega) (by omega)).1 (k1.symm.trans ea1)
      have z2 := (nI_eq (by omega) (by omega)).1 (k2.symm.trans ea2)
      have z3 := (nI_eq (by omega) (by omega)).1 (k3.symm.trans eq1)
      have z4 := (nI_eq (by omega) (by omega)).1 (k4.symm.trans eq2)
      subst z1 z2 z3 z4
      exact hsh
