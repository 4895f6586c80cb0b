/-! ===== seas: what hangs together ===== -/
def seaP (st : Nat → Int32) (p : Nat) : Prop := p < 266 ∧ ¬ st p = 1
def Conn (S : Nat → Prop) (p q : Nat) : Prop := ∀ C : Nat → Prop, C p → (∀ x y, C x → S x → S y → adjB x y = true → C y) → C q
theorem cn_refl (S : Nat → Prop) (p : Nat) : Conn S p p := fun _ h _ => h
theorem cn_trans {S : Nat → Prop} {p q r : Nat} (h1 : Conn S p q) (h2 : Conn S q r) : Conn S p r := fun C hp hc => h2 C (h1 C hp hc) hc
theorem cn_one {S : Nat → Prop} {p q : Nat} (hp : S p) (hq : S q) (h : adjB p q = true) : Conn S p q := fun _ c hc => hc p q c hp hq h
theorem t_sym : ∀ x, x < 266 → ∀ i, i < nbn x → adjB (nb x i) x = true := by decide +kernel
theorem adj_sym {x y : Nat} (hx : x < 266) (h : adjB x y = true) : adjB y x = true := by
  obtain ⟨i, hi, e⟩ := adj_iff.1 h
  rw [← e]
  exact t_sym x hx i hi
theorem cn_sym {st : Nat → Int32} {p q : Nat} (h : Conn (seaP st) p q) : Conn (seaP st) q p :=
  h (fun z => Conn (seaP st) z p) (cn_refl _ p) (fun _ _ hc sx sy ha => cn_trans (cn_one sy sx (adj_sym sx.1 ha)) hc)
theorem cn_in {S : Nat → Prop} {p q : Nat} (hp : S p) (h : Conn S p q) : S q := h S hp (fun _ _ _ _ sy _ => sy)
noncomputable def minB (S : Nat → Prop) (q : Nat) : Bool := @decide (S q ∧ ∀ x, Conn S q x → q ≤ x) (Classical.propDecidable _)
theorem min_iff {S : Nat → Prop} {q : Nat} : minB S q = true ↔ S q ∧ ∀ x, Conn S q x → q ≤ x := @decide_eq_true_iff _ (Classical.propDecidable _)
theorem min_ex {S : Nat → Prop} {p : Nat} (hp : S p) : ∃ f, minB S f = true ∧ Conn S p f := by
  obtain ⟨f, hf, hl⟩ := pk_least (fun x => Conn S p x) ⟨p, cn_refl S p⟩
  refine ⟨f, min_iff.2 ⟨cn_in hp hf, fun x hx => ?_⟩, hf⟩
  rcases Nat.lt_or_ge x f with q | q
  · exact absurd (cn_trans hf hx) (hl x q)
  · exact q
theorem min_one {st : Nat → Int32} {f g : Nat} (hf : minB (seaP st) f = true) (hg : minB (seaP st) g = true) (h : Conn (seaP st) f g) : f = g := by
  have h1 := (min_iff.1 hf).2 g h
  have h2 := (min_iff.1 hg).2 f (cn_sym h)
  omega
theorem s11_isLand {st : Nat → Int32} {p : Nat} (hp : p < 266) {post : Int32 → Prop} (h : post (if st p = 1 then 1 else 0)) : wX11_isLand (nI p) st post := by
  unfold wX11_isLand
  rw [nI_clamp (by omega)]
  refine ⟨vp_in_nI (by omega) (by omega), br_c (fun c => ?_) (fun c => ?_)⟩
  · rw [if_pos c] at h; exact h
  · rw [if_neg c] at h; exact h
/-! the reference -/
def okF (st sf : Nat → Int32) : Prop := ∀ p, p < 266 → (¬ seaP st p → sf p = -4) ∧ (seaP st p → ∃ f, f ≤ p ∧ sf p = nI f ∧ Conn (seaP st) p f)
def doneTo (st sf : Nat → Int32) (a : Nat) : Prop := ∀ p, p < a → seaP st p → ∀ k, k < nbn p → seaP st (nbM p k) → sf p ≤ sf (nbM p k)
def smF (sf : Nat → Int32) : Nat := fb_sm (fun p => (sf p).toNatClampNeg) 266
theorem smF_upd {sf : Nat → Int32} {a : Nat} {v : Int32} (ha : a < 266) : smF (upd sf a v) + (sf a).toNatClampNeg = smF sf + v.toNatClampNeg := by
  unfold smF
  have e : fb_sm (fun p => (upd sf a v p).toNatClampNeg) 266 = fb_sm (fun k => if k = a then v.toNatClampNeg else (fun p => (sf p).toNatClampNeg) k) 266 := by
    refine fb_sm_cong (fun k _ => ?_)
    unfold upd
    split <;> rfl
  rw [e]
  exact fb_sm_upd (fun p => (sf p).toNatClampNeg) v.toNatClampNeg ha
def refOK (st sf : Nat → Int32) : Prop := ∀ p, p < 266 → (¬ seaP st p → sf p = -4) ∧ (seaP st p → ∃ f, f < 266 ∧ minB (seaP st) f = true ∧ Conn (seaP st) p f ∧ sf p = nI f)
theorem done_ok {st sf : Nat → Int32} (ok : okF st sf) (hd : doneTo st sf 266) : refOK st sf := by
  have eqA : ∀ x y, seaP st x → seaP st y → adjB x y = true → sf x = sf y := by
    intro x y sx sy ha
    have le : ∀ x y, seaP st x → seaP st y → adjB x y = true → sf x ≤ sf y := by
      intro x y sx sy ha
      have h2 := adjM_eq sx.1 y
      rw [ha] at h2
      unfold adjM at h2
      obtain ⟨i, hi, e⟩ := (anyB_is _).1 h2
      have e := of_decide_eq_true e
      rw [← e]
      rw [← e] at sy
      exact hd x sx.1 sx i hi sy
    have h1 := (fa_le _ _).1 (le x y sx sy ha)
    have h2 := (fa_le _ _).1 (le y x sy sx (adj_sym sx.1 ha))
    rw [fa_eq]
    omega
  intro p hp
  refine ⟨(ok p hp).1, fun sp => ?_⟩
  obtain ⟨f, hf, e, hc⟩ := (ok p hp).2 sp
  have con : ∀ x, Conn (seaP st) p x → sf x = sf p := fun x hx => hx (fun z => sf z = sf p) rfl (fun x y hx sx sy ha => (eqA x y sx sy ha).symm.trans hx)
  refine ⟨f, by omega, min_iff.2 ⟨cn_in sp hc, fun x hx => ?_⟩, hc, e⟩
  have hpx := cn_trans hc hx
  have sx := cn_in sp hpx
  obtain ⟨g, hg, eg, -⟩ := (ok x sx.1).2 sx
  have : nI g = nI f := by rw [← eg, con x hpx, e]
  have hx6 := sx.1
  have := (nI_eq (by omega) (by omega)).1 this
  omega
theorem s11_laysSeas {st sf0 : Nat → Int32} {post : (Nat → Int32) → Prop} (h : ∀ sf, refOK st sf → post sf) : wX11_laysSeas st sf0 post := by
  unfold wX11_laysSeas
  refine ⟨fun l sf => ∃ a, a ≤ 266 ∧ l = nI a ∧ ∀ p, p < a → sf p = if st p = 1 then -4 else nI p, fun l _ => 266 - l.toNatClampNeg, ⟨0, by omega, rfl, fun p hp => absurd hp (Nat.not_lt_zero p)⟩, ?_⟩
  rintro l sf ⟨a, ha, rfl, hsf⟩
  refine pk_le 266 a (fun c => ?_) (fun c => ?_)
  case refine_2 =>
    refine s11_isLand c ?_
    have nxt : ∀ v, v = (if st a = 1 then (-4 : Int32) else nI a) → ∀ x : Int32, x = nI a + 1 → (∃ b, b ≤ 266 ∧ x = nI b ∧ ∀ p, p < b → upd sf a v p = if st p = 1 then -4 else nI p) := by
      intro v hv x hx
      refine ⟨a + 1, by omega, hx.trans (nI_1 a), fun p hp => ?_⟩
      by_cases e : p = a
      · subst e; rw [pk_us]; exact hv
      · rw [pk_un e]; exact hsf p (by omega)
    rw [nI_clamp (n := a) (by omega)]
    by_cases d : st a = 1
    · rw [if_pos d]
      refine br_f (by decide) ⟨vp_in_nI (by omega) (by omega), fun x hx => ⟨nxt _ (by rw [if_pos d]) x hx, ?_⟩⟩
      exact loop_mu hx c (by omega)
    · rw [if_neg d]
      refine br_t rfl ⟨vp_in_nI (by omega) (by omega), fun x hx => ⟨nxt _ (by rw [if_neg d]) x hx, ?_⟩⟩
      exact loop_mu hx c (by omega)
  have ea : a = 266 := by omega
  subst ea
  have ok0 : okF st sf := by
    intro p hp
    have e := hsf p hp
    refine ⟨fun ns => ?_, fun sp => ?_⟩
    · rw [e, if_pos]
      exact Classical.byContradiction (fun z => ns ⟨hp, z⟩)
    · rw [if_neg sp.2] at e
      exact ⟨p, Nat.le_refl p, e, cn_refl _ p⟩
  refine ⟨fun l g => okF st g ∧ (l = 0 ∨ (l = 1 ∧ doneTo st g 266)), fun l g => 2 * smF g + (if l = 0 then 1 else 0), ⟨ok0, Or.inl rfl⟩, ?_⟩
  rintro l g ⟨okg, hl⟩
  rcases hl with rfl | ⟨rfl, hd⟩
  case inr => exact br_f (by decide) (h g (done_ok okg hd))
  refine br_t rfl ?_
  refine ⟨fun l1 l2 g2 => ∃ a, a ≤ 266 ∧ l2 = nI a ∧ okF st g2 ∧ ((l1 = 0 ∧ smF g2 < smF g) ∨ (l1 = 1 ∧ g2 = g ∧ doneTo st g a)), fun _ l2 _ => 266 - l2.toNatClampNeg, ⟨0, by omega, rfl, okg, Or.inr ⟨rfl, rfl, fun p hp => absurd hp (Nat.not_lt_zero p)⟩⟩, ?_⟩
  rintro l1 l2 g2 ⟨a, ha, rfl, ok2, hc2⟩
  refine pk_le 266 a (fun c => ?_) (fun c => ?_)
  · have ea : a = 266 := by omega
    subst ea
    rcases hc2 with ⟨rfl, hlt⟩ | ⟨rfl, rfl, hd⟩
    · refine ⟨⟨ok2, Or.inl rfl⟩, ?_⟩
      show 2 * smF g2 + (if (0 : Int32) = 0 then 1 else 0) < 2 * smF g + (if (0 : Int32) = 0 then 1 else 0)
      rw [if_pos rfl]
      omega
    · refine ⟨⟨ok2, Or.inr ⟨rfl, hd⟩⟩, ?_⟩
      show 2 * smF g2 + (if (1 : Int32) = 0 then 1 else 0) < 2 * smF g2 + (if (0 : Int32) = 0 then 1 else 0)
      rw [if_pos rfl, if_neg (by decide)]
      omega
  have hnb := nbn_le a
  refine ⟨fun l1 l3 g3 => ∃ k, k ≤ nbn a ∧ l3 = nI k ∧ okF st g3 ∧ ((l1 = 0 ∧ smF g3 < smF g) ∨ (l1 = 1 ∧ g3 = g ∧ doneTo st g a ∧ ∀ k', k' < k → seaP st a → seaP st (nbM a k') → g a ≤ g (nbM a k'))), fun _ l3 _ => 24 - l3.toNatClampNeg, ⟨0, by omega, rfl, ok2, ?_⟩, ?_⟩
  · rcases hc2 with hlt | ⟨e1, e2, hd⟩
    · exact Or.inl hlt
    · exact Or.inr ⟨e1, e2, hd, fun k' hk' => absurd hk' (Nat.not_lt_zero k')⟩
  rintro l1' l3 g3 ⟨k, hk, rfl, ok3, hc3⟩
  refine s11_nbn c (pk_le (nbn a) k (fun d => ?_) (fun d => ?_))
  · have ek : k = nbn a := by omega
    subst ek
    intro x hx
    refine ⟨⟨a + 1, by omega, hx.trans (nI_1 a), ok3, ?_⟩, loop_mu hx c (by omega)⟩
    rcases hc3 with hlt | ⟨e1, e2, hd, hk2⟩
    · exact Or.inl hlt
    · refine Or.inr ⟨e1, e2, fun p hp sp k' hk' sq => ?_⟩
      by_cases e : p = a
      · subst e; exact hk2 k' hk' sp sq
      · exact hd p (by omega) sp k' hk' sq
  · have hq := t_nbM_lt a c k d
    refine s11_nb c d ?_
    have same : (seaP st a → seaP st (nbM a k) → g3 a ≤ g3 (nbM a k)) → ∀ x : Int32, x = nI k + 1 → ((∃ k, k ≤ nbn a ∧ x = nI k ∧ okF st g3 ∧ ((l1' = 0 ∧ smF g3 < smF g) ∨ (l1' = 1 ∧ g3 = g ∧ doneTo st g a ∧ ∀ k', k' < k → seaP st a → seaP st (nbM a k') → g a ≤ g (nbM a k')))) ∧ 24 - x.toNatClampNeg < 24 - (nI k).toNatClampNeg) := by
      intro hle x hx
      refine ⟨⟨k + 1, by omega, hx.trans (nI_1 k), ok3, ?_⟩, loop_mu hx (by omega) (by omega)⟩
      rcases hc3 with hlt | ⟨e1, e2, hd, hk2⟩
      · exact Or.inl hlt
      · refine Or.inr ⟨e1, e2, hd, fun k' hk' => ?_⟩
        by_cases e : k' = k
        · subst e; subst e2; exact hle
        · exact hk2 k' (by omega)
    refine s11_isLand c ?_
    by_cases la : st a = 1
    · rw [if_pos la]
      exact br_f (by decide) (same (fun sa => absurd la sa.2))
    rw [if_neg la]
    refine br_t rfl (s11_isLand hq ?_)
    by_cases lq : st (nbM a k) = 1
    · rw [if_pos lq]
      exact br_f (by decide) (same (fun _ sq => absurd lq sq.2))
    rw [if_neg lq]
    have sa : seaP st a := ⟨c, la⟩
    have sq : seaP st (nbM a k) := ⟨hq, lq⟩
    have va : vp_in (nI a) 266 := vp_in_nI c (by omega)
    have vq : vp_in (nI (nbM a k)) 266 := vp_in_nI hq (by omega)
    rw [nI_clamp (n := a) (by omega), nI_clamp (n := nbM a k) (by omega)]
    refine br_t rfl ⟨vq, va, br_c (fun e => same (fun _ _ => e)) (fun e => ⟨vq, va, fun x hx => ?_⟩)⟩
    obtain ⟨fa, hfa, efa, -⟩ := (ok3 a c).2 sa
    obtain ⟨fq, hfq, efq, hcq⟩ := (ok3 (nbM a k) hq).2 sq
    have hlt : fq < fa := by
      rw [efa, efq] at e
      exact Nat.lt_of_not_le (fun z => e (nI_le z (by omega)))
    have haq : adjB a (nbM a k) = true := by
      rw [← adjM_eq c]
      exact (anyB_is _).2 ⟨k, d, decide_eq_true rfl⟩
    have hsum := smF_upd (sf := g3) (a := a) (v := g3 (nbM a k)) c
    rw [efa, efq, nI_clamp (by omega), nI_clamp (by omega), ← efq] at hsum
    refine ⟨⟨k + 1, by omega, hx.trans (nI_1 k), fun p hp => ?_, Or.inl ⟨rfl, ?_⟩⟩, loop_mu hx (by omega) (by omega)⟩
    · by_cases ep : p = a
      · subst ep
        refine ⟨fun ns => absurd sa ns, fun _ => ⟨fq, by omega, ?_, cn_trans (cn_one sa sq haq) hcq⟩⟩
        rw [pk_us]; exact efq
      · rw [pk_un ep]; exact ok3 p hp
    · rcases hc3 with ⟨-, h3⟩ | ⟨-, e2, -⟩
      · omega
      · subst e2; omega
/-- how many seas begin ahead -/
theorem s11_ahead {st sf : Nat → Int32} (ok : refOK st sf) {a : Nat} (ha : a ≤ 266) {post : Int32 → Prop} (h : post (nI (fb_ct (minB (seaP st)) a))) : wX11_seasAhead (nI a) sf post := by
  unfold wX11_seasAhead
  refine ⟨fun t l => ∃ q, q ≤ a ∧ l = nI q ∧ t = nI (fb_ct (minB (seaP st)) q), fun _ l => 266 - l.toNatClampNeg, ⟨0, by omega, rfl, rfl⟩, ?_⟩
  rintro t l ⟨q, hq, rfl, rfl⟩
  refine pk_le a q (fun c => ?_) (fun c => ?_)
  · have e : q = a := by omega
    subst e
    exact h
  · rw [nI_clamp (n := q) (by omega)]
    have hq6 : q < 266 := by omega
    have key : sf q = nI q ↔ minB (seaP st) q = true := by
      constructor
      · intro e
        have sq : seaP st q := by
          refine Classical.byContradiction (fun z => ?_)
          rw [(ok q hq6).1 z] at e
          have := nI_pos (n := q) (by omega)
          rw [← e] at this
          exact this (by decide)
        obtain ⟨f, hf, hm, -, ef⟩ := (ok q hq6).2 sq
        have : f = q := (nI_eq (by omega) (by omega)).1 (ef.symm.trans e)
        subst this
        exact hm
      · intro hm
        obtain ⟨f, hf, hfm, hc, ef⟩ := (ok q hq6).2 (min_iff.1 hm).1
        rw [ef, min_one hm hfm hc]
    refine ⟨vp_in_nI hq6 (by omega), br_c (fun d => ?_) (fun d => ?_)⟩
    · intro x hx y hy
      refine ⟨⟨q + 1, by omega, hy.trans (nI_1 q), ?_⟩, loop_mu hy (by omega) (by omega)⟩
      rw [fb_ct_succ, key.1 d, if_pos rfl, hx]
      exact nI_1 _
    · intro x hx y hy
      refine ⟨⟨q + 1, by omega, hy.trans (nI_1 q), ?_⟩, loop_mu hy (by omega) (by omega)⟩
      rw [fb_ct_succ, ts_nt (fun z => d (key.2 z)), hx]
      exact nI_add _ 0
