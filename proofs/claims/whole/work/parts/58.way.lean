set_option maxHeartbeats 4000000 in
theorem eq_way {bits : Nat → Int64} {stops : Nat → Int32} {num : Int32} {unit : Int32} {strips : Int32} {caps : Int32} {draw : Int32} {oldest : Int32} {known : Int32} {ring : Nat → GS} {im : GS} {iold : Int32} {iknown : Int32} {iring : Nat → GS} {hasIm : Int32} {letters : Nat → Int32} {tlen : Int32} {shI : Nat → Nat → Int64} {shH : Nat → Int32} {shL : Nat → Int32} {shS : Nat → Int32} {st : Nat → Int32} {past : Nat → Int32} {acts : Int32} {image : Nat → Int32} {ipast : Nat → Int32} {iacts : Int32} {tape : Nat → Int32} {tmany : Int32} {laneOf : Nat → Int32} {sizeOf : Nat → Int32} {items : Nat → Int64} {cost : Nat → Int32} {heap : Nat → Int64} {wait : Int32} {farTo : Nat → Int32} {stepsTo : Nat → Int32} (hR : Rel bits stops num unit strips caps draw oldest known ring im iold iknown iring hasIm letters tlen shI shH shL shS st past acts image ipast iacts tape tmany laneOf sizeOf items) (a1 : Int32) (a2 : Int32) (a3 : Int32) : wX10_way a1 a2 a3 bits unit cost heap wait (fun (r : Int32) (cost' : Nat → Int32) (heap' : Nat → Int64) (wait' : Int32) => wX11_way a1 a2 a3 st farTo stepsTo (fun (r' : Int32) (farTo' : Nat → Int32) (stepsTo' : Nat → Int32) => r = r' ∧ Rel bits stops num unit strips caps draw oldest known ring im iold iknown iring hasIm letters tlen shI shH shL shS st past acts image ipast iacts tape tmany laneOf sizeOf items)) := by
  obtain ⟨hG, hP, hIm, hT, hS⟩ := id hR
  obtain ⟨⟨-, ⟨u, hu1, hu2, eu⟩, -⟩, hb, -, -, e2, -⟩ := id hG
  have hb : ∀ p, p < 320 → bitAt bits p = decide (p < 266 ∧ st p = 1) := hb
  have eu' : unit = nI u := e2.trans eu
  clear e2
  subst eu'
  unfold wX10_way
  refine q1_isNumber (br_c (fun h0 => by unfold wX11_way; exact q11_isNumber (br_t h0 ⟨rfl, hR⟩)) (fun h0 => ?_))
  refine q1_isNumber (br_c (fun h1 => by unfold wX11_way; exact q11_isNumber (br_f h0 (q11_isNumber (br_t h1 ⟨rfl, hR⟩)))) (fun h1 => ?_))
  refine q10_isIn (br_c (fun h2 => by unfold wX11_way; exact q11_isNumber (br_f h0 (q11_isNumber (br_f h1 (q11_in (br_t h2 ⟨rfl, hR⟩)))))) (fun h2 => ?_))
  obtain ⟨q, hq, eq⟩ : ∃ k, k ≤ 265 ∧ a1 = nI k := by
    rcases fIn_cases a1 (hi := 265) (by omega) with q | q
    · exact absurd q h0
    · exact q.2
  obtain ⟨p, hp, ep⟩ : ∃ k, k ≤ 265 ∧ a2 = nI k := by
    rcases fIn_cases a2 (hi := 265) (by omega) with q | q
    · exact absurd q h1
    · exact q.2
  subst ep eq
  have hp : p < 266 := by omega
  have hq : q < 266 := by omega
  have vq : vp_in (nI q) 266 := vp_in_nI hq (by omega)
  refine s8_spread hb hu2 hp hq (fun cost' heap' wait' hc => ⟨vq, ?_⟩)
  rw [nI_clamp (n := q) (by omega)]
  intro x11 hx11
  subst hx11
  have fin : ∀ {post : Int32 → (Nat → Int32) → (Nat → Int32) → Prop}, (∀ far steps, refW st u p far steps → ((far q = (100000000 : Int32) → post (-4 : Int32) far steps) ∧ (¬ far q = (100000000 : Int32) → ((a3 = 0 → post (far q) far steps) ∧ (¬ a3 = 0 → ((a3 = (1 : Int32) → post (steps q) far steps) ∧ (¬ a3 = (1 : Int32) → wX11_firstOf (nI q) st far steps (fun (r13 : Int32) => post r13 far steps)))))))) → wX11_way (nI q) (nI p) a3 st farTo stepsTo post := by
    intro post hp'
    unfold wX11_way
    refine q11_isNumber (br_f h0 (q11_isNumber (br_f h1 (q11_in (br_f h2 (s11_laysWays hu1 hu2 eu hp (fun far steps hr => ⟨vq, ?_⟩)))))))
    rw [nI_clamp (n := q) (by omega)]
    have hp' := hp' far steps hr
    refine br_c (fun g => hp'.1 g) (fun g => br_c (fun d => ⟨vq, (hp'.2 g).1 d⟩) (fun d => br_c (fun e => ⟨vq, ((hp'.2 g).2 d).1 e⟩) (fun e => ((hp'.2 g).2 d).2 e)))
  refine br_c (fun g => ?_) (fun g => ?_)
  · refine fin (fun far steps hr => br_t ?_ ⟨rfl, hR⟩)
    rcases link hu2 hp hc (ref_P hr hq) with ⟨-, k⟩ | ⟨F, s, -, hs, hF, k, -⟩
    · exact k
    · rw [g] at k; exact absurd k.symm (nI_nmax (by omega))
  have lk : ∀ far steps, refW st u p far steps → ∃ F s, opt (seaP st) u p q F s ∧ s ≤ 265 ∧ F ≤ 106400 ∧ cost' q = nI (512 * F + s) ∧ far q = nI F ∧ steps q = nI s := fun far steps hr => by
    rcases link hu2 hp hc (ref_P hr hq) with ⟨k, -⟩ | k
    · exact absurd k g
    · exact k
  have ne8 : ∀ F, F ≤ 106400 → ¬ nI F = (100000000 : Int32) := fun F hF e => by
    have := (nI_eq (b := 100000000) (by omega) (by omega)).1 e
    omega
  refine br_c (fun d => ?_) (fun d => ?_)
  · unfold wX8_farOf
    refine fin (fun far steps hr => ?_)
    obtain ⟨F, s, -, hs, hF, k1, k2, k3⟩ := lk far steps hr
    refine br_f (by rw [k2]; exact ne8 F hF) (br_t d ⟨?_, hR⟩)
    rw [k1, k2, far9 hF hs]
  refine br_c (fun e => ?_) (fun e => ?_)
  · unfold wX8_stepsOf
    refine fin (fun far steps hr => ?_)
    obtain ⟨F, s, -, hs, hF, k1, k2, k3⟩ := lk far steps hr
    refine br_f (by rw [k2]; exact ne8 F hF) (br_f d (br_t e ⟨?_, hR⟩))
    rw [k1, k3, step9 hF hs]
  · obtain ⟨D, hD1, hD2⟩ : ∃ D, cost' q = nI D ∧ D < 2 ^ 26 := by
      rcases hc with ⟨k, -⟩ | ⟨-, -, D, k, hwt, -⟩
      · exact absurd k g
      · exact ⟨D, k, wTot_bd hu2 (Nat.le_refl _) hwt⟩
    refine s8_first (Q := fun z => ¬ cost' z = 2147483647 ∧ cost' z + nI (512 * fN u q z + 1) = cost' q) hu2 hq (fun k _ => Iff.rfl) (fun v hv => ?_)
    refine fin (fun far steps hr => ?_)
    obtain ⟨F, s, ho, hs, hF, k1, k2, k3⟩ := lk far steps hr
    refine br_f (by rw [k2]; exact ne8 F hF) (br_f d (br_f e ?_))
    refine s11_first (Q := hitQ st u p q F s) eu hu2 hq (hit_ref hu2 hp hq hs hF hr k2 k3) (fun v' hv' => ⟨?_, hR⟩)
    have hh := hit_cls hu2 hp hq ho hs hF hc k1
    refine best_one hq ?_ hv'
    rcases hv with ⟨e1, hn⟩ | ⟨m, e1, hm, hQ, ⟨k, hk, ek⟩, hle⟩
    · exact Or.inl ⟨e1, fun k hk z => hn k hk ((hh k hk).1 z)⟩
    · refine Or.inr ⟨m, e1, hm, ?_, ⟨k, hk, ek⟩, fun k hk z => hle k hk ((hh k hk).1 z)⟩
      have := (hh k hk).2 (by rw [ek]; exact hQ)
      rw [ek] at this
      exact this
