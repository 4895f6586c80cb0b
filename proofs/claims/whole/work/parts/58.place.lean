set_option maxHeartbeats 4000000 in
theorem eq_place {bits : Nat → Int64} {stops : Nat → Int32} {num : Int32} {unit : Int32} {strips : Int32} {caps : Int32} {draw : Int32} {oldest : Int32} {known : Int32} {ring : Nat → GS} {im : GS} {iold : Int32} {iknown : Int32} {iring : Nat → GS} {hasIm : Int32} {letters : Nat → Int32} {tlen : Int32} {shI : Nat → Nat → Int64} {shH : Nat → Int32} {shL : Nat → Int32} {shS : Nat → Int32} {st : Nat → Int32} {past : Nat → Int32} {acts : Int32} {image : Nat → Int32} {ipast : Nat → Int32} {iacts : Int32} {tape : Nat → Int32} {tmany : Int32} {laneOf : Nat → Int32} {sizeOf : Nat → Int32} {items : Nat → Int64} {seaOf : Nat → Int32} {queue : Nat → Int32} {snum : Int32} {seaFirst : Nat → Int32} (hR : Rel bits stops num unit strips caps draw oldest known ring im iold iknown iring hasIm letters tlen shI shH shL shS st past acts image ipast iacts tape tmany laneOf sizeOf items) (a1 : Int32) (a2 : Int32) (a3 : Int32) : wX10_place a1 a2 a3 bits strips caps seaOf queue snum (fun (r : Int32) (seaOf' : Nat → Int32) (queue' : Nat → Int32) (snum' : Int32) => wX11_place a1 a2 a3 st seaFirst (fun (r' : Int32) (seaFirst' : Nat → Int32) => r = r' ∧ Rel bits stops num unit strips caps draw oldest known ring im iold iknown iring hasIm letters tlen shI shH shL shS st past acts image ipast iacts tape tmany laneOf sizeOf items)) := by
  obtain ⟨hG, -, -, -, -⟩ := id hR
  obtain ⟨⟨h01, hu, ⟨n, hn, en⟩, hc, hm, hd⟩, hb, hs, e1, e2, e3, e4, e5⟩ := id hG
  have hb : ∀ p, p < 320 → bitAt bits p = decide (p < 266 ∧ st p = 1) := hb
  have es : strips = nI n := e3.trans en
  have ec : caps = st 268 := e4
  have hn : stripN n := hn
  clear e1 e2 e3 e4 e5 hs
  subst es
  unfold wX10_place
  refine q1_isPlace ?_
  refine br_c (fun h0 => by unfold wX11_place; exact q11_isPlace (br_t h0 ⟨rfl, hR⟩)) (fun h0 => ?_)
  obtain ⟨hl, m, hm24, em⟩ := fPlace_yes h0
  subst em
  obtain ⟨p, hp, ep, er⟩ := numOf hl hm24
  have fin : ∀ {post : Int32 → (Nat → Int32) → Prop}, ((a3 = (0 : Int32) → post (nI p) seaFirst) ∧ (¬ a3 = (0 : Int32) → ((a3 = (1 : Int32) → vp_in (nI p) 279 ∧ post (st (nI p).toNatClampNeg) seaFirst) ∧ (¬ a3 = (1 : Int32) → ((a3 = (2 : Int32) → wX11_seaOf (nI p) st seaFirst (fun (r9 : Int32) (seaFirst_c8 : Nat → Int32) => post r9 seaFirst_c8)) ∧ (¬ a3 = (2 : Int32) → ((a3 = (3 : Int32) → wX11_isOnStrips a1 st (fun (r11 : Int32) => ((r11 = 0 → post (-4 : Int32) seaFirst) ∧ (¬ r11 = 0 → wX11_stepOf (nI p) (fun (r13 : Int32) => wX11_wide st (fun (r14 : Int32) => ¬ r14 = 0 ∧ post (r13 / r14) seaFirst)))))) ∧ (¬ a3 = (3 : Int32) → ((a3 = (4 : Int32) → wX11_isOnCap a1 st (fun (r17 : Int32) => ((r17 = 0 → post (0 : Int32) seaFirst) ∧ (¬ r17 = 0 → post (1 : Int32) seaFirst)))) ∧ (¬ a3 = (4 : Int32) → post (-1 : Int32) seaFirst)))))))))) → wX11_place a1 (nI m) a3 st seaFirst post := by
    intro post hp'
    unfold wX11_place
    refine q11_isPlace (br_f h0 (q11_numberOf ?_))
    rw [ep]
    exact hp'
  refine q10_isIn (br_c (fun h1 => ?_) (fun h1 => ?_))
  · have ne : ∀ j : Nat, j ≤ 4 → ¬ a3 = nI j := fun j hj e => by
      rcases fIn_cases a3 (hi := 4) (by omega) with q | q
      · subst e
        unfold fIn at q
        rw [if_neg (nI_pos (by omega)), if_neg (nI_nlt hj (by omega))] at q
        exact absurd q (by decide)
      · exact absurd (q.1.symm.trans h1) (by decide)
    exact fin (br_f (ne 0 (by omega)) (br_f (ne 1 (by omega)) (br_f (ne 2 (by omega)) (br_f (ne 3 (by omega)) (br_f (ne 4 (by omega)) ⟨rfl, hR⟩)))))
  obtain ⟨k, hk, ek⟩ : ∃ k, k ≤ 4 ∧ a3 = nI k := by
    rcases fIn_cases a3 (hi := 4) (by omega) with q | q
    · exact absurd q h1
    · exact q.2
  refine q1_numberOf ?_
  rw [ep]
  refine br_c (fun c0 => fin (br_t c0 ⟨rfl, hR⟩)) (fun c0 => ?_)
  replace fin := fun {post} hp => fin (post := post) (br_f c0 hp)
  refine br_c (fun c1 => ?_) (fun c1 => ?_)
  · refine s_isLand (by omega) ?_
    rw [hb p (by omega)]
    replace fin := fun {post} hp' => fin (post := post) (br_t c1 ⟨vp_in_nI (by omega) (by omega), hp'⟩)
    rw [nI_clamp (by omega)] at fin
    rcases h01 p hp with q | q
    · rw [decide_eq_false (fun z => absurd (q.symm.trans z.2) (by decide))]
      exact br_t rfl (fin ⟨q.symm, hR⟩)
    · rw [decide_eq_true ⟨hp, q⟩]
      exact br_f (by decide) (fin ⟨q.symm, hR⟩)
  replace fin := fun {post} hp => fin (post := post) (br_f c1 hp)
  refine br_c (fun c2 => ?_) (fun c2 => ?_)
  · refine s5_chart hb (fun so qu hso => ⟨vp_in_nI hp (by omega), ?_⟩)
    rw [nI_clamp (by omega)]
    refine fin (br_t c2 ?_)
    unfold wX11_seaOf
    refine s11_isLand hp ?_
    by_cases d : st p = 1
    · rw [if_pos d]
      exact br_f (by decide) ⟨(hso p hp).1 (fun z => z.2 d), hR⟩
    · rw [if_neg d]
      refine br_t rfl (s11_laysSeas (fun sf hsf => ⟨vp_in_nI hp (by omega), ?_⟩))
      obtain ⟨f, hf, ef, es⟩ := sea_val hso hsf hp ⟨hp, d⟩
      rw [nI_clamp (by omega), ef]
      exact s11_ahead hsf (by omega) ⟨es, hR⟩
  replace fin := fun {post} hp => fin (post := post) (br_f c2 hp)
  refine br_c (fun c3 => ?_) (fun c3 => ?_)
  · refine q0_onS (br_c (fun d => ?_) (fun d => ?_))
    · refine fin (br_t c3 (q11_onS (br_t ?_ ⟨rfl, hR⟩)))
      rw [← ec]; exact d
    · refine s1_step hp (q0_width hn ⟨wI_ne hn, ?_⟩)
      refine fin (br_t c3 (q11_onS (br_f ?_ (s11_step hp (q11_wide hn en ⟨wI_ne hn, rfl, hR⟩)))))
      rw [← ec]; exact d
  replace fin := fun {post} hp => fin (post := post) (br_f c3 hp)
  have c4 : a3 = 4 := by
    have ne : ∀ j : Nat, ¬ a3 = nI j → k ≠ j := fun j h e => h (e ▸ ek)
    have n0 := ne 0 c0
    have n1 := ne 1 c1
    have n2 := ne 2 c2
    have n3 := ne 3 c3
    have : k = 4 := by omega
    rw [ek, this]; rfl
  refine q0_onC (br_c (fun d => ?_) (fun d => ?_))
  · refine fin (br_t c4 (q11_onC (br_t ?_ ⟨rfl, hR⟩)))
    rw [← ec]; exact d
  · refine fin (br_t c4 (q11_onC (br_f ?_ ⟨rfl, hR⟩)))
    rw [← ec]; exact d
