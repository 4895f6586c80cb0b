set_option maxHeartbeats 4000000 in
theorem eq_pair {bits : Nat → Int64} {stops : Nat → Int32} {num : Int32} {unit : Int32} {strips : Int32} {caps : Int32} {draw : Int32} {oldest : Int32} {known : Int32} {ring : Nat → GS} {im : GS} {iold : Int32} {iknown : Int32} {iring : Nat → GS} {hasIm : Int32} {letters : Nat → Int32} {tlen : Int32} {shI : Nat → Nat → Int64} {shH : Nat → Int32} {shL : Nat → Int32} {shS : Nat → Int32} {st : Nat → Int32} {past : Nat → Int32} {acts : Int32} {image : Nat → Int32} {ipast : Nat → Int32} {iacts : Int32} {tape : Nat → Int32} {tmany : Int32} {laneOf : Nat → Int32} {sizeOf : Nat → Int32} {items : Nat → Int64} (hR : Rel bits stops num unit strips caps draw oldest known ring im iold iknown iring hasIm letters tlen shI shH shL shS st past acts image ipast iacts tape tmany laneOf sizeOf items) (a1 : Int32) (a2 : Int32) (a3 : Int32) : wX10_pair a1 a2 a3 unit strips caps (fun (r : Int32) => wX11_pair a1 a2 a3 st (fun (r' : Int32) => r = r' ∧ Rel bits stops num unit strips caps draw oldest known ring im iold iknown iring hasIm letters tlen shI shH shL shS st past acts image ipast iacts tape tmany laneOf sizeOf items)) := by
  obtain ⟨hG, -, -, -, -⟩ := id hR
  obtain ⟨⟨-, ⟨u, hu1, hu2, eu⟩, ⟨n, hn, en⟩, -, -, -⟩, -, -, -, e2, e3, e4, -⟩ := id hG
  have eu' : unit = nI u := e2.trans eu
  have es : strips = nI n := e3.trans en
  have ec : caps = st 268 := e4
  have hn : stripN n := hn
  clear e2 e3 e4
  subst eu' es
  unfold wX10_pair
  refine q1_isNumber ?_
  refine br_c (fun h0 => by unfold wX11_pair; exact q11_isNumber (br_t h0 ⟨rfl, hR⟩)) (fun h0 => ?_)
  refine q1_isNumber ?_
  refine br_c (fun h1 => by unfold wX11_pair; exact q11_isNumber (br_f h0 (q11_isNumber (br_t h1 ⟨rfl, hR⟩)))) (fun h1 => ?_)
  refine q10_isIn ?_
  refine br_c (fun h2 => by unfold wX11_pair; exact q11_isNumber (br_f h0 (q11_isNumber (br_f h1 (q11_in (br_t h2 ⟨rfl, hR⟩)))))) (fun h2 => ?_)
  obtain ⟨p, hp, ep⟩ : ∃ k, k ≤ 265 ∧ a1 = nI k := by
    rcases fIn_cases a1 (hi := 265) (by omega) with q | q
    · exact absurd q h0
    · exact q.2
  obtain ⟨q, hq, eq⟩ : ∃ k, k ≤ 265 ∧ a2 = nI k := by
    rcases fIn_cases a2 (hi := 265) (by omega) with q | q
    · exact absurd q h1
    · exact q.2
  subst ep eq
  have hp : p < 266 := by omega
  have hq : q < 266 := by omega
  have fin : ∀ {post : Int32 → Prop}, (((if adjB p q then (1 : Int32) else 0) = 0 → post (-2 : Int32)) ∧ (¬ (if adjB p q then (1 : Int32) else 0) = 0 → ((a3 = 0 → wX11_farOf (nI p) (nI q) st (fun (r13 : Int32) => post r13)) ∧ (¬ a3 = 0 → wX11_hasStraight (nI p) (nI q) st (fun (r10 : Int32) => ((r10 = 0 → post (-4 : Int32)) ∧ (¬ r10 = 0 → wX11_straightOf (nI p) (nI q) st (fun (r12 : Int32) => post r12)))))))) → wX11_pair (nI p) (nI q) a3 st post := by
    intro post hp'
    unfold wX11_pair
    exact q11_isNumber (br_f h0 (q11_isNumber (br_f h1 (q11_in (br_f h2 (s11_adj hp hq hp'))))))
  refine s1_adj hp hq ?_
  refine br_c (fun c => fin (br_t c ⟨rfl, hR⟩)) (fun c => ?_)
  refine br_c (fun d => ?_) (fun d => ?_)
  · refine s1_row hp (s1_row hq (s0_far hp ?_))
    refine fin (br_f c (br_t d (s11_far hp hq ⟨?_, hR⟩)))
    rw [eu]
  · refine s0_onS2 hp hq ?_
    refine br_c (fun z => ?_) (fun z => ?_)
    · refine fin (br_f c (br_f d (s11_onS2 hp hq (br_t ?_ ⟨rfl, hR⟩))))
      rw [← ec]; exact z
    · refine s3_straight hu2 hn hp hq ?_
      refine fin (br_f c (br_f d (s11_onS2 hp hq (br_f ?_ (s11_straight hu2 hn hp hq eu en ⟨rfl, hR⟩)))))
      rw [← ec]; exact z
