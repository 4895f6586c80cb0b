set_option maxHeartbeats 4000000 in
theorem eq_route {bits : Nat → Int64} {stops : Nat → Int32} {num : Int32} {unit : Int32} {strips : Int32} {caps : Int32} {draw : Int32} {oldest : Int32} {known : Int32} {ring : Nat → GS} {im : GS} {iold : Int32} {iknown : Int32} {iring : Nat → GS} {hasIm : Int32} {letters : Nat → Int32} {tlen : Int32} {shI : Nat → Nat → Int64} {shH : Nat → Int32} {shL : Nat → Int32} {shS : Nat → Int32} {st : Nat → Int32} {past : Nat → Int32} {acts : Int32} {image : Nat → Int32} {ipast : Nat → Int32} {iacts : Int32} {tape : Nat → Int32} {tmany : Int32} {laneOf : Nat → Int32} {sizeOf : Nat → Int32} {items : Nat → Int64} {cost : Nat → Int32} {heap : Nat → Int64} {wait : Int32} {farTo : Nat → Int32} {stepsTo : Nat → Int32} (hR : Rel bits stops num unit strips caps draw oldest known ring im iold iknown iring hasIm letters tlen shI shH shL shS st past acts image ipast iacts tape tmany laneOf sizeOf items) (a1 : Int32) : wX10_route a1 bits stops num unit cost heap wait (fun (r : Int32) (cost' : Nat → Int32) (heap' : Nat → Int64) (wait' : Int32) => wX11_route a1 st farTo stepsTo (fun (r' : Int32) (farTo' : Nat → Int32) (stepsTo' : Nat → Int32) => r = r' ∧ Rel bits stops num unit strips caps draw oldest known ring im iold iknown iring hasIm letters tlen shI shH shL shS st past acts image ipast iacts tape tmany laneOf sizeOf items)) := by
  obtain ⟨hG, hP, hIm, hT, hS⟩ := id hR
  obtain ⟨⟨-, ⟨u, hu1, hu2, eu⟩, -, -, ⟨n, hn, en, hpl⟩, -⟩, hb, hs, e1, e2, -⟩ := id hG
  have hb : ∀ p, p < 320 → bitAt bits p = decide (p < 266 ∧ st p = 1) := hb
  have hs : ∀ i, i < 8 → stops i = st (270 + i) := hs
  have eu' : unit = nI u := e2.trans eu
  have en' : num = nI n := e1.trans en
  clear e1 e2
  subst eu' en'
  unfold wX10_route
  refine q10_isIn (br_c (fun h0 => ?_) (fun h0 => ?_))
  · unfold wX11_route
    have ne : ∀ j : Nat, j ≤ 1 → ¬ a1 = nI j := fun j hj e => by
      subst e
      unfold fIn at h0
      rw [if_neg (nI_pos (by omega)), if_neg (show ¬ (1 : Int32) < nI j from nI_nlt (a := 1) hj (by omega))] at h0
      exact absurd h0 (by decide)
    exact br_f (ne 0 (by omega)) (br_f (ne 1 (by omega)) ⟨rfl, hR⟩)
  refine br_c (fun c => ?_) (fun c => ?_)
  · unfold wX11_route
    exact br_t c ⟨en.symm, hR⟩
  · have c1 : a1 = 1 := by
      rcases fIn_cases a1 (hi := 1) (by omega) with q | ⟨-, k, hk, ek⟩
      · exact absurd q h0
      · rcases (show k = 0 ∨ k = 1 by omega) with z | z
        · subst z; exact absurd ek c
        · subst z; exact ek
    refine s10_routeLength hb hu2 hn hs hpl (fun r cost' heap' wait' hr => ?_)
    unfold wX11_route
    exact br_f c (br_t c1 (s11_lengthOf hu1 hu2 eu en hn hpl hr (fun far steps => ⟨rfl, hR⟩)))
