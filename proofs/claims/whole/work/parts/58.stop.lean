set_option maxHeartbeats 4000000 in
theorem eq_stop {bits : Nat → Int64} {stops : Nat → Int32} {num : Int32} {unit : Int32} {strips : Int32} {caps : Int32} {draw : Int32} {oldest : Int32} {known : Int32} {ring : Nat → GS} {im : GS} {iold : Int32} {iknown : Int32} {iring : Nat → GS} {hasIm : Int32} {letters : Nat → Int32} {tlen : Int32} {shI : Nat → Nat → Int64} {shH : Nat → Int32} {shL : Nat → Int32} {shS : Nat → Int32} {st : Nat → Int32} {past : Nat → Int32} {acts : Int32} {image : Nat → Int32} {ipast : Nat → Int32} {iacts : Int32} {tape : Nat → Int32} {tmany : Int32} {laneOf : Nat → Int32} {sizeOf : Nat → Int32} {items : Nat → Int64} (hR : Rel bits stops num unit strips caps draw oldest known ring im iold iknown iring hasIm letters tlen shI shH shL shS st past acts image ipast iacts tape tmany laneOf sizeOf items) (a1 : Int32) : wX10_stop a1 stops num (fun (r : Int32) => wX11_stop a1 st (fun (r' : Int32) => r = r' ∧ Rel bits stops num unit strips caps draw oldest known ring im iold iknown iring hasIm letters tlen shI shH shL shS st past acts image ipast iacts tape tmany laneOf sizeOf items)) := by
  obtain ⟨hG, -⟩ := id hR
  obtain ⟨⟨-, -, -, -, ⟨n, hn8, e269, hst⟩, -⟩, -, hs, e1, -⟩ := hG
  have e1 : num = st 269 := e1
  have hs : ∀ i, i < 8 → stops i = st (270 + i) := hs
  unfold wX10_stop wX11_stop
  rw [← e1]
  have en : num = nI n := e1.trans e269
  refine br_c (fun h0 => ?_) (fun h0 => br_f h0 ⟨rfl, hR⟩)
  refine br_c (fun h1 => br_t h0 (br_t h1 ⟨rfl, hR⟩)) (fun h1 => ?_)
  rcases pk_ix a1 (n := n) (by omega) with q | q | ⟨k, hk, e⟩
  · exact absurd h0 (Int32.not_le.mpr q)
  · exact absurd (by rw [en]; exact q) h1
  · subst e
    refine ⟨vp_in_nI (by omega) (by omega), br_t h0 (br_f h1 ?_)⟩
    have e2 : (270 : Int32) + nI k = nI (270 + k) := nI_add 270 k
    rw [e2, nI_clamp (by omega), nI_clamp (by omega)]
    exact ⟨vp_in_nI (by omega) (by omega), hs k (by omega), hR⟩
