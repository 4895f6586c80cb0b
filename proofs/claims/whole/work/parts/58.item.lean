set_option maxHeartbeats 1000000 in
theorem eq_item {bits : Nat → Int64} {stops : Nat → Int32} {num : Int32} {unit : Int32} {strips : Int32} {caps : Int32} {draw : Int32} {oldest : Int32} {known : Int32} {ring : Nat → GS} {im : GS} {iold : Int32} {iknown : Int32} {iring : Nat → GS} {hasIm : Int32} {letters : Nat → Int32} {tlen : Int32} {shI : Nat → Nat → Int64} {shH : Nat → Int32} {shL : Nat → Int32} {shS : Nat → Int32} {st : Nat → Int32} {past : Nat → Int32} {acts : Int32} {image : Nat → Int32} {ipast : Nat → Int32} {iacts : Int32} {tape : Nat → Int32} {tmany : Int32} {laneOf : Nat → Int32} {sizeOf : Nat → Int32} {items : Nat → Int64} (hR : Rel bits stops num unit strips caps draw oldest known ring im iold iknown iring hasIm letters tlen shI shH shL shS st past acts image ipast iacts tape tmany laneOf sizeOf items) (a1 : Int32) (a2 : Int32) (a3 : Int32) (a4 : Int64) : wX10_item a1 a2 a3 a4 shI shH shL shS (fun (r : Int32) (shI' : Nat → Nat → Int64) => wX11_item a1 a2 a3 a4 laneOf sizeOf items (fun (r' : Int32) (items' : Nat → Int64) => r = r' ∧ Rel bits stops num unit strips caps draw oldest known ring im iold iknown iring hasIm letters tlen shI' shH shL shS st past acts image ipast iacts tape tmany laneOf sizeOf items')) := by
  obtain ⟨hG, hP, hIm, hT, hS⟩ := id hR
  unfold wX10_item
  refine q10_isSheet ?_
  refine br_c (fun h0 => by unfold wX11_item; exact q11_isSheet (br_t h0 ⟨rfl, hR⟩)) (fun h0 => ?_)
  obtain ⟨k, j, hk, hj, ek, ej⟩ := fSheet_yes h0
  have hv : vp_in a1 4 := by rw [ek]; exact vp_in_nI (by omega) (by omega)
  refine ⟨hv, fun k4 hk4 => ?_⟩
  rw [ek, nI_clamp (by omega)] at hk4
  subst hk4
  obtain ⟨n, hn, eS, es, hh⟩ := hS k4 hk
  sorry
