set_option maxHeartbeats 4000000 in
theorem eq_image {bits : Nat → Int64} {stops : Nat → Int32} {num : Int32} {unit : Int32} {strips : Int32} {caps : Int32} {draw : Int32} {oldest : Int32} {known : Int32} {ring : Nat → GS} {im : GS} {iold : Int32} {iknown : Int32} {iring : Nat → GS} {hasIm : Int32} {letters : Nat → Int32} {tlen : Int32} {shI : Nat → Nat → Int64} {shH : Nat → Int32} {shL : Nat → Int32} {shS : Nat → Int32} {st : Nat → Int32} {past : Nat → Int32} {acts : Int32} {image : Nat → Int32} {ipast : Nat → Int32} {iacts : Int32} {tape : Nat → Int32} {tmany : Int32} {laneOf : Nat → Int32} {sizeOf : Nat → Int32} {items : Nat → Int64} (hR : Rel bits stops num unit strips caps draw oldest known ring im iold iknown iring hasIm letters tlen shI shH shL shS st past acts image ipast iacts tape tmany laneOf sizeOf items) : wX10_image bits stops num unit strips caps draw oldest known ring im iring (fun (r : Int32) (im' : GS) (iold' : Int32) (iknown' : Int32) (iring' : Nat → GS) (hasIm' : Int32) => wX11_image st past acts image ipast (fun (r' : Int32) (image' : Nat → Int32) (ipast' : Nat → Int32) (iacts' : Int32) => r = r' ∧ Rel bits stops num unit strips caps draw oldest known ring im' iold' iknown' iring' hasIm' letters tlen shI shH shL shS st past acts image' ipast' iacts' tape tmany laneOf sizeOf items)) := by
  obtain ⟨hG, hP, hIm, hT, hS⟩ := id hR
  obtain ⟨o, k, ho, hk, eo, ek, ea, hr⟩ := hP
  unfold wX10_image wX0_become wX11_image
  refine s_pastBecome (fun ring' hring => ?_)
  show wX11_bring (nI 0) (nI 0) (nI 279) st image 279 279 _
  refine s_bring (by omega) (by omega) (by omega) (by omega) ?_
  show wX11_bring (nI 0) (nI 0) (nI 1674) past ipast 1674 1674 _
  refine s_bring (by omega) (by omega) (by omega) (by omega) ?_
  refine ⟨rfl, hG, ⟨o, k, ho, hk, eo, ek, ea, hr⟩, Or.inr ⟨rfl, ?_, ⟨o, k, ho, hk, eo, ek, ea, fun i hi => ?_⟩⟩, hT, hS⟩
  · exact relG_congr (g := (bits, stops, num, unit, strips, caps, draw)) (st := st) (fun j hj => cpy_lo hj) (fun j hj => cpy_lo hj) (fun i hi => cpy_lo hi) rfl hG
  · obtain ⟨b, s, e⟩ := hring ((o + i) % 6) (Nat.mod_lt _ (by omega))
    rw [e]
    exact relG_congr (g := ring ((o + i) % 6)) (st := fun j => past (279 * i + j)) (fun j hj => cpy_lo (by omega)) (fun j hj => cpy_lo hj) (fun i hi => cpy_lo hi) rfl (hr i hi)
