set_option maxHeartbeats 4000000 in
theorem eq_count {bits : Nat → Int64} {stops : Nat → Int32} {num : Int32} {unit : Int32} {strips : Int32} {caps : Int32} {draw : Int32} {oldest : Int32} {known : Int32} {ring : Nat → GS} {im : GS} {iold : Int32} {iknown : Int32} {iring : Nat → GS} {hasIm : Int32} {letters : Nat → Int32} {tlen : Int32} {shI : Nat → Nat → Int64} {shH : Nat → Int32} {shL : Nat → Int32} {shS : Nat → Int32} {st : Nat → Int32} {past : Nat → Int32} {acts : Int32} {image : Nat → Int32} {ipast : Nat → Int32} {iacts : Int32} {tape : Nat → Int32} {tmany : Int32} {laneOf : Nat → Int32} {sizeOf : Nat → Int32} {items : Nat → Int64} {seaOf : Nat → Int32} {queue : Nat → Int32} {snum : Int32} {seaFirst : Nat → Int32} (hR : Rel bits stops num unit strips caps draw oldest known ring im iold iknown iring hasIm letters tlen shI shH shL shS st past acts image ipast iacts tape tmany laneOf sizeOf items) (a1 : Int32) : wX10_count a1 bits unit strips caps known seaOf queue snum (fun (r : Int32) (seaOf' : Nat → Int32) (queue' : Nat → Int32) (snum' : Int32) => wX11_count a1 st acts seaFirst (fun (r' : Int32) (seaFirst' : Nat → Int32) => r = r' ∧ Rel bits stops num unit strips caps draw oldest known ring im iold iknown iring hasIm letters tlen shI shH shL shS st past acts image ipast iacts tape tmany laneOf sizeOf items)) := by
  obtain ⟨hG, ⟨o, kn, ho, hkn, eo, ekn, ea, hr⟩, hIm, hT, hS⟩ := id hR
  obtain ⟨⟨h01, -⟩, hb, -, -, e2, e3, e4, -⟩ := id hG
  have hb : ∀ p, p < 320 → bitAt bits p = decide (p < 266 ∧ st p = 1) := hb
  have eu : unit = st 266 := e2
  have es : strips = st 267 := e3
  have ec : caps = st 268 := e4
  unfold wX10_count
  refine br_c (fun c0 => ?_) (fun c0 => ?_)
  · unfold wX11_count
    exact br_t c0 ⟨eu, hR⟩
  refine br_c (fun c1 => ?_) (fun c1 => ?_)
  · unfold wX11_count
    exact br_f c0 (br_t c1 ⟨es, hR⟩)
  refine br_c (fun c2 => ?_) (fun c2 => ?_)
  · unfold wX11_count
    exact br_f c0 (br_f c1 (br_t c2 ⟨ec, hR⟩))
  refine br_c (fun c3 => ?_) (fun c3 => ?_)
  · refine s_landNumber ?_
    unfold wX11_count
    exact br_f c0 (br_f c1 (br_f c2 (br_t c3 (s_landMany h01 ⟨congrArg nI (land_eq hb), hR⟩))))
  refine br_c (fun c4 => ?_) (fun c4 => ?_)
  · refine s5_chart hb (fun so qu _ => ?_)
    unfold wX11_count wX11_seas
    refine br_f c0 (br_f c1 (br_f c2 (br_f c3 (br_t c4 (s11_laysSeas (fun sf hsf => ?_))))))
    exact s11_ahead (a := 266) hsf (by omega) ⟨rfl, hR⟩
  refine br_c (fun c5 => ?_) (fun c5 => ?_)
  · refine s0_landOnS hb ?_
    unfold wX11_count
    refine br_f c0 (br_f c1 (br_f c2 (br_f c3 (br_f c4 (br_t c5 (s11_landOnS ⟨?_, hR⟩))))))
    rw [ec]
  refine br_c (fun c6 => ?_) (fun c6 => ?_)
  · unfold wX11_count
    exact br_f c0 (br_f c1 (br_f c2 (br_f c3 (br_f c4 (br_f c5 (br_t c6 ⟨ekn.trans ea.symm, hR⟩))))))
  · unfold wX11_count
    exact br_f c0 (br_f c1 (br_f c2 (br_f c3 (br_f c4 (br_f c5 (br_f c6 ⟨rfl, hR⟩))))))
