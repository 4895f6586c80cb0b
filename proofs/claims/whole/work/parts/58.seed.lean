set_option maxHeartbeats 4000000 in
theorem eq_seed {bits : Nat → Int64} {stops : Nat → Int32} {num : Int32} {unit : Int32} {strips : Int32} {caps : Int32} {draw : Int32} {oldest : Int32} {known : Int32} {ring : Nat → GS} {im : GS} {iold : Int32} {iknown : Int32} {iring : Nat → GS} {hasIm : Int32} {letters : Nat → Int32} {tlen : Int32} {shI : Nat → Nat → Int64} {shH : Nat → Int32} {shL : Nat → Int32} {shS : Nat → Int32} {st : Nat → Int32} {past : Nat → Int32} {acts : Int32} {image : Nat → Int32} {ipast : Nat → Int32} {iacts : Int32} {tape : Nat → Int32} {tmany : Int32} {laneOf : Nat → Int32} {sizeOf : Nat → Int32} {items : Nat → Int64} (hR : Rel bits stops num unit strips caps draw oldest known ring im iold iknown iring hasIm letters tlen shI shH shL shS st past acts image ipast iacts tape tmany laneOf sizeOf items) (a1 : Int32) : wX10_seed a1 draw (fun (r : Int32) (draw' : Int32) => wX11_seed a1 st (fun (r' : Int32) (st' : Nat → Int32) => r = r' ∧ Rel bits stops num unit strips caps draw' oldest known ring im iold iknown iring hasIm letters tlen shI shH shL shS st' past acts image ipast iacts tape tmany laneOf sizeOf items)) := by
  obtain ⟨hG, hP, hIm, hT, hS⟩ := id hR
  obtain ⟨⟨h01, hu, hn, hc, hm, hd⟩, hb, hs, e1, e2, e3, e4, e5⟩ := hG
  have e5 : draw = st 278 := e5
  unfold wX10_seed wX11_seed
  refine br_c (fun h0 => br_t h0 (fun x hx => ?_)) (fun h0 => br_f h0 ⟨rfl, hR⟩)
  subst hx
  obtain ⟨d, hd, ed⟩ := nI_of (Int32.not_lt.mpr h0)
  have un : ∀ j, j ≠ 278 → upd st 278 a1 j = st j := fun j hj => pk_un hj
  refine ⟨e5, ⟨⟨fun p hp => ?_, ?_, ?_, ?_, ?_, ?_⟩, fun p hp => ?_, fun i hi => ?_, ?_, ?_, ?_, ?_, ?_⟩, hP, hIm, hT, hS⟩
  · rw [un p (by omega)]; exact h01 p hp
  · rw [un 266 (by omega)]; exact hu
  · rw [un 267 (by omega)]; exact hn
  · rw [un 268 (by omega)]; exact hc
  · obtain ⟨n, hn8, e269, hst⟩ := hm
    refine ⟨n, hn8, by rw [un 269 (by omega)]; exact e269, fun i hi => ?_⟩
    rw [un (270 + i) (by omega)]; exact hst i hi
  · exact ⟨d, hd, by rw [pk_us]; exact ed⟩
  · have := hb p hp
    by_cases hq : p < 266
    · rw [un p (by omega)]; exact this
    · simp only [hq, false_and, decide_false] at this ⊢
      exact this
  · rw [un (270 + i) (by omega)]; exact hs i hi
  · rw [un 269 (by omega)]; exact e1
  · rw [un 266 (by omega)]; exact e2
  · rw [un 267 (by omega)]; exact e3
  · rw [un 268 (by omega)]; exact e4
  · rw [pk_us]
