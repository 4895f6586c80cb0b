set_option maxHeartbeats 4000000 in
theorem eq_restore {bits : Nat → Int64} {stops : Nat → Int32} {num : Int32} {unit : Int32} {strips : Int32} {caps : Int32} {draw : Int32} {oldest : Int32} {known : Int32} {ring : Nat → GS} {im : GS} {iold : Int32} {iknown : Int32} {iring : Nat → GS} {hasIm : Int32} {letters : Nat → Int32} {tlen : Int32} {shI : Nat → Nat → Int64} {shH : Nat → Int32} {shL : Nat → Int32} {shS : Nat → Int32} {st : Nat → Int32} {past : Nat → Int32} {acts : Int32} {image : Nat → Int32} {ipast : Nat → Int32} {iacts : Int32} {tape : Nat → Int32} {tmany : Int32} {laneOf : Nat → Int32} {sizeOf : Nat → Int32} {items : Nat → Int64} (hR : Rel bits stops num unit strips caps draw oldest known ring im iold iknown iring hasIm letters tlen shI shH shL shS st past acts image ipast iacts tape tmany laneOf sizeOf items) : wX10_restore bits stops num unit strips caps draw oldest known ring im iold iknown iring hasIm (fun (r : Int32) (bits' : Nat → Int64) (stops' : Nat → Int32) (num' : Int32) (unit' : Int32) (strips' : Int32) (caps' : Int32) (draw' : Int32) (oldest' : Int32) (known' : Int32) (ring' : Nat → GS) => wX11_restore st past acts image ipast iacts (fun (r' : Int32) (st' : Nat → Int32) (past' : Nat → Int32) (acts' : Int32) => r = r' ∧ Rel bits' stops' num' unit' strips' caps' draw' oldest' known' ring' im iold iknown iring hasIm letters tlen shI shH shL shS st' past' acts' image ipast iacts tape tmany laneOf sizeOf items)) := by
  obtain ⟨hG, hP, hIm, hT, hS⟩ := id hR
  unfold wX10_restore wX0_become wX11_restore
  rcases hIm with ⟨h0, h1⟩ | ⟨h0, hGi, o, k, ho, hk, eo, ek, ea, hr⟩
  · refine br_t h0 ?_
    rw [h1]
    refine br_f (by decide) ?_
    rw [← h1]
    exact ⟨rfl, hG, hP, Or.inl ⟨h0, h1⟩, hT, hS⟩
  · refine br_f (by rw [h0]; decide) ?_
    refine s_pastBecome (fun ring' hring => ?_)
    refine br_t (by rw [ea]; exact nI_pos' (by omega)) ?_
    show wX11_bring (nI 0) (nI 0) (nI 279) image st 279 279 _
    refine s_bring (by omega) (by omega) (by omega) (by omega) ?_
    show wX11_bring (nI 0) (nI 0) (nI 1674) ipast past 1674 1674 _
    refine s_bring (by omega) (by omega) (by omega) (by omega) ?_
    refine ⟨rfl, ?_, ⟨o, k, ho, hk, eo, ek, ea, fun i hi => ?_⟩, Or.inr ⟨h0, hGi, ⟨o, k, ho, hk, eo, ek, ea, hr⟩⟩, hT, hS⟩
    · exact relG_congr (g := im) (st := image) (fun j hj => cpy_lo hj) (fun j hj => cpy_lo hj) (fun i hi => cpy_lo hi) rfl hGi
    · obtain ⟨b, s, e⟩ := hring ((o + i) % 6) (Nat.mod_lt _ (by omega))
      rw [e]
      exact relG_congr (g := iring ((o + i) % 6)) (st := fun j => ipast (279 * i + j)) (fun j hj => cpy_lo (by omega)) (fun j hj => cpy_lo hj) (fun i hi => cpy_lo hi) rfl (hr i hi)
