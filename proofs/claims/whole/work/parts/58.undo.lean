set_option maxHeartbeats 4000000 in
theorem eq_undo {bits : Nat → Int64} {stops : Nat → Int32} {num : Int32} {unit : Int32} {strips : Int32} {caps : Int32} {draw : Int32} {oldest : Int32} {known : Int32} {ring : Nat → GS} {im : GS} {iold : Int32} {iknown : Int32} {iring : Nat → GS} {hasIm : Int32} {letters : Nat → Int32} {tlen : Int32} {shI : Nat → Nat → Int64} {shH : Nat → Int32} {shL : Nat → Int32} {shS : Nat → Int32} {st : Nat → Int32} {past : Nat → Int32} {acts : Int32} {image : Nat → Int32} {ipast : Nat → Int32} {iacts : Int32} {tape : Nat → Int32} {tmany : Int32} {laneOf : Nat → Int32} {sizeOf : Nat → Int32} {items : Nat → Int64} (hR : Rel bits stops num unit strips caps draw oldest known ring im iold iknown iring hasIm letters tlen shI shH shL shS st past acts image ipast iacts tape tmany laneOf sizeOf items) : wX10_undo bits stops num unit strips caps draw oldest known ring (fun (r : Int32) (bits' : Nat → Int64) (stops' : Nat → Int32) (num' : Int32) (unit' : Int32) (strips' : Int32) (caps' : Int32) (draw' : Int32) (known' : Int32) => wX11_undo st past acts (fun (r' : Int32) (st' : Nat → Int32) (acts' : Int32) => r = r' ∧ Rel bits' stops' num' unit' strips' caps' draw' oldest known' ring im iold iknown iring hasIm letters tlen shI shH shL shS st' past acts' image ipast iacts tape tmany laneOf sizeOf items)) := by
  obtain ⟨hG, ⟨o, k, ho, hk, eo, ek, ea, hr⟩, hIm, hT, hS⟩ := id hR
  unfold wX10_undo wX11_undo
  rw [ek, ea]
  by_cases h0 : k = 0
  · subst h0
    refine br_t rfl (br_t rfl ⟨rfl, hG, ⟨o, 0, ho, by omega, eo, rfl, rfl, hr⟩, hIm, hT, hS⟩)
  · obtain ⟨m, rfl⟩ : ∃ m, k = m + 1 := ⟨k - 1, by omega⟩
    have hne : ¬ nI (m + 1) = 0 := nI_ne0 (by omega) (by omega)
    refine br_f hne ?_
    rw [eo]
    refine s_takeBack ho (by omega) ?_
    refine br_f hne (fun x hx => ?_)
    have ex : x = nI m := hx.trans (nI_pred m)
    subst ex
    have e1 : (279 : Int32) * nI m = nI (279 * m) := pk_mul 279 m
    rw [e1]
    show wX11_bring (nI (279 * m)) (nI 0) (nI 279) past st 1674 279 _
    refine s_bring (by omega) (by omega) (by omega) (by omega) ?_
    refine ⟨rfl, ?_, ⟨o, m, ho, by omega, rfl, rfl, rfl, fun i hi => hr i (by omega)⟩, hIm, hT, hS⟩
    refine relG_congr (g := ring ((o + m) % 6)) (st := fun j => past (279 * m + j)) (fun j hj => ?_) (fun j hj => cpy_lo hj) (fun i hi => cpy_lo hi) rfl (hr m (by omega))
    unfold va_cpy
    rw [if_pos ⟨by omega, by omega⟩]
    rfl
