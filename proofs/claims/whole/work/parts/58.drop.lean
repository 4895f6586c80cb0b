set_option maxHeartbeats 4000000 in
theorem eq_drop {bits : Nat → Int64} {stops : Nat → Int32} {num : Int32} {unit : Int32} {strips : Int32} {caps : Int32} {draw : Int32} {oldest : Int32} {known : Int32} {ring : Nat → GS} {im : GS} {iold : Int32} {iknown : Int32} {iring : Nat → GS} {hasIm : Int32} {letters : Nat → Int32} {tlen : Int32} {shI : Nat → Nat → Int64} {shH : Nat → Int32} {shL : Nat → Int32} {shS : Nat → Int32} {st : Nat → Int32} {past : Nat → Int32} {acts : Int32} {image : Nat → Int32} {ipast : Nat → Int32} {iacts : Int32} {tape : Nat → Int32} {tmany : Int32} {laneOf : Nat → Int32} {sizeOf : Nat → Int32} {items : Nat → Int64} (hR : Rel bits stops num unit strips caps draw oldest known ring im iold iknown iring hasIm letters tlen shI shH shL shS st past acts image ipast iacts tape tmany laneOf sizeOf items) (a1 : Int32) : wX10_drop a1 shH shS (fun (r : Int32) (shH' : Nat → Int32) => wX11_drop a1 laneOf sizeOf (fun (r' : Int32) (laneOf' : Nat → Int32) => r = r' ∧ Rel bits stops num unit strips caps draw oldest known ring im iold iknown iring hasIm letters tlen shI shH' shL shS st past acts image ipast iacts tape tmany laneOf' sizeOf items)) := by
  obtain ⟨hG, hP, hIm, hT, hS⟩ := id hR
  unfold wX10_drop wX11_drop
  refine q10_isIn ?_
  refine br_c (fun h0 => q11_in (br_t h0 ⟨rfl, hR⟩)) (fun h0 => ?_)
  obtain ⟨k, hk, ek⟩ : ∃ k, k ≤ 3 ∧ a1 = nI k := by
    rcases fIn_cases a1 (hi := 3) (by omega) with q | q
    · exact absurd q h0
    · exact q.2
  subst ek
  have hv : vp_in (nI k) 4 := vp_in_nI (by omega) (by omega)
  refine ⟨hv, fun k4 hk4 => ?_⟩
  rw [nI_clamp (by omega)] at hk4
  subst hk4
  obtain ⟨n, hn, eS, es, hh⟩ := hS k4 (by omega)
  rcases hh with ⟨hH, hL⟩ | ⟨hH, la, hla, eL, el, hit⟩
  · refine br_t hH (q11_in (br_f h0 ⟨hv, ?_⟩))
    rw [nI_clamp (by omega)]
    exact br_f (by rw [hL]; decide) ⟨rfl, hR⟩
  · refine br_f (by rw [hH]; decide) (q11_in (br_f h0 ⟨hv, ?_⟩))
    rw [nI_clamp (by omega)]
    refine br_t (by rw [el]; exact nI_pos' (by omega)) ⟨hv, hv, eS.trans es.symm, hG, hP, hIm, hT, fun j hj => ?_⟩
    by_cases e : j = k4
    · subst e
      exact ⟨n, hn, eS, es, Or.inl ⟨vup_s _ _ _, pk_us⟩⟩
    · rw [vup_o _ _ e, pk_un e]
      exact hS j hj
