set_option maxHeartbeats 4000000 in
theorem eq_type {bits : Nat → Int64} {stops : Nat → Int32} {num : Int32} {unit : Int32} {strips : Int32} {caps : Int32} {draw : Int32} {oldest : Int32} {known : Int32} {ring : Nat → GS} {im : GS} {iold : Int32} {iknown : Int32} {iring : Nat → GS} {hasIm : Int32} {letters : Nat → Int32} {tlen : Int32} {shI : Nat → Nat → Int64} {shH : Nat → Int32} {shL : Nat → Int32} {shS : Nat → Int32} {st : Nat → Int32} {past : Nat → Int32} {acts : Int32} {image : Nat → Int32} {ipast : Nat → Int32} {iacts : Int32} {tape : Nat → Int32} {tmany : Int32} {laneOf : Nat → Int32} {sizeOf : Nat → Int32} {items : Nat → Int64} (hR : Rel bits stops num unit strips caps draw oldest known ring im iold iknown iring hasIm letters tlen shI shH shL shS st past acts image ipast iacts tape tmany laneOf sizeOf items) (a1 : Int32) : wX10_type a1 letters tlen (fun (r : Int32) (letters' : Nat → Int32) (tlen' : Int32) => wX11_type a1 tape tmany (fun (r' : Int32) (tape' : Nat → Int32) (tmany' : Int32) => r = r' ∧ Rel bits stops num unit strips caps draw oldest known ring im iold iknown iring hasIm letters' tlen' shI shH shL shS st past acts image ipast iacts tape' tmany' laneOf sizeOf items)) := by
  obtain ⟨hG, hP, hIm, ⟨n, hn, el, em, ht⟩, hS⟩ := id hR
  unfold wX10_type wX11_type
  refine q10_isIn ?_
  refine br_c (fun h0 => ?_) (fun h0 => ?_)
  · refine q11_in ?_
    exact br_t h0 ⟨rfl, hR⟩
  · have hin : fIn a1 32 126 = 1 := (fIn_01 a1 32 126).resolve_left h0
    obtain ⟨c, hc1, hc2, ec⟩ : ∃ c : Nat, 32 ≤ c ∧ c ≤ 126 ∧ a1 = nI c := by
      unfold fIn at hin
      by_cases h1 : a1 < 32
      · rw [if_pos h1] at hin; exact absurd hin (by decide)
      · rw [if_neg h1] at hin
        by_cases h2 : 126 < a1
        · rw [if_pos h2] at hin; exact absurd hin (by decide)
        · have h3 : ¬ a1 < 0 := fun q => h1 (by rw [fa_lt] at q ⊢; exact Int.lt_trans q (by decide))
          obtain ⟨k, hk, e⟩ := nI_of h3
          subst e
          refine ⟨k, ?_, ?_, rfl⟩
          · rcases Nat.lt_or_ge k 32 with q | q
            · exact absurd (nI_lt q (by omega)) h1
            · exact q
          · rcases Nat.lt_or_ge 126 k with q | q
            · exact absurd (nI_lt q hk) h2
            · exact q
    refine br_c (fun h1 => ?_) (fun h1 => ?_)
    · have hlt : n < 90 := by
        rw [el] at h1
        exact (nI_ltI (b := 90) (by omega) (by omega)).mp h1
      refine ⟨by rw [el]; exact vp_in_nI hlt (by omega), fun x hx => ?_⟩
      refine q11_in ?_
      refine br_f h0 (br_f (fun e => ?_) ?_)
      · rw [em] at e
        have := (nI_eq (b := 90) (by omega) (by omega)).mp e
        omega
      refine ⟨by rw [em]; exact vp_in_nI hlt (by omega), fun y hy => ?_⟩
      subst hx
      subst hy
      rw [el, em, nI_clamp (by omega)]
      refine ⟨rfl, hG, hP, hIm, ⟨n + 1, by omega, nI_1 n, nI_1 n, fun i hi => ?_⟩, hS⟩
      by_cases e : i = n
      · subst e
        rw [pk_us, pk_us]
        exact ⟨rfl, c, hc1, hc2, ec⟩
      · rw [pk_un e, pk_un e]
        exact ht i (by omega)
    · have h90 : n = 90 := by
        rw [el] at h1
        rcases Nat.lt_or_ge n 90 with q | q
        · exact absurd (nI_lt q (by omega)) h1
        · omega
      subst h90
      refine q11_in ?_
      exact br_f h0 (br_t em ⟨rfl, hR⟩)
