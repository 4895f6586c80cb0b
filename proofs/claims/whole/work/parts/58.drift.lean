set_option maxHeartbeats 4000000 in
theorem eq_drift {bits : Nat → Int64} {stops : Nat → Int32} {num : Int32} {unit : Int32} {strips : Int32} {caps : Int32} {draw : Int32} {oldest : Int32} {known : Int32} {ring : Nat → GS} {im : GS} {iold : Int32} {iknown : Int32} {iring : Nat → GS} {hasIm : Int32} {letters : Nat → Int32} {tlen : Int32} {shI : Nat → Nat → Int64} {shH : Nat → Int32} {shL : Nat → Int32} {shS : Nat → Int32} {st : Nat → Int32} {past : Nat → Int32} {acts : Int32} {image : Nat → Int32} {ipast : Nat → Int32} {iacts : Int32} {tape : Nat → Int32} {tmany : Int32} {laneOf : Nat → Int32} {sizeOf : Nat → Int32} {items : Nat → Int64} (hR : Rel bits stops num unit strips caps draw oldest known ring im iold iknown iring hasIm letters tlen shI shH shL shS st past acts image ipast iacts tape tmany laneOf sizeOf items) (a1 : Int32) : wX10_drift a1 bits stops num unit strips caps draw oldest known ring (fun (r : Int32) (bits' : Nat → Int64) (draw' : Int32) (oldest' : Int32) (known' : Int32) (ring' : Nat → GS) => wX11_drift a1 st past acts (fun (r' : Int32) (st' : Nat → Int32) (past' : Nat → Int32) (acts' : Int32) => r = r' ∧ Rel bits' stops num unit strips caps draw' oldest' known' ring' im iold iknown iring hasIm letters tlen shI shH shL shS st' past' acts' image ipast iacts tape tmany laneOf sizeOf items)) := by
  obtain ⟨hG, ⟨o, k, ho, hk, eo, ek, ea, hr⟩, hIm, hT, hS⟩ := id hR
  unfold wX10_drift
  refine q10_isIn ?_
  refine br_c (fun h0 => by unfold wX11_drift; exact q11_in (br_t h0 ⟨rfl, hR⟩)) (fun h0 => ?_)
  obtain ⟨n, hn1, hn, en⟩ := fIn_range (a := 1) (b := 40) (by omega) (by omega) h0
  subst en ea
  refine ⟨fun l b dr ol kn rg => ∃ i, i ≤ n ∧ l = nI i ∧ relG (b, stops, num, unit, strips, caps, dr) (turnN i (st, past, k)).1 ∧ relP ol kn rg (turnN i (st, past, k)).2.1 (nI (turnN i (st, past, k)).2.2), fun l _ _ _ _ _ => n - l.toNatClampNeg, ⟨0, by omega, rfl, hG, ⟨o, k, ho, hk, eo, ek, rfl, hr⟩⟩, ?_⟩
  rintro l b dr ol kn rg ⟨i, hi, rfl, hGi, hPi⟩
  refine br_c (fun q => ?_) (fun q => ?_)
  · have e : i = n := by have := (nI_leI (by omega) (by omega)).1 q; omega
    subst e
    refine s_landNumber ?_
    refine s_drift11 hn1 hn hG.1 hk ⟨congrArg nI (land_eq hGi.2.1), hGi, hPi, hIm, hT, hS⟩ h0
  · have hin : i < n := Nat.lt_of_not_le (fun f => q ((nI_leI (by omega) (by omega)).2 f))
    obtain ⟨o', k', ho', hk', eo', ek', ea', hr'⟩ := hPi
    have hk2 := (ok_turnN (u := (st, past, k)) ⟨hG.1, hk⟩ i).2
    have ekk : (turnN i (st, past, k)).2.2 = k' := (nI_eq (by omega) (by omega)).1 ea'
    obtain ⟨d, hd, ed⟩ := hGi.1.2.2.2.2.2
    have edr : dr = nI d := hGi.2.2.2.2.2.2.2.trans ed
    rw [eo', ek']
    refine s_keep ho' hk' ?_
    subst edr
    refine s_driftOnce (fun b' hb' => ?_)
    intro x10 e10
    subst e10
    rw [nI_1]
    refine ⟨⟨i + 1, by omega, rfl, ?_, ?_⟩, ?_⟩
    · show relG _ (stT ((turnN i (st, past, k)).1 278).toNatClampNeg _)
      rw [ed, nI_clamp hd]
      exact relG_stT d hb' hGi
    · show relP _ _ _ (pastN (turnN i (st, past, k)).2.2 _ _) (nI (knownN (turnN i (st, past, k)).2.2))
      rw [ekk]
      exact relP_keep (g := (b, stops, num, unit, strips, caps, nI d)) ho' hk' hGi hr'
    · show n - (nI (i + 1)).toNatClampNeg < n - (nI i).toNatClampNeg
      rw [nI_clamp (by omega), nI_clamp (by omega)]
      omega
