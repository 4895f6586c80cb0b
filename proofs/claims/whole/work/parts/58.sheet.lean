set_option maxHeartbeats 4000000 in
theorem eq_sheet {bits : Nat → Int64} {stops : Nat → Int32} {num : Int32} {unit : Int32} {strips : Int32} {caps : Int32} {draw : Int32} {oldest : Int32} {known : Int32} {ring : Nat → GS} {im : GS} {iold : Int32} {iknown : Int32} {iring : Nat → GS} {hasIm : Int32} {letters : Nat → Int32} {tlen : Int32} {shI : Nat → Nat → Int64} {shH : Nat → Int32} {shL : Nat → Int32} {shS : Nat → Int32} {st : Nat → Int32} {past : Nat → Int32} {acts : Int32} {image : Nat → Int32} {ipast : Nat → Int32} {iacts : Int32} {tape : Nat → Int32} {tmany : Int32} {laneOf : Nat → Int32} {sizeOf : Nat → Int32} {items : Nat → Int64} (hR : Rel bits stops num unit strips caps draw oldest known ring im iold iknown iring hasIm letters tlen shI shH shL shS st past acts image ipast iacts tape tmany laneOf sizeOf items) (a1 : Int32) (a2 : Int32) (a3 : Int32) : wX10_sheet a1 a2 a3 shI shH shL shS (fun (r : Int32) (shI' : Nat → Nat → Int64) (shH' : Nat → Int32) (shL' : Nat → Int32) (shS' : Nat → Int32) => wX11_sheet a1 a2 a3 laneOf sizeOf items (fun (r' : Int32) (laneOf' : Nat → Int32) (sizeOf' : Nat → Int32) (items' : Nat → Int64) => r = r' ∧ Rel bits stops num unit strips caps draw oldest known ring im iold iknown iring hasIm letters tlen shI' shH' shL' shS' st past acts image ipast iacts tape tmany laneOf' sizeOf' items')) := by
  obtain ⟨hG, hP, hIm, hT, hS⟩ := id hR
  unfold wX10_sheet wX11_sheet wX6_renew
  refine q10_isSheet ?_
  refine br_c (fun h0 => q11_isSheet (br_t h0 ⟨rfl, hR⟩)) (fun h0 => ?_)
  obtain ⟨k, la, hk, hla, ek, el⟩ := fSheet_yes h0
  refine br_c (fun h1 => ?_) (fun h1 => q11_isSheet (br_f h0 (br_f h1 ⟨rfl, hR⟩)))
  refine br_c (fun h2 => ?_) (fun h2 => q11_isSheet (br_f h0 (br_t h1 (br_f h2 ⟨rfl, hR⟩))))
  obtain ⟨n, hn, en⟩ : ∃ n : Nat, n ≤ 30 ∧ a3 = nI n := by
    obtain ⟨j, hj, e⟩ := nI_of (Int32.not_lt.mpr h2)
    subst e
    exact ⟨j, (nI_leI (b := 30) hj (by omega)).mp h1, rfl⟩
  have hv : vp_in a1 4 := by rw [ek]; exact vp_in_nI hk (by omega)
  refine ⟨hv, fun k6 hk6 => ?_⟩
  rw [ek, nI_clamp (by omega)] at hk6
  subst hk6
  refine s_fillJ (by omega) ?_
  refine q11_isSheet (br_f h0 (br_t h1 (br_t h2 ⟨hv, hv, ?_⟩)))
  refine ⟨fun l o => ∃ i, i ≤ n ∧ l = nI i ∧ (∀ j, 30 * k6 ≤ j → j < 30 * k6 + i → o j = 0) ∧ (∀ j, (j < 30 * k6 ∨ 30 * k6 + 30 ≤ j) → o j = items j), fun l _ => n - l.toNatClampNeg, ⟨0, Nat.zero_le _, rfl, fun j h3 h4 => absurd h4 (by omega), fun j _ => rfl⟩, ?_⟩
  rintro l o ⟨i, hi, rfl, ho1, ho2⟩
  rw [en]
  refine br_c (fun c => ?_) (fun c => ?_)
  · have e : i = n := by
      have := (nI_leI (by omega) (by omega)).mp c
      omega
    subst e
    rw [ek, nI_clamp (by omega)]
    refine ⟨rfl, hG, hP, hIm, hT, fun j hj => ?_⟩
    by_cases e : j = k6
    · subst e
      refine ⟨i, hn, vup_s _ _ _, pk_us, Or.inr ⟨vup_s _ _ _, la, hla, ?_, ?_, fun z hz => ?_⟩⟩
      · rw [vup_s]; exact el
      · rw [pk_us]; exact el
      · rw [vup_s, if_pos (by omega), ho1 (30 * j + z) (by omega) (by omega)]
    · rw [vup_o _ _ e, vup_o _ _ e, vup_o _ _ e, vup_o _ _ e, pk_un e, pk_un e]
      obtain ⟨n', hn', eS, es, hh⟩ := hS j hj
      refine ⟨n', hn', eS, es, ?_⟩
      rcases hh with q | ⟨hH, la', hla', eL, el', hit⟩
      · exact Or.inl q
      · refine Or.inr ⟨hH, la', hla', eL, el', fun z hz => ?_⟩
        rw [ho2 (30 * j + z) (by omega)]
        exact hit z hz
  · have hlt : i < n := by
      rcases Nat.lt_or_ge i n with q | q
      · exact q
      · exact absurd (nI_le q (by omega)) c
    have e30 : (30 : Int32) * nI k6 + nI i = nI (30 * k6 + i) := by
      rw [show (30 : Int32) * nI k6 = nI (30 * k6) from pk_mul 30 k6, nI_add]
    rw [ek, e30, nI_clamp (by omega)]
    refine ⟨vp_in_nI (by omega) (by omega), fun x hx => ?_⟩
    subst hx
    rw [nI_1]
    refine ⟨⟨i + 1, hlt, rfl, fun j h3 h4 => ?_, fun j h3 => ?_⟩, ?_⟩
    · by_cases e : j = 30 * k6 + i
      · subst e; exact pk_uLs
      · rw [pk_uLn e]; exact ho1 j h3 (by omega)
    · rw [pk_uLn (by omega)]; exact ho2 j h3
    · show n - (nI (i + 1)).toNatClampNeg < n - (nI i).toNatClampNeg
      rw [nI_clamp (by omega), nI_clamp (by omega)]
      omega
