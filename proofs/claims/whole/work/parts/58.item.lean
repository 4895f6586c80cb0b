set_option maxHeartbeats 4000000 in
theorem eq_item {bits : Nat → Int64} {stops : Nat → Int32} {num : Int32} {unit : Int32} {strips : Int32} {caps : Int32} {draw : Int32} {oldest : Int32} {known : Int32} {ring : Nat → GS} {im : GS} {iold : Int32} {iknown : Int32} {iring : Nat → GS} {hasIm : Int32} {letters : Nat → Int32} {tlen : Int32} {shI : Nat → Nat → Int64} {shH : Nat → Int32} {shL : Nat → Int32} {shS : Nat → Int32} {st : Nat → Int32} {past : Nat → Int32} {acts : Int32} {image : Nat → Int32} {ipast : Nat → Int32} {iacts : Int32} {tape : Nat → Int32} {tmany : Int32} {laneOf : Nat → Int32} {sizeOf : Nat → Int32} {items : Nat → Int64} (hR : Rel bits stops num unit strips caps draw oldest known ring im iold iknown iring hasIm letters tlen shI shH shL shS st past acts image ipast iacts tape tmany laneOf sizeOf items) (a1 : Int32) (a2 : Int32) (a3 : Int32) (a4 : Int64) : wX10_item a1 a2 a3 a4 shI shH shL shS (fun (r : Int32) (shI' : Nat → Nat → Int64) => wX11_item a1 a2 a3 a4 laneOf sizeOf items (fun (r' : Int32) (items' : Nat → Int64) => r = r' ∧ Rel bits stops num unit strips caps draw oldest known ring im iold iknown iring hasIm letters tlen shI' shH shL shS st past acts image ipast iacts tape tmany laneOf sizeOf items')) := by
  obtain ⟨hG, hP, hIm, hT, hS⟩ := id hR
  unfold wX10_item
  refine q10_isSheet ?_
  refine br_c (fun h0 => by unfold wX11_item; exact q11_isSheet (br_t h0 ⟨rfl, hR⟩)) (fun h0 => ?_)
  obtain ⟨k, j, hk, hj, ek, ej⟩ := fSheet_yes h0
  subst ek
  have hv : vp_in (nI k) 4 := vp_in_nI (by omega) (by omega)
  refine ⟨hv, fun k4 hk4 => ?_⟩
  rw [nI_clamp (by omega)] at hk4
  subst hk4
  obtain ⟨n, hn, eS, es, hh⟩ := hS k4 hk
  rcases hh with ⟨hH, hL⟩ | ⟨hH, la, hla, eL, el, hit⟩
  · unfold wX6_refusal
    refine br_t hH (br_f (by decide) ?_)
    unfold wX11_item
    exact q11_isSheet (br_f h0 (s_found_no hk hL (br_f (by decide) ⟨rfl, hR⟩)))
  · refine s_refusal (c := 1) hH eL eS (by omega) hn ?_
    refine br_c (fun h1 => ?_) (fun h1 => ?_)
    · have h1' := h1
      unfold fFound at h1
      by_cases e : nI la = a2
      · rw [if_pos e] at h1
        by_cases f : fHas a3 1 n = 0
        · rw [if_pos f] at h1; exact absurd h1 (by decide)
        · obtain ⟨t, ht, et⟩ := fHas_le f
          subst et
          rw [eL]
          refine s_put (by omega) ?_
          unfold wX11_item
          refine q11_isSheet (br_f h0 (s_found (c := 1) hk hla el es (by omega) hn (br_t h1' (s_lowest ?_))))
          have hix : ((30 : Int32) * nI k4) + nI t = nI (30 * k4 + t) := by
            rw [show (30 : Int32) = nI 30 from rfl, pk_mul, nI_add]
          rw [hix, nI_clamp (by omega)]
          refine ⟨vp_in_nI (by omega) (by omega), rfl, hG, hP, hIm, hT, fun k' hk' => ?_⟩
          by_cases q : k' = k4
          · subst q
            refine ⟨n, hn, eS, es, Or.inr ⟨hH, la, hla, eL, el, fun i hi => ?_⟩⟩
            rw [vup_s]
            by_cases r : i = t
            · subst r; rw [pk_uLs, pk_uLs, e]
            · rw [pk_uLn r, pk_uLn (by omega)]; exact hit i hi
          · obtain ⟨n', hn', eS', es', hh'⟩ := hS k' hk'
            refine ⟨n', hn', eS', es', ?_⟩
            rcases hh' with hh' | ⟨hH', la', hla', eL', el', hit'⟩
            · exact Or.inl hh'
            · refine Or.inr ⟨hH', la', hla', eL', el', fun i hi => ?_⟩
              rw [vup_o _ _ q, pk_uLn (by omega)]
              exact hit' i hi
      · rw [if_neg e] at h1; exact absurd h1 (by decide)
    · unfold wX11_item
      exact q11_isSheet (br_f h0 (s_found (c := 1) hk hla el es (by omega) hn (br_f h1 ⟨rfl, hR⟩)))
