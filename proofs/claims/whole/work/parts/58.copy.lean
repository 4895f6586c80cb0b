set_option maxHeartbeats 4000000 in
theorem eq_copy {bits : Nat → Int64} {stops : Nat → Int32} {num : Int32} {unit : Int32} {strips : Int32} {caps : Int32} {draw : Int32} {oldest : Int32} {known : Int32} {ring : Nat → GS} {im : GS} {iold : Int32} {iknown : Int32} {iring : Nat → GS} {hasIm : Int32} {letters : Nat → Int32} {tlen : Int32} {shI : Nat → Nat → Int64} {shH : Nat → Int32} {shL : Nat → Int32} {shS : Nat → Int32} {st : Nat → Int32} {past : Nat → Int32} {acts : Int32} {image : Nat → Int32} {ipast : Nat → Int32} {iacts : Int32} {tape : Nat → Int32} {tmany : Int32} {laneOf : Nat → Int32} {sizeOf : Nat → Int32} {items : Nat → Int64} (hR : Rel bits stops num unit strips caps draw oldest known ring im iold iknown iring hasIm letters tlen shI shH shL shS st past acts image ipast iacts tape tmany laneOf sizeOf items) (a1 : Int32) (a2 : Int32) (a3 : Int32) (a4 : Int32) (a5 : Int32) : wX10_copy a1 a2 a3 a4 a5 shI shH shL shS (fun (r : Int32) (shI' : Nat → Nat → Int64) => wX11_copy a1 a2 a3 a4 a5 laneOf sizeOf items (fun (r' : Int32) (items' : Nat → Int64) => r = r' ∧ Rel bits stops num unit strips caps draw oldest known ring im iold iknown iring hasIm letters tlen shI' shH shL shS st past acts image ipast iacts tape tmany laneOf sizeOf items')) := by
  obtain ⟨hG, hP, hIm, hT, hS⟩ := id hR
  unfold wX10_copy
  refine q10_isIn ?_
  refine br_c (fun h0 => by unfold wX11_copy; exact q11_in (br_t h0 ⟨rfl, hR⟩)) (fun h0 => ?_)
  refine q10_isIn ?_
  refine br_c (fun h1 => by unfold wX11_copy; exact q11_in (br_f h0 (q11_in (br_t h1 ⟨rfl, hR⟩)))) (fun h1 => ?_)
  obtain ⟨k, hk, ek⟩ : ∃ k, k ≤ 3 ∧ a1 = nI k := by
    rcases fIn_cases a1 (hi := 3) (by omega) with q | q
    · exact absurd q h0
    · exact q.2
  obtain ⟨m, hm, em⟩ : ∃ k, k ≤ 3 ∧ a3 = nI k := by
    rcases fIn_cases a3 (hi := 3) (by omega) with q | q
    · exact absurd q h1
    · exact q.2
  subst ek em
  have hv : vp_in (nI k) 4 := vp_in_nI (by omega) (by omega)
  have hw : vp_in (nI m) 4 := vp_in_nI (by omega) (by omega)
  have hck : (nI k).toNatClampNeg = k := nI_clamp (by omega)
  have hcm : (nI m).toNatClampNeg = m := nI_clamp (by omega)
  refine ⟨hv, fun k6 hk6 => ⟨hw, fun k8 hk8 => ?_⟩⟩
  rw [hck] at hk6
  rw [hcm] at hk8
  subst hk6 hk8
  obtain ⟨n, hn, eS, es, hh⟩ := hS k6 (by omega)
  obtain ⟨n', hn', eS', es', hh'⟩ := hS k8 (by omega)
  have fin : ∀ {post : Int32 → (Nat → Int64) → Prop}, (((laneOf k6) < 0 → post (-11 : Int32) items) ∧ (¬ (laneOf k6) < 0 → vp_in (nI k8) 4 ∧ ((0 ≤ (laneOf k8) → vp_in (nI k6) 4 ∧ vp_in (nI k8) 4 ∧ (((laneOf k6) = (laneOf k8) → fCopy (nI k6) a2 (nI k8) a4 a5 (sizeOf k6) (sizeOf k8) items post) ∧ (¬ (laneOf k6) = (laneOf k8) → post (-12 : Int32) items))) ∧ (¬ 0 ≤ (laneOf k8) → post (-11 : Int32) items)))) → wX11_copy (nI k6) a2 (nI k8) a4 a5 laneOf sizeOf items post := by
    intro post hp
    unfold wX11_copy
    refine q11_in (br_f h0 (q11_in (br_f h1 ⟨hv, ?_⟩)))
    rw [hck, hcm]
    unfold fCopy at hp
    exact hp
  rcases hh with ⟨hH, hL⟩ | ⟨hH, la, hla, eL, el, hit⟩
  · exact br_t hH (fin (br_t (by rw [hL]; decide) ⟨rfl, hR⟩))
  refine br_f (by rw [hH]; decide) ?_
  rcases hh' with ⟨hH', hL'⟩ | ⟨hH', la', hla', eL', el', hit'⟩
  · exact br_t hH' (fin (br_f (by rw [el]; exact nI_pos (by omega)) ⟨hw, br_f (by rw [hL']; decide) ⟨rfl, hR⟩⟩))
  refine br_f (by rw [hH']; decide) ?_
  have fin2 : ∀ {post : Int32 → (Nat → Int64) → Prop}, (((laneOf k6) = (laneOf k8) → fCopy (nI k6) a2 (nI k8) a4 a5 (sizeOf k6) (sizeOf k8) items post) ∧ (¬ (laneOf k6) = (laneOf k8) → post (-12 : Int32) items)) → wX11_copy (nI k6) a2 (nI k8) a4 a5 laneOf sizeOf items post := fun hp => fin (br_f (by rw [el]; exact nI_pos (by omega)) ⟨hw, br_t (by rw [el']; exact nI_pos' (by omega)) ⟨hv, hw, hp⟩⟩)
  rw [eL, eL', eS, eS']
  rw [el, el', es, es'] at fin2
  refine br_c (fun q => ?_) (fun q => fin2 (br_f q ⟨rfl, hR⟩))
  by_cases h5 : a5 < 0 ∨ 30 < a5
  · have h : fCopy (nI k6) a2 (nI k8) a4 a5 (nI n) (nI n') items (fun (r' : Int32) (items' : Nat → Int64) => -13 = r' ∧ Rel bits stops num unit strips caps draw oldest known ring im iold iknown iring hasIm letters tlen shI shH shL shS st past acts image ipast iacts tape tmany laneOf sizeOf items') := by
      unfold fCopy
      exact br_c (fun _ => ⟨rfl, hR⟩) (fun c => br_t (h5.resolve_left c) ⟨rfl, hR⟩)
    unfold wX6_hasItems
    refine br_c (fun c => br_t rfl (fin2 (br_t q h))) (fun c => ?_)
    obtain ⟨u, hu, eu⟩ := nI_of c
    subst eu
    have hu30 : 30 < u := (nI_ltI (a := 30) (by omega) hu).1 (h5.resolve_left c)
    refine br_c (fun _ => br_t rfl (fin2 (br_t q h))) (fun c2 => ?_)
    refine br_c (fun _ => br_t rfl (fin2 (br_t q h))) (fun c3 => ?_)
    obtain ⟨v, hv, ev⟩ := nI_of c2
    subst ev
    have hvn : v ≤ n := Nat.le_of_not_lt (fun f => c3 ((nI_ltI (by omega) hv).2 f))
    rw [pk_sub hvn]
    exact br_t ((nI_ltI (by omega) hu).2 (by omega)) (br_t rfl (fin2 (br_t q h)))
  · obtain ⟨c, hc, ec⟩ := nI_of (x := a5) (fun f => h5 (Or.inl f))
    subst ec
    have hc30 : c ≤ 30 := Nat.le_of_not_lt (fun f => h5 (Or.inr ((nI_ltI (a := 30) (by omega) hc).2 f)))
    have fin3 := fun {post} hp => fin2 (post := post) (br_t q (s_copyN (k := k6) (m := k8) (c := c) (n := n) (n' := n') (a2 := a2) (a4 := a4) (by omega) (by omega) hc30 hn hn' hp))
    refine s_hasItems (by omega) hn ?_
    refine br_c (fun f => fin3 (Or.inl ⟨Or.inl f, rfl, hR⟩)) (fun f => ?_)
    refine s_hasItems (by omega) hn' ?_
    refine br_c (fun g => fin3 (Or.inl ⟨Or.inr g, rfl, hR⟩)) (fun g => ?_)
    obtain ⟨t, ht, et⟩ := fHas_le f
    obtain ⟨t', ht', et'⟩ := fHas_le g
    subst et et'
    refine ⟨nI_pos (by omega), nI_pos (by omega), nI_pos (by omega), ?_⟩
    rw [nI_clamp (n := t) (by omega), nI_clamp (n := t') (by omega), nI_clamp (n := c) (by omega)]
    refine ⟨by omega, by omega, ?_⟩
    refine fin3 (Or.inr ⟨t, t', ht, ht', rfl, rfl, fun it' hit2 => ⟨rfl, hG, hP, hIm, hT, fun k' hk' => ?_⟩⟩)
    obtain ⟨N, hN, fS, fs, hH3⟩ := hS k' hk'
    refine ⟨N, hN, fS, fs, ?_⟩
    rcases hH3 with hH3 | ⟨hH3, l3, hl3, fL, fl3, hit3⟩
    · exact Or.inl hH3
    · refine Or.inr ⟨hH3, l3, hl3, fL, fl3, fun i hi => ?_⟩
      rw [hit2]
      by_cases z : k' = k8
      · subst z
        rw [vup_s]
        by_cases y : t' ≤ i ∧ i < t' + c
        · rw [pk_cpy_in y.1 y.2, if_pos (by omega)]
          rw [hit (t + (i - t')) (by omega)]
          exact congrArg items (by omega)
        · rw [pk_cpy_out (by omega), if_neg (by omega)]
          exact hit3 i hi
      · rw [vup_o _ _ z, if_neg (by omega)]
        exact hit3 i hi
