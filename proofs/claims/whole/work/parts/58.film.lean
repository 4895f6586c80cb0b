set_option maxHeartbeats 4000000 in
theorem eq_film {bits : Nat → Int64} {stops : Nat → Int32} {num : Int32} {unit : Int32} {strips : Int32} {caps : Int32} {draw : Int32} {oldest : Int32} {known : Int32} {ring : Nat → GS} {im : GS} {iold : Int32} {iknown : Int32} {iring : Nat → GS} {hasIm : Int32} {letters : Nat → Int32} {tlen : Int32} {shI : Nat → Nat → Int64} {shH : Nat → Int32} {shL : Nat → Int32} {shS : Nat → Int32} {st : Nat → Int32} {past : Nat → Int32} {acts : Int32} {image : Nat → Int32} {ipast : Nat → Int32} {iacts : Int32} {tape : Nat → Int32} {tmany : Int32} {laneOf : Nat → Int32} {sizeOf : Nat → Int32} {items : Nat → Int64} (hR : Rel bits stops num unit strips caps draw oldest known ring im iold iknown iring hasIm letters tlen shI shH shL shS st past acts image ipast iacts tape tmany laneOf sizeOf items) (a1 : Int32) (a2 : Int32) (a3 : Int32) (a4 : Int32) : wX10_film a1 a2 a3 a4 unit strips caps shI shH shL shS (fun (r : Int32) (shI' : Nat → Nat → Int64) => wX11_film a1 a2 a3 a4 st laneOf sizeOf items (fun (r' : Int32) (items' : Nat → Int64) => r = r' ∧ Rel bits stops num unit strips caps draw oldest known ring im iold iknown iring hasIm letters tlen shI' shH shL shS st past acts image ipast iacts tape tmany laneOf sizeOf items')) := by
  obtain ⟨hG, hP, hIm, hT, hS⟩ := id hR
  obtain ⟨⟨-, -, ⟨n0, hn0, en0⟩, -⟩, -, -, -, e2, e3, e4, -⟩ := id hG
  have eu : unit = st 266 := e2
  have es0 : strips = nI n0 := e3.trans en0
  have ec : caps = st 268 := e4
  have hn0 : stripN n0 := hn0
  clear e2 e3 e4
  subst es0
  unfold wX10_film
  refine q1_isPlace ?_
  rw [fIn_place]
  refine br_c (fun h0 => by unfold wX11_film; exact q11_in (br_t h0 ⟨rfl, hR⟩)) (fun h0 => ?_)
  refine q10_isSheet ?_
  refine br_c (fun h1 => by unfold wX11_film; exact q11_in (br_f h0 (q11_isSheet (br_t h1 ⟨rfl, hR⟩)))) (fun h1 => ?_)
  refine q0_onS ?_
  refine br_c (fun h2 => ?_) (fun h2 => ?_)
  · unfold wX11_film
    refine q11_in (br_f h0 (q11_isSheet (br_f h1 (q11_onS (br_t ?_ ⟨rfl, hR⟩)))))
    rw [← ec]; exact h2
  have hl := fIn_row h0
  obtain ⟨k, j, hk, hj, ek, ej⟩ := fSheet_yes h1
  subst ek
  have fin : ∀ {post : Int32 → (Nat → Int64) → Prop}, wX11_found (nI k) a3 a4 (24 : Int32) laneOf sizeOf (fun (r7 : Int32) => ((r7 = 0 → (∃ (I55 : Int32 → (Nat → Int64) → Prop) (mu55 : Int32 → (Nat → Int64) → Nat), I55 (0 : Int32) items ∧ ∀ (l6_55 : Int32) (items_55 : Nat → Int64), I55 l6_55 items_55 → (((24 : Int32) ≤ l6_55 → post (24 : Int32) items_55) ∧ (¬ (24 : Int32) ≤ l6_55 → wX11_numberOf a1 l6_55 (fun (r10 : Int32) => wX11_xOf r10 st (fun (r11 : Int32) => wX11_lowest r11.toInt64 a3 (fun (r12 : Int64) => vp_in ((((30 : Int32) * nI k) + a4) + l6_55) 120 ∧ ∀ x14 : Int32, x14 = l6_55 + 1 → (I55 x14 (vp_updL items_55 ((((30 : Int32) * nI k) + a4) + l6_55).toNatClampNeg r12) ∧ mu55 x14 (vp_updL items_55 ((((30 : Int32) * nI k) + a4) + l6_55).toNatClampNeg r12) < mu55 l6_55 items_55)))))))) ∧ (¬ r7 = 0 → post r7 items))) → wX11_film a1 (nI k) a3 a4 st laneOf sizeOf items post := by
    intro post hp
    unfold wX11_film
    refine q11_in (br_f h0 (q11_isSheet (br_f h1 (q11_onS (br_f ?_ hp)))))
    rw [← ec]; exact h2
  have hv : vp_in (nI k) 4 := vp_in_nI (by omega) (by omega)
  refine ⟨hv, fun k4 hk4 => ?_⟩
  rw [nI_clamp (by omega)] at hk4
  subst hk4
  obtain ⟨n, hn, eS, es, hh⟩ := hS k4 hk
  rcases hh with ⟨hH, hL⟩ | ⟨hH, la, hla, eL, el, hit⟩
  · unfold wX6_refusal
    refine br_t hH (br_f (by decide) ?_)
    exact fin (s_found_no hk hL (br_f (by decide) ⟨rfl, hR⟩))
  refine s_refusal (c := 24) hH eL eS (by omega) hn ?_
  replace fin := fun {post} hp => fin (post := post) (s_found (c := 24) hk hla el es (by omega) hn hp)
  refine br_c (fun h3 => ?_) (fun h3 => fin (br_f h3 ⟨rfl, hR⟩))
  have h3' := h3
  unfold fFound at h3
  by_cases e : nI la = a3
  case neg => rw [if_neg e] at h3; exact absurd h3 (by decide)
  rw [if_pos e] at h3
  by_cases f : fHas a4 24 n = 0
  · rw [if_pos f] at h3; exact absurd h3 (by decide)
  obtain ⟨t, ht, et⟩ := fHas_le f
  subst et
  replace fin := fun {post} hp => fin (post := post) (br_t h3' hp)
  refine ⟨fun l sh => ∃ i, i ≤ 24 ∧ l = nI i ∧ sh = va_up shI k4 (fb_put (shI k4) (vFilm unit (nI (24 / n0)) a1 (nI la)) t i), fun l _ => 24 - l.toNatClampNeg, ⟨0, by omega, rfl, ?_⟩, ?_⟩
  · rw [fb_put_0, vup_self]
  rintro l sh ⟨i, hi, rfl, rfl⟩
  refine pk_le 24 i (fun c => ?_) (fun c => ?_)
  · have ei : i = 24 := by omega
    subst ei
    refine fin ⟨fun l it => ∃ i, i ≤ 24 ∧ l = nI i ∧ it = fb_put items (vFilm unit (nI (24 / n0)) a1 (nI la)) (30 * k4 + t) i, fun l _ => 24 - l.toNatClampNeg, ⟨0, by omega, rfl, ?_⟩, ?_⟩
    · rw [fb_put_0]
    rintro l it ⟨i, hi, rfl, rfl⟩
    refine pk_le 24 i (fun c => ?_) (fun c => ?_)
    · have ei : i = 24 := by omega
      subst ei
      refine ⟨rfl, hG, hP, hIm, hT, fun k' hk' => ?_⟩
      obtain ⟨n', hn', eS', es', hh'⟩ := hS k' hk'
      refine ⟨n', hn', eS', es', ?_⟩
      rcases hh' with hh' | ⟨hH', la', hla', eL', el', hit'⟩
      · exact Or.inl hh'
      · refine Or.inr ⟨hH', la', hla', eL', el', fun i hi => ?_⟩
        by_cases q : k' = k4
        · subst q
          rw [vup_s]
          by_cases r : t ≤ i ∧ i < t + 24
          · rw [fb_put_in r.1 r.2, fb_put_in (by omega) (by omega)]
            exact congrArg _ (by omega)
          · rw [fb_put_out (by omega), fb_put_out (by omega)]
            exact hit' i hi
        · rw [vup_o _ _ q, fb_put_out (by omega)]
          exact hit' i hi
    · obtain ⟨p, hp, ep, er⟩ := numOf hl c
      refine q11_numberOf ?_
      rw [ep]
      refine s11_xOf hp hn0 en0 (s_lowest ?_)
      have hix : (((30 : Int32) * nI k4) + nI t) + nI i = nI (30 * k4 + t + i) := by
        rw [show (30 : Int32) = nI 30 from rfl, pk_mul, nI_add, nI_add]
      rw [hix, nI_clamp (by omega)]
      refine ⟨vp_in_nI (by omega) (by omega), fun x hx => ?_⟩
      subst hx
      have ev : fLow (fSX (st 266) (nI (24 / n0)) (rowI p) (nI (stepN p))).toInt64 a3 = vFilm unit (nI (24 / n0)) a1 (nI la) i := by
        unfold vFilm
        rw [ep, t_step p hp, er, e, eu]
      rw [ev, put_succL, nI_1]
      refine ⟨⟨i + 1, by omega, rfl, rfl⟩, ?_⟩
      show 24 - (nI (i + 1)).toNatClampNeg < 24 - (nI i).toNatClampNeg
      rw [nI_clamp (by omega), nI_clamp (by omega)]
      omega
  · refine q1_numberOf (q1_stepOf (q0_width hn0 (q3_stripX (wI_ne hn0) hl ?_)))
    rw [nI_add, vup_s, eL]
    refine s_put (by omega) ?_
    intro x hx
    subst hx
    rw [show fLow (fSX unit (nI (24 / n0)) a1 (fStep (fNumber a1 (nI i)))).toInt64 (nI la) = vFilm unit (nI (24 / n0)) a1 (nI la) i from rfl, put_succL, vup_twice, nI_1]
    refine ⟨⟨i + 1, by omega, rfl, rfl⟩, ?_⟩
    show 24 - (nI (i + 1)).toNatClampNeg < 24 - (nI i).toNatClampNeg
    rw [nI_clamp (by omega), nI_clamp (by omega)]
    omega
