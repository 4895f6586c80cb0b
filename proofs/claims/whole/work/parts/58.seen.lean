set_option maxHeartbeats 4000000 in
theorem eq_seen {bits : Nat → Int64} {stops : Nat → Int32} {num : Int32} {unit : Int32} {strips : Int32} {caps : Int32} {draw : Int32} {oldest : Int32} {known : Int32} {ring : Nat → GS} {im : GS} {iold : Int32} {iknown : Int32} {iring : Nat → GS} {hasIm : Int32} {letters : Nat → Int32} {tlen : Int32} {shI : Nat → Nat → Int64} {shH : Nat → Int32} {shL : Nat → Int32} {shS : Nat → Int32} {st : Nat → Int32} {past : Nat → Int32} {acts : Int32} {image : Nat → Int32} {ipast : Nat → Int32} {iacts : Int32} {tape : Nat → Int32} {tmany : Int32} {laneOf : Nat → Int32} {sizeOf : Nat → Int32} {items : Nat → Int64} (hR : Rel bits stops num unit strips caps draw oldest known ring im iold iknown iring hasIm letters tlen shI shH shL shS st past acts image ipast iacts tape tmany laneOf sizeOf items) (a1 : Int32) (a2 : Int32) (a3 : Int32) (a4 : Int32) : wX10_seen a1 a2 a3 a4 unit shI shH shL shS (fun (r : Int32) => wX11_seen a1 a2 a3 a4 st laneOf sizeOf items (fun (r' : Int32) => r = r' ∧ Rel bits stops num unit strips caps draw oldest known ring im iold iknown iring hasIm letters tlen shI shH shL shS st past acts image ipast iacts tape tmany laneOf sizeOf items)) := by
  obtain ⟨hG, hP, hIm, hT, hS⟩ := id hR
  obtain ⟨-, -, -, -, eu, -⟩ := id hG
  have eu : unit = st 266 := eu
  unfold wX10_seen
  refine q10_isSheet ?_
  refine br_c (fun h0 => by unfold wX11_seen; exact q11_isSheet (br_t h0 ⟨rfl, hR⟩)) (fun h0 => ?_)
  refine q10_isIn ?_
  refine br_c (fun h1 => by unfold wX11_seen; exact q11_isSheet (br_f h0 (q11_in (br_t h1 ⟨rfl, hR⟩)))) (fun h1 => ?_)
  obtain ⟨k, j, hk, hj, ek, ej⟩ := fSheet_yes h0
  subst ek
  obtain ⟨c, hc1, hc8, ec⟩ := fIn_range (a := 1) (b := 8) (by omega) (by omega) h1
  subst ec
  have e3 : (3 : Int32) * nI c = nI (3 * c) := pk_mul 3 c
  have hv : vp_in (nI k) 4 := vp_in_nI (by omega) (by omega)
  refine ⟨hv, fun k4 hk4 => ?_⟩
  rw [nI_clamp (by omega)] at hk4
  subst hk4
  obtain ⟨n, hn, eS, es, hh⟩ := hS k4 hk
  rw [e3]
  rcases hh with ⟨hH, hL⟩ | ⟨hH, la, hla, eL, el, hit⟩
  · unfold wX6_refusal
    refine br_t hH (br_f (by decide) ?_)
    unfold wX11_seen
    exact q11_isSheet (br_f h0 (q11_in (br_f h1 (s_found_no hk hL (br_f (by decide) ⟨rfl, hR⟩)))))
  refine s_refusal (c := 3 * c) hH eL eS (by omega) hn ?_
  refine br_c (fun h3 => ?_) (fun h3 => ?_)
  case refine_2 =>
    unfold wX11_seen
    rw [e3]
    exact q11_isSheet (br_f h0 (q11_in (br_f h1 (s_found (c := 3 * c) hk hla el es (by omega) hn (br_f h3 ⟨rfl, hR⟩)))))
  have h3' := h3
  unfold fFound at h3
  by_cases e : nI la = a2
  case neg => rw [if_neg e] at h3; exact absurd h3 (by decide)
  rw [if_pos e] at h3
  by_cases f : fHas a3 (3 * c) n = 0
  · rw [if_pos f] at h3; exact absurd h3 (by decide)
  obtain ⟨t, ht, et⟩ := fHas_le f
  subst et
  have eit : ∀ x, x < 3 * c → items (30 * k4 + t + x) = shI k4 (t + x) := fun x hx => by
    rw [hit (t + x) (by omega)]
    exact congrArg items (by omega)
  have etel : ∀ q, q < c → telB (items (30 * k4 + t + 3 * q)) (items (30 * k4 + t + 3 * q + 1)) = telB (shI k4 (t + 3 * q)) (shI k4 (t + 3 * q + 1)) := fun q hq => by
    rw [eit (3 * q) (by omega), show 30 * k4 + t + 3 * q + 1 = 30 * k4 + t + (3 * q + 1) by omega, eit (3 * q + 1) (by omega)]
    rfl
  have eag : ∀ w q, q < c → agB unit w (shI k4) t q = agB (st 266) w items (30 * k4 + t) q := fun w q hq => by
    unfold agB agV
    rw [show 30 * k4 + t + 3 * q + 1 = 30 * k4 + t + (3 * q + 1) by omega, show 30 * k4 + t + 3 * q + 2 = 30 * k4 + t + (3 * q + 2) by omega, eit (3 * q) (by omega), eit (3 * q + 1) (by omega), eit (3 * q + 2) (by omega), eu]
    rfl
  have hix : (30 : Int32) * nI k4 + nI t = nI (30 * k4 + t) := by
    rw [show (30 : Int32) = nI 30 from rfl, pk_mul, nI_add]
  have fin : ∀ {post : Int32 → Prop}, (allB (fun q => telB (shI k4 (t + 3 * q)) (shI k4 (t + 3 * q + 1))) c = false → post (-2)) → (allB (fun q => telB (shI k4 (t + 3 * q)) (shI k4 (t + 3 * q + 1))) c = true → post (setS (fun i => allB (agB unit (24 / stripsF i) (shI k4) t) c) 6)) → wX11_seen (nI k4) a2 (nI t) (nI c) st laneOf sizeOf items post := by
    intro post hp1 hp2
    unfold wX11_seen
    rw [e3]
    refine q11_isSheet (br_f h0 (q11_in (br_f h1 (s_found (c := 3 * c) hk hla el es (by omega) hn (br_t h3' ?_)))))
    intro x7 hx7
    rw [hix] at hx7
    subst hx7
    refine ⟨fun l => ∃ q, q ≤ c ∧ l = nI q ∧ allB (fun q => telB (shI k4 (t + 3 * q)) (shI k4 (t + 3 * q + 1))) q = true, fun l => c - l.toNatClampNeg, ⟨0, by omega, rfl, rfl⟩, ?_⟩
    rintro l ⟨q, hq, rfl, hb⟩
    refine pk_le c q (fun z => ?_) (fun z => ?_)
    · have eq : q = c := by omega
      subst eq
      replace hp2 := hp2 hb
      refine ⟨fun r l => ∃ i, i ≤ 6 ∧ l = nI i ∧ r = setS (fun i => allB (agB unit (24 / stripsF i) (shI k4) t) q) i, fun _ l => 6 - l.toNatClampNeg, ⟨0, by omega, rfl, rfl⟩, ?_⟩
      rintro r l ⟨i, hi, rfl, rfl⟩
      refine pk_le 6 i (fun z => ?_) (fun z => ?_)
      · have ei : i = 6 := by omega
        subst ei
        exact hp2
      · refine q11_cutsOf ?_
        rw [t_cuts i z]
        have hlt : ∀ {x : Int32}, x = nI i + 1 → 6 - x.toNatClampNeg < 6 - (nI i).toNatClampNeg := by
          intro x hx
          subst hx
          rw [nI_1, nI_clamp (by omega), nI_clamp (by omega)]
          omega
        refine s_isSeen (t_strips i z).1 (t_strips i z).2 (by omega) ?_ ?_
        · rw [← hb]
          exact allB_cong q etel
        · rw [← allB_cong q (eag (24 / stripsF i))]
          by_cases y : allB (agB unit (24 / stripsF i) (shI k4) t) q = true
          · rw [if_pos y]
            refine br_f (by decide) (fun x hx w hw => ⟨⟨i + 1, by omega, hw.trans (nI_1 i), ?_⟩, hlt hw⟩)
            rw [setS, if_pos y]
            exact hx
          · rw [if_neg y]
            refine br_t rfl (fun x hx w hw => ⟨⟨i + 1, by omega, hw.trans (nI_1 i), ?_⟩, hlt hw⟩)
            rw [setS, if_neg y]
            rw [Int32.or_zero] at hx
            exact hx
    · rw [n3, nI_1, nI_clamp (by omega), nI_clamp (by omega)]
      refine ⟨vp_in_nI (by omega) (by omega), fun x hx => ⟨vp_in_nI (by omega) (by omega), fun y hy => tel11 ?_⟩⟩
      subst hx hy
      rw [etel q z]
      by_cases w : telB (shI k4 (t + 3 * q)) (shI k4 (t + 3 * q + 1)) = true
      · rw [if_pos w]
        intro x hx
        refine ⟨⟨q + 1, by omega, hx.trans (nI_1 q), ?_⟩, ?_⟩
        · rw [allB, hb, w]; rfl
        · subst hx
          rw [nI_1]
          show c - (nI (q + 1)).toNatClampNeg < c - (nI q).toNatClampNeg
          rw [nI_clamp (by omega), nI_clamp (by omega)]
          omega
      · rw [if_neg w]
        exact hp1 (allB_no (P := fun q => telB (shI k4 (t + 3 * q)) (shI k4 (t + 3 * q + 1))) (ts_nt w) c z)
  refine ⟨fun l => ∃ q, q ≤ c ∧ l = nI (t + 3 * q) ∧ allB (fun q => telB (shI k4 (t + 3 * q)) (shI k4 (t + 3 * q + 1))) q = true, fun l => 100 - l.toNatClampNeg, ⟨0, by omega, rfl, rfl⟩, ?_⟩
  rintro l ⟨q, hq, rfl, hb⟩
  rw [← e3, n3]
  refine pk_le (t + 3 * c) (t + 3 * q) (fun z => ?_) (fun z => ?_)
  · have eq : q = c := by omega
    subst eq
    refine ⟨fun r l => ∃ i, i ≤ 6 ∧ l = nI i ∧ r = setS (fun i => allB (agB unit (24 / stripsF i) (shI k4) t) q) i, fun _ l => 6 - l.toNatClampNeg, ⟨0, by omega, rfl, rfl⟩, ?_⟩
    rintro r l ⟨i, hi, rfl, rfl⟩
    refine pk_le 6 i (fun z => ?_) (fun z => ?_)
    · have ei : i = 6 := by omega
      subst ei
      exact fin (fun y => absurd (hb.symm.trans y) (by decide)) (fun _ => ⟨rfl, hR⟩)
    · have hlt : ∀ {x : Int32}, x = nI i + 1 → 6 - x.toNatClampNeg < 6 - (nI i).toNatClampNeg := by
        intro x hx
        subst hx
        rw [nI_1, nI_clamp (by omega), nI_clamp (by omega)]
        omega
      rw [nI_clamp (n := i) (by omega)]
      refine ⟨vp_in_nI (by omega) (by omega), (t_strips i z).1, s_agrees (t_strips i z).2 (by omega) hb ?_⟩
      by_cases y : allB (agB unit (24 / stripsF i) (shI k4) t) q = true
      · rw [if_pos y]
        refine br_f (by decide) (fun x hx w hw => ⟨⟨i + 1, by omega, hw.trans (nI_1 i), ?_⟩, hlt hw⟩)
        rw [setS, if_pos y]
        exact hx
      · rw [if_neg y]
        refine br_t rfl (fun w hw => ⟨⟨i + 1, by omega, hw.trans (nI_1 i), ?_⟩, hlt hw⟩)
        rw [setS, if_neg y]
  · unfold wX6_tellsPlaceAt
    rw [nI_1, nI_clamp (by omega), nI_clamp (by omega)]
    refine ⟨vp_in_nI (by omega) (by omega), fun x hx => ⟨vp_in_nI (by omega) (by omega), fun y hy => tel6 ?_⟩⟩
    subst hx hy
    by_cases w : telB (shI k4 (t + 3 * q)) (shI k4 (t + 3 * q + 1)) = true
    · rw [if_pos w]
      refine br_f (by decide) ?_
      intro x hx
      rw [p3'] at hx
      refine ⟨⟨q + 1, by omega, hx, ?_⟩, ?_⟩
      · rw [allB, hb, w]; rfl
      · subst hx
        show 100 - (nI (t + 3 * (q + 1))).toNatClampNeg < 100 - (nI (t + 3 * q)).toNatClampNeg
        rw [nI_clamp (by omega), nI_clamp (by omega)]
        omega
    · rw [if_neg w]
      refine br_t rfl ?_
      exact fin (fun _ => ⟨rfl, hR⟩) (fun y => absurd (y.symm.trans (allB_no (P := fun q => telB (shI k4 (t + 3 * q)) (shI k4 (t + 3 * q + 1))) (ts_nt w) c (by omega))) (by decide))
