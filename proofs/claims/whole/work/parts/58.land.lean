set_option maxHeartbeats 4000000 in
theorem eq_land {bits : Nat → Int64} {stops : Nat → Int32} {num : Int32} {unit : Int32} {strips : Int32} {caps : Int32} {draw : Int32} {oldest : Int32} {known : Int32} {ring : Nat → GS} {im : GS} {iold : Int32} {iknown : Int32} {iring : Nat → GS} {hasIm : Int32} {letters : Nat → Int32} {tlen : Int32} {shI : Nat → Nat → Int64} {shH : Nat → Int32} {shL : Nat → Int32} {shS : Nat → Int32} {st : Nat → Int32} {past : Nat → Int32} {acts : Int32} {image : Nat → Int32} {ipast : Nat → Int32} {iacts : Int32} {tape : Nat → Int32} {tmany : Int32} {laneOf : Nat → Int32} {sizeOf : Nat → Int32} {items : Nat → Int64} (hR : Rel bits stops num unit strips caps draw oldest known ring im iold iknown iring hasIm letters tlen shI shH shL shS st past acts image ipast iacts tape tmany laneOf sizeOf items) (a1 : Int32) (a2 : Int32) : wX10_land a1 a2 bits stops num unit strips caps draw oldest known ring (fun (r : Int32) (bits' : Nat → Int64) (oldest' : Int32) (known' : Int32) (ring' : Nat → GS) => wX11_land a1 a2 st past acts (fun (r' : Int32) (st' : Nat → Int32) (past' : Nat → Int32) (acts' : Int32) => r = r' ∧ Rel bits' stops num unit strips caps draw oldest' known' ring' im iold iknown iring hasIm letters tlen shI shH shL shS st' past' acts' image ipast iacts tape tmany laneOf sizeOf items)) := by
  obtain ⟨hG, ⟨o, k, ho, hk, eo, ek, ea, hr⟩, hIm, hT, hS⟩ := id hR
  obtain ⟨⟨h01, hu, hn, hc, hm, hd⟩, hb, hs, e1, e2, e3, e4, e5⟩ := id hG
  have hb : ∀ p, p < 320 → bitAt bits p = decide (p < 266 ∧ st p = 1) := hb
  unfold wX10_land
  refine q1_isNumber ?_
  refine br_c (fun h0 => by unfold wX11_land; exact q11_isNumber (br_t h0 ⟨rfl, hR⟩)) (fun h0 => ?_)
  refine q10_isIn ?_
  refine br_c (fun h1 => by unfold wX11_land; exact q11_isNumber (br_f h0 (q11_in (br_t h1 ⟨rfl, hR⟩)))) (fun h1 => ?_)
  obtain ⟨p, hp, ep⟩ : ∃ k, k ≤ 265 ∧ a1 = nI k := by
    rcases fIn_cases a1 (hi := 265) (by omega) with q | q
    · exact absurd q h0
    · exact q.2
  subst ep
  have hp : p < 266 := by omega
  have h2a : a2 = 0 ∨ a2 = 1 := by
    rcases fIn_cases a2 (hi := 1) (by omega) with q | q
    · exact absurd q h1
    · obtain ⟨-, w, hw, ew⟩ := q
      rcases (show w = 0 ∨ w = 1 by omega) with e | e
      · subst e; exact Or.inl ew
      · subst e; exact Or.inr ew
  have hv : vp_in (nI p) 279 := vp_in_nI (by omega) (by omega)
  have hcl : (nI p).toNatClampNeg = p := nI_clamp (by omega)
  have hrb : (if bitAt bits p then (1 : Int32) else 0) = st p := by
    rw [hb p (by omega)]
    rcases h01 p hp with q | q
    · rw [q]; simp
    · rw [q]; simp [hp]
  refine s_isLand (by omega) ?_
  rw [hrb]
  refine ⟨fun t => t = a2, ?_, br_c (fun q => q.symm) (fun q => ?_)⟩
  · rintro t rfl
    refine br_c (fun h2 => ?_) (fun h2 => ?_)
    · unfold wX11_land
      refine q11_isNumber (br_f h0 (q11_in (br_f h1 ⟨hv, ?_⟩)))
      rw [hcl]
      exact br_t h2 ⟨rfl, hR⟩
    · rw [eo, ek]
      refine s_keep ho hk ?_
      refine s_turnOver (by omega) (fun b' hb' => ?_)
      refine s_landNumber ?_
      unfold wX11_land
      refine q11_isNumber (br_f h0 (q11_in (br_f h1 ⟨hv, ?_⟩)))
      rw [hcl]
      refine br_f h2 ?_
      rw [ea]
      refine s_notes hk ⟨hv, ?_⟩
      have un : ∀ j, j ≠ p → upd st p t j = st j := fun j hj => pk_un hj
      have us : upd st p t p = t := pk_us
      have hland : ∀ q, q < 266 → upd st p t q = 0 ∨ upd st p t q = 1 := fun q hq => by
        by_cases e : q = p
        · rw [e, us]; exact h2a
        · rw [un q e]; exact h01 q hq
      have hbits : ∀ q, q < 320 → bitAt b' q = decide (q < 266 ∧ upd st p t q = 1) := fun q hq => by
        rw [hb' q hq, hb q hq]
        by_cases e : q = p
        · subst e
          rw [us]
          rcases h01 q hp with g | g <;> rcases h2a with f | f
          · exact absurd (g.trans f.symm) h2
          · rw [g, f]; simp [hp]
          · rw [g, f]; simp [hp]
          · exact absurd (g.trans f.symm) h2
        · rw [un q e]; simp [e]
      refine s_landMany hland ⟨congrArg nI (land_eq hbits), ⟨⟨hland, ?_, ?_, ?_, ?_, ?_⟩, hbits, ?_, ?_, ?_, ?_, ?_, ?_⟩, relP_keep (g := (bits, stops, num, unit, strips, caps, draw)) ho hk hG hr, hIm, hT, hS⟩
      · rw [un 266 (by omega)]; exact hu
      · rw [un 267 (by omega)]; exact hn
      · rw [un 268 (by omega)]; exact hc
      · obtain ⟨n, hn8, e269, hst⟩ := hm
        refine ⟨n, hn8, by rw [un 269 (by omega)]; exact e269, fun i hi => ?_⟩
        rw [un (270 + i) (by omega)]; exact hst i hi
      · rw [un 278 (by omega)]; exact hd
      · intro i hi; rw [un (270 + i) (by omega)]; exact hs i hi
      · rw [un 269 (by omega)]; exact e1
      · rw [un 266 (by omega)]; exact e2
      · rw [un 267 (by omega)]; exact e3
      · rw [un 268 (by omega)]; exact e4
      · rw [un 278 (by omega)]; exact e5
  · rcases h2a with g | g
    · exact g.symm
    · exact absurd g q
