set_option maxHeartbeats 4000000 in
theorem eq_add {bits : Nat → Int64} {stops : Nat → Int32} {num : Int32} {unit : Int32} {strips : Int32} {caps : Int32} {draw : Int32} {oldest : Int32} {known : Int32} {ring : Nat → GS} {im : GS} {iold : Int32} {iknown : Int32} {iring : Nat → GS} {hasIm : Int32} {letters : Nat → Int32} {tlen : Int32} {shI : Nat → Nat → Int64} {shH : Nat → Int32} {shL : Nat → Int32} {shS : Nat → Int32} {st : Nat → Int32} {past : Nat → Int32} {acts : Int32} {image : Nat → Int32} {ipast : Nat → Int32} {iacts : Int32} {tape : Nat → Int32} {tmany : Int32} {laneOf : Nat → Int32} {sizeOf : Nat → Int32} {items : Nat → Int64} (hR : Rel bits stops num unit strips caps draw oldest known ring im iold iknown iring hasIm letters tlen shI shH shL shS st past acts image ipast iacts tape tmany laneOf sizeOf items) (a1 : Int32) : wX10_add a1 bits stops num unit strips caps draw oldest known ring (fun (r : Int32) (stops' : Nat → Int32) (num' : Int32) (oldest' : Int32) (known' : Int32) (ring' : Nat → GS) => wX11_add a1 st past acts (fun (r' : Int32) (st' : Nat → Int32) (past' : Nat → Int32) (acts' : Int32) => r = r' ∧ Rel bits stops' num' unit strips caps draw oldest' known' ring' im iold iknown iring hasIm letters tlen shI shH shL shS st' past' acts' image ipast iacts tape tmany laneOf sizeOf items)) := by
  obtain ⟨hG, ⟨o, k, ho, hk, eo, ek, ea, hr⟩, hIm, hT, hS⟩ := id hR
  obtain ⟨⟨h01, hu, hn, hc, ⟨n, hn8, e269, hst⟩, hd⟩, hb, hs, e1, e2, e3, e4, e5⟩ := id hG
  have e1 : num = st 269 := e1
  have en : num = nI n := e1.trans e269
  unfold wX10_add wX11_add
  refine q1_isNumber ?_
  refine br_c (fun h0 => q11_isNumber (br_t h0 ⟨rfl, hR⟩)) (fun h0 => ?_)
  obtain ⟨p, hp, ep⟩ : ∃ p, p ≤ 265 ∧ a1 = nI p := by
    rcases fIn_cases a1 (hi := 265) (by omega) with q | q
    · exact absurd q h0
    · exact q.2
  refine br_c (fun h1 => ?_) (fun h1 => ?_)
  · have hlt : n < 8 := by
      rw [en] at h1
      exact (nI_ltI (b := 8) (by omega) (by omega)).mp h1
    rw [eo, ek]
    refine s_keep ho hk ?_
    refine ⟨by rw [en]; exact vp_in_nI hlt (by omega), fun x hx => ?_⟩
    refine q11_isNumber (br_f h0 (br_f ?_ ?_))
    · rw [e269]
      intro e
      have := (nI_eq (b := 8) (by omega) (by omega)).mp e
      omega
    rw [ea]
    refine s_notes hk ?_
    rw [e269]
    have e270 : (270 : Int32) + nI n = nI (270 + n) := nI_add 270 n
    rw [e270, nI_clamp (by omega)]
    refine ⟨vp_in_nI (by omega) (by omega), ?_, ?_, relP_keep (g := (bits, stops, num, unit, strips, caps, draw)) ho hk hG hr, hIm, hT, hS⟩
    · rw [pk_us, pk_un (by omega), e269, hx, en]
    · have un : ∀ j, j ≠ 269 → j ≠ 270 + n → upd (upd st (270 + n) a1) 269 ((upd st (270 + n) a1) 269 + 1) j = st j := fun j h1 h2 => by rw [pk_un h1, pk_un h2]
      have v69 : upd (upd st (270 + n) a1) 269 ((upd st (270 + n) a1) 269 + 1) 269 = nI (n + 1) := by rw [pk_us, pk_un (by omega), e269, nI_1]
      have v70 : upd (upd st (270 + n) a1) 269 ((upd st (270 + n) a1) 269 + 1) (270 + n) = nI p := by rw [pk_un (by omega), pk_us, ep]
      generalize upd (upd st (270 + n) a1) 269 ((upd st (270 + n) a1) 269 + 1) = st2 at un v69 v70 ⊢
      refine ⟨⟨fun p hp => ?_, ?_, ?_, ?_, ⟨n + 1, by omega, v69, fun i hi => ?_⟩, ?_⟩, fun p hp => ?_, fun i hi => ?_, ?_, ?_, ?_, ?_, ?_⟩
      · rw [un p (by omega) (by omega)]; exact h01 p hp
      · rw [un 266 (by omega) (by omega)]; exact hu
      · rw [un 267 (by omega) (by omega)]; exact hn
      · rw [un 268 (by omega) (by omega)]; exact hc
      · by_cases e : i = n
        · subst e; exact ⟨p, by omega, v70⟩
        · rw [un (270 + i) (by omega) (by omega)]; exact hst i (by omega)
      · rw [un 278 (by omega) (by omega)]; exact hd
      · have := hb p hp
        by_cases hq : p < 266
        · rw [un p (by omega) (by omega)]; exact this
        · simp only [hq, false_and, decide_false] at this ⊢
          exact this
      · show upd stops num.toNatClampNeg a1 i = st2 (270 + i)
        rw [en, nI_clamp (by omega)]
        by_cases e : i = n
        · subst e; rw [pk_us, v70, ep]
        · rw [pk_un e, un (270 + i) (by omega) (by omega)]; exact hs i hi
      · show x = st2 269
        rw [v69, hx, en, nI_1]
      · rw [un 266 (by omega) (by omega)]; exact e2
      · rw [un 267 (by omega) (by omega)]; exact e3
      · rw [un 268 (by omega) (by omega)]; exact e4
      · rw [un 278 (by omega) (by omega)]; exact e5
  · have h8 : n = 8 := by
      rw [en] at h1
      rcases Nat.lt_or_ge n 8 with q | q
      · exact absurd (nI_lt q (by omega)) h1
      · omega
    subst h8
    exact q11_isNumber (br_f h0 (br_t e269 ⟨rfl, hR⟩))
