set_option maxHeartbeats 4000000 in
theorem eq_tell {bits : Nat → Int64} {stops : Nat → Int32} {num : Int32} {unit : Int32} {strips : Int32} {caps : Int32} {draw : Int32} {oldest : Int32} {known : Int32} {ring : Nat → GS} {im : GS} {iold : Int32} {iknown : Int32} {iring : Nat → GS} {hasIm : Int32} {letters : Nat → Int32} {tlen : Int32} {shI : Nat → Nat → Int64} {shH : Nat → Int32} {shL : Nat → Int32} {shS : Nat → Int32} {st : Nat → Int32} {past : Nat → Int32} {acts : Int32} {image : Nat → Int32} {ipast : Nat → Int32} {iacts : Int32} {tape : Nat → Int32} {tmany : Int32} {laneOf : Nat → Int32} {sizeOf : Nat → Int32} {items : Nat → Int64} (hR : Rel bits stops num unit strips caps draw oldest known ring im iold iknown iring hasIm letters tlen shI shH shL shS st past acts image ipast iacts tape tmany laneOf sizeOf items) (a1 : Int32) (a2 : Int32) : wX10_tell a1 a2 bits stops num unit strips caps draw oldest known ring (fun (r : Int32) (unit' : Int32) (strips' : Int32) (caps' : Int32) (oldest' : Int32) (known' : Int32) (ring' : Nat → GS) => wX11_tell a1 a2 st past acts (fun (r' : Int32) (st' : Nat → Int32) (past' : Nat → Int32) (acts' : Int32) => r = r' ∧ Rel bits stops num unit' strips' caps' draw oldest' known' ring' im iold iknown iring hasIm letters tlen shI shH shL shS st' past' acts' image ipast iacts tape tmany laneOf sizeOf items)) := by
  obtain ⟨hG, ⟨o, k, ho, hk, eo, ek, ea, hr⟩, hIm, hT, hS⟩ := id hR
  obtain ⟨⟨h01, hu, hn, hc, hm, hd⟩, hb, hs, e1, e2, e3, e4, e5⟩ := id hG
  have e2 : unit = st 266 := e2
  have e3 : strips = st 267 := e3
  have e4 : caps = st 268 := e4
  unfold wX10_tell
  refine q10_told ?_
  refine br_c (fun h0 => by unfold wX11_tell; exact q11_told (br_t h0 ⟨rfl, hR⟩)) (fun h0 => ?_)
  obtain ⟨w, hw, ew⟩ : ∃ w, w < 3 ∧ a1 = nI w := by
    unfold fTold at h0
    by_cases q0 : a1 = 0
    · exact ⟨0, by omega, q0⟩
    by_cases q1 : a1 = 1
    · exact ⟨1, by omega, q1⟩
    by_cases q2 : a1 = 2
    · exact ⟨2, by omega, q2⟩
    rw [if_neg q0, if_neg q1, if_neg q2] at h0
    exact absurd rfl h0
  have e266 : (266 : Int32) + a1 = nI (266 + w) := by rw [ew]; exact nI_add 266 w
  refine ⟨fun t => t = st (266 + w), ?_, ?_⟩
  · rintro t rfl
    refine br_c (fun h1 => ?_) (fun h1 => ?_)
    · unfold wX11_tell
      refine q11_told (br_f h0 ?_)
      rw [e266, nI_clamp (by omega)]
      refine ⟨vp_in_nI (by omega) (by omega), fun x hx => ?_⟩
      subst hx
      exact br_t h1 ⟨rfl, hR⟩
    · rw [eo, ek]
      refine s_keep ho hk ?_
      have hv : vp_in (nI (266 + w)) 279 := vp_in_nI (by omega) (by omega)
      have un : ∀ j, j ≠ 266 + w → upd st (266 + w) a2 j = st j := fun j hj => pk_un hj
      have us : upd st (266 + w) a2 (266 + w) = a2 := pk_us
      have hbits : ∀ p, p < 320 → bitAt bits p = decide (p < 266 ∧ upd st (266 + w) a2 p = 1) := fun p hp => by
        rw [show bitAt bits p = decide (p < 266 ∧ st p = 1) from hb p hp]
        by_cases hq : p < 266
        · rw [un p (by omega)]
        · simp [hq]
      have hland : ∀ p, p < 266 → upd st (266 + w) a2 p = 0 ∨ upd st (266 + w) a2 p = 1 := fun p hp => by rw [un p (by omega)]; exact h01 p hp
      have hroute : ∃ n, n ≤ 8 ∧ upd st (266 + w) a2 269 = nI n ∧ ∀ i, i < n → ∃ p, p < 266 ∧ upd st (266 + w) a2 (270 + i) = nI p := by
        obtain ⟨n, hn8, e269, hst⟩ := hm
        refine ⟨n, hn8, by rw [un 269 (by omega)]; exact e269, fun i hi => ?_⟩
        rw [un (270 + i) (by omega)]; exact hst i hi
      have hdraw : ∃ d, d < 2 ^ 31 ∧ upd st (266 + w) a2 278 = nI d := by rw [un 278 (by omega)]; exact hd
      have hstops : ∀ i, i < 8 → stops i = upd st (266 + w) a2 (270 + i) := fun i hi => by rw [un (270 + i) (by omega)]; exact hs i hi
      have h69 : num = upd st (266 + w) a2 269 := by rw [un 269 (by omega)]; exact e1
      have h78 : draw = upd st (266 + w) a2 278 := by rw [un 278 (by omega)]; exact e5
      have fin : ∀ (post : Int32 → (Nat → Int32) → (Nat → Int32) → Int32 → Prop), post (st (266 + w)) (upd st (266 + w) a2) (pastN k st past) (nI (knownN k)) → wX11_tell a1 a2 st past acts post := by
        intro post hp
        unfold wX11_tell
        refine q11_told (br_f h0 ?_)
        rw [e266, nI_clamp (by omega)]
        refine ⟨hv, fun x hx => ?_⟩
        subst hx
        refine br_f h1 ?_
        rw [ea]
        refine s_notes hk ?_
        exact ⟨hv, hp⟩
      rcases (show w = 0 ∨ w = 1 ∨ w = 2 by omega) with e | e | e
      · subst e
        have q0 : a1 = 0 := ew
        refine br_t q0 (fin _ ⟨rfl, ⟨⟨hland, ?_, ?_, ?_, hroute, hdraw⟩, hbits, hstops, h69, us.symm, ?_, ?_, h78⟩, relP_keep (g := (bits, stops, num, unit, strips, caps, draw)) ho hk hG hr, hIm, hT, hS⟩)
        · unfold fTold at h0
          rw [if_pos q0] at h0
          obtain ⟨u, h10, h200, eu⟩ := fIn_range (a := 10) (b := 200) (by omega) (by omega) h0
          exact ⟨u, h10, h200, us.trans eu⟩
        · rw [un 267 (by omega)]; exact hn
        · rw [un 268 (by omega)]; exact hc
        · rw [un 267 (by omega)]; exact e3
        · rw [un 268 (by omega)]; exact e4
      · subst e
        have q0 : ¬ a1 = 0 := by rw [ew]; decide
        have q1 : a1 = 1 := ew
        refine br_f q0 (br_t q1 (fin _ ⟨rfl, ⟨⟨hland, ?_, ?_, ?_, hroute, hdraw⟩, hbits, hstops, h69, ?_, us.symm, ?_, h78⟩, relP_keep (g := (bits, stops, num, unit, strips, caps, draw)) ho hk hG hr, hIm, hT, hS⟩))
        · rw [un 266 (by omega)]; exact hu
        · unfold fTold at h0
          rw [if_neg q0, if_pos q1] at h0
          unfold fStrip at h0
          by_cases q : a2 = 2 ∨ a2 = 3 ∨ a2 = 4 ∨ a2 = 6 ∨ a2 = 8 ∨ a2 = 12
          · rcases q with q | q | q | q | q | q
            · exact ⟨2, by omega, us.trans q⟩
            · exact ⟨3, by omega, us.trans q⟩
            · exact ⟨4, by omega, us.trans q⟩
            · exact ⟨6, by omega, us.trans q⟩
            · exact ⟨8, by omega, us.trans q⟩
            · exact ⟨12, by omega, us.trans q⟩
          · rw [if_neg q] at h0; exact absurd rfl h0
        · rw [un 268 (by omega)]; exact hc
        · rw [un 266 (by omega)]; exact e2
        · rw [un 268 (by omega)]; exact e4
      · subst e
        have q0 : ¬ a1 = 0 := by rw [ew]; decide
        have q1 : ¬ a1 = 1 := by rw [ew]; decide
        have q2 : a1 = 2 := ew
        refine br_f q0 (br_f q1 (fin _ ⟨rfl, ⟨⟨hland, ?_, ?_, ?_, hroute, hdraw⟩, hbits, hstops, h69, ?_, ?_, us.symm, h78⟩, relP_keep (g := (bits, stops, num, unit, strips, caps, draw)) ho hk hG hr, hIm, hT, hS⟩))
        · rw [un 266 (by omega)]; exact hu
        · rw [un 267 (by omega)]; exact hn
        · unfold fTold at h0
          rw [if_neg q0, if_neg q1, if_pos q2] at h0
          obtain ⟨u, -, h3, eu⟩ := fIn_range (a := 0) (b := 3) (by omega) (by omega) h0
          exact ⟨u, h3, us.trans eu⟩
        · rw [un 266 (by omega)]; exact e2
        · rw [un 267 (by omega)]; exact e3
  · rcases (show w = 0 ∨ w = 1 ∨ w = 2 by omega) with e | e | e
    · subst e; exact br_t ew e2
    · subst e; exact br_f (by rw [ew]; decide) (br_t ew e3)
    · subst e; exact br_f (by rw [ew]; decide) (br_f (by rw [ew]; decide) e4)
