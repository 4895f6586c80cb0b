set_option maxHeartbeats 4000000 in
theorem eq_worst {bits : Nat → Int64} {stops : Nat → Int32} {num : Int32} {unit : Int32} {strips : Int32} {caps : Int32} {draw : Int32} {oldest : Int32} {known : Int32} {ring : Nat → GS} {im : GS} {iold : Int32} {iknown : Int32} {iring : Nat → GS} {hasIm : Int32} {letters : Nat → Int32} {tlen : Int32} {shI : Nat → Nat → Int64} {shH : Nat → Int32} {shL : Nat → Int32} {shS : Nat → Int32} {st : Nat → Int32} {past : Nat → Int32} {acts : Int32} {image : Nat → Int32} {ipast : Nat → Int32} {iacts : Int32} {tape : Nat → Int32} {tmany : Int32} {laneOf : Nat → Int32} {sizeOf : Nat → Int32} {items : Nat → Int64} {off : Int32} {les : Int32} {gre : Int32} {worstOf : Nat → Int32} (hR : Rel bits stops num unit strips caps draw oldest known ring im iold iknown iring hasIm letters tlen shI shH shL shS st past acts image ipast iacts tape tmany laneOf sizeOf items) (a1 : Int32) : wX10_worst a1 unit strips caps off les gre (fun (r : Int32) (off' : Int32) (les' : Int32) (gre' : Int32) => wX11_worst a1 st worstOf (fun (r' : Int32) (worstOf' : Nat → Int32) => r = r' ∧ Rel bits stops num unit strips caps draw oldest known ring im iold iknown iring hasIm letters tlen shI shH shL shS st past acts image ipast iacts tape tmany laneOf sizeOf items)) := by
  obtain ⟨hG, -, -, -, -⟩ := id hR
  obtain ⟨⟨-, ⟨u, hu1, hu2, eu⟩, ⟨n, hn, en⟩, ⟨k, hk, ek⟩, -, -⟩, -, -, -, e2, e3, e4, -⟩ := id hG
  have eu' : unit = nI u := e2.trans eu
  have es : strips = nI n := e3.trans en
  have ec : caps = nI k := e4.trans ek
  have hn : stripN n := hn
  have hw := stripN_w hn
  clear e2 e3 e4
  subst eu' es ec
  unfold wX10_worst
  refine q10_isIn ?_
  refine br_c (fun h0 => by unfold wX11_worst; exact q11_in (br_t h0 ⟨rfl, hR⟩)) (fun h0 => ?_)
  obtain ⟨a, ha, ea⟩ : ∃ k, k ≤ 2 ∧ a1 = nI k := by
    rcases fIn_cases a1 (hi := 2) (by omega) with q | q
    · exact absurd q h0
    · exact q.2
  subst ea
  refine s9_seek hu2 hn hk ?_
  have fin : ∀ {post : Int32 → (Nat → Int32) → Prop}, (∀ f, w3 f = outW u (24 / n) (nI k) (-1, les, gre) 266 → post (f a) f) → wX11_worst (nI a) st worstOf post := by
    intro post hp
    unfold wX11_worst
    refine q11_in (br_f h0 (s11_laysWorst hu2 hn hk eu en ek (fun f hf => ⟨vp_in_nI (by omega) (by omega), ?_⟩)))
    rw [nI_clamp (by omega)]
    exact hp f (hf.trans (out_one hu2 hw.1 hw.2.1 hk rfl rfl))
  refine pk_eq a 0 (fun c => ?_) (fun c => ?_)
  · subst c
    exact fin (fun f hf => ⟨by rw [← hf]; rfl, hR⟩)
  refine pk_eq a 1 (fun d => ?_) (fun d => ?_)
  · subst d
    exact fin (fun f hf => ⟨by rw [← hf]; rfl, hR⟩)
  · have e : a = 2 := by omega
    subst e
    exact fin (fun f hf => ⟨by rw [← hf]; rfl, hR⟩)
