set_option maxHeartbeats 4000000 in
theorem eq_rolled {bits : Nat → Int64} {stops : Nat → Int32} {num : Int32} {unit : Int32} {strips : Int32} {caps : Int32} {draw : Int32} {oldest : Int32} {known : Int32} {ring : Nat → GS} {im : GS} {iold : Int32} {iknown : Int32} {iring : Nat → GS} {hasIm : Int32} {letters : Nat → Int32} {tlen : Int32} {shI : Nat → Nat → Int64} {shH : Nat → Int32} {shL : Nat → Int32} {shS : Nat → Int32} {st : Nat → Int32} {past : Nat → Int32} {acts : Int32} {image : Nat → Int32} {ipast : Nat → Int32} {iacts : Int32} {tape : Nat → Int32} {tmany : Int32} {laneOf : Nat → Int32} {sizeOf : Nat → Int32} {items : Nat → Int64} {cost : Nat → Int32} {heap : Nat → Int64} {wait : Int32} {farTo : Nat → Int32} {stepsTo : Nat → Int32} (hR : Rel bits stops num unit strips caps draw oldest known ring im iold iknown iring hasIm letters tlen shI shH shL shS st past acts image ipast iacts tape tmany laneOf sizeOf items) (a1 : Int32) (a2 : Int32) : wX10_rolled a1 a2 bits stops num unit cost heap wait (fun (r : Int32) (cost' : Nat → Int32) (heap' : Nat → Int64) (wait' : Int32) => wX11_rolled a1 a2 st farTo stepsTo (fun (r' : Int32) (farTo' : Nat → Int32) (stepsTo' : Nat → Int32) => r = r' ∧ Rel bits stops num unit strips caps draw oldest known ring im iold iknown iring hasIm letters tlen shI shH shL shS st past acts image ipast iacts tape tmany laneOf sizeOf items)) := by
  obtain ⟨hG, hP, hIm, hT, hS⟩ := id hR
  obtain ⟨⟨-, ⟨u, hu1, hu2, eu⟩, -, -, ⟨n, hn, en, hpl⟩, -⟩, hb, hs, e1, e2, -⟩ := id hG
  have hb : ∀ p, p < 320 → bitAt bits p = decide (p < 266 ∧ st p = 1) := hb
  have hs : ∀ i, i < 8 → stops i = st (270 + i) := hs
  have eu' : unit = nI u := e2.trans eu
  have en' : num = nI n := e1.trans en
  clear e1 e2
  subst eu' en'
  unfold wX10_rolled
  refine q10_isIn (br_c (fun h0 => by unfold wX11_rolled; exact q11_in (br_t h0 ⟨rfl, hR⟩)) (fun h0 => ?_))
  refine q10_isIn (br_c (fun h1 => by unfold wX11_rolled; exact q11_in (br_f h0 (q11_in (br_t h1 ⟨rfl, hR⟩)))) (fun h1 => ?_))
  obtain ⟨v, hv1, hv2, ev⟩ := fIn_range (a := 1) (b := 10000) (by omega) (by omega) h0
  have hne : ¬ a1 = 0 := by rw [ev]; exact nI_ne0 (by omega) (by omega)
  refine s10_routeLength hb hu2 hn hs hpl (fun r cost' heap' wait' hr => ?_)
  have fin : ∀ {post : Int32 → (Nat → Int32) → (Nat → Int32) → Prop}, (∀ far steps, ((r = (-4 : Int32) → post (-4 : Int32) far steps) ∧ (¬ r = (-4 : Int32) → ((a2 = 0 → ¬ a1 = 0 ∧ post (r / a1) far steps) ∧ (¬ a2 = 0 → ¬ a1 = 0 ∧ post (r - r / a1 * a1) far steps))))) → wX11_rolled a1 a2 st farTo stepsTo post := by
    intro post hp
    unfold wX11_rolled
    exact q11_in (br_f h0 (q11_in (br_f h1 (s11_lengthOf hu1 hu2 eu en hn hpl hr hp))))
  refine br_c (fun c => fin (fun far steps => br_t c ⟨rfl, hR⟩)) (fun c => ?_)
  exact br_c (fun d => ⟨hne, fin (fun far steps => br_f c (br_t d ⟨hne, rfl, hR⟩))⟩) (fun d => ⟨hne, fin (fun far steps => br_f c (br_f d ⟨hne, rfl, hR⟩))⟩)
