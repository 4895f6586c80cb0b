set_option maxHeartbeats 4000000 in
theorem eq_out {bits : Nat → Int64} {stops : Nat → Int32} {num : Int32} {unit : Int32} {strips : Int32} {caps : Int32} {draw : Int32} {oldest : Int32} {known : Int32} {ring : Nat → GS} {im : GS} {iold : Int32} {iknown : Int32} {iring : Nat → GS} {hasIm : Int32} {letters : Nat → Int32} {tlen : Int32} {shI : Nat → Nat → Int64} {shH : Nat → Int32} {shL : Nat → Int32} {shS : Nat → Int32} {st : Nat → Int32} {past : Nat → Int32} {acts : Int32} {image : Nat → Int32} {ipast : Nat → Int32} {iacts : Int32} {tape : Nat → Int32} {tmany : Int32} {laneOf : Nat → Int32} {sizeOf : Nat → Int32} {items : Nat → Int64} (hR : Rel bits stops num unit strips caps draw oldest known ring im iold iknown iring hasIm letters tlen shI shH shL shS st past acts image ipast iacts tape tmany laneOf sizeOf items) (a1 : Int32) : wX10_out a1 bits stops num unit strips caps draw oldest known ring (fun (r : Int32) (stops' : Nat → Int32) (num' : Int32) (oldest' : Int32) (known' : Int32) (ring' : Nat → GS) => wX11_out a1 st past acts (fun (r' : Int32) (st' : Nat → Int32) (past' : Nat → Int32) (acts' : Int32) => r = r' ∧ Rel bits stops' num' unit strips caps draw oldest' known' ring' im iold iknown iring hasIm letters tlen shI shH shL shS st' past' acts' image ipast iacts tape tmany laneOf sizeOf items)) := by
  obtain ⟨hG, ⟨o, k, ho, hk, eo, ek, ea, hr⟩, hIm, hT, hS⟩ := id hR
  obtain ⟨⟨-, -, -, -, ⟨n, hn, en, hpl⟩, -⟩, -, hs, e1, -⟩ := id hG
  have hs : ∀ i, i < 8 → stops i = (fun i => st (270 + i)) i := hs
  have e1 : num = nI n := e1.trans en
  unfold wX10_out
  refine q1_isNumber ?_
  refine br_c (fun h0 => by unfold wX11_out; exact q11_isNumber (br_t h0 ⟨rfl, hR⟩)) (fun h0 => ?_)
  have e270 : ∀ i : Nat, (270 : Int32) + nI i = nI (270 + i) := fun i => nI_add 270 i
  have ec := cntF_cong (a := a1) hs n hn
  obtain ⟨ec2, ec1⟩ := cmpF_cong (a := a1) hs n hn
  have fin : ∀ {post : Int32 → (Nat → Int32) → (Nat → Int32) → Int32 → Prop}, (cntF a1 stops n = 0 → post (-4) st past acts) → (¬ cntF a1 stops n = 0 → post (nI (cntF a1 stops n)) (upd (stR (cmpF a1 (fun i => st (270 + i)) n).1 st) 269 (nI (cmpF a1 (fun i => st (270 + i)) n).2)) (pastN k st past) (nI (knownN k))) → wX11_out a1 st past acts post := by
    intro post hp1 hp2
    unfold wX11_out
    refine q11_isNumber (br_f h0 ?_)
    refine ⟨fun t l => ∃ i, i ≤ n ∧ l = nI i ∧ t = nI (cntF a1 (fun i => st (270 + i)) i), fun _ l => n - l.toNatClampNeg, ⟨0, by omega, rfl, rfl⟩, ?_⟩
    rintro t l ⟨i, hi, rfl, rfl⟩
    rw [en]
    have hcl := cntF_le a1 (fun i => st (270 + i)) i
    refine pk_le n i (fun c => ?_) (fun c => ?_)
    · have e : i = n := by omega
      subst e
      rw [← ec]
      rw [← ec] at hcl
      refine br_c (fun q => hp1 ((nI_z (by omega)).1 q)) (fun q => ?_)
      rw [ea]
      refine s_notes hk ?_
      replace hp2 := hp2 (fun z => q ((nI_z (by omega)).2 z))
      refine ⟨fun m l f => ∃ j, j ≤ i ∧ l = nI j ∧ m = nI (cmpF a1 (fun i => st (270 + i)) j).2 ∧ f = stR (cmpF a1 (fun i => st (270 + i)) j).1 st, fun _ l _ => i - l.toNatClampNeg, ⟨0, by omega, rfl, rfl, (stR_self st).symm⟩, ?_⟩
      rintro m l f ⟨j, hj, rfl, rfl, rfl⟩
      have hinv := cmpF_inv a1 (fun i => st (270 + i)) j
      rw [stR_out (j := 269) (by omega), en, e270, e270]
      have hlt : ∀ {x : Int32}, x = nI j + 1 → j < i → i - x.toNatClampNeg < i - (nI j).toNatClampNeg := by
        intro x hx hin
        subst hx
        rw [nI_1, nI_clamp (by omega), nI_clamp (by omega)]
        omega
      refine pk_le i j (fun c => ?_) (fun c => ?_)
      · have e : j = i := by omega
        subst e
        exact hp2
      · rw [nI_clamp (n := 270 + j) (by omega), stR_in (by omega)]
        refine ⟨vp_in_nI (by omega) (by omega), br_c (fun q => ?_) (fun q => ?_)⟩
        · intro x hx
          refine ⟨⟨j + 1, by omega, hx.trans (nI_1 j), ?_, ?_⟩, hlt hx c⟩
          · rw [cmpF_yes q]
          · rw [cmpF_yes q]
        · rw [nI_clamp (by omega), stR_upd (by omega)]
          refine ⟨vp_in_nI (by omega) (by omega), vp_in_nI (by omega) (by omega), fun x hx y hy => ?_⟩
          refine ⟨⟨j + 1, by omega, hy.trans (nI_1 j), ?_, ?_⟩, hlt hy c⟩
          · rw [cmpF_no q]; exact hx.trans (nI_1 _)
          · rw [cmpF_no q]
    · rw [e270, nI_clamp (by omega)]
      have hlt : ∀ {x : Int32}, x = nI i + 1 → n - x.toNatClampNeg < n - (nI i).toNatClampNeg := by
        intro x hx
        subst hx
        rw [nI_1, nI_clamp (by omega), nI_clamp (by omega)]
        omega
      refine ⟨vp_in_nI (by omega) (by omega), br_c (fun q => ?_) (fun q => ?_)⟩
      · intro x hx y hy
        refine ⟨⟨i + 1, by omega, hy.trans (nI_1 i), ?_⟩, hlt hy⟩
        rw [cntF, if_pos q]
        exact hx.trans (nI_1 _)
      · intro x hx y hy
        refine ⟨⟨i + 1, by omega, hy.trans (nI_1 i), ?_⟩, hlt hy⟩
        rw [cntF, if_neg q]
        exact hx.trans (nI_add _ 0)
  rw [e1]
  refine s_stopsAt hn ?_
  by_cases q : cntF a1 stops n = 0
  · rw [if_pos q]
    rw [← e1]
    exact br_t rfl (fin (fun _ => ⟨rfl, hR⟩) (fun z => absurd q z))
  · rw [if_neg q]
    refine br_f (by decide) ?_
    rw [eo, ek]
    refine s_keep ho hk ?_
    refine s_withoutStop hn ?_
    refine fin (fun z => absurd z q) (fun _ => ⟨rfl, ?_, ?_, hIm, hT, hS⟩)
    · rw [ec2]
      refine relG_route (stops := stops) (num := num) ?_ ec1 ?_ hG
      · have := (cmpF_inv a1 (fun i => st (270 + i)) n).1
        omega
      · have := (cmpF_inv a1 (fun i => st (270 + i)) n).1
        exact fun j hj => cmpF_place hpl n (Nat.le_refl _) j (by omega)
    · rw [← e1]
      exact relP_keep (g := (bits, stops, num, unit, strips, caps, draw)) ho hk hG hr
