set_option maxHeartbeats 4000000 in
theorem eq_reverse {bits : Nat → Int64} {stops : Nat → Int32} {num : Int32} {unit : Int32} {strips : Int32} {caps : Int32} {draw : Int32} {oldest : Int32} {known : Int32} {ring : Nat → GS} {im : GS} {iold : Int32} {iknown : Int32} {iring : Nat → GS} {hasIm : Int32} {letters : Nat → Int32} {tlen : Int32} {shI : Nat → Nat → Int64} {shH : Nat → Int32} {shL : Nat → Int32} {shS : Nat → Int32} {st : Nat → Int32} {past : Nat → Int32} {acts : Int32} {image : Nat → Int32} {ipast : Nat → Int32} {iacts : Int32} {tape : Nat → Int32} {tmany : Int32} {laneOf : Nat → Int32} {sizeOf : Nat → Int32} {items : Nat → Int64} (hR : Rel bits stops num unit strips caps draw oldest known ring im iold iknown iring hasIm letters tlen shI shH shL shS st past acts image ipast iacts tape tmany laneOf sizeOf items) : wX10_reverse bits stops num unit strips caps draw oldest known ring (fun (r : Int32) (stops' : Nat → Int32) (oldest' : Int32) (known' : Int32) (ring' : Nat → GS) => wX11_reverse st past acts (fun (r' : Int32) (st' : Nat → Int32) (past' : Nat → Int32) (acts' : Int32) => r = r' ∧ Rel bits stops' num unit strips caps draw oldest' known' ring' im iold iknown iring hasIm letters tlen shI shH shL shS st' past' acts' image ipast iacts tape tmany laneOf sizeOf items)) := by
  obtain ⟨hG, ⟨o, k, ho, hk, eo, ek, ea, hr⟩, hIm, hT, hS⟩ := id hR
  obtain ⟨⟨-, -, -, -, ⟨n, hn, en, hpl⟩, -⟩, -, hs, e1, -⟩ := id hG
  have hs : ∀ i, i < 8 → stops i = (fun i => st (270 + i)) i := hs
  have e1 : num = nI n := e1.trans en
  have e270 : ∀ i : Nat, (270 : Int32) + nI i = nI (270 + i) := fun i => nI_add 270 i
  unfold wX10_reverse
  refine ⟨fun h2 => ?_, fun h2 => ?_⟩
  · have h2' : 2 ≤ n := by
      rw [e1] at h2
      exact (nI_leI (a := 2) (by omega) (by omega)).1 h2
    rw [eo, ek]
    refine s_keep ho hk ?_
    have hgoal : ∀ {post : (Nat → Int32) → Prop}, post (rvF n stops (n / 2)) → wX0_turnRoute stops num post := fun hp => by
      rw [e1]
      exact s_turnRoute hn hp
    refine hgoal ?_
    have ecg := rvF_cong hn hs (n / 2) (Nat.le_refl _)
    have fin : ∀ {post : Int32 → (Nat → Int32) → (Nat → Int32) → Int32 → Prop}, post (rvF n (fun i => st (270 + i)) (n / 2) 0) (stR (rvF n (fun i => st (270 + i)) (n / 2)) st) (pastN k st past) (nI (knownN k)) → wX11_reverse st past acts post := by
      intro post hp
      unfold wX11_reverse
      refine br_t (by rw [en]; exact nI_le (a := 2) h2' (by omega)) ?_
      rw [ea]
      refine s_notes hk ?_
      intro x4 hx4
      rw [en, e270, show (1 : Int32) = nI 1 from rfl, pk_sub (by omega)] at hx4
      subst hx4
      refine ⟨fun l f => ∃ i, i ≤ n / 2 ∧ l = nI i ∧ f = stR (rvF n (fun i => st (270 + i)) i) st, fun l _ => n - l.toNatClampNeg, ⟨0, by omega, rfl, (stR_self st).symm⟩, ?_⟩
      rintro l f ⟨i, hi, rfl, rfl⟩
      rw [stR_out (j := 269) (by omega), en, show nI n / 2 = nI (n / 2) from pk_div (d := 2) (by omega) (by omega) (by omega)]
      refine pk_le (n / 2) i (fun c => ?_) (fun c => ?_)
      · have e : i = n / 2 := by omega
        subst e
        rw [show (270 : Nat) = 270 + 0 from rfl, stR_in (j := 0) (by omega)]
        exact hp
      · rw [e270, pk_sub (by omega), nI_clamp (n := 270 + i) (by omega), nI_clamp (by omega)]
        rw [show 270 + n - 1 - i = 270 + (n - 1 - i) by omega]
        rw [stR_in (j := i) (by omega), stR_in (j := n - 1 - i) (by omega)]
        have v1 : vp_in (nI (270 + i)) 279 := vp_in_nI (by omega) (by omega)
        have v2 : vp_in (nI (270 + (n - 1 - i))) 279 := vp_in_nI (by omega) (by omega)
        refine ⟨v1, fun y hy => ⟨v2, v1, v2, fun z hz => ?_⟩⟩
        subst hy
        rw [stR_upd (m := i) (by omega), stR_upd (m := n - 1 - i) (by omega)]
        refine ⟨⟨i + 1, by omega, hz.trans (nI_1 i), rfl⟩, ?_⟩
        rw [hz, nI_1]
        show n - (nI (i + 1)).toNatClampNeg < n - (nI i).toNatClampNeg
        rw [nI_clamp (by omega), nI_clamp (by omega)]
        omega
    refine fin ⟨ecg 0 (by omega), ?_, ?_, hIm, hT, hS⟩
    · have es : stR (rvF n (fun i => st (270 + i)) (n / 2)) st = upd (stR (rvF n (fun i => st (270 + i)) (n / 2)) st) 269 (nI n) := by
        refine (fa_upd_same ?_).symm
        rw [stR_out (by omega)]
        exact en
      rw [es, e1]
      exact relG_route (stops := stops) (num := num) hn ecg (rvF_place hpl (n / 2) (Nat.le_refl _)) hG
    · exact relP_keep (g := (bits, stops, num, unit, strips, caps, draw)) ho hk hG hr
  · unfold wX11_reverse
    refine br_f (fun z => h2 ?_) ⟨rfl, hR⟩
    rw [e1, ← en]
    exact z
