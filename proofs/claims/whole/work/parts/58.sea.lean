set_option maxHeartbeats 4000000 in
theorem eq_sea {bits : Nat → Int64} {stops : Nat → Int32} {num : Int32} {unit : Int32} {strips : Int32} {caps : Int32} {draw : Int32} {oldest : Int32} {known : Int32} {ring : Nat → GS} {im : GS} {iold : Int32} {iknown : Int32} {iring : Nat → GS} {hasIm : Int32} {letters : Nat → Int32} {tlen : Int32} {shI : Nat → Nat → Int64} {shH : Nat → Int32} {shL : Nat → Int32} {shS : Nat → Int32} {st : Nat → Int32} {past : Nat → Int32} {acts : Int32} {image : Nat → Int32} {ipast : Nat → Int32} {iacts : Int32} {tape : Nat → Int32} {tmany : Int32} {laneOf : Nat → Int32} {sizeOf : Nat → Int32} {items : Nat → Int64} {seaOf : Nat → Int32} {queue : Nat → Int32} {seaFirst : Nat → Int32} (hR : Rel bits stops num unit strips caps draw oldest known ring im iold iknown iring hasIm letters tlen shI shH shL shS st past acts image ipast iacts tape tmany laneOf sizeOf items) (a1 : Int32) (a2 : Int32) : wX10_sea a1 a2 bits seaOf queue (fun (r : Int32) (seaOf' : Nat → Int32) (queue' : Nat → Int32) (snum' : Int32) => wX11_sea a1 a2 st seaFirst (fun (r' : Int32) (seaFirst' : Nat → Int32) => r = r' ∧ Rel bits stops num unit strips caps draw oldest known ring im iold iknown iring hasIm letters tlen shI shH shL shS st past acts image ipast iacts tape tmany laneOf sizeOf items)) := by
  obtain ⟨hG, hP, hIm, hT, hS⟩ := id hR
  obtain ⟨-, hb, -⟩ := id hG
  have hb : ∀ p, p < 320 → bitAt bits p = decide (p < 266 ∧ st p = 1) := hb
  have hle := fb_ct_le (minB (seaP st)) 266
  unfold wX10_sea
  refine s5_chart hb (fun so qu hso => ?_)
  have fin : ∀ {post : Int32 → (Nat → Int32) → Prop}, (∀ sf, refOK st sf → ((fIn a1 0 (nI (fb_ct (minB (seaP st)) 266) - 1) = 0 → post (-1 : Int32) sf) ∧ (¬ fIn a1 0 (nI (fb_ct (minB (seaP st)) 266) - 1) = 0 → ((fIn a2 0 2 = 0 → post (-1 : Int32) sf) ∧ (¬ fIn a2 0 2 = 0 → (∃ (I38 : Int32 → Int32 → Int32 → Int32 → Prop) (mu38 : Int32 → Int32 → Int32 → Int32 → Nat), I38 (-4 : Int32) (-4 : Int32) (0 : Int32) (0 : Int32) ∧ ∀ (l3_38 : Int32) (l4_38 : Int32) (l5_38 : Int32) (l6_38 : Int32), I38 l3_38 l4_38 l5_38 l6_38 → (((266 : Int32) ≤ l6_38 → ((a2 = 0 → post l5_38 sf) ∧ (¬ a2 = 0 → ((a2 = (1 : Int32) → post l3_38 sf) ∧ (¬ a2 = (1 : Int32) → post l4_38 sf))))) ∧ (¬ (266 : Int32) ≤ l6_38 → wX11_isLand l6_38 st (fun (r10 : Int32) => ((r10 = 0 → vp_in l6_38 266 ∧ wX11_seasAhead (sf l6_38.toNatClampNeg) sf (fun (r14 : Int32) => ((r14 = a1 → ∃ J82 : Int32 → Prop, (∀ (t_82 : Int32), J82 t_82 → ∀ x17 : Int32, x17 = l5_38 + 1 → ∀ x18 : Int32, x18 = l6_38 + 1 → (I38 t_82 l6_38 x17 x18 ∧ mu38 t_82 l6_38 x17 x18 < mu38 l3_38 l4_38 l5_38 l6_38)) ∧ ((l3_38 = (-4 : Int32) → J82 l6_38) ∧ (¬ l3_38 = (-4 : Int32) → J82 l3_38))) ∧ (¬ r14 = a1 → ∀ x16 : Int32, x16 = l6_38 + 1 → (I38 l3_38 l4_38 l5_38 x16 ∧ mu38 l3_38 l4_38 l5_38 x16 < mu38 l3_38 l4_38 l5_38 l6_38))))) ∧ (¬ r10 = 0 → ∀ x12 : Int32, x12 = l6_38 + 1 → (I38 l3_38 l4_38 l5_38 x12 ∧ mu38 l3_38 l4_38 l5_38 x12 < mu38 l3_38 l4_38 l5_38 l6_38)))))))))))) → wX11_sea a1 a2 st seaFirst post := by
    intro post hp
    unfold wX11_sea wX11_seas
    refine s11_laysSeas (fun sf hsf => s11_ahead (a := 266) hsf (by omega) (q11_in ?_))
    have hp := hp sf hsf
    exact br_c (fun c => hp.1 c) (fun c => q11_in (br_c (fun d => (hp.2 c).1 d) (fun d => (hp.2 c).2 d)))
  refine q10_isIn (br_c (fun c => fin (fun sf _ => br_t c ⟨rfl, hR⟩)) (fun c => ?_))
  refine q10_isIn (br_c (fun d => fin (fun sf _ => br_f c (br_t d ⟨rfl, hR⟩))) (fun d => ?_))
  obtain ⟨k, hk, ek⟩ : ∃ k, k < fb_ct (minB (seaP st)) 266 ∧ a1 = nI k := by
    unfold fIn at c
    by_cases c1 : a1 < 0
    · rw [if_pos c1] at c; exact absurd rfl c
    rw [if_neg c1] at c
    obtain ⟨k, hk, ek⟩ := nI_of c1
    refine ⟨k, ?_, ek⟩
    by_cases c2 : nI (fb_ct (minB (seaP st)) 266) - 1 < a1
    · rw [if_pos c2] at c; exact absurd rfl c
    rcases Nat.eq_zero_or_pos (fb_ct (minB (seaP st)) 266) with z | z
    · rw [z] at c2
      refine absurd ?_ c2
      rw [fa_lt, ek, nI_toInt hk]
      have : (nI 0 - 1).toInt = -1 := by decide
      omega
    · rw [ek, show (1 : Int32) = nI 1 from rfl, pk_sub z, nI_ltI (by omega) hk] at c2
      omega
  subst ek
  have hit := sea_hit hso hk
  obtain ⟨L, hL, eL, hmL⟩ := fb_first (p := fun p => so p = nI k) hit
  obtain ⟨G, hGl, eG, hmG⟩ := fb_last (p := fun p => so p = nI k) hit
  have hk31 : k < 2 ^ 31 := by omega
  have fin2 : ∀ {post : Int32 → (Nat → Int32) → Prop}, (∀ sf, ((a2 = 0 → post (nI (fb_ct (fun p => decide (so p = nI k)) 266)) sf) ∧ (¬ a2 = 0 → ((a2 = (1 : Int32) → post (nI L) sf) ∧ (¬ a2 = (1 : Int32) → post (nI G) sf))))) → wX11_sea (nI k) a2 st seaFirst post := fun hp => fin (fun sf hsf => br_f c (br_f d (s11_sea hso hsf hk31 hL eL hmL hGl eG hmG (hp sf))))
  refine br_c (fun e => ?_) (fun e => ?_)
  · exact q_sizeOf (fin2 (fun sf => br_t e ⟨rfl, hR⟩))
  refine br_c (fun f => ?_) (fun f => ?_)
  · exact q_leastOf hL eL hmL (fin2 (fun sf => br_f e (br_t f ⟨rfl, hR⟩)))
  · exact q_greatestOf hGl eG hmG (fin2 (fun sf => br_f e (br_f f ⟨rfl, hR⟩)))
