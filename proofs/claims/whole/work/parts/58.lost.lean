set_option maxHeartbeats 4000000 in
theorem eq_lost {bits : Nat → Int64} {stops : Nat → Int32} {num : Int32} {unit : Int32} {strips : Int32} {caps : Int32} {draw : Int32} {oldest : Int32} {known : Int32} {ring : Nat → GS} {im : GS} {iold : Int32} {iknown : Int32} {iring : Nat → GS} {hasIm : Int32} {letters : Nat → Int32} {tlen : Int32} {shI : Nat → Nat → Int64} {shH : Nat → Int32} {shL : Nat → Int32} {shS : Nat → Int32} {st : Nat → Int32} {past : Nat → Int32} {acts : Int32} {image : Nat → Int32} {ipast : Nat → Int32} {iacts : Int32} {tape : Nat → Int32} {tmany : Int32} {laneOf : Nat → Int32} {sizeOf : Nat → Int32} {items : Nat → Int64} {abv : Int64} {blw : Int64} {needed : Int32} {ocut : Int32} {opole : Int32} {needs : Nat → Int32} {nmany : Int32} (hR : Rel bits stops num unit strips caps draw oldest known ring im iold iknown iring hasIm letters tlen shI shH shL shS st past acts image ipast iacts tape tmany laneOf sizeOf items) (a1 : Int32) (a2 : Int32) : wX10_lost a1 a2 bits strips caps abv blw needed ocut opole (fun (r : Int64) (abv' : Int64) (blw' : Int64) (needed' : Int32) (ocut' : Int32) (opole' : Int32) => wX11_lost a1 a2 st needs nmany (fun (r' : Int64) (needs' : Nat → Int32) (nmany' : Int32) => r = r' ∧ Rel bits stops num unit strips caps draw oldest known ring im iold iknown iring hasIm letters tlen shI shH shL shS st past acts image ipast iacts tape tmany laneOf sizeOf items)) := by
  obtain ⟨hG, hP, hIm, hT, hS⟩ := id hR
  obtain ⟨⟨-, -, ⟨n, hn, en⟩, -, -, -⟩, hb, -, -, -, e3, e4, -⟩ := id hG
  have hb : ∀ p, p < 320 → bitAt bits p = decide (p < 266 ∧ st p = 1) := hb
  have es : strips = nI n := e3.trans en
  have ec : caps = st 268 := e4
  have hn : stripN n := hn
  have hw := stripN_w hn
  clear e3 e4
  subst es
  unfold wX10_lost
  refine q10_isIn (br_c (fun h0 => by unfold wX11_lost; exact q11_in (br_t h0 ⟨rfl, hR⟩)) (fun h0 => ?_))
  refine q10_isIn (br_c (fun h1 => by unfold wX11_lost; exact q11_in (br_f h0 (q11_in (br_t h1 ⟨rfl, hR⟩)))) (fun h1 => ?_))
  obtain ⟨c, hc, ecc⟩ : ∃ k, k ≤ 10 ∧ a1 = nI k := by
    rcases fIn_cases a1 (hi := 10) (by omega) with q | q
    · exact absurd q h0
    · exact q.2
  subst ecc
  have fin : ∀ {post : Int64 → (Nat → Int32) → Int32 → Prop}, (∀ nd m, ((a2 = 0 → post (lN (SM c n (goodB st caps n) / gd 200 (SM c n (goodB st caps n)) (10 ^ n))) nd m) ∧ (¬ a2 = 0 → post (lN (10 ^ n / gd 200 (SM c n (goodB st caps n)) (10 ^ n))) nd m))) → wX11_lost (nI c) a2 st needs nmany post := by
    intro post hp
    unfold wX11_lost
    refine q11_in (br_f h0 (q11_in (br_f h1 (s11_laysNeeds hn en (fun nd m tk ok => s11_chances hn hc en ok ?_)))))
    have hp := hp nd (nI m)
    rw [ec] at hp
    have hle : SM c n (goodB st (st 268) n) ≤ 10 ^ n := SM_le hc _
    have hpw := pow12 hw.2.2.2.2 hc
    have hp1 : 1 ≤ gd 200 (SM c n (goodB st (st 268) n)) (10 ^ n) := gd_pos _ _ _ (Or.inr ⟨Nat.pow_pos (by omega), by omega⟩)
    have hp2 : gd 200 (SM c n (goodB st (st 268) n)) (10 ^ n) < 2 ^ 62 := gd_lt _ _ _ _ (by omega) (by omega)
    have hne : ¬ lN (gd 200 (SM c n (goodB st (st 268) n)) (10 ^ n)) = 0 := fun z => by
      have := (pk_lEQ (b := 0) (by omega) (by omega)).1 z
      omega
    rw [en]
    refine ⟨fun x l => ∃ i, i ≤ n ∧ l = nI i ∧ x = lN (10 ^ i), fun _ l => n - l.toNatClampNeg, ⟨0, by omega, rfl, rfl⟩, ?_⟩
    rintro x l ⟨i, hi, rfl, rfl⟩
    refine pk_le n i (fun d => ?_) (fun d => ?_)
    · have e : i = n := by omega
      subst e
      unfold wX11_common
      refine gcd_loop (by omega) (by omega) ?_
      rw [pk_lDiv (by omega) (by omega) (by omega), pk_lDiv (by omega) (by omega) (by omega)]
      exact br_c (fun e => ⟨hne, hp.1 e⟩) (fun e => ⟨hne, hp.2 e⟩)
    · intro x hx z hz
      rw [show (10 : Int64) = lN 10 from rfl, lN_mul] at hx
      exact ⟨⟨i + 1, by omega, hz.trans (nI_1 i), by rw [hx, Nat.pow_succ]⟩, loop_mu hz d (by omega)⟩
  refine s2_reckon hb hn hc (fun M K _ _ _ e1 e2 => dp_le hc e1 e2) (fun M K hM hK x y z => ?_)
  rw [gV_is (by omega) hc hM hK]
  exact br_c (fun d => fin (fun nd m => br_t d ⟨rfl, hR⟩)) (fun d => fin (fun nd m => br_f d ⟨rfl, hR⟩))
