set_option maxHeartbeats 4000000 in
theorem eq_flat {bits : Nat → Int64} {stops : Nat → Int32} {num : Int32} {unit : Int32} {strips : Int32} {caps : Int32} {draw : Int32} {oldest : Int32} {known : Int32} {ring : Nat → GS} {im : GS} {iold : Int32} {iknown : Int32} {iring : Nat → GS} {hasIm : Int32} {letters : Nat → Int32} {tlen : Int32} {shI : Nat → Nat → Int64} {shH : Nat → Int32} {shL : Nat → Int32} {shS : Nat → Int32} {st : Nat → Int32} {past : Nat → Int32} {acts : Int32} {image : Nat → Int32} {ipast : Nat → Int32} {iacts : Int32} {tape : Nat → Int32} {tmany : Int32} {laneOf : Nat → Int32} {sizeOf : Nat → Int32} {items : Nat → Int64} (hR : Rel bits stops num unit strips caps draw oldest known ring im iold iknown iring hasIm letters tlen shI shH shL shS st past acts image ipast iacts tape tmany laneOf sizeOf items) (a1 : Int32) (a2 : Int32) (a3 : Int32) : wX10_flat a1 a2 a3 unit strips caps (fun (r : Int32) => wX11_flat a1 a2 a3 st (fun (r' : Int32) => r = r' ∧ Rel bits stops num unit strips caps draw oldest known ring im iold iknown iring hasIm letters tlen shI shH shL shS st past acts image ipast iacts tape tmany laneOf sizeOf items)) := by
  obtain ⟨hG, -, -, -, -⟩ := id hR
  obtain ⟨⟨h01, hu, ⟨n, hn, en⟩, hc, hm, hd⟩, hb, hs, e1, e2, e3, e4, e5⟩ := id hG
  have eu : unit = st 266 := e2
  have es : strips = nI n := e3.trans en
  have ec : caps = st 268 := e4
  have hn : stripN n := hn
  have hw := stripN_w hn
  clear e1 e2 e3 e4 e5 hb hs
  subst es
  unfold wX10_flat
  refine q1_isPlace ?_
  refine br_c (fun h0 => by unfold wX11_flat; exact q11_isPlace (br_t h0 ⟨rfl, hR⟩)) (fun h0 => ?_)
  refine q10_isIn ?_
  refine br_c (fun h1 => by unfold wX11_flat; exact q11_isPlace (br_f h0 (q11_in (br_t h1 ⟨rfl, hR⟩)))) (fun h1 => ?_)
  obtain ⟨hl, m, hm24, em⟩ := fPlace_yes h0
  subst em
  obtain ⟨p, hp, ep, er⟩ := numOf hl hm24
  refine q1_numberOf ?_
  rw [ep]
  refine s1_step hp ?_
  have hst := stepN_lt p
  obtain ⟨k, hk, ek⟩ : ∃ k, k ≤ 4 ∧ a3 = nI k := by
    rcases fIn_cases a3 (hi := 4) (by omega) with q | q
    · exact absurd q h1
    · exact q.2
  subst ek
  have fin : ∀ {post : Int32 → Prop} (t : Int32), t = (if 3 ≤ k then fOnC a1 (st 268) else fOnS a1 (st 268)) → ((t = 0 → post (-4 : Int32)) ∧ (¬ t = 0 → wX11_flatOf (nI p) (nI k) st (fun r => post r))) → wX11_flat a1 (nI m) (nI k) st post := by
    intro post t ht hp
    unfold wX11_flat
    refine q11_isPlace (br_f h0 (q11_in (br_f h1 ⟨fun t' => t' = t, ?_, ?_⟩)))
    · rintro t' rfl
      refine br_c (fun c => hp.1 c) (fun c => q11_numberOf ?_)
      rw [ep]
      exact hp.2 c
    · refine pk_le 3 k (fun c => ?_) (fun c => ?_) rfl rfl (by omega) (by omega)
      · refine q11_onC ?_
        rw [ht, if_pos c]
      · refine q11_onS ?_
        rw [ht, if_neg (by omega)]
  refine ⟨fun t => t = (if 3 ≤ k then fOnC a1 (st 268) else fOnS a1 (st 268)), ?_, ?_⟩
  · intro t ht
    refine br_c (fun c => fin t ht (br_t c ⟨rfl, hR⟩)) (fun c => ?_)
    replace fin := fun {post} hp => fin (post := post) t ht (br_f c hp)
    unfold wX11_flatOf at fin
    refine pk_eq k 0 (fun c => ?_) (fun c => ?_) rfl rfl (by omega) (by omega)
    · subst c
      refine q0_width hn (q3_stripX (wI_ne hn) hl ?_)
      refine fin (br_t rfl (s11_xOf hp hn en ?_))
      refine ⟨?_, hR⟩
      rw [er, eu]
    have c0 : ¬ nI k = 0 := fun f => c ((nI_eq (b := 0) (by omega) (by omega)).1 f)
    refine pk_eq k 1 (fun c => ?_) (fun c => ?_) rfl rfl (by omega) (by omega)
    · subst c
      unfold wX3_stripY
      refine fin (br_f c0 (br_t rfl (s11_row hp ?_)))
      unfold wX11_yOf
      refine ⟨?_, hR⟩
      rw [er, eu]
    have c1 : ¬ nI k = 1 := fun f => c ((nI_eq (b := 1) (by omega) (by omega)).1 f)
    refine pk_eq k 2 (fun c => ?_) (fun c => ?_) rfl rfl (by omega) (by omega)
    · subst c
      replace fin := fun {post} hp => fin (post := post) (br_f c0 (br_f c1 (br_t rfl hp)))
      unfold wX11_isCut wX11_twinX at fin
      unfold wX3_twinX
      refine q0_width hn ⟨wI_ne hn, ?_⟩
      rw [st_mod hst (by omega) (by omega)]
      refine br_c (fun c => ?_) (fun c => ?_)
      · have c' : stepN p % (24 / n) = 0 := (nI_z (by have := Nat.mod_lt (stepN p) hw.1; omega)).1 c
        refine ⟨fun t => t = if stepN p / (24 / n) = 0 then nI n - 1 else nI (stepN p / (24 / n)) - 1, ?_, ?_⟩
        · rintro t rfl
          refine q3_x hl ?_
          refine fin (s11_step hp (q11_wide hn en ⟨wI_ne hn, ?_⟩))
          rw [st_mod hst (by omega) (by omega)]
          refine br_t c (br_f (by decide) ?_)
          refine s11_step hp (q11_wide hn en ⟨wI_ne hn, ?_⟩)
          rw [st_div hst (by omega) (by omega)]
          unfold wX11_stripAhead
          have hd : stepN p / (24 / n) < 2 ^ 31 := Nat.lt_of_le_of_lt (Nat.div_le_self _ _) (by omega)
          refine br_c (fun q => ?_) (fun q => ?_)
          · have q' := (nI_z hd).1 q
            refine q11_wide hn en (s11_row hp (q11_x hn (rowI_ok hp) en ?_))
            refine ⟨?_, hR⟩
            rw [er, eu, en, if_pos q']
          · have q' := fun f => q ((nI_z hd).2 f)
            refine q11_wide hn en (s11_row hp (q11_x hn (rowI_ok hp) en ?_))
            refine ⟨?_, hR⟩
            rw [er, eu, if_neg q']
        · refine br_c (fun q => ?_) (fun q => ⟨wI_ne hn, ?_⟩)
          · have q' := (st_cut hw.1 c').1 ((nI_z (by omega)).1 q)
            rw [if_pos q']
          · have q' := fun f => q ((nI_z (by omega)).2 ((st_cut hw.1 c').2 f))
            rw [if_neg q', st_div hst (by omega) (by omega)]
      · refine fin (s11_step hp (q11_wide hn en ⟨wI_ne hn, ?_⟩))
        rw [st_mod hst (by omega) (by omega)]
        exact br_f c (br_t rfl ⟨rfl, hR⟩)
    have c2 : ¬ nI k = 2 := fun f => c ((nI_eq (b := 2) (by omega) (by omega)).1 f)
    refine pk_eq k 3 (fun c => ?_) (fun c => ?_) rfl rfl (by omega) (by omega)
    · subst c
      refine s3_capX hst ?_
      refine fin (br_f c0 (br_f c1 (br_f c2 (br_t rfl (s11_capX hp ?_)))))
      refine ⟨?_, hR⟩
      rw [er, eu, ec]
    have c3 : ¬ nI k = 3 := fun f => c ((nI_eq (b := 3) (by omega) (by omega)).1 f)
    refine s3_capY hst ?_
    refine fin (br_f c0 (br_f c1 (br_f c2 (br_f c3 (s11_capY hp ?_)))))
    refine ⟨?_, hR⟩
    rw [er, eu, ec]
  · refine pk_lt 2 k (fun c => ?_) (fun c => ?_) rfl rfl (by omega) (by omega)
    · refine q0_onC ?_
      rw [if_pos (by omega), ec]
    · refine q0_onS ?_
      rw [if_neg (by omega), ec]
