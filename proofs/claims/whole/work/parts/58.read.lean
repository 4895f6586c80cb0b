set_option maxHeartbeats 4000000 in
theorem eq_read {bits : Nat → Int64} {stops : Nat → Int32} {num : Int32} {unit : Int32} {strips : Int32} {caps : Int32} {draw : Int32} {oldest : Int32} {known : Int32} {ring : Nat → GS} {im : GS} {iold : Int32} {iknown : Int32} {iring : Nat → GS} {hasIm : Int32} {letters : Nat → Int32} {tlen : Int32} {shI : Nat → Nat → Int64} {shH : Nat → Int32} {shL : Nat → Int32} {shS : Nat → Int32} {st : Nat → Int32} {past : Nat → Int32} {acts : Int32} {image : Nat → Int32} {ipast : Nat → Int32} {iacts : Int32} {tape : Nat → Int32} {tmany : Int32} {laneOf : Nat → Int32} {sizeOf : Nat → Int32} {items : Nat → Int64} {tbits : Nat → Int64} {fig : Int32} {told : Nat → Int32} (hR : Rel bits stops num unit strips caps draw oldest known ring im iold iknown iring hasIm letters tlen shI shH shL shS st past acts image ipast iacts tape tmany laneOf sizeOf items) : wX10_read bits stops num unit strips caps draw oldest known ring letters tbits tlen fig (fun (r : Int32) (bits' : Nat → Int64) (oldest' : Int32) (known' : Int32) (ring' : Nat → GS) (tbits' : Nat → Int64) (tlen' : Int32) (tat' : Int32) (fig' : Int32) => wX11_read st past acts tape tmany told (fun (r' : Int32) (st' : Nat → Int32) (past' : Nat → Int32) (acts' : Int32) (tmany' : Int32) (mat' : Int32) (told' : Nat → Int32) => r = r' ∧ Rel bits' stops num unit strips caps draw oldest' known' ring' im iold iknown iring hasIm letters tlen' shI shH shL shS st' past' acts' image ipast iacts tape tmany' laneOf sizeOf items)) := by
  obtain ⟨hG, ⟨o, k, ho, hk, eo, ek, ea, hr⟩, hIm, ⟨n, hn90, etl, etm, hlt⟩, hS⟩ := id hR
  obtain ⟨⟨h01, hu, hn, hc, hm, hd⟩, hb, hs, e1, e2, e3, e4, e5⟩ := id hG
  have hT0 : relT letters 0 tape 0 := ⟨0, by omega, rfl, rfl, fun i hi => absurd hi (Nat.not_lt_zero i)⟩
  have okt : tapeOK (fun i => (tape i).toNatClampNeg) n tape := ⟨hn90, fun i hi => by
    obtain ⟨-, c, h1, h2, e⟩ := hlt i hi
    show tape i = nI (tape i).toNatClampNeg ∧ 32 ≤ (tape i).toNatClampNeg ∧ (tape i).toNatClampNeg ≤ 126
    rw [e, nI_clamp (by omega)]
    exact ⟨rfl, h1, h2⟩⟩
  have okl : tapeOK (fun i => (tape i).toNatClampNeg) n letters := ⟨hn90, fun i hi => by
    obtain ⟨h1, h2⟩ := okt.2 i hi
    exact ⟨(hlt i hi).1.trans h1, h2⟩⟩
  generalize (fun i => (tape i).toNatClampNeg) = L at okt okl
  unfold wX10_read
  rw [etl]
  have fin : ∀ {post : Int32 → (Nat → Int32) → (Nat → Int32) → Int32 → Int32 → Int32 → (Nat → Int32) → Prop}, (∀ p td', (rowsR L n 91 0 (fun _ => false)).1 = false → (rowsR L n 91 0 (fun _ => false)).2.1 = p → post ((-20 : Int32) - nI p) st past acts 0 (nI p) td') → (∀ at' td', (rowsR L n 91 0 (fun _ => false)).1 = true → toldT td' (rowsR L n 91 0 (fun _ => false)).2.2 → wX11_notes st past acts (fun (past_c5 : Nat → Int32) (acts_c6 : Int32) => wX11_bring (0 : Int32) (0 : Int32) (266 : Int32) td' st 266 279 (fun (arr_c7 : Nat → Int32) => wX11_landMany arr_c7 (fun (r8 : Int32) => post r8 arr_c7 past_c5 acts_c6 (0 : Int32) at' td')))) → wX11_read st past acts tape tmany told post := by
    intro post hp1 hp2
    unfold wX11_read
    rw [etm]
    exact s11_text okt (fun p td' _ h1 h2 => br_t rfl (hp1 p td' h1 h2)) (fun at' td' h1 h2 => br_f (by decide) (hp2 at' td' h1 h2))
  refine s7_text okl (fun p tb' at' f' hp h1 h2 => ?_) (fun tb' at' f' h1 h2 => ?_)
  · refine br_f (fun z => nI_nm1 (by omega) z) (fin (fun p' td' _ h4 => ?_) (fun at2 td' h3 _ => absurd (h1.symm.trans h3) (by decide)))
    have e : p' = p := h4.symm.trans h2
    subst e
    exact ⟨rfl, hG, ⟨o, k, ho, hk, eo, ek, ea, hr⟩, hIm, hT0, hS⟩
  · refine br_t rfl ?_
    rw [eo, ek]
    refine s_keep ho hk (s_landNumber ?_)
    refine fin (fun p' td' h3 _ => absurd (h1.symm.trans h3) (by decide)) (fun at2 td' h3 h4 => ?_)
    rw [ea]
    refine s_notes hk ?_
    refine s_bring (i := 0) (j := 0) (n := 266) (by omega) (by omega) (by omega) (by omega) ?_
    have hin : ∀ p, p < 266 → va_cpy td' st 0 0 266 p = td' p := fun p hp => cpy_lo hp
    have hout : ∀ p, 266 ≤ p → va_cpy td' st 0 0 266 p = st p := fun p hp => pk_cpy_out (Or.inr (by omega))
    have hland : ∀ p, p < 266 → va_cpy td' st 0 0 266 p = 0 ∨ va_cpy td' st 0 0 266 p = 1 := fun p hp => by
      rw [hin p hp, h4 p hp]
      split
      · exact Or.inr rfl
      · exact Or.inl rfl
    have hbits : ∀ p, p < 320 → bitAt (va_cpy tb' bits 0 0 5) p = decide (p < 266 ∧ va_cpy td' st 0 0 266 p = 1) := fun p hp => by
      rw [bitAt_congr (b := tb') (fun j hj => cpy_lo hj) hp, h2 p hp]
      by_cases q : p < 266
      · rw [hin p q, h4 p q, decide_eq_true q, Bool.true_and]
        cases (rowsR L n 91 0 (fun _ => false)).2.2 p <;> simp [q]
      · simp [q]
    refine s_landMany hland ⟨congrArg nI (land_eq hbits), ⟨⟨hland, ?_, ?_, ?_, ?_, ?_⟩, hbits, ?_, ?_, ?_, ?_, ?_, ?_⟩, relP_keep (g := (bits, stops, num, unit, strips, caps, draw)) ho hk hG hr, hIm, hT0, hS⟩
    · rw [hout 266 (by omega)]; exact hu
    · rw [hout 267 (by omega)]; exact hn
    · rw [hout 268 (by omega)]; exact hc
    · obtain ⟨m, hm8, e269, hst⟩ := hm
      refine ⟨m, hm8, by rw [hout 269 (by omega)]; exact e269, fun i hi => ?_⟩
      rw [hout (270 + i) (by omega)]; exact hst i hi
    · rw [hout 278 (by omega)]; exact hd
    · intro i hi; rw [hout (270 + i) (by omega)]; exact hs i hi
    · rw [hout 269 (by omega)]; exact e1
    · rw [hout 266 (by omega)]; exact e2
    · rw [hout 267 (by omega)]; exact e3
    · rw [hout 268 (by omega)]; exact e4
    · rw [hout 278 (by omega)]; exact e5
