set_option maxHeartbeats 4000000 in
theorem eq_back {bits : Nat → Int64} {stops : Nat → Int32} {num : Int32} {unit : Int32} {strips : Int32} {caps : Int32} {draw : Int32} {oldest : Int32} {known : Int32} {ring : Nat → GS} {im : GS} {iold : Int32} {iknown : Int32} {iring : Nat → GS} {hasIm : Int32} {letters : Nat → Int32} {tlen : Int32} {shI : Nat → Nat → Int64} {shH : Nat → Int32} {shL : Nat → Int32} {shS : Nat → Int32} {st : Nat → Int32} {past : Nat → Int32} {acts : Int32} {image : Nat → Int32} {ipast : Nat → Int32} {iacts : Int32} {tape : Nat → Int32} {tmany : Int32} {laneOf : Nat → Int32} {sizeOf : Nat → Int32} {items : Nat → Int64} (hR : Rel bits stops num unit strips caps draw oldest known ring im iold iknown iring hasIm letters tlen shI shH shL shS st past acts image ipast iacts tape tmany laneOf sizeOf items) (a1 : Int32) (a2 : Int32) (a3 : Int32) : wX10_back a1 a2 a3 unit strips caps (fun (r : Int32) => wX11_back a1 a2 a3 st (fun (r' : Int32) => r = r' ∧ Rel bits stops num unit strips caps draw oldest known ring im iold iknown iring hasIm letters tlen shI shH shL shS st past acts image ipast iacts tape tmany laneOf sizeOf items)) := by
  obtain ⟨hG, -, -, -, -⟩ := id hR
  obtain ⟨⟨-, ⟨u, hu1, hu2, eu⟩, ⟨n, hn, en⟩, ⟨k, hk, ek⟩, -, -⟩, -, -, -, e2, e3, e4, -⟩ := id hG
  have eu' : unit = nI u := e2.trans eu
  have es : strips = nI n := e3.trans en
  have ec : caps = nI k := e4.trans ek
  have hn : stripN n := hn
  clear e2 e3 e4
  subst eu' es ec
  have huk : u * k ≤ 200 * 3 := Nat.mul_le_mul hu2 (by omega)
  have e4 : 4 * u * k = 4 * (u * k) := Nat.mul_assoc 4 u k
  have m48 : (48 : Int32) * nI u = nI (48 * u) := pk_mul 48 u
  have m24 : (24 : Int32) * nI u = nI (24 * u) := pk_mul 24 u
  have m4 : ((4 : Int32) * nI u) * nI k = nI (4 * u * k) := by rw [show (4 : Int32) = nI 4 from rfl, pk_mul, pk_mul]
  unfold wX10_back
  refine q10_isIn ?_
  refine br_c (fun h0 => by unfold wX11_back; exact q11_in (br_t h0 ⟨rfl, hR⟩)) (fun h0 => ?_)
  intro x3 hx3
  rw [m4] at hx3
  subst hx3
  have fin : ∀ {post : Int32 → Prop} (W H : Nat), W = (if a1 = 0 then 48 * u else 4 * u * k) → H = (if a1 = 0 then 24 * u else 4 * u * k) → ((fIn a2 0 (nI W) = 0 → post (-1 : Int32)) ∧ (¬ fIn a2 0 (nI W) = 0 → ((fIn a3 0 (nI H) = 0 → post (-1 : Int32)) ∧ (¬ fIn a3 0 (nI H) = 0 → ((a1 = 0 → wX11_onStrips a2 a3 st (fun (r11 : Int32) => post r11)) ∧ (¬ a1 = 0 → ((a1 = (1 : Int32) → wX11_onCap a2 a3 (1 : Int32) st (fun (r10 : Int32) => post r10)) ∧ (¬ a1 = (1 : Int32) → wX11_onCap a2 a3 (0 : Int32) st (fun (r9 : Int32) => post r9))))))))) → wX11_back a1 a2 a3 st post := by
    intro post W H hW hH hp
    unfold wX11_back
    rw [eu, ek, m48, m24, m4]
    refine q11_in (br_f h0 ⟨fun t => t = nI W, ?_, ?_⟩)
    · rintro t rfl
      refine ⟨fun t => t = nI H, ?_, ?_⟩
      · rintro t rfl
        exact q11_in (br_c (fun c => hp.1 c) (fun c => q11_in (br_c (fun d => (hp.2 c).1 d) (fun d => (hp.2 c).2 d))))
      · refine br_c (fun c => ?_) (fun c => ?_)
        · rw [if_pos c] at hH; rw [hH]
        · rw [if_neg c] at hH hW; rw [hH, hW]
    · refine br_c (fun c => ?_) (fun c => ?_)
      · rw [if_pos c] at hW; rw [hW]
      · rw [if_neg c] at hW; rw [hW]
  rw [m48, m24]
  refine ⟨fun t => t = nI (if a1 = 0 then 48 * u else 4 * u * k), ?_, br_c (fun c => by show _ = _; rw [if_pos c]) (fun c => by show _ = _; rw [if_neg c])⟩
  rintro t rfl
  refine ⟨fun t => t = nI (if a1 = 0 then 24 * u else 4 * u * k), ?_, br_c (fun c => by show _ = _; rw [if_pos c]) (fun c => by show _ = _; rw [if_neg c])⟩
  rintro t rfl
  replace fin := fun {post} hp => fin (post := post) _ _ rfl rfl hp
  refine q10_isIn (br_c (fun c => fin (br_t c ⟨rfl, hR⟩)) (fun c => ?_))
  replace fin := fun {post} hp => fin (post := post) (br_f c hp)
  refine q10_isIn (br_c (fun d => fin (br_t d ⟨rfl, hR⟩)) (fun d => ?_))
  replace fin := fun {post} hp => fin (post := post) (br_f d hp)
  by_cases z : a1 = 0
  · refine br_t z ?_
    rw [if_pos z] at c d
    obtain ⟨x, hx, ex⟩ : ∃ k, k ≤ 48 * u ∧ a2 = nI k := by
      rcases fIn_cases a2 (hi := 48 * u) (by omega) with q | q
      · exact absurd q c
      · exact q.2
    obtain ⟨y, hy, ey⟩ : ∃ k, k ≤ 24 * u ∧ a3 = nI k := by
      rcases fIn_cases a3 (hi := 24 * u) (by omega) with q | q
      · exact absurd q d
      · exact q.2
    subst ex ey
    refine s3_foundS hn hu1 hu2 hx hy (fun g l hl hg => ?_)
    refine fin (br_t z (s11_foundS hn hu1 hu2 hx hy eu en hl hg ⟨?_, hR⟩))
    rw [ek]
  · refine br_f z ?_
    rw [if_neg z] at c d
    obtain ⟨x, hx, ex⟩ : ∃ j, j ≤ 4 * u * k ∧ a2 = nI j := by
      rcases fIn_cases a2 (hi := 4 * u * k) (by omega) with q | q
      · exact absurd q c
      · exact q.2
    obtain ⟨y, hy, ey⟩ : ∃ j, j ≤ 4 * u * k ∧ a3 = nI j := by
      rcases fIn_cases a3 (hi := 4 * u * k) (by omega) with q | q
      · exact absurd q d
      · exact q.2
    subst ex ey
    have fin2 : ∀ {post : Int32 → Prop}, post (rC (nI x) (nI y) (nI u) (nI k) k (decide (a1 = 1)) 266).1 → wX11_back a1 (nI x) (nI y) st post := by
      intro post hp
      refine fin (br_f z (br_c (fun f => ?_) (fun f => ?_)))
      · rw [decide_eq_true f] at hp
        exact s11_onCap (nn := true) (by omega) eu ek hp
      · rw [decide_eq_false f] at hp
        exact s11_onCap (nn := false) (by omega) eu ek hp
    refine br_c (fun f => ?_) (fun f => ?_)
    · have hk0 : k = 0 := (nI_z (by omega)).1 f
      refine fin2 ⟨?_, hR⟩
      rw [hk0, rC_none _ _ _ _ _ _ (Nat.le_refl _)]
    · have hk0 : 1 ≤ k := by
        rcases Nat.eq_zero_or_pos k with g | g
        · exact absurd ((nI_z (by omega)).2 g) f
        · exact g
      refine ⟨fun t => t = if decide (a1 = 1) then 1 else 0, ?_, br_c (fun g => by show _ = _; rw [decide_eq_true g]; rfl) (fun g => by show _ = _; rw [decide_eq_false g]; rfl)⟩
      rintro t rfl
      refine s3_foundC hk0 (by omega) ?_
      obtain ⟨v, hv, ev⟩ := first_off (u := u) (k := k) (x := x) (y := y) (nn := decide (a1 = 1)) hu2 hk0 (by omega) hx hy
      refine fin2 ⟨?_, hR⟩
      rw [rC_end hk0 (by omega)]
      · rw [ev, show (100000000 : Int32) = nI 100000000 from rfl]
        exact nI_ge hv (by omega)
      · rw [ev, show (2147483647 : Int32) = nI 2147483647 from rfl]
        exact nI_ge (by omega) (by omega)
